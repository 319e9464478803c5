theorem dX7_readText_1 : decode cX7_readText 1 = .ok (.iconst 0, 1) := by decide +kernel
theorem dX7_readText_2 : decode cX7_readText 2 = .ok (.putfield 150, 3) := by decide +kernel
theorem dX7_readText_5 : decode cX7_readText 5 = .ok (.aload_n 0, 1) := by decide +kernel
theorem dX7_readText_6 : decode cX7_readText 6 = .ok (.iconst 1, 1) := by decide +kernel
theorem dX7_readText_7 : decode cX7_readText 7 = .ok (.putfield 153, 3) := by decide +kernel
theorem dX7_readText_10 : decode cX7_readText 10 = .ok (.iconst 0, 1) := by decide +kernel
theorem dX7_readText_11 : decode cX7_readText 11 = .ok (.istore_n 1, 1) := by decide +kernel
theorem dX7_readText_12 : decode cX7_readText 12 = .ok (.iload_n 1, 1) := by decide +kernel
theorem dX7_readText_13 : decode cX7_readText 13 = .ok (.sipush 250, 3) := by decide +kernel
theorem dX7_readText_16 : decode cX7_readText 16 = .ok (.if_icmp .ge 16, 3) := by decide +kernel
theorem dX7_readText_19 : decode cX7_readText 19 = .ok (.aload_n 0, 1) := by decide +kernel
theorem dX7_readText_20 : decode cX7_readText 20 = .ok (.getfield 13, 3) := by decide +kernel
theorem dX7_readText_23 : decode cX7_readText 23 = .ok (.iload_n 1, 1) := by decide +kernel
theorem dX7_readText_24 : decode cX7_readText 24 = .ok (.iconst 0, 1) := by decide +kernel
theorem dX7_readText_25 : decode cX7_readText 25 = .ok (.iastore, 1) := by decide +kernel
theorem dX7_readText_26 : decode cX7_readText 26 = .ok (.iinc 1 1, 3) := by decide +kernel
theorem dX7_readText_29 : decode cX7_readText 29 = .ok (.goto (-17), 3) := by decide +kernel
theorem dX7_readText_32 : decode cX7_readText 32 = .ok (.aload_n 0, 1) := by decide +kernel
theorem dX7_readText_33 : decode cX7_readText 33 = .ok (.aload_n 0, 1) := by decide +kernel
theorem dX7_readText_34 : decode cX7_readText 34 = .ok (.bipush 87, 2) := by decide +kernel
theorem dX7_readText_36 : decode cX7_readText 36 = .ok (.invokevirtual 183, 3) := by decide +kernel
theorem dX7_readText_39 : decode cX7_readText 39 = .ok (.invokevirtual 159, 3) := by decide +kernel
theorem dX7_readText_42 : decode cX7_readText 42 = .ok (.aload_n 0, 1) := by decide +kernel
theorem dX7_readText_43 : decode cX7_readText 43 = .ok (.getfield 13, 3) := by decide +kernel
theorem dX7_readText_46 : decode cX7_readText 46 = .ok (.iconst 0, 1) := by decide +kernel
theorem dX7_readText_47 : decode cX7_readText 47 = .ok (.aload_n 0, 1) := by decide +kernel
theorem dX7_readText_48 : decode cX7_readText 48 = .ok (.bipush 10, 2) := by decide +kernel
theorem dX7_readText_50 : decode cX7_readText 50 = .ok (.bipush 60, 2) := by decide +kernel
theorem dX7_readText_52 : decode cX7_readText 52 = .ok (.invokevirtual 166, 3) := by decide +kernel
theorem dX7_readText_55 : decode cX7_readText 55 = .ok (.iastore, 1) := by decide +kernel
theorem dX7_readText_56 : decode cX7_readText 56 = .ok (.aload_n 0, 1) := by decide +kernel
theorem dX7_readText_57 : decode cX7_readText 57 = .ok (.getfield 153, 3) := by decide +kernel
theorem dX7_readText_60 : decode cX7_readText 60 = .ok (.ifCond .eq 114, 3) := by decide +kernel
theorem dX7_readText_63 : decode cX7_readText 63 = .ok (.aload_n 0, 1) := by decide +kernel
theorem dX7_readText_64 : decode cX7_readText 64 = .ok (.getfield 150, 3) := by decide +kernel
theorem dX7_readText_67 : decode cX7_readText 67 = .ok (.aload_n 0, 1) := by decide +kernel
theorem dX7_readText_68 : decode cX7_readText 68 = .ok (.getfield 143, 3) := by decide +kernel
theorem dX7_readText_71 : decode cX7_readText 71 = .ok (.if_icmp .ge 103, 3) := by decide +kernel
theorem dX7_readText_74 : decode cX7_readText 74 = .ok (.aload_n 0, 1) := by decide +kernel
theorem dX7_readText_75 : decode cX7_readText 75 = .ok (.bipush 103, 2) := by decide +kernel
theorem dX7_readText_77 : decode cX7_readText 77 = .ok (.invokevirtual 183, 3) := by decide +kernel
theorem dX7_readText_80 : decode cX7_readText 80 = .ok (.ifCond .eq 10, 3) := by decide +kernel
theorem dX7_readText_83 : decode cX7_readText 83 = .ok (.aload_n 0, 1) := by decide +kernel
theorem dX7_readText_84 : decode cX7_readText 84 = .ok (.invokevirtual 190, 3) := by decide +kernel
theorem dX7_readText_87 : decode cX7_readText 87 = .ok (.goto (-31), 3) := by decide +kernel
theorem dX7_readText_90 : decode cX7_readText 90 = .ok (.aload_n 0, 1) := by decide +kernel
theorem dX7_readText_91 : decode cX7_readText 91 = .ok (.bipush 98, 2) := by decide +kernel
theorem dX7_readText_93 : decode cX7_readText 93 = .ok (.invokevirtual 183, 3) := by decide +kernel
theorem dX7_readText_96 : decode cX7_readText 96 = .ok (.ifCond .eq 10, 3) := by decide +kernel
theorem dX7_readText_99 : decode cX7_readText 99 = .ok (.aload_n 0, 1) := by decide +kernel
theorem dX7_readText_100 : decode cX7_readText 100 = .ok (.invokevirtual 193, 3) := by decide +kernel
theorem dX7_readText_103 : decode cX7_readText 103 = .ok (.goto (-47), 3) := by decide +kernel
theorem dX7_readText_106 : decode cX7_readText 106 = .ok (.aload_n 0, 1) := by decide +kernel
theorem dX7_readText_107 : decode cX7_readText 107 = .ok (.bipush 100, 2) := by decide +kernel
theorem dX7_readText_109 : decode cX7_readText 109 = .ok (.invokevirtual 183, 3) := by decide +kernel
theorem dX7_readText_112 : decode cX7_readText 112 = .ok (.ifCond .eq 10, 3) := by decide +kernel
theorem dX7_readText_115 : decode cX7_readText 115 = .ok (.aload_n 0, 1) := by decide +kernel
theorem dX7_readText_116 : decode cX7_readText 116 = .ok (.invokevirtual 196, 3) := by decide +kernel
theorem dX7_readText_119 : decode cX7_readText 119 = .ok (.goto (-63), 3) := by decide +kernel
theorem dX7_readText_122 : decode cX7_readText 122 = .ok (.aload_n 0, 1) := by decide +kernel
theorem dX7_readText_123 : decode cX7_readText 123 = .ok (.bipush 99, 2) := by decide +kernel
theorem dX7_readText_125 : decode cX7_readText 125 = .ok (.invokevirtual 183, 3) := by decide +kernel
theorem dX7_readText_128 : decode cX7_readText 128 = .ok (.ifCond .eq 39, 3) := by decide +kernel
theorem dX7_readText_131 : decode cX7_readText 131 = .ok (.aload_n 0, 1) := by decide +kernel
theorem dX7_readText_132 : decode cX7_readText 132 = .ok (.aload_n 0, 1) := by decide +kernel
theorem dX7_readText_133 : decode cX7_readText 133 = .ok (.getfield 13, 3) := by decide +kernel
theorem dX7_readText_136 : decode cX7_readText 136 = .ok (.iconst 5, 1) := by decide +kernel
theorem dX7_readText_137 : decode cX7_readText 137 = .ok (.iaload, 1) := by decide +kernel
theorem dX7_readText_138 : decode cX7_readText 138 = .ok (.iconst 4, 1) := by decide +kernel
theorem dX7_readText_139 : decode cX7_readText 139 = .ok (.if_icmp .ge 7, 3) := by decide +kernel
theorem dX7_readText_142 : decode cX7_readText 142 = .ok (.iconst 1, 1) := by decide +kernel
theorem dX7_readText_143 : decode cX7_readText 143 = .ok (.goto 4, 3) := by decide +kernel
theorem dX7_readText_146 : decode cX7_readText 146 = .ok (.iconst 0, 1) := by decide +kernel
theorem dX7_readText_147 : decode cX7_readText 147 = .ok (.invokevirtual 159, 3) := by decide +kernel
theorem dX7_readText_150 : decode cX7_readText 150 = .ok (.aload_n 0, 1) := by decide +kernel
theorem dX7_readText_151 : decode cX7_readText 151 = .ok (.getfield 153, 3) := by decide +kernel
theorem dX7_readText_154 : decode cX7_readText 154 = .ok (.ifCond .eq (-98), 3) := by decide +kernel
theorem dX7_readText_157 : decode cX7_readText 157 = .ok (.aload_n 0, 1) := by decide +kernel
theorem dX7_readText_158 : decode cX7_readText 158 = .ok (.getfield 13, 3) := by decide +kernel
theorem dX7_readText_161 : decode cX7_readText 161 = .ok (.invokestatic 199, 3) := by decide +kernel
theorem dX7_readText_164 : decode cX7_readText 164 = .ok (.goto (-108), 3) := by decide +kernel
theorem dX7_readText_167 : decode cX7_readText 167 = .ok (.aload_n 0, 1) := by decide +kernel
theorem dX7_readText_168 : decode cX7_readText 168 = .ok (.invokevirtual 202, 3) := by decide +kernel
theorem dX7_readText_171 : decode cX7_readText 171 = .ok (.goto (-115), 3) := by decide +kernel
theorem dX7_readText_174 : decode cX7_readText 174 = .ok (.aload_n 0, 1) := by decide +kernel
theorem dX7_readText_175 : decode cX7_readText 175 = .ok (.getfield 153, 3) := by decide +kernel
theorem dX7_readText_178 : decode cX7_readText 178 = .ok (.ifCond .eq 8, 3) := by decide +kernel
theorem dX7_readText_181 : decode cX7_readText 181 = .ok (.bipush (-9), 2) := by decide +kernel
theorem dX7_readText_183 : decode cX7_readText 183 = .ok (.goto 7, 3) := by decide +kernel
theorem dX7_readText_186 : decode cX7_readText 186 = .ok (.aload_n 0, 1) := by decide +kernel
theorem dX7_readText_187 : decode cX7_readText 187 = .ok (.getfield 150, 3) := by decide +kernel
theorem dX7_readText_190 : decode cX7_readText 190 = .ok (.ireturn, 1) := by decide +kernel
set_option maxRecDepth 20000 in
theorem ggX7_errorPosition_X7_readText : GoodIn wsX7_errorPosition wsX7_readText := goodIn_r _ [6, 7, 8, 9, 10, 11, 12, 13, 5, 14, 15, 16, 17, 18, 19, 20, 21, 22, 23, 24, 25, 26, 27, 28, 29, 30, 31, 32, 33, 34, 35, 36, 37, 38, 39, 40, 41, 42, 43, 44, 45, 46, 47, 48, 49, 50, 51, 52, 53, 54, 55, 56, 57, 58, 59, 60, 61, 62, 63, 64, 65, 66, 67, 68, 69, 70, 71, 72, 73, 74, 75, 76, 77, 78, 79, 80, 81, 82, 83, 84, 85, 86, 87, 88, 89, 90, 91, 92, 93, 94, 95, 96, 97, 98, 99, 100, 101, 102, 103, 104, 105, 106, 107] (by decide +kernel) (by decide +kernel)
set_option maxRecDepth 20000 in
theorem gX7_errorPosition_X7_readText : GoodIn wsX7_errorPosition (wsV RX7 205 RX7 yX7_readText wsX7_readText) := goodIn_app (goodIn_of _ (by decide +kernel)) ggX7_errorPosition_X7_readText
theorem dX7_errorPosition_0 : decode cX7_errorPosition 0 = .ok (.aload_n 0, 1) := by decide +kernel
theorem dX7_errorPosition_1 : decode cX7_errorPosition 1 = .ok (.iconst 0, 1) := by decide +kernel
theorem dX7_errorPosition_2 : decode cX7_errorPosition 2 = .ok (.putfield 39, 3) := by decide +kernel
theorem dX7_errorPosition_5 : decode cX7_errorPosition 5 = .ok (.aload_n 0, 1) := by decide +kernel
theorem dX7_errorPosition_6 : decode cX7_errorPosition 6 = .ok (.invokevirtual 205, 3) := by decide +kernel
theorem dX7_errorPosition_9 : decode cX7_errorPosition 9 = .ok (.ireturn, 1) := by decide +kernel
set_option maxRecDepth 20000 in
theorem ggX7_load_X7_readText : GoodIn wsX7_load wsX7_readText := goodIn_r _ [9, 10, 11, 1, 12, 13, 14, 15, 8, 16, 17, 18, 19, 20, 21, 22, 23, 24, 25, 26, 27, 28, 29, 30, 31, 32, 33, 34, 35, 36, 37, 38, 39, 40, 41, 42, 43, 44, 45, 46, 47, 48, 49, 50, 51, 52, 53, 54, 55, 56, 57, 58, 59, 60, 61, 62, 63, 64, 65, 66, 67, 68, 69, 70, 71, 72, 73, 74, 75, 76, 77, 78, 79, 80, 81, 82, 83, 84, 85, 86, 87, 88, 89, 90, 91, 92, 93, 94, 95, 104, 105, 106, 107, 108, 109, 110, 111, 112, 113, 114, 115, 116, 117] (by decide +kernel) (by decide +kernel)
set_option maxRecDepth 20000 in
theorem gX7_load_X7_readText : GoodIn wsX7_load (wsV RX7 205 RX7 yX7_readText wsX7_readText) := goodIn_app (goodIn_of _ (by decide +kernel)) ggX7_load_X7_readText
set_option maxRecDepth 20000 in
theorem ggX7_load_X7_refused : GoodIn wsX7_load wsX7_refused := goodIn_r _ [99, 100, 104, 105, 106, 107, 108, 109, 110, 111, 112, 113, 114, 115, 116, 117] (by decide +kernel) (by decide +kernel)
set_option maxRecDepth 20000 in
theorem gX7_load_X7_refused : GoodIn wsX7_load (wsV RX7 146 RX7 yX7_refused wsX7_refused) := goodIn_app (goodIn_of _ (by decide +kernel)) ggX7_load_X7_refused
set_option maxRecDepth 20000 in
theorem ggX7_load_X7_copy : GoodIn wsX7_load wsX7_copy := goodIn_r _ [103] (by decide +kernel) (by decide +kernel)
set_option maxRecDepth 20000 in
theorem gX7_load_X7_copy : GoodIn wsX7_load (va_wsS RX7 47 yX7_copy wsX7_copy) := goodIn_app (goodIn_of _ (by decide +kernel)) ggX7_load_X7_copy
theorem dX7_load_0 : decode cX7_load 0 = .ok (.aload_n 0, 1) := by decide +kernel
theorem dX7_load_1 : decode cX7_load 1 = .ok (.aload_n 0, 1) := by decide +kernel
theorem dX7_load_2 : decode cX7_load 2 = .ok (.invokevirtual 205, 3) := by decide +kernel
theorem dX7_load_5 : decode cX7_load 5 = .ok (.bipush (-9), 2) := by decide +kernel
theorem dX7_load_7 : decode cX7_load 7 = .ok (.if_icmp .ne 7, 3) := by decide +kernel
theorem dX7_load_10 : decode cX7_load 10 = .ok (.iconst 0, 1) := by decide +kernel
theorem dX7_load_11 : decode cX7_load 11 = .ok (.goto 4, 3) := by decide +kernel
theorem dX7_load_14 : decode cX7_load 14 = .ok (.iconst 1, 1) := by decide +kernel
theorem dX7_load_15 : decode cX7_load 15 = .ok (.invokevirtual 146, 3) := by decide +kernel
theorem dX7_load_18 : decode cX7_load 18 = .ok (.ifCond .eq 5, 3) := by decide +kernel
theorem dX7_load_21 : decode cX7_load 21 = .ok (.iconst 0, 1) := by decide +kernel
theorem dX7_load_22 : decode cX7_load 22 = .ok (.ireturn, 1) := by decide +kernel
theorem dX7_load_23 : decode cX7_load 23 = .ok (.aload_n 0, 1) := by decide +kernel
theorem dX7_load_24 : decode cX7_load 24 = .ok (.getfield 13, 3) := by decide +kernel
theorem dX7_load_27 : decode cX7_load 27 = .ok (.iconst 0, 1) := by decide +kernel
theorem dX7_load_28 : decode cX7_load 28 = .ok (.aload_n 0, 1) := by decide +kernel
theorem dX7_load_29 : decode cX7_load 29 = .ok (.getfield 16, 3) := by decide +kernel
theorem dX7_load_32 : decode cX7_load 32 = .ok (.iconst 0, 1) := by decide +kernel
theorem dX7_load_33 : decode cX7_load 33 = .ok (.sipush 250, 3) := by decide +kernel
theorem dX7_load_36 : decode cX7_load 36 = .ok (.invokestatic 47, 3) := by decide +kernel
theorem dX7_load_39 : decode cX7_load 39 = .ok (.aload_n 0, 1) := by decide +kernel
theorem dX7_load_40 : decode cX7_load 40 = .ok (.iconst 0, 1) := by decide +kernel
theorem dX7_load_41 : decode cX7_load 41 = .ok (.putfield 44, 3) := by decide +kernel
theorem dX7_load_44 : decode cX7_load 44 = .ok (.aload_n 0, 1) := by decide +kernel
theorem dX7_load_45 : decode cX7_load 45 = .ok (.getfield 28, 3) := by decide +kernel
theorem dX7_load_48 : decode cX7_load 48 = .ok (.iconst 0, 1) := by decide +kernel
theorem dX7_load_49 : decode cX7_load 49 = .ok (.iconst 0, 1) := by decide +kernel
theorem dX7_load_50 : decode cX7_load 50 = .ok (.bastore, 1) := by decide +kernel
theorem dX7_load_51 : decode cX7_load 51 = .ok (.aload_n 0, 1) := by decide +kernel
theorem dX7_load_52 : decode cX7_load 52 = .ok (.getfield 28, 3) := by decide +kernel
theorem dX7_load_55 : decode cX7_load 55 = .ok (.iconst 1, 1) := by decide +kernel
theorem dX7_load_56 : decode cX7_load 56 = .ok (.iconst 0, 1) := by decide +kernel
theorem dX7_load_57 : decode cX7_load 57 = .ok (.bastore, 1) := by decide +kernel
theorem dX7_load_58 : decode cX7_load 58 = .ok (.aload_n 0, 1) := by decide +kernel
theorem dX7_load_59 : decode cX7_load 59 = .ok (.getfield 16, 3) := by decide +kernel
theorem dX7_load_62 : decode cX7_load 62 = .ok (.bipush 6, 2) := by decide +kernel
theorem dX7_load_64 : decode cX7_load 64 = .ok (.iaload, 1) := by decide +kernel
theorem dX7_load_65 : decode cX7_load 65 = .ok (.ireturn, 1) := by decide +kernel
set_option maxRecDepth 20000 in
theorem ggX7_tanks_X7_carAt : GoodIn wsX7_tanks wsX7_carAt := goodIn_r _ [4] (by decide +kernel) (by decide +kernel)
set_option maxRecDepth 20000 in
theorem gX7_tanks_X7_carAt : GoodIn wsX7_tanks (va_wsS RX7 72 yX7_carAt wsX7_carAt) := goodIn_app (goodIn_of _ (by decide +kernel)) ggX7_tanks_X7_carAt
theorem dX7_tanks_0 : decode cX7_tanks 0 = .ok (.iconst 0, 1) := by decide +kernel
theorem dX7_tanks_1 : decode cX7_tanks 1 = .ok (.istore_n 1, 1) := by decide +kernel
theorem dX7_tanks_2 : decode cX7_tanks 2 = .ok (.iconst 0, 1) := by decide +kernel
theorem dX7_tanks_3 : decode cX7_tanks 3 = .ok (.istore_n 2, 1) := by decide +kernel
theorem dX7_tanks_4 : decode cX7_tanks 4 = .ok (.iload_n 2, 1) := by decide +kernel
theorem dX7_tanks_5 : decode cX7_tanks 5 = .ok (.aload_n 0, 1) := by decide +kernel
theorem dX7_tanks_6 : decode cX7_tanks 6 = .ok (.bipush 6, 2) := by decide +kernel
theorem dX7_tanks_8 : decode cX7_tanks 8 = .ok (.iaload, 1) := by decide +kernel
theorem dX7_tanks_9 : decode cX7_tanks 9 = .ok (.if_icmp .ge 19, 3) := by decide +kernel
theorem dX7_tanks_12 : decode cX7_tanks 12 = .ok (.iload_n 1, 1) := by decide +kernel
theorem dX7_tanks_13 : decode cX7_tanks 13 = .ok (.aload_n 0, 1) := by decide +kernel
theorem dX7_tanks_14 : decode cX7_tanks 14 = .ok (.iload_n 2, 1) := by decide +kernel
theorem dX7_tanks_15 : decode cX7_tanks 15 = .ok (.iconst 3, 1) := by decide +kernel
theorem dX7_tanks_16 : decode cX7_tanks 16 = .ok (.invokestatic 72, 3) := by decide +kernel
theorem dX7_tanks_19 : decode cX7_tanks 19 = .ok (.iaload, 1) := by decide +kernel
theorem dX7_tanks_20 : decode cX7_tanks 20 = .ok (.iadd, 1) := by decide +kernel
theorem dX7_tanks_21 : decode cX7_tanks 21 = .ok (.istore_n 1, 1) := by decide +kernel
theorem dX7_tanks_22 : decode cX7_tanks 22 = .ok (.iinc 2 1, 3) := by decide +kernel
theorem dX7_tanks_25 : decode cX7_tanks 25 = .ok (.goto (-21), 3) := by decide +kernel
theorem dX7_tanks_28 : decode cX7_tanks 28 = .ok (.iload_n 1, 1) := by decide +kernel
theorem dX7_tanks_29 : decode cX7_tanks 29 = .ok (.ireturn, 1) := by decide +kernel
set_option maxRecDepth 20000 in
theorem ggX7_depots_X7_depotAt : GoodIn wsX7_depots wsX7_depotAt := goodIn_r _ [4] (by decide +kernel) (by decide +kernel)
set_option maxRecDepth 20000 in
theorem gX7_depots_X7_depotAt : GoodIn wsX7_depots (va_wsS RX7 61 yX7_depotAt wsX7_depotAt) := goodIn_app (goodIn_of _ (by decide +kernel)) ggX7_depots_X7_depotAt
theorem dX7_depots_0 : decode cX7_depots 0 = .ok (.iconst 0, 1) := by decide +kernel
theorem dX7_depots_1 : decode cX7_depots 1 = .ok (.istore_n 1, 1) := by decide +kernel
theorem dX7_depots_2 : decode cX7_depots 2 = .ok (.iconst 0, 1) := by decide +kernel
theorem dX7_depots_3 : decode cX7_depots 3 = .ok (.istore_n 2, 1) := by decide +kernel
theorem dX7_depots_4 : decode cX7_depots 4 = .ok (.iload_n 2, 1) := by decide +kernel
theorem dX7_depots_5 : decode cX7_depots 5 = .ok (.aload_n 0, 1) := by decide +kernel
theorem dX7_depots_6 : decode cX7_depots 6 = .ok (.iconst 4, 1) := by decide +kernel
theorem dX7_depots_7 : decode cX7_depots 7 = .ok (.iaload, 1) := by decide +kernel
theorem dX7_depots_8 : decode cX7_depots 8 = .ok (.if_icmp .ge 19, 3) := by decide +kernel
theorem dX7_depots_11 : decode cX7_depots 11 = .ok (.iload_n 1, 1) := by decide +kernel
theorem dX7_depots_12 : decode cX7_depots 12 = .ok (.aload_n 0, 1) := by decide +kernel
theorem dX7_depots_13 : decode cX7_depots 13 = .ok (.iload_n 2, 1) := by decide +kernel
theorem dX7_depots_14 : decode cX7_depots 14 = .ok (.iconst 1, 1) := by decide +kernel
theorem dX7_depots_15 : decode cX7_depots 15 = .ok (.invokestatic 61, 3) := by decide +kernel
theorem dX7_depots_18 : decode cX7_depots 18 = .ok (.iaload, 1) := by decide +kernel
theorem dX7_depots_19 : decode cX7_depots 19 = .ok (.iadd, 1) := by decide +kernel
theorem dX7_depots_20 : decode cX7_depots 20 = .ok (.istore_n 1, 1) := by decide +kernel
theorem dX7_depots_21 : decode cX7_depots 21 = .ok (.iinc 2 1, 3) := by decide +kernel
theorem dX7_depots_24 : decode cX7_depots 24 = .ok (.goto (-20), 3) := by decide +kernel
theorem dX7_depots_27 : decode cX7_depots 27 = .ok (.iload_n 1, 1) := by decide +kernel
theorem dX7_depots_28 : decode cX7_depots 28 = .ok (.ireturn, 1) := by decide +kernel
set_option maxRecDepth 20000 in
theorem ggX7_about_X7_in : GoodIn wsX7_about wsX7_in := goodIn_r _ [6] (by decide +kernel) (by decide +kernel)
set_option maxRecDepth 20000 in
theorem gX7_about_X7_in : GoodIn wsX7_about (va_wsS RX7 139 yX7_in wsX7_in) := goodIn_app (goodIn_of _ (by decide +kernel)) ggX7_about_X7_in
set_option maxRecDepth 20000 in
theorem ggX7_about_X7_refused : GoodIn wsX7_about wsX7_refused := goodIn_r _ [10, 11, 27, 28, 29, 30, 31, 32, 33, 34, 35, 36, 37, 38, 39, 40] (by decide +kernel) (by decide +kernel)
set_option maxRecDepth 20000 in
theorem gX7_about_X7_refused : GoodIn wsX7_about (wsV RX7 146 RX7 yX7_refused wsX7_refused) := goodIn_app (goodIn_of _ (by decide +kernel)) ggX7_about_X7_refused
set_option maxRecDepth 20000 in
theorem ggX7_about_X7_countAt : GoodIn wsX7_about wsX7_countAt := goodIn_r _ [14, 15, 16, 5, 17] (by decide +kernel) (by decide +kernel)
set_option maxRecDepth 20000 in
theorem gX7_about_X7_countAt : GoodIn wsX7_about (va_wsS RX7 130 yX7_countAt wsX7_countAt) := goodIn_app (goodIn_of _ (by decide +kernel)) ggX7_about_X7_countAt
set_option maxRecDepth 20000 in
theorem ggX7_about_X7_tanks : GoodIn wsX7_about wsX7_tanks := goodIn_r _ [20, 15, 16, 5, 17] (by decide +kernel) (by decide +kernel)
set_option maxRecDepth 20000 in
theorem gX7_about_X7_tanks : GoodIn wsX7_about (va_wsS RX7 211 yX7_tanks wsX7_tanks) := goodIn_app (goodIn_of _ (by decide +kernel)) ggX7_about_X7_tanks
set_option maxRecDepth 20000 in
theorem ggX7_about_X7_depots : GoodIn wsX7_about wsX7_depots := goodIn_r _ [23, 24, 25, 5, 26] (by decide +kernel) (by decide +kernel)
set_option maxRecDepth 20000 in
theorem gX7_about_X7_depots : GoodIn wsX7_about (va_wsS RX7 215 yX7_depots wsX7_depots) := goodIn_app (goodIn_of _ (by decide +kernel)) ggX7_about_X7_depots
theorem dX7_about_0 : decode cX7_about 0 = .ok (.aload_n 0, 1) := by decide +kernel
theorem dX7_about_1 : decode cX7_about 1 = .ok (.iload_n 1, 1) := by decide +kernel
theorem dX7_about_2 : decode cX7_about 2 = .ok (.i2l, 1) := by decide +kernel
theorem dX7_about_3 : decode cX7_about 3 = .ok (.lconst 0, 1) := by decide +kernel
theorem dX7_about_4 : decode cX7_about 4 = .ok (.ldc2_w 209, 3) := by decide +kernel
theorem dX7_about_7 : decode cX7_about 7 = .ok (.invokestatic 139, 3) := by decide +kernel
theorem dX7_about_10 : decode cX7_about 10 = .ok (.ifCond .eq 7, 3) := by decide +kernel
theorem dX7_about_13 : decode cX7_about 13 = .ok (.iconst 0, 1) := by decide +kernel
theorem dX7_about_14 : decode cX7_about 14 = .ok (.goto 4, 3) := by decide +kernel
theorem dX7_about_17 : decode cX7_about 17 = .ok (.iconst 1, 1) := by decide +kernel
theorem dX7_about_18 : decode cX7_about 18 = .ok (.invokevirtual 146, 3) := by decide +kernel
theorem dX7_about_21 : decode cX7_about 21 = .ok (.ifCond .eq 5, 3) := by decide +kernel
theorem dX7_about_24 : decode cX7_about 24 = .ok (.iconst 0, 1) := by decide +kernel
theorem dX7_about_25 : decode cX7_about 25 = .ok (.ireturn, 1) := by decide +kernel
theorem dX7_about_26 : decode cX7_about 26 = .ok (.iload_n 1, 1) := by decide +kernel
theorem dX7_about_27 : decode cX7_about 27 = .ok (.tableswitch 75 7 11 #[33, 42, 51, 59, 67], 33) := by decide +kernel
theorem dX7_about_60 : decode cX7_about 60 = .ok (.aload_n 0, 1) := by decide +kernel
theorem dX7_about_61 : decode cX7_about 61 = .ok (.getfield 16, 3) := by decide +kernel
theorem dX7_about_64 : decode cX7_about 64 = .ok (.iconst 2, 1) := by decide +kernel
theorem dX7_about_65 : decode cX7_about 65 = .ok (.invokestatic 130, 3) := by decide +kernel
theorem dX7_about_68 : decode cX7_about 68 = .ok (.ireturn, 1) := by decide +kernel
theorem dX7_about_69 : decode cX7_about 69 = .ok (.aload_n 0, 1) := by decide +kernel
theorem dX7_about_70 : decode cX7_about 70 = .ok (.getfield 16, 3) := by decide +kernel
theorem dX7_about_73 : decode cX7_about 73 = .ok (.iconst 1, 1) := by decide +kernel
theorem dX7_about_74 : decode cX7_about 74 = .ok (.invokestatic 130, 3) := by decide +kernel
theorem dX7_about_77 : decode cX7_about 77 = .ok (.ireturn, 1) := by decide +kernel
theorem dX7_about_78 : decode cX7_about 78 = .ok (.aload_n 0, 1) := by decide +kernel
theorem dX7_about_79 : decode cX7_about 79 = .ok (.getfield 16, 3) := by decide +kernel
theorem dX7_about_82 : decode cX7_about 82 = .ok (.invokestatic 211, 3) := by decide +kernel
theorem dX7_about_85 : decode cX7_about 85 = .ok (.ireturn, 1) := by decide +kernel
theorem dX7_about_86 : decode cX7_about 86 = .ok (.aload_n 0, 1) := by decide +kernel
theorem dX7_about_87 : decode cX7_about 87 = .ok (.getfield 16, 3) := by decide +kernel
theorem dX7_about_90 : decode cX7_about 90 = .ok (.invokestatic 215, 3) := by decide +kernel
theorem dX7_about_93 : decode cX7_about 93 = .ok (.ireturn, 1) := by decide +kernel
theorem dX7_about_94 : decode cX7_about 94 = .ok (.aload_n 0, 1) := by decide +kernel
theorem dX7_about_95 : decode cX7_about 95 = .ok (.getfield 16, 3) := by decide +kernel
theorem dX7_about_98 : decode cX7_about 98 = .ok (.bipush 7, 2) := by decide +kernel
theorem dX7_about_100 : decode cX7_about 100 = .ok (.iaload, 1) := by decide +kernel
theorem dX7_about_101 : decode cX7_about 101 = .ok (.ireturn, 1) := by decide +kernel
theorem dX7_about_102 : decode cX7_about 102 = .ok (.aload_n 0, 1) := by decide +kernel
theorem dX7_about_103 : decode cX7_about 103 = .ok (.getfield 16, 3) := by decide +kernel
theorem dX7_about_106 : decode cX7_about 106 = .ok (.iload_n 1, 1) := by decide +kernel
theorem dX7_about_107 : decode cX7_about 107 = .ok (.iaload, 1) := by decide +kernel
theorem dX7_about_108 : decode cX7_about 108 = .ok (.ireturn, 1) := by decide +kernel
set_option maxRecDepth 20000 in
theorem ggX7_isConvoy_X7_in : GoodIn wsX7_isConvoy wsX7_in := goodIn_r _ [5] (by decide +kernel) (by decide +kernel)
set_option maxRecDepth 20000 in
theorem gX7_isConvoy_X7_in : GoodIn wsX7_isConvoy (va_wsS RX7 139 yX7_in wsX7_in) := goodIn_app (goodIn_of _ (by decide +kernel)) ggX7_isConvoy_X7_in
theorem dX7_isConvoy_0 : decode cX7_isConvoy 0 = .ok (.iload_n 1, 1) := by decide +kernel
theorem dX7_isConvoy_1 : decode cX7_isConvoy 1 = .ok (.i2l, 1) := by decide +kernel
theorem dX7_isConvoy_2 : decode cX7_isConvoy 2 = .ok (.lconst 0, 1) := by decide +kernel
theorem dX7_isConvoy_3 : decode cX7_isConvoy 3 = .ok (.aload_n 0, 1) := by decide +kernel
theorem dX7_isConvoy_4 : decode cX7_isConvoy 4 = .ok (.getfield 16, 3) := by decide +kernel
theorem dX7_isConvoy_7 : decode cX7_isConvoy 7 = .ok (.iconst 5, 1) := by decide +kernel
theorem dX7_isConvoy_8 : decode cX7_isConvoy 8 = .ok (.iaload, 1) := by decide +kernel
theorem dX7_isConvoy_9 : decode cX7_isConvoy 9 = .ok (.iconst 1, 1) := by decide +kernel
theorem dX7_isConvoy_10 : decode cX7_isConvoy 10 = .ok (.isub, 1) := by decide +kernel
theorem dX7_isConvoy_11 : decode cX7_isConvoy 11 = .ok (.i2l, 1) := by decide +kernel
theorem dX7_isConvoy_12 : decode cX7_isConvoy 12 = .ok (.invokestatic 139, 3) := by decide +kernel
theorem dX7_isConvoy_15 : decode cX7_isConvoy 15 = .ok (.ireturn, 1) := by decide +kernel
set_option maxRecDepth 20000 in
theorem ggX7_litersOf_X7_sizeOf : GoodIn wsX7_litersOf wsX7_sizeOf := goodIn_r _ [4, 5, 6, 3, 7] (by decide +kernel) (by decide +kernel)
set_option maxRecDepth 20000 in
theorem gX7_litersOf_X7_sizeOf : GoodIn wsX7_litersOf (va_wsS RX7 64 yX7_sizeOf wsX7_sizeOf) := goodIn_app (goodIn_of _ (by decide +kernel)) ggX7_litersOf_X7_sizeOf
set_option maxRecDepth 20000 in
theorem ggX7_litersOf_X7_who : GoodIn wsX7_litersOf wsX7_who := goodIn_r _ [10, 5, 6, 3, 7] (by decide +kernel) (by decide +kernel)
set_option maxRecDepth 20000 in
theorem gX7_litersOf_X7_who : GoodIn wsX7_litersOf (va_wsS RX7 68 yX7_who wsX7_who) := goodIn_app (goodIn_of _ (by decide +kernel)) ggX7_litersOf_X7_who
set_option maxRecDepth 20000 in
theorem ggX7_litersOf_X7_carAt : GoodIn wsX7_litersOf wsX7_carAt := goodIn_r _ [13] (by decide +kernel) (by decide +kernel)
set_option maxRecDepth 20000 in
theorem gX7_litersOf_X7_carAt : GoodIn wsX7_litersOf (va_wsS RX7 72 yX7_carAt wsX7_carAt) := goodIn_app (goodIn_of _ (by decide +kernel)) ggX7_litersOf_X7_carAt
theorem dX7_litersOf_0 : decode cX7_litersOf 0 = .ok (.iconst 0, 1) := by decide +kernel
theorem dX7_litersOf_1 : decode cX7_litersOf 1 = .ok (.istore_n 2, 1) := by decide +kernel
theorem dX7_litersOf_2 : decode cX7_litersOf 2 = .ok (.iconst 0, 1) := by decide +kernel
theorem dX7_litersOf_3 : decode cX7_litersOf 3 = .ok (.istore_n 3, 1) := by decide +kernel
theorem dX7_litersOf_4 : decode cX7_litersOf 4 = .ok (.iload_n 3, 1) := by decide +kernel
theorem dX7_litersOf_5 : decode cX7_litersOf 5 = .ok (.aload_n 0, 1) := by decide +kernel
theorem dX7_litersOf_6 : decode cX7_litersOf 6 = .ok (.iload_n 1, 1) := by decide +kernel
theorem dX7_litersOf_7 : decode cX7_litersOf 7 = .ok (.invokestatic 64, 3) := by decide +kernel
theorem dX7_litersOf_10 : decode cX7_litersOf 10 = .ok (.if_icmp .ge 24, 3) := by decide +kernel
theorem dX7_litersOf_13 : decode cX7_litersOf 13 = .ok (.iload_n 2, 1) := by decide +kernel
theorem dX7_litersOf_14 : decode cX7_litersOf 14 = .ok (.aload_n 0, 1) := by decide +kernel
theorem dX7_litersOf_15 : decode cX7_litersOf 15 = .ok (.aload_n 0, 1) := by decide +kernel
theorem dX7_litersOf_16 : decode cX7_litersOf 16 = .ok (.iload_n 1, 1) := by decide +kernel
theorem dX7_litersOf_17 : decode cX7_litersOf 17 = .ok (.iload_n 3, 1) := by decide +kernel
theorem dX7_litersOf_18 : decode cX7_litersOf 18 = .ok (.invokestatic 68, 3) := by decide +kernel
theorem dX7_litersOf_21 : decode cX7_litersOf 21 = .ok (.iconst 3, 1) := by decide +kernel
theorem dX7_litersOf_22 : decode cX7_litersOf 22 = .ok (.invokestatic 72, 3) := by decide +kernel
theorem dX7_litersOf_25 : decode cX7_litersOf 25 = .ok (.iaload, 1) := by decide +kernel
theorem dX7_litersOf_26 : decode cX7_litersOf 26 = .ok (.iadd, 1) := by decide +kernel
theorem dX7_litersOf_27 : decode cX7_litersOf 27 = .ok (.istore_n 2, 1) := by decide +kernel
theorem dX7_litersOf_28 : decode cX7_litersOf 28 = .ok (.iinc 3 1, 3) := by decide +kernel
theorem dX7_litersOf_31 : decode cX7_litersOf 31 = .ok (.goto (-27), 3) := by decide +kernel
theorem dX7_litersOf_34 : decode cX7_litersOf 34 = .ok (.iload_n 2, 1) := by decide +kernel
theorem dX7_litersOf_35 : decode cX7_litersOf 35 = .ok (.ireturn, 1) := by decide +kernel
set_option maxRecDepth 20000 in
theorem ggX7_convoy_X7_isConvoy : GoodIn wsX7_convoy wsX7_isConvoy := goodIn_r _ [7, 2, 8, 9, 6, 10, 37, 38, 39, 40, 41, 42, 43, 44, 45, 46, 47, 48, 49, 50] (by decide +kernel) (by decide +kernel)
set_option maxRecDepth 20000 in
theorem gX7_convoy_X7_isConvoy : GoodIn wsX7_convoy (wsV RX7 218 RX7 yX7_isConvoy wsX7_isConvoy) := goodIn_app (goodIn_of _ (by decide +kernel)) ggX7_convoy_X7_isConvoy
set_option maxRecDepth 20000 in
theorem ggX7_convoy_X7_in : GoodIn wsX7_convoy wsX7_in := goodIn_r _ [10] (by decide +kernel) (by decide +kernel)
set_option maxRecDepth 20000 in
theorem gX7_convoy_X7_in : GoodIn wsX7_convoy (va_wsS RX7 139 yX7_in wsX7_in) := goodIn_app (goodIn_of _ (by decide +kernel)) ggX7_convoy_X7_in
set_option maxRecDepth 20000 in
theorem ggX7_convoy_X7_refused : GoodIn wsX7_convoy wsX7_refused := goodIn_r _ [14, 15, 37, 38, 39, 40, 41, 42, 43, 44, 45, 46, 47, 48, 49, 50] (by decide +kernel) (by decide +kernel)
set_option maxRecDepth 20000 in
theorem gX7_convoy_X7_refused : GoodIn wsX7_convoy (wsV RX7 146 RX7 yX7_refused wsX7_refused) := goodIn_app (goodIn_of _ (by decide +kernel)) ggX7_convoy_X7_refused
set_option maxRecDepth 20000 in
theorem ggX7_convoy_X7_convoyAt : GoodIn wsX7_convoy wsX7_convoyAt := goodIn_r _ [18] (by decide +kernel) (by decide +kernel)
set_option maxRecDepth 20000 in
theorem gX7_convoy_X7_convoyAt : GoodIn wsX7_convoy (va_wsS RX7 51 yX7_convoyAt wsX7_convoyAt) := goodIn_app (goodIn_of _ (by decide +kernel)) ggX7_convoy_X7_convoyAt
set_option maxRecDepth 20000 in
theorem ggX7_convoy_X7_slowest : GoodIn wsX7_convoy wsX7_slowest := goodIn_r _ [21, 22, 23, 6, 24, 16, 17, 18, 25, 26, 27, 28, 29, 30] (by decide +kernel) (by decide +kernel)
set_option maxRecDepth 20000 in
theorem gX7_convoy_X7_slowest : GoodIn wsX7_convoy (va_wsS RX7 103 yX7_slowest wsX7_slowest) := goodIn_app (goodIn_of _ (by decide +kernel)) ggX7_convoy_X7_slowest
set_option maxRecDepth 20000 in
theorem ggX7_convoy_X7_litersOf : GoodIn wsX7_convoy wsX7_litersOf := goodIn_r _ [33, 22, 23, 6, 24, 16, 17, 18, 25, 26, 27, 28, 29, 30] (by decide +kernel) (by decide +kernel)
set_option maxRecDepth 20000 in
theorem gX7_convoy_X7_litersOf : GoodIn wsX7_convoy (va_wsS RX7 223 yX7_litersOf wsX7_litersOf) := goodIn_app (goodIn_of _ (by decide +kernel)) ggX7_convoy_X7_litersOf
set_option maxRecDepth 20000 in
theorem ggX7_convoy_X7_isThere : GoodIn wsX7_convoy wsX7_isThere := goodIn_r _ [36, 16, 17, 6, 18] (by decide +kernel) (by decide +kernel)
set_option maxRecDepth 20000 in
theorem gX7_convoy_X7_isThere : GoodIn wsX7_convoy (va_wsS RX7 118 yX7_isThere wsX7_isThere) := goodIn_app (goodIn_of _ (by decide +kernel)) ggX7_convoy_X7_isThere
theorem dX7_convoy_0 : decode cX7_convoy 0 = .ok (.aload_n 0, 1) := by decide +kernel
theorem dX7_convoy_1 : decode cX7_convoy 1 = .ok (.aload_n 0, 1) := by decide +kernel
theorem dX7_convoy_2 : decode cX7_convoy 2 = .ok (.iload_n 1, 1) := by decide +kernel
theorem dX7_convoy_3 : decode cX7_convoy 3 = .ok (.invokevirtual 218, 3) := by decide +kernel
theorem dX7_convoy_6 : decode cX7_convoy 6 = .ok (.ifCond .ne 7, 3) := by decide +kernel
theorem dX7_convoy_9 : decode cX7_convoy 9 = .ok (.iconst 1, 1) := by decide +kernel
theorem dX7_convoy_10 : decode cX7_convoy 10 = .ok (.goto 20, 3) := by decide +kernel
theorem dX7_convoy_13 : decode cX7_convoy 13 = .ok (.iload_n 2, 1) := by decide +kernel
theorem dX7_convoy_14 : decode cX7_convoy 14 = .ok (.i2l, 1) := by decide +kernel
theorem dX7_convoy_15 : decode cX7_convoy 15 = .ok (.lconst 0, 1) := by decide +kernel
theorem dX7_convoy_16 : decode cX7_convoy 16 = .ok (.ldc2_w 221, 3) := by decide +kernel
theorem dX7_convoy_19 : decode cX7_convoy 19 = .ok (.invokestatic 139, 3) := by decide +kernel
theorem dX7_convoy_22 : decode cX7_convoy 22 = .ok (.ifCond .eq 7, 3) := by decide +kernel
theorem dX7_convoy_25 : decode cX7_convoy 25 = .ok (.iconst 0, 1) := by decide +kernel
theorem dX7_convoy_26 : decode cX7_convoy 26 = .ok (.goto 4, 3) := by decide +kernel
theorem dX7_convoy_29 : decode cX7_convoy 29 = .ok (.iconst 2, 1) := by decide +kernel
theorem dX7_convoy_30 : decode cX7_convoy 30 = .ok (.invokevirtual 146, 3) := by decide +kernel
theorem dX7_convoy_33 : decode cX7_convoy 33 = .ok (.ifCond .eq 5, 3) := by decide +kernel
theorem dX7_convoy_36 : decode cX7_convoy 36 = .ok (.iconst 0, 1) := by decide +kernel
theorem dX7_convoy_37 : decode cX7_convoy 37 = .ok (.ireturn, 1) := by decide +kernel
theorem dX7_convoy_38 : decode cX7_convoy 38 = .ok (.iload_n 2, 1) := by decide +kernel
theorem dX7_convoy_39 : decode cX7_convoy 39 = .ok (.tableswitch 91 0 7 #[45, 45, 56, 91, 91, 91, 65, 74], 45) := by decide +kernel
theorem dX7_convoy_84 : decode cX7_convoy 84 = .ok (.aload_n 0, 1) := by decide +kernel
theorem dX7_convoy_85 : decode cX7_convoy 85 = .ok (.getfield 16, 3) := by decide +kernel
theorem dX7_convoy_88 : decode cX7_convoy 88 = .ok (.iload_n 1, 1) := by decide +kernel
theorem dX7_convoy_89 : decode cX7_convoy 89 = .ok (.iload_n 2, 1) := by decide +kernel
theorem dX7_convoy_90 : decode cX7_convoy 90 = .ok (.invokestatic 51, 3) := by decide +kernel
theorem dX7_convoy_93 : decode cX7_convoy 93 = .ok (.iaload, 1) := by decide +kernel
theorem dX7_convoy_94 : decode cX7_convoy 94 = .ok (.ireturn, 1) := by decide +kernel
theorem dX7_convoy_95 : decode cX7_convoy 95 = .ok (.aload_n 0, 1) := by decide +kernel
theorem dX7_convoy_96 : decode cX7_convoy 96 = .ok (.getfield 16, 3) := by decide +kernel
theorem dX7_convoy_99 : decode cX7_convoy 99 = .ok (.iload_n 1, 1) := by decide +kernel
theorem dX7_convoy_100 : decode cX7_convoy 100 = .ok (.invokestatic 103, 3) := by decide +kernel
theorem dX7_convoy_103 : decode cX7_convoy 103 = .ok (.ireturn, 1) := by decide +kernel
theorem dX7_convoy_104 : decode cX7_convoy 104 = .ok (.aload_n 0, 1) := by decide +kernel
theorem dX7_convoy_105 : decode cX7_convoy 105 = .ok (.getfield 16, 3) := by decide +kernel
theorem dX7_convoy_108 : decode cX7_convoy 108 = .ok (.iload_n 1, 1) := by decide +kernel
theorem dX7_convoy_109 : decode cX7_convoy 109 = .ok (.invokestatic 223, 3) := by decide +kernel
theorem dX7_convoy_112 : decode cX7_convoy 112 = .ok (.ireturn, 1) := by decide +kernel
theorem dX7_convoy_113 : decode cX7_convoy 113 = .ok (.aload_n 0, 1) := by decide +kernel
theorem dX7_convoy_114 : decode cX7_convoy 114 = .ok (.getfield 16, 3) := by decide +kernel
theorem dX7_convoy_117 : decode cX7_convoy 117 = .ok (.iload_n 1, 1) := by decide +kernel
theorem dX7_convoy_118 : decode cX7_convoy 118 = .ok (.invokestatic 118, 3) := by decide +kernel
theorem dX7_convoy_121 : decode cX7_convoy 121 = .ok (.ifCond .eq 7, 3) := by decide +kernel
theorem dX7_convoy_124 : decode cX7_convoy 124 = .ok (.iconst 1, 1) := by decide +kernel
theorem dX7_convoy_125 : decode cX7_convoy 125 = .ok (.goto 4, 3) := by decide +kernel
theorem dX7_convoy_128 : decode cX7_convoy 128 = .ok (.iconst 0, 1) := by decide +kernel
theorem dX7_convoy_129 : decode cX7_convoy 129 = .ok (.ireturn, 1) := by decide +kernel
theorem dX7_convoy_130 : decode cX7_convoy 130 = .ok (.aload_n 0, 1) := by decide +kernel
theorem dX7_convoy_131 : decode cX7_convoy 131 = .ok (.getfield 16, 3) := by decide +kernel
theorem dX7_convoy_134 : decode cX7_convoy 134 = .ok (.iload_n 1, 1) := by decide +kernel
theorem dX7_convoy_135 : decode cX7_convoy 135 = .ok (.iload_n 2, 1) := by decide +kernel
theorem dX7_convoy_136 : decode cX7_convoy 136 = .ok (.iconst 1, 1) := by decide +kernel
theorem dX7_convoy_137 : decode cX7_convoy 137 = .ok (.isub, 1) := by decide +kernel
theorem dX7_convoy_138 : decode cX7_convoy 138 = .ok (.invokestatic 51, 3) := by decide +kernel
theorem dX7_convoy_141 : decode cX7_convoy 141 = .ok (.iaload, 1) := by decide +kernel
theorem dX7_convoy_142 : decode cX7_convoy 142 = .ok (.ireturn, 1) := by decide +kernel
set_option maxRecDepth 20000 in
theorem ggX7_member_X7_isConvoy : GoodIn wsX7_member wsX7_isConvoy := goodIn_r _ [6, 1, 7, 8, 5, 9, 24, 25, 26, 27, 28, 29, 30, 31, 32, 33, 34, 35, 36, 37] (by decide +kernel) (by decide +kernel)
set_option maxRecDepth 20000 in
theorem gX7_member_X7_isConvoy : GoodIn wsX7_member (wsV RX7 218 RX7 yX7_isConvoy wsX7_isConvoy) := goodIn_app (goodIn_of _ (by decide +kernel)) ggX7_member_X7_isConvoy
set_option maxRecDepth 20000 in
theorem ggX7_member_X7_refused : GoodIn wsX7_member wsX7_refused := goodIn_r _ [13, 14, 24, 25, 26, 27, 28, 29, 30, 31, 32, 33, 34, 35, 36, 37] (by decide +kernel) (by decide +kernel)
set_option maxRecDepth 20000 in
theorem gX7_member_X7_refused : GoodIn wsX7_member (wsV RX7 146 RX7 yX7_refused wsX7_refused) := goodIn_app (goodIn_of _ (by decide +kernel)) ggX7_member_X7_refused
set_option maxRecDepth 20000 in
theorem ggX7_member_X7_sizeOf : GoodIn wsX7_member wsX7_sizeOf := goodIn_r _ [17, 18, 19, 5, 20] (by decide +kernel) (by decide +kernel)
set_option maxRecDepth 20000 in
theorem gX7_member_X7_sizeOf : GoodIn wsX7_member (va_wsS RX7 64 yX7_sizeOf wsX7_sizeOf) := goodIn_app (goodIn_of _ (by decide +kernel)) ggX7_member_X7_sizeOf
set_option maxRecDepth 20000 in
theorem ggX7_member_X7_who : GoodIn wsX7_member wsX7_who := goodIn_r _ [23, 18, 19, 5, 20] (by decide +kernel) (by decide +kernel)
set_option maxRecDepth 20000 in
theorem gX7_member_X7_who : GoodIn wsX7_member (va_wsS RX7 68 yX7_who wsX7_who) := goodIn_app (goodIn_of _ (by decide +kernel)) ggX7_member_X7_who
theorem dX7_member_0 : decode cX7_member 0 = .ok (.aload_n 0, 1) := by decide +kernel
theorem dX7_member_1 : decode cX7_member 1 = .ok (.aload_n 0, 1) := by decide +kernel
theorem dX7_member_2 : decode cX7_member 2 = .ok (.iload_n 1, 1) := by decide +kernel
theorem dX7_member_3 : decode cX7_member 3 = .ok (.invokevirtual 218, 3) := by decide +kernel
theorem dX7_member_6 : decode cX7_member 6 = .ok (.ifCond .ne 7, 3) := by decide +kernel
theorem dX7_member_9 : decode cX7_member 9 = .ok (.iconst 1, 1) := by decide +kernel
theorem dX7_member_10 : decode cX7_member 10 = .ok (.goto 12, 3) := by decide +kernel
theorem dX7_member_13 : decode cX7_member 13 = .ok (.iload_n 2, 1) := by decide +kernel
theorem dX7_member_14 : decode cX7_member 14 = .ok (.ifCond .ge 7, 3) := by decide +kernel
theorem dX7_member_17 : decode cX7_member 17 = .ok (.iconst 2, 1) := by decide +kernel
theorem dX7_member_18 : decode cX7_member 18 = .ok (.goto 4, 3) := by decide +kernel
theorem dX7_member_21 : decode cX7_member 21 = .ok (.iconst 0, 1) := by decide +kernel
theorem dX7_member_22 : decode cX7_member 22 = .ok (.invokevirtual 146, 3) := by decide +kernel
theorem dX7_member_25 : decode cX7_member 25 = .ok (.ifCond .eq 5, 3) := by decide +kernel
theorem dX7_member_28 : decode cX7_member 28 = .ok (.iconst 0, 1) := by decide +kernel
theorem dX7_member_29 : decode cX7_member 29 = .ok (.ireturn, 1) := by decide +kernel
theorem dX7_member_30 : decode cX7_member 30 = .ok (.iload_n 2, 1) := by decide +kernel
theorem dX7_member_31 : decode cX7_member 31 = .ok (.aload_n 0, 1) := by decide +kernel
theorem dX7_member_32 : decode cX7_member 32 = .ok (.getfield 16, 3) := by decide +kernel
theorem dX7_member_35 : decode cX7_member 35 = .ok (.iload_n 1, 1) := by decide +kernel
theorem dX7_member_36 : decode cX7_member 36 = .ok (.invokestatic 64, 3) := by decide +kernel
theorem dX7_member_39 : decode cX7_member 39 = .ok (.if_icmp .ge 15, 3) := by decide +kernel
theorem dX7_member_42 : decode cX7_member 42 = .ok (.aload_n 0, 1) := by decide +kernel
theorem dX7_member_43 : decode cX7_member 43 = .ok (.getfield 16, 3) := by decide +kernel
theorem dX7_member_46 : decode cX7_member 46 = .ok (.iload_n 1, 1) := by decide +kernel
theorem dX7_member_47 : decode cX7_member 47 = .ok (.iload_n 2, 1) := by decide +kernel
theorem dX7_member_48 : decode cX7_member 48 = .ok (.invokestatic 68, 3) := by decide +kernel
theorem dX7_member_51 : decode cX7_member 51 = .ok (.goto 5, 3) := by decide +kernel
theorem dX7_member_54 : decode cX7_member 54 = .ok (.bipush (-9), 2) := by decide +kernel
theorem dX7_member_56 : decode cX7_member 56 = .ok (.ireturn, 1) := by decide +kernel
set_option maxRecDepth 20000 in
theorem ggX7_vehicle_X7_in : GoodIn wsX7_vehicle wsX7_in := goodIn_r _ [6] (by decide +kernel) (by decide +kernel)
set_option maxRecDepth 20000 in
theorem gX7_vehicle_X7_in : GoodIn wsX7_vehicle (va_wsS RX7 139 yX7_in wsX7_in) := goodIn_app (goodIn_of _ (by decide +kernel)) ggX7_vehicle_X7_in
set_option maxRecDepth 20000 in
theorem ggX7_vehicle_X7_refused : GoodIn wsX7_vehicle wsX7_refused := goodIn_r _ [10, 11, 15, 16, 17, 18, 19, 20, 21, 22, 23, 24, 25, 26, 27, 28] (by decide +kernel) (by decide +kernel)
set_option maxRecDepth 20000 in
theorem gX7_vehicle_X7_refused : GoodIn wsX7_vehicle (wsV RX7 146 RX7 yX7_refused wsX7_refused) := goodIn_app (goodIn_of _ (by decide +kernel)) ggX7_vehicle_X7_refused
set_option maxRecDepth 20000 in
theorem ggX7_vehicle_X7_carAt : GoodIn wsX7_vehicle wsX7_carAt := goodIn_r _ [14] (by decide +kernel) (by decide +kernel)
set_option maxRecDepth 20000 in
theorem gX7_vehicle_X7_carAt : GoodIn wsX7_vehicle (va_wsS RX7 72 yX7_carAt wsX7_carAt) := goodIn_app (goodIn_of _ (by decide +kernel)) ggX7_vehicle_X7_carAt
theorem dX7_vehicle_0 : decode cX7_vehicle 0 = .ok (.aload_n 0, 1) := by decide +kernel
theorem dX7_vehicle_1 : decode cX7_vehicle 1 = .ok (.iload_n 1, 1) := by decide +kernel
theorem dX7_vehicle_2 : decode cX7_vehicle 2 = .ok (.i2l, 1) := by decide +kernel
theorem dX7_vehicle_3 : decode cX7_vehicle 3 = .ok (.lconst 0, 1) := by decide +kernel
theorem dX7_vehicle_4 : decode cX7_vehicle 4 = .ok (.aload_n 0, 1) := by decide +kernel
theorem dX7_vehicle_5 : decode cX7_vehicle 5 = .ok (.getfield 16, 3) := by decide +kernel
theorem dX7_vehicle_8 : decode cX7_vehicle 8 = .ok (.bipush 6, 2) := by decide +kernel
theorem dX7_vehicle_10 : decode cX7_vehicle 10 = .ok (.iaload, 1) := by decide +kernel
theorem dX7_vehicle_11 : decode cX7_vehicle 11 = .ok (.iconst 1, 1) := by decide +kernel
theorem dX7_vehicle_12 : decode cX7_vehicle 12 = .ok (.isub, 1) := by decide +kernel
theorem dX7_vehicle_13 : decode cX7_vehicle 13 = .ok (.i2l, 1) := by decide +kernel
theorem dX7_vehicle_14 : decode cX7_vehicle 14 = .ok (.invokestatic 139, 3) := by decide +kernel
theorem dX7_vehicle_17 : decode cX7_vehicle 17 = .ok (.ifCond .ne 7, 3) := by decide +kernel
theorem dX7_vehicle_20 : decode cX7_vehicle 20 = .ok (.iconst 1, 1) := by decide +kernel
theorem dX7_vehicle_21 : decode cX7_vehicle 21 = .ok (.goto 20, 3) := by decide +kernel
theorem dX7_vehicle_24 : decode cX7_vehicle 24 = .ok (.iload_n 2, 1) := by decide +kernel
theorem dX7_vehicle_25 : decode cX7_vehicle 25 = .ok (.i2l, 1) := by decide +kernel
theorem dX7_vehicle_26 : decode cX7_vehicle 26 = .ok (.lconst 0, 1) := by decide +kernel
theorem dX7_vehicle_27 : decode cX7_vehicle 27 = .ok (.ldc2_w 226, 3) := by decide +kernel
theorem dX7_vehicle_30 : decode cX7_vehicle 30 = .ok (.invokestatic 139, 3) := by decide +kernel
theorem dX7_vehicle_33 : decode cX7_vehicle 33 = .ok (.ifCond .eq 7, 3) := by decide +kernel
theorem dX7_vehicle_36 : decode cX7_vehicle 36 = .ok (.iconst 0, 1) := by decide +kernel
theorem dX7_vehicle_37 : decode cX7_vehicle 37 = .ok (.goto 4, 3) := by decide +kernel
theorem dX7_vehicle_40 : decode cX7_vehicle 40 = .ok (.iconst 2, 1) := by decide +kernel
theorem dX7_vehicle_41 : decode cX7_vehicle 41 = .ok (.invokevirtual 146, 3) := by decide +kernel
theorem dX7_vehicle_44 : decode cX7_vehicle 44 = .ok (.ifCond .eq 5, 3) := by decide +kernel
theorem dX7_vehicle_47 : decode cX7_vehicle 47 = .ok (.iconst 0, 1) := by decide +kernel
theorem dX7_vehicle_48 : decode cX7_vehicle 48 = .ok (.ireturn, 1) := by decide +kernel
theorem dX7_vehicle_49 : decode cX7_vehicle 49 = .ok (.aload_n 0, 1) := by decide +kernel
theorem dX7_vehicle_50 : decode cX7_vehicle 50 = .ok (.getfield 16, 3) := by decide +kernel
theorem dX7_vehicle_53 : decode cX7_vehicle 53 = .ok (.iload_n 1, 1) := by decide +kernel
theorem dX7_vehicle_54 : decode cX7_vehicle 54 = .ok (.iload_n 2, 1) := by decide +kernel
theorem dX7_vehicle_55 : decode cX7_vehicle 55 = .ok (.invokestatic 72, 3) := by decide +kernel
theorem dX7_vehicle_58 : decode cX7_vehicle 58 = .ok (.iaload, 1) := by decide +kernel
theorem dX7_vehicle_59 : decode cX7_vehicle 59 = .ok (.ireturn, 1) := by decide +kernel
set_option maxRecDepth 20000 in
theorem ggX7_closedFor_X7_gateAt : GoodIn wsX7_closedFor wsX7_gateAt := goodIn_r _ [5] (by decide +kernel) (by decide +kernel)
set_option maxRecDepth 20000 in
theorem gX7_closedFor_X7_gateAt : GoodIn wsX7_closedFor (va_wsS RX7 55 yX7_gateAt wsX7_gateAt) := goodIn_app (goodIn_of _ (by decide +kernel)) ggX7_closedFor_X7_gateAt
theorem dX7_closedFor_0 : decode cX7_closedFor 0 = .ok (.aload_n 0, 1) := by decide +kernel
theorem dX7_closedFor_1 : decode cX7_closedFor 1 = .ok (.getfield 16, 3) := by decide +kernel
theorem dX7_closedFor_4 : decode cX7_closedFor 4 = .ok (.iconst 1, 1) := by decide +kernel
theorem dX7_closedFor_5 : decode cX7_closedFor 5 = .ok (.iaload, 1) := by decide +kernel
theorem dX7_closedFor_6 : decode cX7_closedFor 6 = .ok (.aload_n 0, 1) := by decide +kernel
theorem dX7_closedFor_7 : decode cX7_closedFor 7 = .ok (.getfield 16, 3) := by decide +kernel
theorem dX7_closedFor_10 : decode cX7_closedFor 10 = .ok (.iload_n 1, 1) := by decide +kernel
theorem dX7_closedFor_11 : decode cX7_closedFor 11 = .ok (.iconst 3, 1) := by decide +kernel
theorem dX7_closedFor_12 : decode cX7_closedFor 12 = .ok (.invokestatic 55, 3) := by decide +kernel
theorem dX7_closedFor_15 : decode cX7_closedFor 15 = .ok (.iaload, 1) := by decide +kernel
theorem dX7_closedFor_16 : decode cX7_closedFor 16 = .ok (.iadd, 1) := by decide +kernel
theorem dX7_closedFor_17 : decode cX7_closedFor 17 = .ok (.aload_n 0, 1) := by decide +kernel
theorem dX7_closedFor_18 : decode cX7_closedFor 18 = .ok (.getfield 16, 3) := by decide +kernel
theorem dX7_closedFor_21 : decode cX7_closedFor 21 = .ok (.iload_n 1, 1) := by decide +kernel
theorem dX7_closedFor_22 : decode cX7_closedFor 22 = .ok (.iconst 1, 1) := by decide +kernel
theorem dX7_closedFor_23 : decode cX7_closedFor 23 = .ok (.invokestatic 55, 3) := by decide +kernel
theorem dX7_closedFor_26 : decode cX7_closedFor 26 = .ok (.iaload, 1) := by decide +kernel
theorem dX7_closedFor_27 : decode cX7_closedFor 27 = .ok (.irem, 1) := by decide +kernel
theorem dX7_closedFor_28 : decode cX7_closedFor 28 = .ok (.istore_n 2, 1) := by decide +kernel
theorem dX7_closedFor_29 : decode cX7_closedFor 29 = .ok (.iload_n 2, 1) := by decide +kernel
theorem dX7_closedFor_30 : decode cX7_closedFor 30 = .ok (.aload_n 0, 1) := by decide +kernel
theorem dX7_closedFor_31 : decode cX7_closedFor 31 = .ok (.getfield 16, 3) := by decide +kernel
theorem dX7_closedFor_34 : decode cX7_closedFor 34 = .ok (.iload_n 1, 1) := by decide +kernel
theorem dX7_closedFor_35 : decode cX7_closedFor 35 = .ok (.iconst 2, 1) := by decide +kernel
theorem dX7_closedFor_36 : decode cX7_closedFor 36 = .ok (.invokestatic 55, 3) := by decide +kernel
theorem dX7_closedFor_39 : decode cX7_closedFor 39 = .ok (.iaload, 1) := by decide +kernel
theorem dX7_closedFor_40 : decode cX7_closedFor 40 = .ok (.if_icmp .ge 18, 3) := by decide +kernel
theorem dX7_closedFor_43 : decode cX7_closedFor 43 = .ok (.aload_n 0, 1) := by decide +kernel
theorem dX7_closedFor_44 : decode cX7_closedFor 44 = .ok (.getfield 16, 3) := by decide +kernel
theorem dX7_closedFor_47 : decode cX7_closedFor 47 = .ok (.iload_n 1, 1) := by decide +kernel
theorem dX7_closedFor_48 : decode cX7_closedFor 48 = .ok (.iconst 2, 1) := by decide +kernel
theorem dX7_closedFor_49 : decode cX7_closedFor 49 = .ok (.invokestatic 55, 3) := by decide +kernel
theorem dX7_closedFor_52 : decode cX7_closedFor 52 = .ok (.iaload, 1) := by decide +kernel
theorem dX7_closedFor_53 : decode cX7_closedFor 53 = .ok (.iload_n 2, 1) := by decide +kernel
theorem dX7_closedFor_54 : decode cX7_closedFor 54 = .ok (.isub, 1) := by decide +kernel
theorem dX7_closedFor_55 : decode cX7_closedFor 55 = .ok (.goto 4, 3) := by decide +kernel
theorem dX7_closedFor_58 : decode cX7_closedFor 58 = .ok (.iconst 0, 1) := by decide +kernel
theorem dX7_closedFor_59 : decode cX7_closedFor 59 = .ok (.ireturn, 1) := by decide +kernel
set_option maxRecDepth 20000 in
theorem ggX7_gate_X7_in : GoodIn wsX7_gate wsX7_in := goodIn_r _ [6] (by decide +kernel) (by decide +kernel)
set_option maxRecDepth 20000 in
theorem gX7_gate_X7_in : GoodIn wsX7_gate (va_wsS RX7 139 yX7_in wsX7_in) := goodIn_app (goodIn_of _ (by decide +kernel)) ggX7_gate_X7_in
set_option maxRecDepth 20000 in
theorem ggX7_gate_X7_refused : GoodIn wsX7_gate wsX7_refused := goodIn_r _ [10, 11, 22, 23, 24, 25, 26, 27, 28, 29, 30, 31, 32, 33, 34, 35] (by decide +kernel) (by decide +kernel)
set_option maxRecDepth 20000 in
theorem gX7_gate_X7_refused : GoodIn wsX7_gate (wsV RX7 146 RX7 yX7_refused wsX7_refused) := goodIn_app (goodIn_of _ (by decide +kernel)) ggX7_gate_X7_refused
set_option maxRecDepth 20000 in
theorem ggX7_gate_X7_gateAt : GoodIn wsX7_gate wsX7_gateAt := goodIn_r _ [14] (by decide +kernel) (by decide +kernel)
set_option maxRecDepth 20000 in
theorem gX7_gate_X7_gateAt : GoodIn wsX7_gate (va_wsS RX7 55 yX7_gateAt wsX7_gateAt) := goodIn_app (goodIn_of _ (by decide +kernel)) ggX7_gate_X7_gateAt
set_option maxRecDepth 20000 in
theorem ggX7_gate_X7_closedFor : GoodIn wsX7_gate wsX7_closedFor := goodIn_r _ [18, 1, 12, 13, 5, 14, 22, 23, 24, 25, 26, 27, 28, 29, 30, 31, 32, 33, 34, 35] (by decide +kernel) (by decide +kernel)
set_option maxRecDepth 20000 in
theorem gX7_gate_X7_closedFor : GoodIn wsX7_gate (wsV RX7 230 RX7 yX7_closedFor wsX7_closedFor) := goodIn_app (goodIn_of _ (by decide +kernel)) ggX7_gate_X7_closedFor
set_option maxRecDepth 20000 in
theorem ggX7_gate_X7_isClosed : GoodIn wsX7_gate wsX7_isClosed := goodIn_r _ [21, 12, 13, 5, 14] (by decide +kernel) (by decide +kernel)
set_option maxRecDepth 20000 in
theorem gX7_gate_X7_isClosed : GoodIn wsX7_gate (va_wsS RX7 109 yX7_isClosed wsX7_isClosed) := goodIn_app (goodIn_of _ (by decide +kernel)) ggX7_gate_X7_isClosed
theorem dX7_gate_0 : decode cX7_gate 0 = .ok (.aload_n 0, 1) := by decide +kernel
theorem dX7_gate_1 : decode cX7_gate 1 = .ok (.iload_n 1, 1) := by decide +kernel
theorem dX7_gate_2 : decode cX7_gate 2 = .ok (.i2l, 1) := by decide +kernel
theorem dX7_gate_3 : decode cX7_gate 3 = .ok (.lconst 0, 1) := by decide +kernel
theorem dX7_gate_4 : decode cX7_gate 4 = .ok (.aload_n 0, 1) := by decide +kernel
theorem dX7_gate_5 : decode cX7_gate 5 = .ok (.getfield 16, 3) := by decide +kernel
theorem dX7_gate_8 : decode cX7_gate 8 = .ok (.iconst 2, 1) := by decide +kernel
theorem dX7_gate_9 : decode cX7_gate 9 = .ok (.iaload, 1) := by decide +kernel
theorem dX7_gate_10 : decode cX7_gate 10 = .ok (.iconst 1, 1) := by decide +kernel
theorem dX7_gate_11 : decode cX7_gate 11 = .ok (.isub, 1) := by decide +kernel
theorem dX7_gate_12 : decode cX7_gate 12 = .ok (.i2l, 1) := by decide +kernel
theorem dX7_gate_13 : decode cX7_gate 13 = .ok (.invokestatic 139, 3) := by decide +kernel
theorem dX7_gate_16 : decode cX7_gate 16 = .ok (.ifCond .ne 7, 3) := by decide +kernel
theorem dX7_gate_19 : decode cX7_gate 19 = .ok (.iconst 1, 1) := by decide +kernel
theorem dX7_gate_20 : decode cX7_gate 20 = .ok (.goto 20, 3) := by decide +kernel
theorem dX7_gate_23 : decode cX7_gate 23 = .ok (.iload_n 2, 1) := by decide +kernel
theorem dX7_gate_24 : decode cX7_gate 24 = .ok (.i2l, 1) := by decide +kernel
theorem dX7_gate_25 : decode cX7_gate 25 = .ok (.lconst 0, 1) := by decide +kernel
theorem dX7_gate_26 : decode cX7_gate 26 = .ok (.ldc2_w 228, 3) := by decide +kernel
theorem dX7_gate_29 : decode cX7_gate 29 = .ok (.invokestatic 139, 3) := by decide +kernel
theorem dX7_gate_32 : decode cX7_gate 32 = .ok (.ifCond .eq 7, 3) := by decide +kernel
theorem dX7_gate_35 : decode cX7_gate 35 = .ok (.iconst 0, 1) := by decide +kernel
theorem dX7_gate_36 : decode cX7_gate 36 = .ok (.goto 4, 3) := by decide +kernel
theorem dX7_gate_39 : decode cX7_gate 39 = .ok (.iconst 2, 1) := by decide +kernel
theorem dX7_gate_40 : decode cX7_gate 40 = .ok (.invokevirtual 146, 3) := by decide +kernel
theorem dX7_gate_43 : decode cX7_gate 43 = .ok (.ifCond .eq 5, 3) := by decide +kernel
theorem dX7_gate_46 : decode cX7_gate 46 = .ok (.iconst 0, 1) := by decide +kernel
theorem dX7_gate_47 : decode cX7_gate 47 = .ok (.ireturn, 1) := by decide +kernel
theorem dX7_gate_48 : decode cX7_gate 48 = .ok (.iload_n 2, 1) := by decide +kernel
theorem dX7_gate_49 : decode cX7_gate 49 = .ok (.iconst 4, 1) := by decide +kernel
theorem dX7_gate_50 : decode cX7_gate 50 = .ok (.if_icmp .ge 16, 3) := by decide +kernel
theorem dX7_gate_53 : decode cX7_gate 53 = .ok (.aload_n 0, 1) := by decide +kernel
theorem dX7_gate_54 : decode cX7_gate 54 = .ok (.getfield 16, 3) := by decide +kernel
theorem dX7_gate_57 : decode cX7_gate 57 = .ok (.iload_n 1, 1) := by decide +kernel
theorem dX7_gate_58 : decode cX7_gate 58 = .ok (.iload_n 2, 1) := by decide +kernel
theorem dX7_gate_59 : decode cX7_gate 59 = .ok (.invokestatic 55, 3) := by decide +kernel
theorem dX7_gate_62 : decode cX7_gate 62 = .ok (.iaload, 1) := by decide +kernel
theorem dX7_gate_63 : decode cX7_gate 63 = .ok (.goto 32, 3) := by decide +kernel
theorem dX7_gate_66 : decode cX7_gate 66 = .ok (.iload_n 2, 1) := by decide +kernel
theorem dX7_gate_67 : decode cX7_gate 67 = .ok (.iconst 5, 1) := by decide +kernel
theorem dX7_gate_68 : decode cX7_gate 68 = .ok (.if_icmp .ne 11, 3) := by decide +kernel
theorem dX7_gate_71 : decode cX7_gate 71 = .ok (.aload_n 0, 1) := by decide +kernel
theorem dX7_gate_72 : decode cX7_gate 72 = .ok (.iload_n 1, 1) := by decide +kernel
theorem dX7_gate_73 : decode cX7_gate 73 = .ok (.invokevirtual 230, 3) := by decide +kernel
theorem dX7_gate_76 : decode cX7_gate 76 = .ok (.goto 19, 3) := by decide +kernel
theorem dX7_gate_79 : decode cX7_gate 79 = .ok (.aload_n 0, 1) := by decide +kernel
theorem dX7_gate_80 : decode cX7_gate 80 = .ok (.getfield 16, 3) := by decide +kernel
theorem dX7_gate_83 : decode cX7_gate 83 = .ok (.iload_n 1, 1) := by decide +kernel
theorem dX7_gate_84 : decode cX7_gate 84 = .ok (.invokestatic 109, 3) := by decide +kernel
theorem dX7_gate_87 : decode cX7_gate 87 = .ok (.ifCond .eq 7, 3) := by decide +kernel
theorem dX7_gate_90 : decode cX7_gate 90 = .ok (.iconst 1, 1) := by decide +kernel
theorem dX7_gate_91 : decode cX7_gate 91 = .ok (.goto 4, 3) := by decide +kernel
theorem dX7_gate_94 : decode cX7_gate 94 = .ok (.iconst 0, 1) := by decide +kernel
theorem dX7_gate_95 : decode cX7_gate 95 = .ok (.ireturn, 1) := by decide +kernel
set_option maxRecDepth 20000 in
theorem ggX7_bay_X7_in : GoodIn wsX7_bay wsX7_in := goodIn_r _ [6] (by decide +kernel) (by decide +kernel)
set_option maxRecDepth 20000 in
theorem gX7_bay_X7_in : GoodIn wsX7_bay (va_wsS RX7 139 yX7_in wsX7_in) := goodIn_app (goodIn_of _ (by decide +kernel)) ggX7_bay_X7_in
set_option maxRecDepth 20000 in
theorem ggX7_bay_X7_refused : GoodIn wsX7_bay wsX7_refused := goodIn_r _ [10, 11, 15, 16, 17, 18, 19, 20, 21, 22, 23, 24, 25, 26, 27, 28] (by decide +kernel) (by decide +kernel)
set_option maxRecDepth 20000 in
theorem gX7_bay_X7_refused : GoodIn wsX7_bay (wsV RX7 146 RX7 yX7_refused wsX7_refused) := goodIn_app (goodIn_of _ (by decide +kernel)) ggX7_bay_X7_refused
set_option maxRecDepth 20000 in
theorem ggX7_bay_X7_bayAt : GoodIn wsX7_bay wsX7_bayAt := goodIn_r _ [14] (by decide +kernel) (by decide +kernel)
set_option maxRecDepth 20000 in
theorem gX7_bay_X7_bayAt : GoodIn wsX7_bay (va_wsS RX7 58 yX7_bayAt wsX7_bayAt) := goodIn_app (goodIn_of _ (by decide +kernel)) ggX7_bay_X7_bayAt
theorem dX7_bay_0 : decode cX7_bay 0 = .ok (.aload_n 0, 1) := by decide +kernel
theorem dX7_bay_1 : decode cX7_bay 1 = .ok (.iload_n 1, 1) := by decide +kernel
theorem dX7_bay_2 : decode cX7_bay 2 = .ok (.i2l, 1) := by decide +kernel
theorem dX7_bay_3 : decode cX7_bay 3 = .ok (.lconst 0, 1) := by decide +kernel
theorem dX7_bay_4 : decode cX7_bay 4 = .ok (.aload_n 0, 1) := by decide +kernel
theorem dX7_bay_5 : decode cX7_bay 5 = .ok (.getfield 16, 3) := by decide +kernel
theorem dX7_bay_8 : decode cX7_bay 8 = .ok (.iconst 3, 1) := by decide +kernel
theorem dX7_bay_9 : decode cX7_bay 9 = .ok (.iaload, 1) := by decide +kernel
theorem dX7_bay_10 : decode cX7_bay 10 = .ok (.iconst 1, 1) := by decide +kernel
theorem dX7_bay_11 : decode cX7_bay 11 = .ok (.isub, 1) := by decide +kernel
theorem dX7_bay_12 : decode cX7_bay 12 = .ok (.i2l, 1) := by decide +kernel
theorem dX7_bay_13 : decode cX7_bay 13 = .ok (.invokestatic 139, 3) := by decide +kernel
theorem dX7_bay_16 : decode cX7_bay 16 = .ok (.ifCond .ne 7, 3) := by decide +kernel
theorem dX7_bay_19 : decode cX7_bay 19 = .ok (.iconst 1, 1) := by decide +kernel
theorem dX7_bay_20 : decode cX7_bay 20 = .ok (.goto 20, 3) := by decide +kernel
theorem dX7_bay_23 : decode cX7_bay 23 = .ok (.iload_n 2, 1) := by decide +kernel
theorem dX7_bay_24 : decode cX7_bay 24 = .ok (.i2l, 1) := by decide +kernel
theorem dX7_bay_25 : decode cX7_bay 25 = .ok (.lconst 0, 1) := by decide +kernel
theorem dX7_bay_26 : decode cX7_bay 26 = .ok (.ldc2_w 234, 3) := by decide +kernel
theorem dX7_bay_29 : decode cX7_bay 29 = .ok (.invokestatic 139, 3) := by decide +kernel
theorem dX7_bay_32 : decode cX7_bay 32 = .ok (.ifCond .eq 7, 3) := by decide +kernel
theorem dX7_bay_35 : decode cX7_bay 35 = .ok (.iconst 0, 1) := by decide +kernel
theorem dX7_bay_36 : decode cX7_bay 36 = .ok (.goto 4, 3) := by decide +kernel
theorem dX7_bay_39 : decode cX7_bay 39 = .ok (.iconst 2, 1) := by decide +kernel
theorem dX7_bay_40 : decode cX7_bay 40 = .ok (.invokevirtual 146, 3) := by decide +kernel
theorem dX7_bay_43 : decode cX7_bay 43 = .ok (.ifCond .eq 5, 3) := by decide +kernel
theorem dX7_bay_46 : decode cX7_bay 46 = .ok (.iconst 0, 1) := by decide +kernel
theorem dX7_bay_47 : decode cX7_bay 47 = .ok (.ireturn, 1) := by decide +kernel
theorem dX7_bay_48 : decode cX7_bay 48 = .ok (.iload_n 2, 1) := by decide +kernel
theorem dX7_bay_49 : decode cX7_bay 49 = .ok (.iconst 3, 1) := by decide +kernel
theorem dX7_bay_50 : decode cX7_bay 50 = .ok (.if_icmp .ge 16, 3) := by decide +kernel
theorem dX7_bay_53 : decode cX7_bay 53 = .ok (.aload_n 0, 1) := by decide +kernel
theorem dX7_bay_54 : decode cX7_bay 54 = .ok (.getfield 16, 3) := by decide +kernel
theorem dX7_bay_57 : decode cX7_bay 57 = .ok (.iload_n 1, 1) := by decide +kernel
theorem dX7_bay_58 : decode cX7_bay 58 = .ok (.iload_n 2, 1) := by decide +kernel
theorem dX7_bay_59 : decode cX7_bay 59 = .ok (.invokestatic 58, 3) := by decide +kernel
theorem dX7_bay_62 : decode cX7_bay 62 = .ok (.iaload, 1) := by decide +kernel
theorem dX7_bay_63 : decode cX7_bay 63 = .ok (.goto 31, 3) := by decide +kernel
theorem dX7_bay_66 : decode cX7_bay 66 = .ok (.aload_n 0, 1) := by decide +kernel
theorem dX7_bay_67 : decode cX7_bay 67 = .ok (.getfield 16, 3) := by decide +kernel
theorem dX7_bay_70 : decode cX7_bay 70 = .ok (.iload_n 1, 1) := by decide +kernel
theorem dX7_bay_71 : decode cX7_bay 71 = .ok (.iconst 2, 1) := by decide +kernel
theorem dX7_bay_72 : decode cX7_bay 72 = .ok (.invokestatic 58, 3) := by decide +kernel
theorem dX7_bay_75 : decode cX7_bay 75 = .ok (.iaload, 1) := by decide +kernel
theorem dX7_bay_76 : decode cX7_bay 76 = .ok (.ifCond .ne 8, 3) := by decide +kernel
theorem dX7_bay_79 : decode cX7_bay 79 = .ok (.bipush (-9), 2) := by decide +kernel
theorem dX7_bay_81 : decode cX7_bay 81 = .ok (.goto 13, 3) := by decide +kernel
theorem dX7_bay_84 : decode cX7_bay 84 = .ok (.aload_n 0, 1) := by decide +kernel
theorem dX7_bay_85 : decode cX7_bay 85 = .ok (.getfield 16, 3) := by decide +kernel
theorem dX7_bay_88 : decode cX7_bay 88 = .ok (.iload_n 1, 1) := by decide +kernel
theorem dX7_bay_89 : decode cX7_bay 89 = .ok (.iconst 3, 1) := by decide +kernel
theorem dX7_bay_90 : decode cX7_bay 90 = .ok (.invokestatic 58, 3) := by decide +kernel
theorem dX7_bay_93 : decode cX7_bay 93 = .ok (.iaload, 1) := by decide +kernel
theorem dX7_bay_94 : decode cX7_bay 94 = .ok (.ireturn, 1) := by decide +kernel
set_option maxRecDepth 20000 in
theorem ggX7_isDepot_X7_in : GoodIn wsX7_isDepot wsX7_in := goodIn_r _ [5] (by decide +kernel) (by decide +kernel)
set_option maxRecDepth 20000 in
theorem gX7_isDepot_X7_in : GoodIn wsX7_isDepot (va_wsS RX7 139 yX7_in wsX7_in) := goodIn_app (goodIn_of _ (by decide +kernel)) ggX7_isDepot_X7_in
theorem dX7_isDepot_0 : decode cX7_isDepot 0 = .ok (.iload_n 1, 1) := by decide +kernel
theorem dX7_isDepot_1 : decode cX7_isDepot 1 = .ok (.i2l, 1) := by decide +kernel
theorem dX7_isDepot_2 : decode cX7_isDepot 2 = .ok (.lconst 0, 1) := by decide +kernel
theorem dX7_isDepot_3 : decode cX7_isDepot 3 = .ok (.aload_n 0, 1) := by decide +kernel
theorem dX7_isDepot_4 : decode cX7_isDepot 4 = .ok (.getfield 16, 3) := by decide +kernel
theorem dX7_isDepot_7 : decode cX7_isDepot 7 = .ok (.iconst 4, 1) := by decide +kernel
theorem dX7_isDepot_8 : decode cX7_isDepot 8 = .ok (.iaload, 1) := by decide +kernel
theorem dX7_isDepot_9 : decode cX7_isDepot 9 = .ok (.iconst 1, 1) := by decide +kernel
theorem dX7_isDepot_10 : decode cX7_isDepot 10 = .ok (.isub, 1) := by decide +kernel
theorem dX7_isDepot_11 : decode cX7_isDepot 11 = .ok (.i2l, 1) := by decide +kernel
theorem dX7_isDepot_12 : decode cX7_isDepot 12 = .ok (.invokestatic 139, 3) := by decide +kernel
theorem dX7_isDepot_15 : decode cX7_isDepot 15 = .ok (.ireturn, 1) := by decide +kernel
set_option maxRecDepth 20000 in
theorem ggX7_depot_X7_isDepot : GoodIn wsX7_depot wsX7_isDepot := goodIn_r _ [6, 1, 7, 8, 5, 9, 18, 19, 20, 21, 22, 23, 24, 25, 26, 27, 28, 29, 30, 31] (by decide +kernel) (by decide +kernel)
set_option maxRecDepth 20000 in
theorem gX7_depot_X7_isDepot : GoodIn wsX7_depot (wsV RX7 236 RX7 yX7_isDepot wsX7_isDepot) := goodIn_app (goodIn_of _ (by decide +kernel)) ggX7_depot_X7_isDepot
set_option maxRecDepth 20000 in
theorem ggX7_depot_X7_in : GoodIn wsX7_depot wsX7_in := goodIn_r _ [9] (by decide +kernel) (by decide +kernel)
set_option maxRecDepth 20000 in
theorem gX7_depot_X7_in : GoodIn wsX7_depot (va_wsS RX7 139 yX7_in wsX7_in) := goodIn_app (goodIn_of _ (by decide +kernel)) ggX7_depot_X7_in
set_option maxRecDepth 20000 in
theorem ggX7_depot_X7_refused : GoodIn wsX7_depot wsX7_refused := goodIn_r _ [13, 14, 18, 19, 20, 21, 22, 23, 24, 25, 26, 27, 28, 29, 30, 31] (by decide +kernel) (by decide +kernel)
set_option maxRecDepth 20000 in
theorem gX7_depot_X7_refused : GoodIn wsX7_depot (wsV RX7 146 RX7 yX7_refused wsX7_refused) := goodIn_app (goodIn_of _ (by decide +kernel)) ggX7_depot_X7_refused
set_option maxRecDepth 20000 in
theorem ggX7_depot_X7_depotAt : GoodIn wsX7_depot wsX7_depotAt := goodIn_r _ [17] (by decide +kernel) (by decide +kernel)
set_option maxRecDepth 20000 in
theorem gX7_depot_X7_depotAt : GoodIn wsX7_depot (va_wsS RX7 61 yX7_depotAt wsX7_depotAt) := goodIn_app (goodIn_of _ (by decide +kernel)) ggX7_depot_X7_depotAt
theorem dX7_depot_0 : decode cX7_depot 0 = .ok (.aload_n 0, 1) := by decide +kernel
theorem dX7_depot_1 : decode cX7_depot 1 = .ok (.aload_n 0, 1) := by decide +kernel
theorem dX7_depot_2 : decode cX7_depot 2 = .ok (.iload_n 1, 1) := by decide +kernel
theorem dX7_depot_3 : decode cX7_depot 3 = .ok (.invokevirtual 236, 3) := by decide +kernel
theorem dX7_depot_6 : decode cX7_depot 6 = .ok (.ifCond .ne 7, 3) := by decide +kernel
theorem dX7_depot_9 : decode cX7_depot 9 = .ok (.iconst 1, 1) := by decide +kernel
theorem dX7_depot_10 : decode cX7_depot 10 = .ok (.goto 18, 3) := by decide +kernel
theorem dX7_depot_13 : decode cX7_depot 13 = .ok (.iload_n 2, 1) := by decide +kernel
theorem dX7_depot_14 : decode cX7_depot 14 = .ok (.i2l, 1) := by decide +kernel
theorem dX7_depot_15 : decode cX7_depot 15 = .ok (.lconst 0, 1) := by decide +kernel
theorem dX7_depot_16 : decode cX7_depot 16 = .ok (.lconst 1, 1) := by decide +kernel
theorem dX7_depot_17 : decode cX7_depot 17 = .ok (.invokestatic 139, 3) := by decide +kernel
theorem dX7_depot_20 : decode cX7_depot 20 = .ok (.ifCond .eq 7, 3) := by decide +kernel
theorem dX7_depot_23 : decode cX7_depot 23 = .ok (.iconst 0, 1) := by decide +kernel
theorem dX7_depot_24 : decode cX7_depot 24 = .ok (.goto 4, 3) := by decide +kernel
theorem dX7_depot_27 : decode cX7_depot 27 = .ok (.iconst 2, 1) := by decide +kernel
theorem dX7_depot_28 : decode cX7_depot 28 = .ok (.invokevirtual 146, 3) := by decide +kernel
theorem dX7_depot_31 : decode cX7_depot 31 = .ok (.ifCond .eq 7, 3) := by decide +kernel
theorem dX7_depot_34 : decode cX7_depot 34 = .ok (.iconst 0, 1) := by decide +kernel
theorem dX7_depot_35 : decode cX7_depot 35 = .ok (.goto 13, 3) := by decide +kernel
theorem dX7_depot_38 : decode cX7_depot 38 = .ok (.aload_n 0, 1) := by decide +kernel
theorem dX7_depot_39 : decode cX7_depot 39 = .ok (.getfield 16, 3) := by decide +kernel
theorem dX7_depot_42 : decode cX7_depot 42 = .ok (.iload_n 1, 1) := by decide +kernel
theorem dX7_depot_43 : decode cX7_depot 43 = .ok (.iload_n 2, 1) := by decide +kernel
theorem dX7_depot_44 : decode cX7_depot 44 = .ok (.invokestatic 61, 3) := by decide +kernel
theorem dX7_depot_47 : decode cX7_depot 47 = .ok (.iaload, 1) := by decide +kernel
theorem dX7_depot_48 : decode cX7_depot 48 = .ok (.ireturn, 1) := by decide +kernel
set_option maxRecDepth 20000 in
theorem ggX7_addGate_X7_in : GoodIn wsX7_addGate wsX7_in := goodIn_r _ [7] (by decide +kernel) (by decide +kernel)
set_option maxRecDepth 20000 in
theorem gX7_addGate_X7_in : GoodIn wsX7_addGate (va_wsS RX7 139 yX7_in wsX7_in) := goodIn_app (goodIn_of _ (by decide +kernel)) ggX7_addGate_X7_in
set_option maxRecDepth 20000 in
theorem ggX7_addGate_X7_gateOn : GoodIn wsX7_addGate wsX7_gateOn := goodIn_r _ [10, 11, 12, 6, 13] (by decide +kernel) (by decide +kernel)
set_option maxRecDepth 20000 in
theorem gX7_addGate_X7_gateOn : GoodIn wsX7_addGate (va_wsS RX7 106 yX7_gateOn wsX7_gateOn) := goodIn_app (goodIn_of _ (by decide +kernel)) ggX7_addGate_X7_gateOn
set_option maxRecDepth 20000 in
theorem ggX7_addGate_X7_refused : GoodIn wsX7_addGate wsX7_refused := goodIn_r _ [17, 18, 31, 32, 33, 34, 35, 36, 37, 38, 39, 40, 41, 42, 43, 44] (by decide +kernel) (by decide +kernel)
set_option maxRecDepth 20000 in
theorem gX7_addGate_X7_refused : GoodIn wsX7_addGate (wsV RX7 146 RX7 yX7_refused wsX7_refused) := goodIn_app (goodIn_of _ (by decide +kernel)) ggX7_addGate_X7_refused
set_option maxRecDepth 20000 in
theorem ggX7_addGate_X7_remember : GoodIn wsX7_addGate wsX7_remember := goodIn_r _ [22, 23, 24, 1, 25, 26, 6, 27, 31, 32, 33, 34, 35, 36, 37, 38, 39, 40, 41, 42, 43, 44] (by decide +kernel) (by decide +kernel)
set_option maxRecDepth 20000 in
theorem gX7_addGate_X7_remember : GoodIn wsX7_addGate (wsV RX7 243 RX7 yX7_remember wsX7_remember) := goodIn_app (goodIn_of _ (by decide +kernel)) ggX7_addGate_X7_remember
set_option maxRecDepth 20000 in
theorem ggX7_addGate_X7_addGateTo : GoodIn wsX7_addGate wsX7_addGateTo := goodIn_r _ [30, 11, 12, 6, 13] (by decide +kernel) (by decide +kernel)
set_option maxRecDepth 20000 in
theorem gX7_addGate_X7_addGateTo : GoodIn wsX7_addGate (va_wsS RX7 172 yX7_addGateTo wsX7_addGateTo) := goodIn_app (goodIn_of _ (by decide +kernel)) ggX7_addGate_X7_addGateTo
theorem dX7_addGate_0 : decode cX7_addGate 0 = .ok (.iload_n 1, 1) := by decide +kernel
theorem dX7_addGate_1 : decode cX7_addGate 1 = .ok (.i2l, 1) := by decide +kernel
theorem dX7_addGate_2 : decode cX7_addGate 2 = .ok (.lconst 1, 1) := by decide +kernel
theorem dX7_addGate_3 : decode cX7_addGate 3 = .ok (.aload_n 0, 1) := by decide +kernel
theorem dX7_addGate_4 : decode cX7_addGate 4 = .ok (.getfield 16, 3) := by decide +kernel
theorem dX7_addGate_7 : decode cX7_addGate 7 = .ok (.iconst 0, 1) := by decide +kernel
theorem dX7_addGate_8 : decode cX7_addGate 8 = .ok (.iaload, 1) := by decide +kernel
theorem dX7_addGate_9 : decode cX7_addGate 9 = .ok (.iconst 1, 1) := by decide +kernel
theorem dX7_addGate_10 : decode cX7_addGate 10 = .ok (.isub, 1) := by decide +kernel
theorem dX7_addGate_11 : decode cX7_addGate 11 = .ok (.i2l, 1) := by decide +kernel
theorem dX7_addGate_12 : decode cX7_addGate 12 = .ok (.invokestatic 139, 3) := by decide +kernel
theorem dX7_addGate_15 : decode cX7_addGate 15 = .ok (.ifCond .eq 48, 3) := by decide +kernel
theorem dX7_addGate_18 : decode cX7_addGate 18 = .ok (.iload_n 2, 1) := by decide +kernel
theorem dX7_addGate_19 : decode cX7_addGate 19 = .ok (.i2l, 1) := by decide +kernel
theorem dX7_addGate_20 : decode cX7_addGate 20 = .ok (.ldc2_w 239, 3) := by decide +kernel
theorem dX7_addGate_23 : decode cX7_addGate 23 = .ok (.ldc2_w 241, 3) := by decide +kernel
theorem dX7_addGate_26 : decode cX7_addGate 26 = .ok (.invokestatic 139, 3) := by decide +kernel
theorem dX7_addGate_29 : decode cX7_addGate 29 = .ok (.ifCond .eq 34, 3) := by decide +kernel
theorem dX7_addGate_32 : decode cX7_addGate 32 = .ok (.iload_n 3, 1) := by decide +kernel
theorem dX7_addGate_33 : decode cX7_addGate 33 = .ok (.i2l, 1) := by decide +kernel
theorem dX7_addGate_34 : decode cX7_addGate 34 = .ok (.lconst 0, 1) := by decide +kernel
theorem dX7_addGate_35 : decode cX7_addGate 35 = .ok (.iload_n 2, 1) := by decide +kernel
theorem dX7_addGate_36 : decode cX7_addGate 36 = .ok (.i2l, 1) := by decide +kernel
theorem dX7_addGate_37 : decode cX7_addGate 37 = .ok (.lconst 1, 1) := by decide +kernel
theorem dX7_addGate_38 : decode cX7_addGate 38 = .ok (.lsub, 1) := by decide +kernel
theorem dX7_addGate_39 : decode cX7_addGate 39 = .ok (.invokestatic 139, 3) := by decide +kernel
theorem dX7_addGate_42 : decode cX7_addGate 42 = .ok (.ifCond .eq 21, 3) := by decide +kernel
theorem dX7_addGate_45 : decode cX7_addGate 45 = .ok (.iload 4, 2) := by decide +kernel
theorem dX7_addGate_47 : decode cX7_addGate 47 = .ok (.i2l, 1) := by decide +kernel
theorem dX7_addGate_48 : decode cX7_addGate 48 = .ok (.lconst 0, 1) := by decide +kernel
theorem dX7_addGate_49 : decode cX7_addGate 49 = .ok (.iload_n 2, 1) := by decide +kernel
theorem dX7_addGate_50 : decode cX7_addGate 50 = .ok (.i2l, 1) := by decide +kernel
theorem dX7_addGate_51 : decode cX7_addGate 51 = .ok (.lconst 1, 1) := by decide +kernel
theorem dX7_addGate_52 : decode cX7_addGate 52 = .ok (.lsub, 1) := by decide +kernel
theorem dX7_addGate_53 : decode cX7_addGate 53 = .ok (.invokestatic 139, 3) := by decide +kernel
theorem dX7_addGate_56 : decode cX7_addGate 56 = .ok (.ifCond .eq 7, 3) := by decide +kernel
theorem dX7_addGate_59 : decode cX7_addGate 59 = .ok (.iconst 1, 1) := by decide +kernel
theorem dX7_addGate_60 : decode cX7_addGate 60 = .ok (.goto 4, 3) := by decide +kernel
theorem dX7_addGate_63 : decode cX7_addGate 63 = .ok (.iconst 0, 1) := by decide +kernel
theorem dX7_addGate_64 : decode cX7_addGate 64 = .ok (.istore 5, 2) := by decide +kernel
theorem dX7_addGate_66 : decode cX7_addGate 66 = .ok (.aload_n 0, 1) := by decide +kernel
theorem dX7_addGate_67 : decode cX7_addGate 67 = .ok (.iload 5, 2) := by decide +kernel
theorem dX7_addGate_69 : decode cX7_addGate 69 = .ok (.ifCond .ne 7, 3) := by decide +kernel
theorem dX7_addGate_72 : decode cX7_addGate 72 = .ok (.iconst 1, 1) := by decide +kernel
theorem dX7_addGate_73 : decode cX7_addGate 73 = .ok (.goto 31, 3) := by decide +kernel
theorem dX7_addGate_76 : decode cX7_addGate 76 = .ok (.aload_n 0, 1) := by decide +kernel
theorem dX7_addGate_77 : decode cX7_addGate 77 = .ok (.getfield 16, 3) := by decide +kernel
theorem dX7_addGate_80 : decode cX7_addGate 80 = .ok (.iconst 2, 1) := by decide +kernel
theorem dX7_addGate_81 : decode cX7_addGate 81 = .ok (.iaload, 1) := by decide +kernel
theorem dX7_addGate_82 : decode cX7_addGate 82 = .ok (.iconst 4, 1) := by decide +kernel
theorem dX7_addGate_83 : decode cX7_addGate 83 = .ok (.if_icmp .eq 16, 3) := by decide +kernel
theorem dX7_addGate_86 : decode cX7_addGate 86 = .ok (.aload_n 0, 1) := by decide +kernel
theorem dX7_addGate_87 : decode cX7_addGate 87 = .ok (.getfield 16, 3) := by decide +kernel
theorem dX7_addGate_90 : decode cX7_addGate 90 = .ok (.iload_n 1, 1) := by decide +kernel
theorem dX7_addGate_91 : decode cX7_addGate 91 = .ok (.invokestatic 106, 3) := by decide +kernel
theorem dX7_addGate_94 : decode cX7_addGate 94 = .ok (.bipush (-9), 2) := by decide +kernel
theorem dX7_addGate_96 : decode cX7_addGate 96 = .ok (.if_icmp .eq 7, 3) := by decide +kernel
theorem dX7_addGate_99 : decode cX7_addGate 99 = .ok (.iconst 2, 1) := by decide +kernel
theorem dX7_addGate_100 : decode cX7_addGate 100 = .ok (.goto 4, 3) := by decide +kernel
theorem dX7_addGate_103 : decode cX7_addGate 103 = .ok (.iconst 0, 1) := by decide +kernel
theorem dX7_addGate_104 : decode cX7_addGate 104 = .ok (.invokevirtual 146, 3) := by decide +kernel
theorem dX7_addGate_107 : decode cX7_addGate 107 = .ok (.ifCond .eq 5, 3) := by decide +kernel
theorem dX7_addGate_110 : decode cX7_addGate 110 = .ok (.iconst 0, 1) := by decide +kernel
theorem dX7_addGate_111 : decode cX7_addGate 111 = .ok (.ireturn, 1) := by decide +kernel
theorem dX7_addGate_112 : decode cX7_addGate 112 = .ok (.aload_n 0, 1) := by decide +kernel
theorem dX7_addGate_113 : decode cX7_addGate 113 = .ok (.invokevirtual 243, 3) := by decide +kernel
theorem dX7_addGate_116 : decode cX7_addGate 116 = .ok (.aload_n 0, 1) := by decide +kernel
theorem dX7_addGate_117 : decode cX7_addGate 117 = .ok (.getfield 16, 3) := by decide +kernel
theorem dX7_addGate_120 : decode cX7_addGate 120 = .ok (.iload_n 1, 1) := by decide +kernel
theorem dX7_addGate_121 : decode cX7_addGate 121 = .ok (.iload_n 2, 1) := by decide +kernel
theorem dX7_addGate_122 : decode cX7_addGate 122 = .ok (.iload_n 3, 1) := by decide +kernel
theorem dX7_addGate_123 : decode cX7_addGate 123 = .ok (.iload 4, 2) := by decide +kernel
theorem dX7_addGate_125 : decode cX7_addGate 125 = .ok (.invokestatic 172, 3) := by decide +kernel
theorem dX7_addGate_128 : decode cX7_addGate 128 = .ok (.aload_n 0, 1) := by decide +kernel
theorem dX7_addGate_129 : decode cX7_addGate 129 = .ok (.getfield 16, 3) := by decide +kernel
theorem dX7_addGate_132 : decode cX7_addGate 132 = .ok (.iconst 2, 1) := by decide +kernel
theorem dX7_addGate_133 : decode cX7_addGate 133 = .ok (.iaload, 1) := by decide +kernel
theorem dX7_addGate_134 : decode cX7_addGate 134 = .ok (.iconst 1, 1) := by decide +kernel
theorem dX7_addGate_135 : decode cX7_addGate 135 = .ok (.isub, 1) := by decide +kernel
theorem dX7_addGate_136 : decode cX7_addGate 136 = .ok (.ireturn, 1) := by decide +kernel
set_option maxRecDepth 20000 in
theorem ggX7_addBay_X7_in : GoodIn wsX7_addBay wsX7_in := goodIn_r _ [6] (by decide +kernel) (by decide +kernel)
set_option maxRecDepth 20000 in
theorem gX7_addBay_X7_in : GoodIn wsX7_addBay (va_wsS RX7 139 yX7_in wsX7_in) := goodIn_app (goodIn_of _ (by decide +kernel)) ggX7_addBay_X7_in
set_option maxRecDepth 20000 in
theorem ggX7_addBay_X7_bayOn : GoodIn wsX7_addBay wsX7_bayOn := goodIn_r _ [9, 10, 11, 5, 12] (by decide +kernel) (by decide +kernel)
set_option maxRecDepth 20000 in
theorem gX7_addBay_X7_bayOn : GoodIn wsX7_addBay (va_wsS RX7 78 yX7_bayOn wsX7_bayOn) := goodIn_app (goodIn_of _ (by decide +kernel)) ggX7_addBay_X7_bayOn
set_option maxRecDepth 20000 in
theorem ggX7_addBay_X7_refused : GoodIn wsX7_addBay wsX7_refused := goodIn_r _ [16, 17, 30, 31, 32, 33, 34, 35, 36, 37, 38, 39, 40, 41, 42, 43] (by decide +kernel) (by decide +kernel)
set_option maxRecDepth 20000 in
theorem gX7_addBay_X7_refused : GoodIn wsX7_addBay (wsV RX7 146 RX7 yX7_refused wsX7_refused) := goodIn_app (goodIn_of _ (by decide +kernel)) ggX7_addBay_X7_refused
set_option maxRecDepth 20000 in
theorem ggX7_addBay_X7_remember : GoodIn wsX7_addBay wsX7_remember := goodIn_r _ [21, 22, 23, 1, 24, 25, 5, 26, 30, 31, 32, 33, 34, 35, 36, 37, 38, 39, 40, 41, 42, 43] (by decide +kernel) (by decide +kernel)
set_option maxRecDepth 20000 in
theorem gX7_addBay_X7_remember : GoodIn wsX7_addBay (wsV RX7 243 RX7 yX7_remember wsX7_remember) := goodIn_app (goodIn_of _ (by decide +kernel)) ggX7_addBay_X7_remember
set_option maxRecDepth 20000 in
theorem ggX7_addBay_X7_addBayTo : GoodIn wsX7_addBay wsX7_addBayTo := goodIn_r _ [29, 10, 11, 5, 12] (by decide +kernel) (by decide +kernel)
set_option maxRecDepth 20000 in
theorem gX7_addBay_X7_addBayTo : GoodIn wsX7_addBay (va_wsS RX7 176 yX7_addBayTo wsX7_addBayTo) := goodIn_app (goodIn_of _ (by decide +kernel)) ggX7_addBay_X7_addBayTo
theorem dX7_addBay_0 : decode cX7_addBay 0 = .ok (.iload_n 1, 1) := by decide +kernel
theorem dX7_addBay_1 : decode cX7_addBay 1 = .ok (.i2l, 1) := by decide +kernel
theorem dX7_addBay_2 : decode cX7_addBay 2 = .ok (.lconst 1, 1) := by decide +kernel
theorem dX7_addBay_3 : decode cX7_addBay 3 = .ok (.aload_n 0, 1) := by decide +kernel
theorem dX7_addBay_4 : decode cX7_addBay 4 = .ok (.getfield 16, 3) := by decide +kernel
theorem dX7_addBay_7 : decode cX7_addBay 7 = .ok (.iconst 0, 1) := by decide +kernel
theorem dX7_addBay_8 : decode cX7_addBay 8 = .ok (.iaload, 1) := by decide +kernel
theorem dX7_addBay_9 : decode cX7_addBay 9 = .ok (.iconst 1, 1) := by decide +kernel
theorem dX7_addBay_10 : decode cX7_addBay 10 = .ok (.isub, 1) := by decide +kernel
theorem dX7_addBay_11 : decode cX7_addBay 11 = .ok (.i2l, 1) := by decide +kernel
theorem dX7_addBay_12 : decode cX7_addBay 12 = .ok (.invokestatic 139, 3) := by decide +kernel
theorem dX7_addBay_15 : decode cX7_addBay 15 = .ok (.ifCond .eq 19, 3) := by decide +kernel
theorem dX7_addBay_18 : decode cX7_addBay 18 = .ok (.iload_n 2, 1) := by decide +kernel
theorem dX7_addBay_19 : decode cX7_addBay 19 = .ok (.i2l, 1) := by decide +kernel
theorem dX7_addBay_20 : decode cX7_addBay 20 = .ok (.lconst 1, 1) := by decide +kernel
theorem dX7_addBay_21 : decode cX7_addBay 21 = .ok (.ldc2_w 226, 3) := by decide +kernel
theorem dX7_addBay_24 : decode cX7_addBay 24 = .ok (.invokestatic 139, 3) := by decide +kernel
theorem dX7_addBay_27 : decode cX7_addBay 27 = .ok (.ifCond .eq 7, 3) := by decide +kernel
theorem dX7_addBay_30 : decode cX7_addBay 30 = .ok (.iconst 1, 1) := by decide +kernel
theorem dX7_addBay_31 : decode cX7_addBay 31 = .ok (.goto 4, 3) := by decide +kernel
theorem dX7_addBay_34 : decode cX7_addBay 34 = .ok (.iconst 0, 1) := by decide +kernel
theorem dX7_addBay_35 : decode cX7_addBay 35 = .ok (.istore_n 3, 1) := by decide +kernel
theorem dX7_addBay_36 : decode cX7_addBay 36 = .ok (.aload_n 0, 1) := by decide +kernel
theorem dX7_addBay_37 : decode cX7_addBay 37 = .ok (.iload_n 3, 1) := by decide +kernel
theorem dX7_addBay_38 : decode cX7_addBay 38 = .ok (.ifCond .ne 7, 3) := by decide +kernel
theorem dX7_addBay_41 : decode cX7_addBay 41 = .ok (.iconst 1, 1) := by decide +kernel
theorem dX7_addBay_42 : decode cX7_addBay 42 = .ok (.goto 32, 3) := by decide +kernel
theorem dX7_addBay_45 : decode cX7_addBay 45 = .ok (.aload_n 0, 1) := by decide +kernel
theorem dX7_addBay_46 : decode cX7_addBay 46 = .ok (.getfield 16, 3) := by decide +kernel
theorem dX7_addBay_49 : decode cX7_addBay 49 = .ok (.iconst 3, 1) := by decide +kernel
theorem dX7_addBay_50 : decode cX7_addBay 50 = .ok (.iaload, 1) := by decide +kernel
theorem dX7_addBay_51 : decode cX7_addBay 51 = .ok (.bipush 6, 2) := by decide +kernel
theorem dX7_addBay_53 : decode cX7_addBay 53 = .ok (.if_icmp .eq 16, 3) := by decide +kernel
theorem dX7_addBay_56 : decode cX7_addBay 56 = .ok (.aload_n 0, 1) := by decide +kernel
theorem dX7_addBay_57 : decode cX7_addBay 57 = .ok (.getfield 16, 3) := by decide +kernel
theorem dX7_addBay_60 : decode cX7_addBay 60 = .ok (.iload_n 1, 1) := by decide +kernel
theorem dX7_addBay_61 : decode cX7_addBay 61 = .ok (.invokestatic 78, 3) := by decide +kernel
theorem dX7_addBay_64 : decode cX7_addBay 64 = .ok (.bipush (-9), 2) := by decide +kernel
theorem dX7_addBay_66 : decode cX7_addBay 66 = .ok (.if_icmp .eq 7, 3) := by decide +kernel
theorem dX7_addBay_69 : decode cX7_addBay 69 = .ok (.iconst 2, 1) := by decide +kernel
theorem dX7_addBay_70 : decode cX7_addBay 70 = .ok (.goto 4, 3) := by decide +kernel
theorem dX7_addBay_73 : decode cX7_addBay 73 = .ok (.iconst 0, 1) := by decide +kernel
theorem dX7_addBay_74 : decode cX7_addBay 74 = .ok (.invokevirtual 146, 3) := by decide +kernel
theorem dX7_addBay_77 : decode cX7_addBay 77 = .ok (.ifCond .eq 5, 3) := by decide +kernel
theorem dX7_addBay_80 : decode cX7_addBay 80 = .ok (.iconst 0, 1) := by decide +kernel
theorem dX7_addBay_81 : decode cX7_addBay 81 = .ok (.ireturn, 1) := by decide +kernel
theorem dX7_addBay_82 : decode cX7_addBay 82 = .ok (.aload_n 0, 1) := by decide +kernel
theorem dX7_addBay_83 : decode cX7_addBay 83 = .ok (.invokevirtual 243, 3) := by decide +kernel
theorem dX7_addBay_86 : decode cX7_addBay 86 = .ok (.aload_n 0, 1) := by decide +kernel
theorem dX7_addBay_87 : decode cX7_addBay 87 = .ok (.getfield 16, 3) := by decide +kernel
theorem dX7_addBay_90 : decode cX7_addBay 90 = .ok (.iload_n 1, 1) := by decide +kernel
theorem dX7_addBay_91 : decode cX7_addBay 91 = .ok (.iload_n 2, 1) := by decide +kernel
theorem dX7_addBay_92 : decode cX7_addBay 92 = .ok (.invokestatic 176, 3) := by decide +kernel
theorem dX7_addBay_95 : decode cX7_addBay 95 = .ok (.aload_n 0, 1) := by decide +kernel
theorem dX7_addBay_96 : decode cX7_addBay 96 = .ok (.getfield 16, 3) := by decide +kernel
theorem dX7_addBay_99 : decode cX7_addBay 99 = .ok (.iconst 3, 1) := by decide +kernel
theorem dX7_addBay_100 : decode cX7_addBay 100 = .ok (.iaload, 1) := by decide +kernel
theorem dX7_addBay_101 : decode cX7_addBay 101 = .ok (.iconst 1, 1) := by decide +kernel
theorem dX7_addBay_102 : decode cX7_addBay 102 = .ok (.isub, 1) := by decide +kernel
theorem dX7_addBay_103 : decode cX7_addBay 103 = .ok (.ireturn, 1) := by decide +kernel
set_option maxRecDepth 20000 in
theorem ggX7_addDepot_X7_in : GoodIn wsX7_addDepot wsX7_in := goodIn_r _ [6] (by decide +kernel) (by decide +kernel)
set_option maxRecDepth 20000 in
theorem gX7_addDepot_X7_in : GoodIn wsX7_addDepot (va_wsS RX7 139 yX7_in wsX7_in) := goodIn_app (goodIn_of _ (by decide +kernel)) ggX7_addDepot_X7_in
set_option maxRecDepth 20000 in
theorem ggX7_addDepot_X7_depotOn : GoodIn wsX7_addDepot wsX7_depotOn := goodIn_r _ [9, 10, 11, 5, 12] (by decide +kernel) (by decide +kernel)
set_option maxRecDepth 20000 in
theorem gX7_addDepot_X7_depotOn : GoodIn wsX7_addDepot (va_wsS RX7 75 yX7_depotOn wsX7_depotOn) := goodIn_app (goodIn_of _ (by decide +kernel)) ggX7_addDepot_X7_depotOn
set_option maxRecDepth 20000 in
theorem ggX7_addDepot_X7_refused : GoodIn wsX7_addDepot wsX7_refused := goodIn_r _ [16, 17, 30, 31, 32, 33, 34, 35, 36, 37, 38, 39, 40, 41, 42, 43] (by decide +kernel) (by decide +kernel)
set_option maxRecDepth 20000 in
theorem gX7_addDepot_X7_refused : GoodIn wsX7_addDepot (wsV RX7 146 RX7 yX7_refused wsX7_refused) := goodIn_app (goodIn_of _ (by decide +kernel)) ggX7_addDepot_X7_refused
set_option maxRecDepth 20000 in
theorem ggX7_addDepot_X7_remember : GoodIn wsX7_addDepot wsX7_remember := goodIn_r _ [21, 22, 23, 1, 24, 25, 5, 26, 30, 31, 32, 33, 34, 35, 36, 37, 38, 39, 40, 41, 42, 43] (by decide +kernel) (by decide +kernel)
set_option maxRecDepth 20000 in
theorem gX7_addDepot_X7_remember : GoodIn wsX7_addDepot (wsV RX7 243 RX7 yX7_remember wsX7_remember) := goodIn_app (goodIn_of _ (by decide +kernel)) ggX7_addDepot_X7_remember
set_option maxRecDepth 20000 in
theorem ggX7_addDepot_X7_addDepotTo : GoodIn wsX7_addDepot wsX7_addDepotTo := goodIn_r _ [29, 10, 11, 5, 12] (by decide +kernel) (by decide +kernel)
set_option maxRecDepth 20000 in
theorem gX7_addDepot_X7_addDepotTo : GoodIn wsX7_addDepot (va_wsS RX7 180 yX7_addDepotTo wsX7_addDepotTo) := goodIn_app (goodIn_of _ (by decide +kernel)) ggX7_addDepot_X7_addDepotTo
theorem dX7_addDepot_0 : decode cX7_addDepot 0 = .ok (.iload_n 1, 1) := by decide +kernel
theorem dX7_addDepot_1 : decode cX7_addDepot 1 = .ok (.i2l, 1) := by decide +kernel
theorem dX7_addDepot_2 : decode cX7_addDepot 2 = .ok (.lconst 0, 1) := by decide +kernel
theorem dX7_addDepot_3 : decode cX7_addDepot 3 = .ok (.aload_n 0, 1) := by decide +kernel
theorem dX7_addDepot_4 : decode cX7_addDepot 4 = .ok (.getfield 16, 3) := by decide +kernel
theorem dX7_addDepot_7 : decode cX7_addDepot 7 = .ok (.iconst 0, 1) := by decide +kernel
theorem dX7_addDepot_8 : decode cX7_addDepot 8 = .ok (.iaload, 1) := by decide +kernel
theorem dX7_addDepot_9 : decode cX7_addDepot 9 = .ok (.i2l, 1) := by decide +kernel
theorem dX7_addDepot_10 : decode cX7_addDepot 10 = .ok (.invokestatic 139, 3) := by decide +kernel
theorem dX7_addDepot_13 : decode cX7_addDepot 13 = .ok (.ifCond .eq 19, 3) := by decide +kernel
theorem dX7_addDepot_16 : decode cX7_addDepot 16 = .ok (.iload_n 2, 1) := by decide +kernel
theorem dX7_addDepot_17 : decode cX7_addDepot 17 = .ok (.i2l, 1) := by decide +kernel
theorem dX7_addDepot_18 : decode cX7_addDepot 18 = .ok (.lconst 0, 1) := by decide +kernel
theorem dX7_addDepot_19 : decode cX7_addDepot 19 = .ok (.ldc2_w 246, 3) := by decide +kernel
theorem dX7_addDepot_22 : decode cX7_addDepot 22 = .ok (.invokestatic 139, 3) := by decide +kernel
theorem dX7_addDepot_25 : decode cX7_addDepot 25 = .ok (.ifCond .eq 7, 3) := by decide +kernel
theorem dX7_addDepot_28 : decode cX7_addDepot 28 = .ok (.iconst 1, 1) := by decide +kernel
theorem dX7_addDepot_29 : decode cX7_addDepot 29 = .ok (.goto 4, 3) := by decide +kernel
theorem dX7_addDepot_32 : decode cX7_addDepot 32 = .ok (.iconst 0, 1) := by decide +kernel
theorem dX7_addDepot_33 : decode cX7_addDepot 33 = .ok (.istore_n 3, 1) := by decide +kernel
theorem dX7_addDepot_34 : decode cX7_addDepot 34 = .ok (.aload_n 0, 1) := by decide +kernel
theorem dX7_addDepot_35 : decode cX7_addDepot 35 = .ok (.iload_n 3, 1) := by decide +kernel
theorem dX7_addDepot_36 : decode cX7_addDepot 36 = .ok (.ifCond .ne 7, 3) := by decide +kernel
theorem dX7_addDepot_39 : decode cX7_addDepot 39 = .ok (.iconst 1, 1) := by decide +kernel
theorem dX7_addDepot_40 : decode cX7_addDepot 40 = .ok (.goto 31, 3) := by decide +kernel
theorem dX7_addDepot_43 : decode cX7_addDepot 43 = .ok (.aload_n 0, 1) := by decide +kernel
theorem dX7_addDepot_44 : decode cX7_addDepot 44 = .ok (.getfield 16, 3) := by decide +kernel
theorem dX7_addDepot_47 : decode cX7_addDepot 47 = .ok (.iconst 4, 1) := by decide +kernel
theorem dX7_addDepot_48 : decode cX7_addDepot 48 = .ok (.iaload, 1) := by decide +kernel
theorem dX7_addDepot_49 : decode cX7_addDepot 49 = .ok (.iconst 4, 1) := by decide +kernel
theorem dX7_addDepot_50 : decode cX7_addDepot 50 = .ok (.if_icmp .eq 16, 3) := by decide +kernel
theorem dX7_addDepot_53 : decode cX7_addDepot 53 = .ok (.aload_n 0, 1) := by decide +kernel
theorem dX7_addDepot_54 : decode cX7_addDepot 54 = .ok (.getfield 16, 3) := by decide +kernel
theorem dX7_addDepot_57 : decode cX7_addDepot 57 = .ok (.iload_n 1, 1) := by decide +kernel
theorem dX7_addDepot_58 : decode cX7_addDepot 58 = .ok (.invokestatic 75, 3) := by decide +kernel
theorem dX7_addDepot_61 : decode cX7_addDepot 61 = .ok (.bipush (-9), 2) := by decide +kernel
theorem dX7_addDepot_63 : decode cX7_addDepot 63 = .ok (.if_icmp .eq 7, 3) := by decide +kernel
theorem dX7_addDepot_66 : decode cX7_addDepot 66 = .ok (.iconst 2, 1) := by decide +kernel
theorem dX7_addDepot_67 : decode cX7_addDepot 67 = .ok (.goto 4, 3) := by decide +kernel
theorem dX7_addDepot_70 : decode cX7_addDepot 70 = .ok (.iconst 0, 1) := by decide +kernel
theorem dX7_addDepot_71 : decode cX7_addDepot 71 = .ok (.invokevirtual 146, 3) := by decide +kernel
theorem dX7_addDepot_74 : decode cX7_addDepot 74 = .ok (.ifCond .eq 5, 3) := by decide +kernel
theorem dX7_addDepot_77 : decode cX7_addDepot 77 = .ok (.iconst 0, 1) := by decide +kernel
theorem dX7_addDepot_78 : decode cX7_addDepot 78 = .ok (.ireturn, 1) := by decide +kernel
theorem dX7_addDepot_79 : decode cX7_addDepot 79 = .ok (.aload_n 0, 1) := by decide +kernel
theorem dX7_addDepot_80 : decode cX7_addDepot 80 = .ok (.invokevirtual 243, 3) := by decide +kernel
theorem dX7_addDepot_83 : decode cX7_addDepot 83 = .ok (.aload_n 0, 1) := by decide +kernel
theorem dX7_addDepot_84 : decode cX7_addDepot 84 = .ok (.getfield 16, 3) := by decide +kernel
theorem dX7_addDepot_87 : decode cX7_addDepot 87 = .ok (.iload_n 1, 1) := by decide +kernel
theorem dX7_addDepot_88 : decode cX7_addDepot 88 = .ok (.iload_n 2, 1) := by decide +kernel
theorem dX7_addDepot_89 : decode cX7_addDepot 89 = .ok (.invokestatic 180, 3) := by decide +kernel
theorem dX7_addDepot_92 : decode cX7_addDepot 92 = .ok (.aload_n 0, 1) := by decide +kernel
theorem dX7_addDepot_93 : decode cX7_addDepot 93 = .ok (.getfield 16, 3) := by decide +kernel
theorem dX7_addDepot_96 : decode cX7_addDepot 96 = .ok (.iconst 4, 1) := by decide +kernel
theorem dX7_addDepot_97 : decode cX7_addDepot 97 = .ok (.iaload, 1) := by decide +kernel
theorem dX7_addDepot_98 : decode cX7_addDepot 98 = .ok (.iconst 1, 1) := by decide +kernel
theorem dX7_addDepot_99 : decode cX7_addDepot 99 = .ok (.isub, 1) := by decide +kernel
theorem dX7_addDepot_100 : decode cX7_addDepot 100 = .ok (.ireturn, 1) := by decide +kernel
set_option maxRecDepth 20000 in
theorem ggX7_addConvoy_X7_refused : GoodIn wsX7_addConvoy wsX7_refused := goodIn_r _ [6, 7, 23, 24, 25, 26, 27, 28, 29, 30, 31, 32, 33, 34, 35, 36] (by decide +kernel) (by decide +kernel)
set_option maxRecDepth 20000 in
theorem gX7_addConvoy_X7_refused : GoodIn wsX7_addConvoy (wsV RX7 146 RX7 yX7_refused wsX7_refused) := goodIn_app (goodIn_of _ (by decide +kernel)) ggX7_addConvoy_X7_refused
set_option maxRecDepth 20000 in
theorem ggX7_addConvoy_X7_remember : GoodIn wsX7_addConvoy wsX7_remember := goodIn_r _ [11, 12, 13, 1, 14, 15, 5, 16, 23, 24, 25, 26, 27, 28, 29, 30, 31, 32, 33, 34, 35, 36] (by decide +kernel) (by decide +kernel)
set_option maxRecDepth 20000 in
theorem gX7_addConvoy_X7_remember : GoodIn wsX7_addConvoy (wsV RX7 243 RX7 yX7_remember wsX7_remember) := goodIn_app (goodIn_of _ (by decide +kernel)) ggX7_addConvoy_X7_remember
set_option maxRecDepth 20000 in
theorem ggX7_addConvoy_X7_addConvoyTo : GoodIn wsX7_addConvoy wsX7_addConvoyTo := goodIn_r _ [19, 20, 21, 5, 22] (by decide +kernel) (by decide +kernel)
set_option maxRecDepth 20000 in
theorem gX7_addConvoy_X7_addConvoyTo : GoodIn wsX7_addConvoy (va_wsS RX7 199 yX7_addConvoyTo wsX7_addConvoyTo) := goodIn_app (goodIn_of _ (by decide +kernel)) ggX7_addConvoy_X7_addConvoyTo
theorem dX7_addConvoy_0 : decode cX7_addConvoy 0 = .ok (.aload_n 0, 1) := by decide +kernel
theorem dX7_addConvoy_1 : decode cX7_addConvoy 1 = .ok (.aload_n 0, 1) := by decide +kernel
theorem dX7_addConvoy_2 : decode cX7_addConvoy 2 = .ok (.getfield 16, 3) := by decide +kernel
theorem dX7_addConvoy_5 : decode cX7_addConvoy 5 = .ok (.iconst 5, 1) := by decide +kernel
theorem dX7_addConvoy_6 : decode cX7_addConvoy 6 = .ok (.iaload, 1) := by decide +kernel
theorem dX7_addConvoy_7 : decode cX7_addConvoy 7 = .ok (.iconst 4, 1) := by decide +kernel
theorem dX7_addConvoy_8 : decode cX7_addConvoy 8 = .ok (.if_icmp .ne 7, 3) := by decide +kernel
theorem dX7_addConvoy_11 : decode cX7_addConvoy 11 = .ok (.iconst 1, 1) := by decide +kernel
theorem dX7_addConvoy_12 : decode cX7_addConvoy 12 = .ok (.goto 4, 3) := by decide +kernel
theorem dX7_addConvoy_15 : decode cX7_addConvoy 15 = .ok (.iconst 0, 1) := by decide +kernel
theorem dX7_addConvoy_16 : decode cX7_addConvoy 16 = .ok (.invokevirtual 146, 3) := by decide +kernel
theorem dX7_addConvoy_19 : decode cX7_addConvoy 19 = .ok (.ifCond .eq 5, 3) := by decide +kernel
theorem dX7_addConvoy_22 : decode cX7_addConvoy 22 = .ok (.iconst 0, 1) := by decide +kernel
theorem dX7_addConvoy_23 : decode cX7_addConvoy 23 = .ok (.ireturn, 1) := by decide +kernel
theorem dX7_addConvoy_24 : decode cX7_addConvoy 24 = .ok (.aload_n 0, 1) := by decide +kernel
theorem dX7_addConvoy_25 : decode cX7_addConvoy 25 = .ok (.invokevirtual 243, 3) := by decide +kernel
theorem dX7_addConvoy_28 : decode cX7_addConvoy 28 = .ok (.aload_n 0, 1) := by decide +kernel
theorem dX7_addConvoy_29 : decode cX7_addConvoy 29 = .ok (.getfield 16, 3) := by decide +kernel
theorem dX7_addConvoy_32 : decode cX7_addConvoy 32 = .ok (.invokestatic 199, 3) := by decide +kernel
theorem dX7_addConvoy_35 : decode cX7_addConvoy 35 = .ok (.aload_n 0, 1) := by decide +kernel
theorem dX7_addConvoy_36 : decode cX7_addConvoy 36 = .ok (.getfield 16, 3) := by decide +kernel
theorem dX7_addConvoy_39 : decode cX7_addConvoy 39 = .ok (.iconst 5, 1) := by decide +kernel
theorem dX7_addConvoy_40 : decode cX7_addConvoy 40 = .ok (.iaload, 1) := by decide +kernel
theorem dX7_addConvoy_41 : decode cX7_addConvoy 41 = .ok (.iconst 1, 1) := by decide +kernel
theorem dX7_addConvoy_42 : decode cX7_addConvoy 42 = .ok (.isub, 1) := by decide +kernel
theorem dX7_addConvoy_43 : decode cX7_addConvoy 43 = .ok (.ireturn, 1) := by decide +kernel
set_option maxRecDepth 20000 in
theorem ggX7_addVehicle_X7_in : GoodIn wsX7_addVehicle wsX7_in := goodIn_r _ [9] (by decide +kernel) (by decide +kernel)
set_option maxRecDepth 20000 in
theorem gX7_addVehicle_X7_in : GoodIn wsX7_addVehicle (va_wsS RX7 139 yX7_in wsX7_in) := goodIn_app (goodIn_of _ (by decide +kernel)) ggX7_addVehicle_X7_in
set_option maxRecDepth 20000 in
theorem ggX7_addVehicle_X7_isConvoy : GoodIn wsX7_addVehicle wsX7_isConvoy := goodIn_r _ [13, 5, 6, 7, 8, 9, 43, 44, 45, 46, 47, 48, 49, 50, 51, 52, 53, 54, 55, 56] (by decide +kernel) (by decide +kernel)
set_option maxRecDepth 20000 in
theorem gX7_addVehicle_X7_isConvoy : GoodIn wsX7_addVehicle (wsV RX7 218 RX7 yX7_isConvoy wsX7_isConvoy) := goodIn_app (goodIn_of _ (by decide +kernel)) ggX7_addVehicle_X7_isConvoy
set_option maxRecDepth 20000 in
theorem ggX7_addVehicle_X7_sizeOf : GoodIn wsX7_addVehicle wsX7_sizeOf := goodIn_r _ [16, 17, 18, 8, 19] (by decide +kernel) (by decide +kernel)
set_option maxRecDepth 20000 in
theorem gX7_addVehicle_X7_sizeOf : GoodIn wsX7_addVehicle (va_wsS RX7 64 yX7_sizeOf wsX7_sizeOf) := goodIn_app (goodIn_of _ (by decide +kernel)) ggX7_addVehicle_X7_sizeOf
set_option maxRecDepth 20000 in
theorem ggX7_addVehicle_X7_isThere : GoodIn wsX7_addVehicle wsX7_isThere := goodIn_r _ [22, 17, 18, 8, 19] (by decide +kernel) (by decide +kernel)
set_option maxRecDepth 20000 in
theorem gX7_addVehicle_X7_isThere : GoodIn wsX7_addVehicle (va_wsS RX7 118 yX7_isThere wsX7_isThere) := goodIn_app (goodIn_of _ (by decide +kernel)) ggX7_addVehicle_X7_isThere
set_option maxRecDepth 20000 in
theorem ggX7_addVehicle_X7_refused : GoodIn wsX7_addVehicle wsX7_refused := goodIn_r _ [26, 27, 43, 44, 45, 46, 47, 48, 49, 50, 51, 52, 53, 54, 55, 56] (by decide +kernel) (by decide +kernel)
set_option maxRecDepth 20000 in
theorem gX7_addVehicle_X7_refused : GoodIn wsX7_addVehicle (wsV RX7 146 RX7 yX7_refused wsX7_refused) := goodIn_app (goodIn_of _ (by decide +kernel)) ggX7_addVehicle_X7_refused
set_option maxRecDepth 20000 in
theorem ggX7_addVehicle_X7_remember : GoodIn wsX7_addVehicle wsX7_remember := goodIn_r _ [31, 32, 33, 5, 34, 35, 8, 36, 43, 44, 45, 46, 47, 48, 49, 50, 51, 52, 53, 54, 55, 56] (by decide +kernel) (by decide +kernel)
set_option maxRecDepth 20000 in
theorem gX7_addVehicle_X7_remember : GoodIn wsX7_addVehicle (wsV RX7 243 RX7 yX7_remember wsX7_remember) := goodIn_app (goodIn_of _ (by decide +kernel)) ggX7_addVehicle_X7_remember
set_option maxRecDepth 20000 in
theorem ggX7_addVehicle_X7_addCarTo : GoodIn wsX7_addVehicle wsX7_addCarTo := goodIn_r _ [39, 40, 41, 8, 42, 14, 15, 16, 17, 18, 19] (by decide +kernel) (by decide +kernel)
set_option maxRecDepth 20000 in
theorem gX7_addVehicle_X7_addCarTo : GoodIn wsX7_addVehicle (va_wsS RX7 186 yX7_addCarTo wsX7_addCarTo) := goodIn_app (goodIn_of _ (by decide +kernel)) ggX7_addVehicle_X7_addCarTo
theorem dX7_addVehicle_0 : decode cX7_addVehicle 0 = .ok (.iload_n 2, 1) := by decide +kernel
theorem dX7_addVehicle_1 : decode cX7_addVehicle 1 = .ok (.i2l, 1) := by decide +kernel
theorem dX7_addVehicle_2 : decode cX7_addVehicle 2 = .ok (.lconst 1, 1) := by decide +kernel
theorem dX7_addVehicle_3 : decode cX7_addVehicle 3 = .ok (.ldc2_w 157, 3) := by decide +kernel
theorem dX7_addVehicle_6 : decode cX7_addVehicle 6 = .ok (.invokestatic 139, 3) := by decide +kernel
theorem dX7_addVehicle_9 : decode cX7_addVehicle 9 = .ok (.ifCond .eq 47, 3) := by decide +kernel
theorem dX7_addVehicle_12 : decode cX7_addVehicle 12 = .ok (.iload_n 3, 1) := by decide +kernel
theorem dX7_addVehicle_13 : decode cX7_addVehicle 13 = .ok (.i2l, 1) := by decide +kernel
theorem dX7_addVehicle_14 : decode cX7_addVehicle 14 = .ok (.lconst 1, 1) := by decide +kernel
theorem dX7_addVehicle_15 : decode cX7_addVehicle 15 = .ok (.ldc2_w 248, 3) := by decide +kernel
theorem dX7_addVehicle_18 : decode cX7_addVehicle 18 = .ok (.invokestatic 139, 3) := by decide +kernel
theorem dX7_addVehicle_21 : decode cX7_addVehicle 21 = .ok (.ifCond .eq 35, 3) := by decide +kernel
theorem dX7_addVehicle_24 : decode cX7_addVehicle 24 = .ok (.iload 4, 2) := by decide +kernel
theorem dX7_addVehicle_26 : decode cX7_addVehicle 26 = .ok (.i2l, 1) := by decide +kernel
theorem dX7_addVehicle_27 : decode cX7_addVehicle 27 = .ok (.ldc2_w 250, 3) := by decide +kernel
theorem dX7_addVehicle_30 : decode cX7_addVehicle 30 = .ok (.ldc2_w 252, 3) := by decide +kernel
theorem dX7_addVehicle_33 : decode cX7_addVehicle 33 = .ok (.invokestatic 139, 3) := by decide +kernel
theorem dX7_addVehicle_36 : decode cX7_addVehicle 36 = .ok (.ifCond .eq 20, 3) := by decide +kernel
theorem dX7_addVehicle_39 : decode cX7_addVehicle 39 = .ok (.iload 5, 2) := by decide +kernel
theorem dX7_addVehicle_41 : decode cX7_addVehicle 41 = .ok (.i2l, 1) := by decide +kernel
theorem dX7_addVehicle_42 : decode cX7_addVehicle 42 = .ok (.lconst 0, 1) := by decide +kernel
theorem dX7_addVehicle_43 : decode cX7_addVehicle 43 = .ok (.iload 4, 2) := by decide +kernel
theorem dX7_addVehicle_45 : decode cX7_addVehicle 45 = .ok (.i2l, 1) := by decide +kernel
theorem dX7_addVehicle_46 : decode cX7_addVehicle 46 = .ok (.invokestatic 139, 3) := by decide +kernel
theorem dX7_addVehicle_49 : decode cX7_addVehicle 49 = .ok (.ifCond .eq 7, 3) := by decide +kernel
theorem dX7_addVehicle_52 : decode cX7_addVehicle 52 = .ok (.iconst 1, 1) := by decide +kernel
theorem dX7_addVehicle_53 : decode cX7_addVehicle 53 = .ok (.goto 4, 3) := by decide +kernel
theorem dX7_addVehicle_56 : decode cX7_addVehicle 56 = .ok (.iconst 0, 1) := by decide +kernel
theorem dX7_addVehicle_57 : decode cX7_addVehicle 57 = .ok (.istore 6, 2) := by decide +kernel
theorem dX7_addVehicle_59 : decode cX7_addVehicle 59 = .ok (.aload_n 0, 1) := by decide +kernel
theorem dX7_addVehicle_60 : decode cX7_addVehicle 60 = .ok (.aload_n 0, 1) := by decide +kernel
theorem dX7_addVehicle_61 : decode cX7_addVehicle 61 = .ok (.iload_n 1, 1) := by decide +kernel
theorem dX7_addVehicle_62 : decode cX7_addVehicle 62 = .ok (.invokevirtual 218, 3) := by decide +kernel
theorem dX7_addVehicle_65 : decode cX7_addVehicle 65 = .ok (.ifCond .ne 7, 3) := by decide +kernel
theorem dX7_addVehicle_68 : decode cX7_addVehicle 68 = .ok (.iconst 1, 1) := by decide +kernel
theorem dX7_addVehicle_69 : decode cX7_addVehicle 69 = .ok (.goto 53, 3) := by decide +kernel
theorem dX7_addVehicle_72 : decode cX7_addVehicle 72 = .ok (.iload 6, 2) := by decide +kernel
theorem dX7_addVehicle_74 : decode cX7_addVehicle 74 = .ok (.ifCond .ne 7, 3) := by decide +kernel
theorem dX7_addVehicle_77 : decode cX7_addVehicle 77 = .ok (.iconst 2, 1) := by decide +kernel
theorem dX7_addVehicle_78 : decode cX7_addVehicle 78 = .ok (.goto 44, 3) := by decide +kernel
theorem dX7_addVehicle_81 : decode cX7_addVehicle 81 = .ok (.aload_n 0, 1) := by decide +kernel
theorem dX7_addVehicle_82 : decode cX7_addVehicle 82 = .ok (.getfield 16, 3) := by decide +kernel
theorem dX7_addVehicle_85 : decode cX7_addVehicle 85 = .ok (.bipush 6, 2) := by decide +kernel
theorem dX7_addVehicle_87 : decode cX7_addVehicle 87 = .ok (.iaload, 1) := by decide +kernel
theorem dX7_addVehicle_88 : decode cX7_addVehicle 88 = .ok (.bipush 16, 2) := by decide +kernel
theorem dX7_addVehicle_90 : decode cX7_addVehicle 90 = .ok (.if_icmp .eq 27, 3) := by decide +kernel
theorem dX7_addVehicle_93 : decode cX7_addVehicle 93 = .ok (.aload_n 0, 1) := by decide +kernel
theorem dX7_addVehicle_94 : decode cX7_addVehicle 94 = .ok (.getfield 16, 3) := by decide +kernel
theorem dX7_addVehicle_97 : decode cX7_addVehicle 97 = .ok (.iload_n 1, 1) := by decide +kernel
theorem dX7_addVehicle_98 : decode cX7_addVehicle 98 = .ok (.invokestatic 64, 3) := by decide +kernel
theorem dX7_addVehicle_101 : decode cX7_addVehicle 101 = .ok (.bipush 8, 2) := by decide +kernel
theorem dX7_addVehicle_103 : decode cX7_addVehicle 103 = .ok (.if_icmp .eq 14, 3) := by decide +kernel
theorem dX7_addVehicle_106 : decode cX7_addVehicle 106 = .ok (.aload_n 0, 1) := by decide +kernel
theorem dX7_addVehicle_107 : decode cX7_addVehicle 107 = .ok (.getfield 16, 3) := by decide +kernel
theorem dX7_addVehicle_110 : decode cX7_addVehicle 110 = .ok (.iload_n 1, 1) := by decide +kernel
theorem dX7_addVehicle_111 : decode cX7_addVehicle 111 = .ok (.invokestatic 118, 3) := by decide +kernel
theorem dX7_addVehicle_114 : decode cX7_addVehicle 114 = .ok (.ifCond .eq 7, 3) := by decide +kernel
theorem dX7_addVehicle_117 : decode cX7_addVehicle 117 = .ok (.iconst 3, 1) := by decide +kernel
theorem dX7_addVehicle_118 : decode cX7_addVehicle 118 = .ok (.goto 4, 3) := by decide +kernel
theorem dX7_addVehicle_121 : decode cX7_addVehicle 121 = .ok (.iconst 0, 1) := by decide +kernel
theorem dX7_addVehicle_122 : decode cX7_addVehicle 122 = .ok (.invokevirtual 146, 3) := by decide +kernel
theorem dX7_addVehicle_125 : decode cX7_addVehicle 125 = .ok (.ifCond .eq 5, 3) := by decide +kernel
theorem dX7_addVehicle_128 : decode cX7_addVehicle 128 = .ok (.iconst 0, 1) := by decide +kernel
theorem dX7_addVehicle_129 : decode cX7_addVehicle 129 = .ok (.ireturn, 1) := by decide +kernel
theorem dX7_addVehicle_130 : decode cX7_addVehicle 130 = .ok (.aload_n 0, 1) := by decide +kernel
theorem dX7_addVehicle_131 : decode cX7_addVehicle 131 = .ok (.invokevirtual 243, 3) := by decide +kernel
theorem dX7_addVehicle_134 : decode cX7_addVehicle 134 = .ok (.aload_n 0, 1) := by decide +kernel
theorem dX7_addVehicle_135 : decode cX7_addVehicle 135 = .ok (.getfield 16, 3) := by decide +kernel
theorem dX7_addVehicle_138 : decode cX7_addVehicle 138 = .ok (.iload_n 1, 1) := by decide +kernel
theorem dX7_addVehicle_139 : decode cX7_addVehicle 139 = .ok (.iload_n 2, 1) := by decide +kernel
theorem dX7_addVehicle_140 : decode cX7_addVehicle 140 = .ok (.iload_n 3, 1) := by decide +kernel
theorem dX7_addVehicle_141 : decode cX7_addVehicle 141 = .ok (.iload 4, 2) := by decide +kernel
theorem dX7_addVehicle_143 : decode cX7_addVehicle 143 = .ok (.iload 5, 2) := by decide +kernel
theorem dX7_addVehicle_145 : decode cX7_addVehicle 145 = .ok (.invokestatic 186, 3) := by decide +kernel
theorem dX7_addVehicle_148 : decode cX7_addVehicle 148 = .ok (.aload_n 0, 1) := by decide +kernel
theorem dX7_addVehicle_149 : decode cX7_addVehicle 149 = .ok (.getfield 16, 3) := by decide +kernel
theorem dX7_addVehicle_152 : decode cX7_addVehicle 152 = .ok (.bipush 6, 2) := by decide +kernel
theorem dX7_addVehicle_154 : decode cX7_addVehicle 154 = .ok (.iaload, 1) := by decide +kernel
theorem dX7_addVehicle_155 : decode cX7_addVehicle 155 = .ok (.iconst 1, 1) := by decide +kernel
theorem dX7_addVehicle_156 : decode cX7_addVehicle 156 = .ok (.isub, 1) := by decide +kernel
theorem dX7_addVehicle_157 : decode cX7_addVehicle 157 = .ok (.ireturn, 1) := by decide +kernel
set_option maxRecDepth 20000 in
theorem ggX7_isHold_X7_in : GoodIn wsX7_isHold wsX7_in := goodIn_r _ [5] (by decide +kernel) (by decide +kernel)
set_option maxRecDepth 20000 in
theorem gX7_isHold_X7_in : GoodIn wsX7_isHold (va_wsS RX7 139 yX7_in wsX7_in) := goodIn_app (goodIn_of _ (by decide +kernel)) ggX7_isHold_X7_in
theorem dX7_isHold_0 : decode cX7_isHold 0 = .ok (.iload_n 0, 1) := by decide +kernel
theorem dX7_isHold_1 : decode cX7_isHold 1 = .ok (.i2l, 1) := by decide +kernel
theorem dX7_isHold_2 : decode cX7_isHold 2 = .ok (.lconst 0, 1) := by decide +kernel
theorem dX7_isHold_3 : decode cX7_isHold 3 = .ok (.ldc2_w 254, 3) := by decide +kernel
theorem dX7_isHold_6 : decode cX7_isHold 6 = .ok (.invokestatic 139, 3) := by decide +kernel
theorem dX7_isHold_9 : decode cX7_isHold 9 = .ok (.ireturn, 1) := by decide +kernel
set_option maxRecDepth 20000 in
theorem ggX7_hold_X7_isConvoy : GoodIn wsX7_hold wsX7_isConvoy := goodIn_r _ [6, 1, 7, 8, 5, 9, 31, 32, 33, 34, 35, 36, 37, 38, 39, 40, 41, 42, 43, 44] (by decide +kernel) (by decide +kernel)
set_option maxRecDepth 20000 in
theorem gX7_hold_X7_isConvoy : GoodIn wsX7_hold (wsV RX7 218 RX7 yX7_isConvoy wsX7_isConvoy) := goodIn_app (goodIn_of _ (by decide +kernel)) ggX7_hold_X7_isConvoy
set_option maxRecDepth 20000 in
theorem ggX7_hold_X7_isHold : GoodIn wsX7_hold wsX7_isHold := goodIn_r _ [12, 13, 7, 8, 5, 9] (by decide +kernel) (by decide +kernel)
set_option maxRecDepth 20000 in
theorem gX7_hold_X7_isHold : GoodIn wsX7_hold (va_wsS RX7 256 yX7_isHold wsX7_isHold) := goodIn_app (goodIn_of _ (by decide +kernel)) ggX7_hold_X7_isHold
set_option maxRecDepth 20000 in
theorem ggX7_hold_X7_refused : GoodIn wsX7_hold wsX7_refused := goodIn_r _ [17, 18, 31, 32, 33, 34, 35, 36, 37, 38, 39, 40, 41, 42, 43, 44] (by decide +kernel) (by decide +kernel)
set_option maxRecDepth 20000 in
theorem gX7_hold_X7_refused : GoodIn wsX7_hold (wsV RX7 146 RX7 yX7_refused wsX7_refused) := goodIn_app (goodIn_of _ (by decide +kernel)) ggX7_hold_X7_refused
set_option maxRecDepth 20000 in
theorem ggX7_hold_X7_remember : GoodIn wsX7_hold wsX7_remember := goodIn_r _ [22, 23, 24, 1, 25, 26, 5, 27, 31, 32, 33, 34, 35, 36, 37, 38, 39, 40, 41, 42, 43, 44] (by decide +kernel) (by decide +kernel)
set_option maxRecDepth 20000 in
theorem gX7_hold_X7_remember : GoodIn wsX7_hold (wsV RX7 243 RX7 yX7_remember wsX7_remember) := goodIn_app (goodIn_of _ (by decide +kernel)) ggX7_hold_X7_remember
set_option maxRecDepth 20000 in
theorem ggX7_hold_X7_convoyAt : GoodIn wsX7_hold wsX7_convoyAt := goodIn_r _ [30] (by decide +kernel) (by decide +kernel)
set_option maxRecDepth 20000 in
theorem gX7_hold_X7_convoyAt : GoodIn wsX7_hold (va_wsS RX7 51 yX7_convoyAt wsX7_convoyAt) := goodIn_app (goodIn_of _ (by decide +kernel)) ggX7_hold_X7_convoyAt
theorem dX7_hold_0 : decode cX7_hold 0 = .ok (.aload_n 0, 1) := by decide +kernel
theorem dX7_hold_1 : decode cX7_hold 1 = .ok (.aload_n 0, 1) := by decide +kernel
theorem dX7_hold_2 : decode cX7_hold 2 = .ok (.iload_n 1, 1) := by decide +kernel
theorem dX7_hold_3 : decode cX7_hold 3 = .ok (.invokevirtual 218, 3) := by decide +kernel
theorem dX7_hold_6 : decode cX7_hold 6 = .ok (.ifCond .ne 7, 3) := by decide +kernel
theorem dX7_hold_9 : decode cX7_hold 9 = .ok (.iconst 1, 1) := by decide +kernel
theorem dX7_hold_10 : decode cX7_hold 10 = .ok (.goto 15, 3) := by decide +kernel
theorem dX7_hold_13 : decode cX7_hold 13 = .ok (.iload_n 2, 1) := by decide +kernel
theorem dX7_hold_14 : decode cX7_hold 14 = .ok (.invokestatic 256, 3) := by decide +kernel
theorem dX7_hold_17 : decode cX7_hold 17 = .ok (.ifCond .eq 7, 3) := by decide +kernel
theorem dX7_hold_20 : decode cX7_hold 20 = .ok (.iconst 0, 1) := by decide +kernel
theorem dX7_hold_21 : decode cX7_hold 21 = .ok (.goto 4, 3) := by decide +kernel
theorem dX7_hold_24 : decode cX7_hold 24 = .ok (.iconst 2, 1) := by decide +kernel
theorem dX7_hold_25 : decode cX7_hold 25 = .ok (.invokevirtual 146, 3) := by decide +kernel
theorem dX7_hold_28 : decode cX7_hold 28 = .ok (.ifCond .eq 5, 3) := by decide +kernel
theorem dX7_hold_31 : decode cX7_hold 31 = .ok (.iconst 0, 1) := by decide +kernel
theorem dX7_hold_32 : decode cX7_hold 32 = .ok (.ireturn, 1) := by decide +kernel
theorem dX7_hold_33 : decode cX7_hold 33 = .ok (.aload_n 0, 1) := by decide +kernel
theorem dX7_hold_34 : decode cX7_hold 34 = .ok (.invokevirtual 243, 3) := by decide +kernel
theorem dX7_hold_37 : decode cX7_hold 37 = .ok (.aload_n 0, 1) := by decide +kernel
theorem dX7_hold_38 : decode cX7_hold 38 = .ok (.getfield 16, 3) := by decide +kernel
theorem dX7_hold_41 : decode cX7_hold 41 = .ok (.iload_n 1, 1) := by decide +kernel
theorem dX7_hold_42 : decode cX7_hold 42 = .ok (.iconst 2, 1) := by decide +kernel
theorem dX7_hold_43 : decode cX7_hold 43 = .ok (.invokestatic 51, 3) := by decide +kernel
theorem dX7_hold_46 : decode cX7_hold 46 = .ok (.iaload, 1) := by decide +kernel
theorem dX7_hold_47 : decode cX7_hold 47 = .ok (.istore_n 3, 1) := by decide +kernel
theorem dX7_hold_48 : decode cX7_hold 48 = .ok (.aload_n 0, 1) := by decide +kernel
theorem dX7_hold_49 : decode cX7_hold 49 = .ok (.getfield 16, 3) := by decide +kernel
theorem dX7_hold_52 : decode cX7_hold 52 = .ok (.iload_n 1, 1) := by decide +kernel
theorem dX7_hold_53 : decode cX7_hold 53 = .ok (.iconst 2, 1) := by decide +kernel
theorem dX7_hold_54 : decode cX7_hold 54 = .ok (.invokestatic 51, 3) := by decide +kernel
theorem dX7_hold_57 : decode cX7_hold 57 = .ok (.iload_n 2, 1) := by decide +kernel
theorem dX7_hold_58 : decode cX7_hold 58 = .ok (.iastore, 1) := by decide +kernel
theorem dX7_hold_59 : decode cX7_hold 59 = .ok (.iload_n 3, 1) := by decide +kernel
theorem dX7_hold_60 : decode cX7_hold 60 = .ok (.ireturn, 1) := by decide +kernel
set_option maxRecDepth 20000 in
theorem ggX7_supply_X7_isDepot : GoodIn wsX7_supply wsX7_isDepot := goodIn_r _ [7, 2, 8, 9, 6, 10, 28, 29, 30, 31, 32, 33, 34, 35, 36, 37, 38, 39, 40, 41] (by decide +kernel) (by decide +kernel)
set_option maxRecDepth 20000 in
theorem gX7_supply_X7_isDepot : GoodIn wsX7_supply (wsV RX7 236 RX7 yX7_isDepot wsX7_isDepot) := goodIn_app (goodIn_of _ (by decide +kernel)) ggX7_supply_X7_isDepot
set_option maxRecDepth 20000 in
theorem ggX7_supply_X7_in : GoodIn wsX7_supply wsX7_in := goodIn_r _ [10] (by decide +kernel) (by decide +kernel)
set_option maxRecDepth 20000 in
theorem gX7_supply_X7_in : GoodIn wsX7_supply (va_wsS RX7 139 yX7_in wsX7_in) := goodIn_app (goodIn_of _ (by decide +kernel)) ggX7_supply_X7_in
set_option maxRecDepth 20000 in
theorem ggX7_supply_X7_depotAt : GoodIn wsX7_supply wsX7_depotAt := goodIn_r _ [13] (by decide +kernel) (by decide +kernel)
set_option maxRecDepth 20000 in
theorem gX7_supply_X7_depotAt : GoodIn wsX7_supply (va_wsS RX7 61 yX7_depotAt wsX7_depotAt) := goodIn_app (goodIn_of _ (by decide +kernel)) ggX7_supply_X7_depotAt
set_option maxRecDepth 20000 in
theorem ggX7_supply_X7_refused : GoodIn wsX7_supply wsX7_refused := goodIn_r _ [17, 18, 28, 29, 30, 31, 32, 33, 34, 35, 36, 37, 38, 39, 40, 41] (by decide +kernel) (by decide +kernel)
set_option maxRecDepth 20000 in
theorem gX7_supply_X7_refused : GoodIn wsX7_supply (wsV RX7 146 RX7 yX7_refused wsX7_refused) := goodIn_app (goodIn_of _ (by decide +kernel)) ggX7_supply_X7_refused
set_option maxRecDepth 20000 in
theorem ggX7_supply_X7_remember : GoodIn wsX7_supply wsX7_remember := goodIn_r _ [22, 23, 24, 2, 25, 26, 6, 27, 28, 29, 30, 31, 32, 33, 34, 35, 36, 37, 38, 39, 40, 41] (by decide +kernel) (by decide +kernel)
set_option maxRecDepth 20000 in
theorem gX7_supply_X7_remember : GoodIn wsX7_supply (wsV RX7 243 RX7 yX7_remember wsX7_remember) := goodIn_app (goodIn_of _ (by decide +kernel)) ggX7_supply_X7_remember
theorem dX7_supply_0 : decode cX7_supply 0 = .ok (.aload_n 0, 1) := by decide +kernel
theorem dX7_supply_1 : decode cX7_supply 1 = .ok (.aload_n 0, 1) := by decide +kernel
theorem dX7_supply_2 : decode cX7_supply 2 = .ok (.iload_n 1, 1) := by decide +kernel
theorem dX7_supply_3 : decode cX7_supply 3 = .ok (.invokevirtual 236, 3) := by decide +kernel
theorem dX7_supply_6 : decode cX7_supply 6 = .ok (.ifCond .ne 7, 3) := by decide +kernel
theorem dX7_supply_9 : decode cX7_supply 9 = .ok (.iconst 1, 1) := by decide +kernel
theorem dX7_supply_10 : decode cX7_supply 10 = .ok (.goto 42, 3) := by decide +kernel
theorem dX7_supply_13 : decode cX7_supply 13 = .ok (.iload_n 2, 1) := by decide +kernel
theorem dX7_supply_14 : decode cX7_supply 14 = .ok (.i2l, 1) := by decide +kernel
theorem dX7_supply_15 : decode cX7_supply 15 = .ok (.lconst 1, 1) := by decide +kernel
theorem dX7_supply_16 : decode cX7_supply 16 = .ok (.ldc2_w 259, 3) := by decide +kernel
theorem dX7_supply_19 : decode cX7_supply 19 = .ok (.invokestatic 139, 3) := by decide +kernel
theorem dX7_supply_22 : decode cX7_supply 22 = .ok (.ifCond .ne 7, 3) := by decide +kernel
theorem dX7_supply_25 : decode cX7_supply 25 = .ok (.iconst 2, 1) := by decide +kernel
theorem dX7_supply_26 : decode cX7_supply 26 = .ok (.goto 26, 3) := by decide +kernel
theorem dX7_supply_29 : decode cX7_supply 29 = .ok (.aload_n 0, 1) := by decide +kernel
theorem dX7_supply_30 : decode cX7_supply 30 = .ok (.getfield 16, 3) := by decide +kernel
theorem dX7_supply_33 : decode cX7_supply 33 = .ok (.iload_n 1, 1) := by decide +kernel
theorem dX7_supply_34 : decode cX7_supply 34 = .ok (.iconst 1, 1) := by decide +kernel
theorem dX7_supply_35 : decode cX7_supply 35 = .ok (.invokestatic 61, 3) := by decide +kernel
theorem dX7_supply_38 : decode cX7_supply 38 = .ok (.iaload, 1) := by decide +kernel
theorem dX7_supply_39 : decode cX7_supply 39 = .ok (.iload_n 2, 1) := by decide +kernel
theorem dX7_supply_40 : decode cX7_supply 40 = .ok (.iadd, 1) := by decide +kernel
theorem dX7_supply_41 : decode cX7_supply 41 = .ok (.sipush 999, 3) := by decide +kernel
theorem dX7_supply_44 : decode cX7_supply 44 = .ok (.if_icmp .le 7, 3) := by decide +kernel
theorem dX7_supply_47 : decode cX7_supply 47 = .ok (.iconst 3, 1) := by decide +kernel
theorem dX7_supply_48 : decode cX7_supply 48 = .ok (.goto 4, 3) := by decide +kernel
theorem dX7_supply_51 : decode cX7_supply 51 = .ok (.iconst 0, 1) := by decide +kernel
theorem dX7_supply_52 : decode cX7_supply 52 = .ok (.invokevirtual 146, 3) := by decide +kernel
theorem dX7_supply_55 : decode cX7_supply 55 = .ok (.ifCond .eq 5, 3) := by decide +kernel
theorem dX7_supply_58 : decode cX7_supply 58 = .ok (.iconst 0, 1) := by decide +kernel
theorem dX7_supply_59 : decode cX7_supply 59 = .ok (.ireturn, 1) := by decide +kernel
theorem dX7_supply_60 : decode cX7_supply 60 = .ok (.aload_n 0, 1) := by decide +kernel
theorem dX7_supply_61 : decode cX7_supply 61 = .ok (.invokevirtual 243, 3) := by decide +kernel
theorem dX7_supply_64 : decode cX7_supply 64 = .ok (.aload_n 0, 1) := by decide +kernel
theorem dX7_supply_65 : decode cX7_supply 65 = .ok (.getfield 16, 3) := by decide +kernel
theorem dX7_supply_68 : decode cX7_supply 68 = .ok (.iload_n 1, 1) := by decide +kernel
theorem dX7_supply_69 : decode cX7_supply 69 = .ok (.iconst 1, 1) := by decide +kernel
theorem dX7_supply_70 : decode cX7_supply 70 = .ok (.invokestatic 61, 3) := by decide +kernel
theorem dX7_supply_73 : decode cX7_supply 73 = .ok (.dup2, 1) := by decide +kernel
theorem dX7_supply_74 : decode cX7_supply 74 = .ok (.iaload, 1) := by decide +kernel
theorem dX7_supply_75 : decode cX7_supply 75 = .ok (.iload_n 2, 1) := by decide +kernel
theorem dX7_supply_76 : decode cX7_supply 76 = .ok (.iadd, 1) := by decide +kernel
theorem dX7_supply_77 : decode cX7_supply 77 = .ok (.iastore, 1) := by decide +kernel
theorem dX7_supply_78 : decode cX7_supply 78 = .ok (.aload_n 0, 1) := by decide +kernel
theorem dX7_supply_79 : decode cX7_supply 79 = .ok (.getfield 16, 3) := by decide +kernel
theorem dX7_supply_82 : decode cX7_supply 82 = .ok (.iload_n 1, 1) := by decide +kernel
theorem dX7_supply_83 : decode cX7_supply 83 = .ok (.iconst 1, 1) := by decide +kernel
theorem dX7_supply_84 : decode cX7_supply 84 = .ok (.invokestatic 61, 3) := by decide +kernel
theorem dX7_supply_87 : decode cX7_supply 87 = .ok (.iaload, 1) := by decide +kernel
theorem dX7_supply_88 : decode cX7_supply 88 = .ok (.ireturn, 1) := by decide +kernel
set_option maxRecDepth 20000 in
theorem ggX7_pass_X7_in : GoodIn wsX7_pass wsX7_in := goodIn_r _ [6] (by decide +kernel) (by decide +kernel)
set_option maxRecDepth 20000 in
theorem gX7_pass_X7_in : GoodIn wsX7_pass (va_wsS RX7 139 yX7_in wsX7_in) := goodIn_app (goodIn_of _ (by decide +kernel)) ggX7_pass_X7_in
set_option maxRecDepth 20000 in
theorem ggX7_pass_X7_refused : GoodIn wsX7_pass wsX7_refused := goodIn_r _ [10, 11, 108, 109, 110, 111, 112, 113, 114, 115, 116, 117, 118, 119, 120, 121] (by decide +kernel) (by decide +kernel)
set_option maxRecDepth 20000 in
theorem gX7_pass_X7_refused : GoodIn wsX7_pass (wsV RX7 146 RX7 yX7_refused wsX7_refused) := goodIn_app (goodIn_of _ (by decide +kernel)) ggX7_pass_X7_refused
set_option maxRecDepth 20000 in
theorem ggX7_pass_X7_remember : GoodIn wsX7_pass wsX7_remember := goodIn_r _ [15, 16, 17, 2, 18, 19, 5, 20, 108, 109, 110, 111, 112, 113, 114, 115, 116, 117, 118, 119, 120, 121] (by decide +kernel) (by decide +kernel)
set_option maxRecDepth 20000 in
theorem gX7_pass_X7_remember : GoodIn wsX7_pass (wsV RX7 243 RX7 yX7_remember wsX7_remember) := goodIn_app (goodIn_of _ (by decide +kernel)) ggX7_pass_X7_remember
set_option maxRecDepth 20000 in
theorem ggX7_pass_X7_goHours : GoodIn wsX7_pass wsX7_goHours := goodIn_r _ [24, 25, 26, 5, 27, 28, 29, 30, 31, 32, 33, 34, 35, 36, 37, 38, 39, 40, 41, 42, 43, 44, 45, 46, 47, 48, 49, 50, 51, 52, 53, 54, 55, 56, 57, 58, 59, 60, 61, 62, 63, 64, 65, 66, 67, 68, 69, 70, 71, 72, 73, 74, 75, 76, 77, 78, 79, 80, 81, 82, 83, 84, 85, 86, 87, 88, 89, 90, 91, 92, 93, 94, 95, 96, 97, 98, 99, 100, 101, 102, 103, 104, 105, 106, 107, 108, 109, 110, 111, 112, 113, 114, 115, 116, 117, 118, 119, 120, 121] (by decide +kernel) (by decide +kernel)
set_option maxRecDepth 20000 in
theorem gX7_pass_X7_goHours : GoodIn wsX7_pass (wsV RX7 261 RX7 yX7_goHours wsX7_goHours) := goodIn_app (goodIn_of _ (by decide +kernel)) ggX7_pass_X7_goHours
theorem dX7_pass_0 : decode cX7_pass 0 = .ok (.aload_n 0, 1) := by decide +kernel
theorem dX7_pass_1 : decode cX7_pass 1 = .ok (.iload_n 1, 1) := by decide +kernel
theorem dX7_pass_2 : decode cX7_pass 2 = .ok (.i2l, 1) := by decide +kernel
theorem dX7_pass_3 : decode cX7_pass 3 = .ok (.lconst 1, 1) := by decide +kernel
theorem dX7_pass_4 : decode cX7_pass 4 = .ok (.ldc2_w 252, 3) := by decide +kernel
theorem dX7_pass_7 : decode cX7_pass 7 = .ok (.invokestatic 139, 3) := by decide +kernel
theorem dX7_pass_10 : decode cX7_pass 10 = .ok (.ifCond .eq 7, 3) := by decide +kernel
theorem dX7_pass_13 : decode cX7_pass 13 = .ok (.iconst 0, 1) := by decide +kernel
theorem dX7_pass_14 : decode cX7_pass 14 = .ok (.goto 4, 3) := by decide +kernel
theorem dX7_pass_17 : decode cX7_pass 17 = .ok (.iconst 1, 1) := by decide +kernel
theorem dX7_pass_18 : decode cX7_pass 18 = .ok (.invokevirtual 146, 3) := by decide +kernel
theorem dX7_pass_21 : decode cX7_pass 21 = .ok (.ifCond .eq 5, 3) := by decide +kernel
theorem dX7_pass_24 : decode cX7_pass 24 = .ok (.iconst 0, 1) := by decide +kernel
theorem dX7_pass_25 : decode cX7_pass 25 = .ok (.ireturn, 1) := by decide +kernel
theorem dX7_pass_26 : decode cX7_pass 26 = .ok (.aload_n 0, 1) := by decide +kernel
theorem dX7_pass_27 : decode cX7_pass 27 = .ok (.invokevirtual 243, 3) := by decide +kernel
theorem dX7_pass_30 : decode cX7_pass 30 = .ok (.aload_n 0, 1) := by decide +kernel
theorem dX7_pass_31 : decode cX7_pass 31 = .ok (.aload_n 0, 1) := by decide +kernel
theorem dX7_pass_32 : decode cX7_pass 32 = .ok (.getfield 16, 3) := by decide +kernel
theorem dX7_pass_35 : decode cX7_pass 35 = .ok (.iload_n 1, 1) := by decide +kernel
theorem dX7_pass_36 : decode cX7_pass 36 = .ok (.invokevirtual 261, 3) := by decide +kernel
theorem dX7_pass_39 : decode cX7_pass 39 = .ok (.ireturn, 1) := by decide +kernel
set_option maxRecDepth 20000 in
theorem ggX7_undo_X7_refused : GoodIn wsX7_undo wsX7_refused := goodIn_r _ [8, 9, 13, 14, 15, 16, 17, 18, 19, 20, 21, 22, 23, 24, 25, 26] (by decide +kernel) (by decide +kernel)
set_option maxRecDepth 20000 in
theorem gX7_undo_X7_refused : GoodIn wsX7_undo (wsV RX7 146 RX7 yX7_refused wsX7_refused) := goodIn_app (goodIn_of _ (by decide +kernel)) ggX7_undo_X7_refused
set_option maxRecDepth 20000 in
theorem ggX7_undo_X7_copy : GoodIn wsX7_undo wsX7_copy := goodIn_r _ [12] (by decide +kernel) (by decide +kernel)
set_option maxRecDepth 20000 in
theorem gX7_undo_X7_copy : GoodIn wsX7_undo (va_wsS RX7 47 yX7_copy wsX7_copy) := goodIn_app (goodIn_of _ (by decide +kernel)) ggX7_undo_X7_copy
theorem dX7_undo_0 : decode cX7_undo 0 = .ok (.aload_n 0, 1) := by decide +kernel
theorem dX7_undo_1 : decode cX7_undo 1 = .ok (.aload_n 0, 1) := by decide +kernel
theorem dX7_undo_2 : decode cX7_undo 2 = .ok (.getfield 44, 3) := by decide +kernel
theorem dX7_undo_5 : decode cX7_undo 5 = .ok (.ifCond .ne 7, 3) := by decide +kernel
theorem dX7_undo_8 : decode cX7_undo 8 = .ok (.iconst 1, 1) := by decide +kernel
theorem dX7_undo_9 : decode cX7_undo 9 = .ok (.goto 4, 3) := by decide +kernel
theorem dX7_undo_12 : decode cX7_undo 12 = .ok (.iconst 0, 1) := by decide +kernel
theorem dX7_undo_13 : decode cX7_undo 13 = .ok (.invokevirtual 146, 3) := by decide +kernel
theorem dX7_undo_16 : decode cX7_undo 16 = .ok (.ifCond .eq 5, 3) := by decide +kernel
theorem dX7_undo_19 : decode cX7_undo 19 = .ok (.iconst 0, 1) := by decide +kernel
theorem dX7_undo_20 : decode cX7_undo 20 = .ok (.ireturn, 1) := by decide +kernel
theorem dX7_undo_21 : decode cX7_undo 21 = .ok (.aload_n 0, 1) := by decide +kernel
theorem dX7_undo_22 : decode cX7_undo 22 = .ok (.dup, 1) := by decide +kernel
theorem dX7_undo_23 : decode cX7_undo 23 = .ok (.getfield 44, 3) := by decide +kernel
theorem dX7_undo_26 : decode cX7_undo 26 = .ok (.iconst 1, 1) := by decide +kernel
theorem dX7_undo_27 : decode cX7_undo 27 = .ok (.isub, 1) := by decide +kernel
theorem dX7_undo_28 : decode cX7_undo 28 = .ok (.putfield 44, 3) := by decide +kernel
theorem dX7_undo_31 : decode cX7_undo 31 = .ok (.aload_n 0, 1) := by decide +kernel
theorem dX7_undo_32 : decode cX7_undo 32 = .ok (.getfield 22, 3) := by decide +kernel
theorem dX7_undo_35 : decode cX7_undo 35 = .ok (.sipush 250, 3) := by decide +kernel
theorem dX7_undo_38 : decode cX7_undo 38 = .ok (.aload_n 0, 1) := by decide +kernel
theorem dX7_undo_39 : decode cX7_undo 39 = .ok (.getfield 44, 3) := by decide +kernel
theorem dX7_undo_42 : decode cX7_undo 42 = .ok (.imul, 1) := by decide +kernel
theorem dX7_undo_43 : decode cX7_undo 43 = .ok (.aload_n 0, 1) := by decide +kernel
theorem dX7_undo_44 : decode cX7_undo 44 = .ok (.getfield 16, 3) := by decide +kernel
theorem dX7_undo_47 : decode cX7_undo 47 = .ok (.iconst 0, 1) := by decide +kernel
theorem dX7_undo_48 : decode cX7_undo 48 = .ok (.sipush 250, 3) := by decide +kernel
theorem dX7_undo_51 : decode cX7_undo 51 = .ok (.invokestatic 47, 3) := by decide +kernel
theorem dX7_undo_54 : decode cX7_undo 54 = .ok (.aload_n 0, 1) := by decide +kernel
theorem dX7_undo_55 : decode cX7_undo 55 = .ok (.getfield 44, 3) := by decide +kernel
theorem dX7_undo_58 : decode cX7_undo 58 = .ok (.ireturn, 1) := by decide +kernel
set_option maxRecDepth 20000 in
theorem ggX7_arrival_X7_isThere : GoodIn wsX7_arrival wsX7_isThere := goodIn_r _ [5, 6, 7, 4, 8] (by decide +kernel) (by decide +kernel)
set_option maxRecDepth 20000 in
theorem gX7_arrival_X7_isThere : GoodIn wsX7_arrival (va_wsS RX7 118 yX7_isThere wsX7_isThere) := goodIn_app (goodIn_of _ (by decide +kernel)) ggX7_arrival_X7_isThere
set_option maxRecDepth 20000 in
theorem ggX7_arrival_X7_goHour : GoodIn wsX7_arrival wsX7_goHour := goodIn_r _ [12, 13, 14, 4, 15, 6, 7, 8, 2, 3, 5, 16, 17, 18, 19, 20, 21, 22, 23, 24, 25, 26, 27, 28, 29, 30, 31, 32, 33, 34, 35, 36, 37, 38, 39, 40, 41, 42, 43, 44, 45, 46, 47, 48, 49, 50, 51, 52, 53, 54, 55, 56, 57, 58, 59, 60, 61, 62, 63, 64, 65, 66, 67, 68, 69, 70, 71, 72, 73, 74, 75, 76, 77, 78, 79, 80, 81, 82, 83, 84, 85, 86, 87, 88, 89, 90, 91, 92, 93, 94, 95, 96] (by decide +kernel) (by decide +kernel)
set_option maxRecDepth 20000 in
theorem gX7_arrival_X7_goHour : GoodIn wsX7_arrival (wsV RX7 133 RX7 yX7_goHour wsX7_goHour) := goodIn_app (goodIn_of _ (by decide +kernel)) ggX7_arrival_X7_goHour
theorem dX7_arrival_0 : decode cX7_arrival 0 = .ok (.iconst 0, 1) := by decide +kernel
theorem dX7_arrival_1 : decode cX7_arrival 1 = .ok (.istore_n 2, 1) := by decide +kernel
theorem dX7_arrival_2 : decode cX7_arrival 2 = .ok (.iload_n 2, 1) := by decide +kernel
theorem dX7_arrival_3 : decode cX7_arrival 3 = .ok (.sipush 300, 3) := by decide +kernel
theorem dX7_arrival_6 : decode cX7_arrival 6 = .ok (.if_icmp .gt 30, 3) := by decide +kernel
theorem dX7_arrival_9 : decode cX7_arrival 9 = .ok (.aload_n 0, 1) := by decide +kernel
theorem dX7_arrival_10 : decode cX7_arrival 10 = .ok (.getfield 19, 3) := by decide +kernel
theorem dX7_arrival_13 : decode cX7_arrival 13 = .ok (.iload_n 1, 1) := by decide +kernel
theorem dX7_arrival_14 : decode cX7_arrival 14 = .ok (.invokestatic 118, 3) := by decide +kernel
theorem dX7_arrival_17 : decode cX7_arrival 17 = .ok (.ifCond .eq 5, 3) := by decide +kernel
theorem dX7_arrival_20 : decode cX7_arrival 20 = .ok (.iload_n 2, 1) := by decide +kernel
theorem dX7_arrival_21 : decode cX7_arrival 21 = .ok (.ireturn, 1) := by decide +kernel
theorem dX7_arrival_22 : decode cX7_arrival 22 = .ok (.aload_n 0, 1) := by decide +kernel
theorem dX7_arrival_23 : decode cX7_arrival 23 = .ok (.aload_n 0, 1) := by decide +kernel
theorem dX7_arrival_24 : decode cX7_arrival 24 = .ok (.getfield 19, 3) := by decide +kernel
theorem dX7_arrival_27 : decode cX7_arrival 27 = .ok (.invokevirtual 133, 3) := by decide +kernel
theorem dX7_arrival_30 : decode cX7_arrival 30 = .ok (.iinc 2 1, 3) := by decide +kernel
theorem dX7_arrival_33 : decode cX7_arrival 33 = .ok (.goto (-31), 3) := by decide +kernel
theorem dX7_arrival_36 : decode cX7_arrival 36 = .ok (.bipush (-9), 2) := by decide +kernel
theorem dX7_arrival_38 : decode cX7_arrival 38 = .ok (.ireturn, 1) := by decide +kernel
set_option maxRecDepth 20000 in
theorem ggX7_arrives_X7_isConvoy : GoodIn wsX7_arrives wsX7_isConvoy := goodIn_r _ [5, 6, 7, 8, 4, 9, 107, 108, 109, 110, 111, 112, 113, 114, 115, 116, 117, 118, 119, 120] (by decide +kernel) (by decide +kernel)
set_option maxRecDepth 20000 in
theorem gX7_arrives_X7_isConvoy : GoodIn wsX7_arrives (wsV RX7 218 RX7 yX7_isConvoy wsX7_isConvoy) := goodIn_app (goodIn_of _ (by decide +kernel)) ggX7_arrives_X7_isConvoy
set_option maxRecDepth 20000 in
theorem ggX7_arrives_X7_refused : GoodIn wsX7_arrives wsX7_refused := goodIn_r _ [13, 14, 107, 108, 109, 110, 111, 112, 113, 114, 115, 116, 117, 118, 119, 120] (by decide +kernel) (by decide +kernel)
set_option maxRecDepth 20000 in
theorem gX7_arrives_X7_refused : GoodIn wsX7_arrives (wsV RX7 146 RX7 yX7_refused wsX7_refused) := goodIn_app (goodIn_of _ (by decide +kernel)) ggX7_arrives_X7_refused
set_option maxRecDepth 20000 in
theorem ggX7_arrives_X7_begin : GoodIn wsX7_arrives wsX7_begin := goodIn_r _ [18, 6, 19, 20, 21, 4, 22, 107, 108, 109, 110, 111, 112, 113, 114, 115, 116, 117, 118, 119, 120] (by decide +kernel) (by decide +kernel)
set_option maxRecDepth 20000 in
theorem gX7_arrives_X7_begin : GoodIn wsX7_arrives (wsV RX7 264 RX7 yX7_begin wsX7_begin) := goodIn_app (goodIn_of _ (by decide +kernel)) ggX7_arrives_X7_begin
set_option maxRecDepth 20000 in
theorem ggX7_arrives_X7_arrival : GoodIn wsX7_arrives wsX7_arrival := goodIn_r _ [26, 19, 27, 28, 4, 29, 30, 31, 32, 33, 34, 35, 36, 37, 38, 39, 40, 41, 42, 43, 44, 45, 46, 47, 48, 49, 50, 51, 52, 53, 54, 55, 56, 57, 58, 59, 60, 61, 62, 63, 64, 65, 66, 67, 68, 69, 70, 71, 72, 73, 74, 75, 76, 77, 78, 79, 80, 81, 82, 83, 84, 85, 86, 87, 88, 89, 90, 91, 92, 93, 94, 95, 96, 97, 98, 99, 100, 101, 102, 103, 104, 105, 106, 107, 108, 109, 110, 111, 112, 113, 114, 115, 116, 117, 118, 119, 120] (by decide +kernel) (by decide +kernel)
set_option maxRecDepth 20000 in
theorem gX7_arrives_X7_arrival : GoodIn wsX7_arrives (wsV RX7 267 RX7 yX7_arrival wsX7_arrival) := goodIn_app (goodIn_of _ (by decide +kernel)) ggX7_arrives_X7_arrival
theorem dX7_arrives_0 : decode cX7_arrives 0 = .ok (.aload_n 0, 1) := by decide +kernel
theorem dX7_arrives_1 : decode cX7_arrives 1 = .ok (.aload_n 0, 1) := by decide +kernel
theorem dX7_arrives_2 : decode cX7_arrives 2 = .ok (.iload_n 1, 1) := by decide +kernel
theorem dX7_arrives_3 : decode cX7_arrives 3 = .ok (.invokevirtual 218, 3) := by decide +kernel
theorem dX7_arrives_6 : decode cX7_arrives 6 = .ok (.ifCond .eq 7, 3) := by decide +kernel
theorem dX7_arrives_9 : decode cX7_arrives 9 = .ok (.iconst 0, 1) := by decide +kernel
theorem dX7_arrives_10 : decode cX7_arrives 10 = .ok (.goto 4, 3) := by decide +kernel
theorem dX7_arrives_13 : decode cX7_arrives 13 = .ok (.iconst 1, 1) := by decide +kernel
theorem dX7_arrives_14 : decode cX7_arrives 14 = .ok (.invokevirtual 146, 3) := by decide +kernel
theorem dX7_arrives_17 : decode cX7_arrives 17 = .ok (.ifCond .eq 5, 3) := by decide +kernel
theorem dX7_arrives_20 : decode cX7_arrives 20 = .ok (.iconst 0, 1) := by decide +kernel
theorem dX7_arrives_21 : decode cX7_arrives 21 = .ok (.ireturn, 1) := by decide +kernel
theorem dX7_arrives_22 : decode cX7_arrives 22 = .ok (.aload_n 0, 1) := by decide +kernel
theorem dX7_arrives_23 : decode cX7_arrives 23 = .ok (.invokevirtual 264, 3) := by decide +kernel
theorem dX7_arrives_26 : decode cX7_arrives 26 = .ok (.aload_n 0, 1) := by decide +kernel
theorem dX7_arrives_27 : decode cX7_arrives 27 = .ok (.iload_n 1, 1) := by decide +kernel
theorem dX7_arrives_28 : decode cX7_arrives 28 = .ok (.invokevirtual 267, 3) := by decide +kernel
theorem dX7_arrives_31 : decode cX7_arrives 31 = .ok (.ireturn, 1) := by decide +kernel
set_option maxRecDepth 20000 in
theorem ggX7_leaves_X7_isConvoy : GoodIn wsX7_leaves wsX7_isConvoy := goodIn_r _ [8, 9, 10, 11, 7, 12, 103, 104, 105, 106, 107, 108, 109, 110, 111, 112, 113, 114, 115, 116] (by decide +kernel) (by decide +kernel)
set_option maxRecDepth 20000 in
theorem gX7_leaves_X7_isConvoy : GoodIn wsX7_leaves (wsV RX7 218 RX7 yX7_isConvoy wsX7_isConvoy) := goodIn_app (goodIn_of _ (by decide +kernel)) ggX7_leaves_X7_isConvoy
set_option maxRecDepth 20000 in
theorem ggX7_leaves_X7_refused : GoodIn wsX7_leaves wsX7_refused := goodIn_r _ [16, 17, 103, 104, 105, 106, 107, 108, 109, 110, 111, 112, 113, 114, 115, 116] (by decide +kernel) (by decide +kernel)
set_option maxRecDepth 20000 in
theorem gX7_leaves_X7_refused : GoodIn wsX7_leaves (wsV RX7 146 RX7 yX7_refused wsX7_refused) := goodIn_app (goodIn_of _ (by decide +kernel)) ggX7_leaves_X7_refused
set_option maxRecDepth 20000 in
theorem ggX7_leaves_X7_begin : GoodIn wsX7_leaves wsX7_begin := goodIn_r _ [21, 9, 3, 22, 23, 7, 24, 103, 104, 105, 106, 107, 108, 109, 110, 111, 112, 113, 114, 115, 116] (by decide +kernel) (by decide +kernel)
set_option maxRecDepth 20000 in
theorem gX7_leaves_X7_begin : GoodIn wsX7_leaves (wsV RX7 264 RX7 yX7_begin wsX7_begin) := goodIn_app (goodIn_of _ (by decide +kernel)) ggX7_leaves_X7_begin
set_option maxRecDepth 20000 in
theorem ggX7_leaves_X7_goHour : GoodIn wsX7_leaves wsX7_goHour := goodIn_r _ [28, 29, 30, 7, 31, 32, 33, 34, 35, 36, 37, 38, 39, 40, 41, 42, 43, 44, 45, 46, 47, 48, 49, 50, 51, 52, 53, 54, 55, 56, 57, 58, 59, 60, 61, 62, 63, 64, 65, 66, 67, 68, 69, 70, 71, 72, 1, 2, 73, 74, 75, 76, 77, 78, 79, 80, 81, 82, 83, 84, 85, 86, 87, 88, 89, 90, 91, 92, 93, 94, 95, 96, 97, 98, 99, 100, 101, 102, 103, 104, 105, 106, 107, 108, 109, 110, 111, 112, 113, 114, 115, 116] (by decide +kernel) (by decide +kernel)
set_option maxRecDepth 20000 in
theorem gX7_leaves_X7_goHour : GoodIn wsX7_leaves (wsV RX7 133 RX7 yX7_goHour wsX7_goHour) := goodIn_app (goodIn_of _ (by decide +kernel)) ggX7_leaves_X7_goHour
theorem dX7_leaves_0 : decode cX7_leaves 0 = .ok (.aload_n 0, 1) := by decide +kernel
theorem dX7_leaves_1 : decode cX7_leaves 1 = .ok (.aload_n 0, 1) := by decide +kernel
theorem dX7_leaves_2 : decode cX7_leaves 2 = .ok (.iload_n 1, 1) := by decide +kernel
theorem dX7_leaves_3 : decode cX7_leaves 3 = .ok (.invokevirtual 218, 3) := by decide +kernel
theorem dX7_leaves_6 : decode cX7_leaves 6 = .ok (.ifCond .eq 7, 3) := by decide +kernel
theorem dX7_leaves_9 : decode cX7_leaves 9 = .ok (.iconst 0, 1) := by decide +kernel
theorem dX7_leaves_10 : decode cX7_leaves 10 = .ok (.goto 4, 3) := by decide +kernel
theorem dX7_leaves_13 : decode cX7_leaves 13 = .ok (.iconst 1, 1) := by decide +kernel
theorem dX7_leaves_14 : decode cX7_leaves 14 = .ok (.invokevirtual 146, 3) := by decide +kernel
theorem dX7_leaves_17 : decode cX7_leaves 17 = .ok (.ifCond .eq 5, 3) := by decide +kernel
theorem dX7_leaves_20 : decode cX7_leaves 20 = .ok (.iconst 0, 1) := by decide +kernel
theorem dX7_leaves_21 : decode cX7_leaves 21 = .ok (.ireturn, 1) := by decide +kernel
theorem dX7_leaves_22 : decode cX7_leaves 22 = .ok (.aload_n 0, 1) := by decide +kernel
theorem dX7_leaves_23 : decode cX7_leaves 23 = .ok (.invokevirtual 264, 3) := by decide +kernel
theorem dX7_leaves_26 : decode cX7_leaves 26 = .ok (.aload_n 0, 1) := by decide +kernel
theorem dX7_leaves_27 : decode cX7_leaves 27 = .ok (.iload_n 1, 1) := by decide +kernel
theorem dX7_leaves_28 : decode cX7_leaves 28 = .ok (.putfield 32, 3) := by decide +kernel
theorem dX7_leaves_31 : decode cX7_leaves 31 = .ok (.aload_n 0, 1) := by decide +kernel
theorem dX7_leaves_32 : decode cX7_leaves 32 = .ok (.bipush (-9), 2) := by decide +kernel
theorem dX7_leaves_34 : decode cX7_leaves 34 = .ok (.putfield 36, 3) := by decide +kernel
theorem dX7_leaves_37 : decode cX7_leaves 37 = .ok (.iconst 0, 1) := by decide +kernel
theorem dX7_leaves_38 : decode cX7_leaves 38 = .ok (.istore_n 2, 1) := by decide +kernel
theorem dX7_leaves_39 : decode cX7_leaves 39 = .ok (.iload_n 2, 1) := by decide +kernel
theorem dX7_leaves_40 : decode cX7_leaves 40 = .ok (.sipush 300, 3) := by decide +kernel
theorem dX7_leaves_43 : decode cX7_leaves 43 = .ok (.if_icmp .ge 26, 3) := by decide +kernel
theorem dX7_leaves_46 : decode cX7_leaves 46 = .ok (.aload_n 0, 1) := by decide +kernel
theorem dX7_leaves_47 : decode cX7_leaves 47 = .ok (.getfield 36, 3) := by decide +kernel
theorem dX7_leaves_50 : decode cX7_leaves 50 = .ok (.bipush (-9), 2) := by decide +kernel
theorem dX7_leaves_52 : decode cX7_leaves 52 = .ok (.if_icmp .ne 17, 3) := by decide +kernel
theorem dX7_leaves_55 : decode cX7_leaves 55 = .ok (.aload_n 0, 1) := by decide +kernel
theorem dX7_leaves_56 : decode cX7_leaves 56 = .ok (.aload_n 0, 1) := by decide +kernel
theorem dX7_leaves_57 : decode cX7_leaves 57 = .ok (.getfield 19, 3) := by decide +kernel
theorem dX7_leaves_60 : decode cX7_leaves 60 = .ok (.invokevirtual 133, 3) := by decide +kernel
theorem dX7_leaves_63 : decode cX7_leaves 63 = .ok (.iinc 2 1, 3) := by decide +kernel
theorem dX7_leaves_66 : decode cX7_leaves 66 = .ok (.goto (-27), 3) := by decide +kernel
theorem dX7_leaves_69 : decode cX7_leaves 69 = .ok (.aload_n 0, 1) := by decide +kernel
theorem dX7_leaves_70 : decode cX7_leaves 70 = .ok (.bipush (-9), 2) := by decide +kernel
theorem dX7_leaves_72 : decode cX7_leaves 72 = .ok (.putfield 32, 3) := by decide +kernel
theorem dX7_leaves_75 : decode cX7_leaves 75 = .ok (.aload_n 0, 1) := by decide +kernel
theorem dX7_leaves_76 : decode cX7_leaves 76 = .ok (.getfield 36, 3) := by decide +kernel
theorem dX7_leaves_79 : decode cX7_leaves 79 = .ok (.ireturn, 1) := by decide +kernel
set_option maxRecDepth 20000 in
theorem ggX7_bestHold_X7_isConvoy : GoodIn wsX7_bestHold wsX7_isConvoy := goodIn_r _ [7, 1, 8, 9, 6, 10, 107, 108, 109, 110, 111, 112, 113, 114, 115, 116, 117, 118, 119, 120] (by decide +kernel) (by decide +kernel)
set_option maxRecDepth 20000 in
theorem gX7_bestHold_X7_isConvoy : GoodIn wsX7_bestHold (wsV RX7 218 RX7 yX7_isConvoy wsX7_isConvoy) := goodIn_app (goodIn_of _ (by decide +kernel)) ggX7_bestHold_X7_isConvoy
set_option maxRecDepth 20000 in
theorem ggX7_bestHold_X7_refused : GoodIn wsX7_bestHold wsX7_refused := goodIn_r _ [14, 15, 107, 108, 109, 110, 111, 112, 113, 114, 115, 116, 117, 118, 119, 120] (by decide +kernel) (by decide +kernel)
set_option maxRecDepth 20000 in
theorem gX7_bestHold_X7_refused : GoodIn wsX7_bestHold (wsV RX7 146 RX7 yX7_refused wsX7_refused) := goodIn_app (goodIn_of _ (by decide +kernel)) ggX7_bestHold_X7_refused
set_option maxRecDepth 20000 in
theorem ggX7_bestHold_X7_isThere : GoodIn wsX7_bestHold wsX7_isThere := goodIn_r _ [18, 19, 20, 6, 21] (by decide +kernel) (by decide +kernel)
set_option maxRecDepth 20000 in
theorem gX7_bestHold_X7_isThere : GoodIn wsX7_bestHold (va_wsS RX7 118 yX7_isThere wsX7_isThere) := goodIn_app (goodIn_of _ (by decide +kernel)) ggX7_bestHold_X7_isThere
set_option maxRecDepth 20000 in
theorem ggX7_bestHold_X7_begin : GoodIn wsX7_bestHold wsX7_begin := goodIn_r _ [25, 1, 2, 26, 27, 6, 28, 107, 108, 109, 110, 111, 112, 113, 114, 115, 116, 117, 118, 119, 120] (by decide +kernel) (by decide +kernel)
set_option maxRecDepth 20000 in
theorem gX7_bestHold_X7_begin : GoodIn wsX7_bestHold (wsV RX7 264 RX7 yX7_begin wsX7_begin) := goodIn_app (goodIn_of _ (by decide +kernel)) ggX7_bestHold_X7_begin
set_option maxRecDepth 20000 in
theorem ggX7_bestHold_X7_convoyAt : GoodIn wsX7_bestHold wsX7_convoyAt := goodIn_r _ [21] (by decide +kernel) (by decide +kernel)
set_option maxRecDepth 20000 in
theorem gX7_bestHold_X7_convoyAt : GoodIn wsX7_bestHold (va_wsS RX7 51 yX7_convoyAt wsX7_convoyAt) := goodIn_app (goodIn_of _ (by decide +kernel)) ggX7_bestHold_X7_convoyAt
set_option maxRecDepth 20000 in
theorem ggX7_bestHold_X7_arrival : GoodIn wsX7_bestHold wsX7_arrival := goodIn_r _ [32, 2, 16, 17, 6, 18, 19, 20, 21, 33, 34, 35, 36, 37, 38, 39, 40, 41, 42, 43, 44, 45, 46, 47, 48, 49, 50, 51, 52, 53, 54, 55, 56, 57, 58, 59, 60, 61, 62, 63, 64, 65, 66, 67, 68, 69, 70, 71, 72, 73, 74, 75, 76, 77, 78, 79, 80, 81, 82, 83, 84, 85, 86, 87, 88, 89, 90, 91, 92, 93, 94, 95, 96, 97, 98, 99, 100, 101, 102, 103, 104, 105, 106, 107, 108, 109, 110, 111, 112, 113, 114, 115, 116, 117, 118, 119, 120] (by decide +kernel) (by decide +kernel)
set_option maxRecDepth 20000 in
theorem gX7_bestHold_X7_arrival : GoodIn wsX7_bestHold (wsV RX7 267 RX7 yX7_arrival wsX7_arrival) := goodIn_app (goodIn_of _ (by decide +kernel)) ggX7_bestHold_X7_arrival
theorem dX7_bestHold_0 : decode cX7_bestHold 0 = .ok (.aload_n 0, 1) := by decide +kernel
theorem dX7_bestHold_1 : decode cX7_bestHold 1 = .ok (.aload_n 0, 1) := by decide +kernel
theorem dX7_bestHold_2 : decode cX7_bestHold 2 = .ok (.iload_n 1, 1) := by decide +kernel
theorem dX7_bestHold_3 : decode cX7_bestHold 3 = .ok (.invokevirtual 218, 3) := by decide +kernel
theorem dX7_bestHold_6 : decode cX7_bestHold 6 = .ok (.ifCond .eq 7, 3) := by decide +kernel
theorem dX7_bestHold_9 : decode cX7_bestHold 9 = .ok (.iconst 0, 1) := by decide +kernel
theorem dX7_bestHold_10 : decode cX7_bestHold 10 = .ok (.goto 4, 3) := by decide +kernel
theorem dX7_bestHold_13 : decode cX7_bestHold 13 = .ok (.iconst 1, 1) := by decide +kernel
theorem dX7_bestHold_14 : decode cX7_bestHold 14 = .ok (.invokevirtual 146, 3) := by decide +kernel
theorem dX7_bestHold_17 : decode cX7_bestHold 17 = .ok (.ifCond .eq 5, 3) := by decide +kernel
theorem dX7_bestHold_20 : decode cX7_bestHold 20 = .ok (.iconst 0, 1) := by decide +kernel
theorem dX7_bestHold_21 : decode cX7_bestHold 21 = .ok (.ireturn, 1) := by decide +kernel
theorem dX7_bestHold_22 : decode cX7_bestHold 22 = .ok (.aload_n 0, 1) := by decide +kernel
theorem dX7_bestHold_23 : decode cX7_bestHold 23 = .ok (.getfield 16, 3) := by decide +kernel
theorem dX7_bestHold_26 : decode cX7_bestHold 26 = .ok (.iload_n 1, 1) := by decide +kernel
theorem dX7_bestHold_27 : decode cX7_bestHold 27 = .ok (.invokestatic 118, 3) := by decide +kernel
theorem dX7_bestHold_30 : decode cX7_bestHold 30 = .ok (.ifCond .eq 5, 3) := by decide +kernel
theorem dX7_bestHold_33 : decode cX7_bestHold 33 = .ok (.iconst 0, 1) := by decide +kernel
theorem dX7_bestHold_34 : decode cX7_bestHold 34 = .ok (.ireturn, 1) := by decide +kernel
theorem dX7_bestHold_35 : decode cX7_bestHold 35 = .ok (.bipush (-9), 2) := by decide +kernel
theorem dX7_bestHold_37 : decode cX7_bestHold 37 = .ok (.istore_n 2, 1) := by decide +kernel
theorem dX7_bestHold_38 : decode cX7_bestHold 38 = .ok (.iconst 0, 1) := by decide +kernel
theorem dX7_bestHold_39 : decode cX7_bestHold 39 = .ok (.istore_n 3, 1) := by decide +kernel
theorem dX7_bestHold_40 : decode cX7_bestHold 40 = .ok (.iconst 0, 1) := by decide +kernel
theorem dX7_bestHold_41 : decode cX7_bestHold 41 = .ok (.istore 4, 2) := by decide +kernel
theorem dX7_bestHold_43 : decode cX7_bestHold 43 = .ok (.iload 4, 2) := by decide +kernel
theorem dX7_bestHold_45 : decode cX7_bestHold 45 = .ok (.bipush 24, 2) := by decide +kernel
theorem dX7_bestHold_47 : decode cX7_bestHold 47 = .ok (.if_icmp .ge 63, 3) := by decide +kernel
theorem dX7_bestHold_50 : decode cX7_bestHold 50 = .ok (.aload_n 0, 1) := by decide +kernel
theorem dX7_bestHold_51 : decode cX7_bestHold 51 = .ok (.invokevirtual 264, 3) := by decide +kernel
theorem dX7_bestHold_54 : decode cX7_bestHold 54 = .ok (.aload_n 0, 1) := by decide +kernel
theorem dX7_bestHold_55 : decode cX7_bestHold 55 = .ok (.getfield 19, 3) := by decide +kernel
theorem dX7_bestHold_58 : decode cX7_bestHold 58 = .ok (.iload_n 1, 1) := by decide +kernel
theorem dX7_bestHold_59 : decode cX7_bestHold 59 = .ok (.iconst 2, 1) := by decide +kernel
theorem dX7_bestHold_60 : decode cX7_bestHold 60 = .ok (.invokestatic 51, 3) := by decide +kernel
theorem dX7_bestHold_63 : decode cX7_bestHold 63 = .ok (.iload 4, 2) := by decide +kernel
theorem dX7_bestHold_65 : decode cX7_bestHold 65 = .ok (.iastore, 1) := by decide +kernel
theorem dX7_bestHold_66 : decode cX7_bestHold 66 = .ok (.aload_n 0, 1) := by decide +kernel
theorem dX7_bestHold_67 : decode cX7_bestHold 67 = .ok (.iload_n 1, 1) := by decide +kernel
theorem dX7_bestHold_68 : decode cX7_bestHold 68 = .ok (.invokevirtual 267, 3) := by decide +kernel
theorem dX7_bestHold_71 : decode cX7_bestHold 71 = .ok (.istore 5, 2) := by decide +kernel
theorem dX7_bestHold_73 : decode cX7_bestHold 73 = .ok (.iload 5, 2) := by decide +kernel
theorem dX7_bestHold_75 : decode cX7_bestHold 75 = .ok (.bipush (-9), 2) := by decide +kernel
theorem dX7_bestHold_77 : decode cX7_bestHold 77 = .ok (.if_icmp .eq 27, 3) := by decide +kernel
theorem dX7_bestHold_80 : decode cX7_bestHold 80 = .ok (.iload_n 2, 1) := by decide +kernel
theorem dX7_bestHold_81 : decode cX7_bestHold 81 = .ok (.bipush (-9), 2) := by decide +kernel
theorem dX7_bestHold_83 : decode cX7_bestHold 83 = .ok (.if_icmp .eq 12, 3) := by decide +kernel
theorem dX7_bestHold_86 : decode cX7_bestHold 86 = .ok (.iload 5, 2) := by decide +kernel
theorem dX7_bestHold_88 : decode cX7_bestHold 88 = .ok (.iload 4, 2) := by decide +kernel
theorem dX7_bestHold_90 : decode cX7_bestHold 90 = .ok (.isub, 1) := by decide +kernel
theorem dX7_bestHold_91 : decode cX7_bestHold 91 = .ok (.iload_n 3, 1) := by decide +kernel
theorem dX7_bestHold_92 : decode cX7_bestHold 92 = .ok (.if_icmp .ge 12, 3) := by decide +kernel
theorem dX7_bestHold_95 : decode cX7_bestHold 95 = .ok (.iload 4, 2) := by decide +kernel
theorem dX7_bestHold_97 : decode cX7_bestHold 97 = .ok (.istore_n 2, 1) := by decide +kernel
theorem dX7_bestHold_98 : decode cX7_bestHold 98 = .ok (.iload 5, 2) := by decide +kernel
theorem dX7_bestHold_100 : decode cX7_bestHold 100 = .ok (.iload 4, 2) := by decide +kernel
theorem dX7_bestHold_102 : decode cX7_bestHold 102 = .ok (.isub, 1) := by decide +kernel
theorem dX7_bestHold_103 : decode cX7_bestHold 103 = .ok (.istore_n 3, 1) := by decide +kernel
theorem dX7_bestHold_104 : decode cX7_bestHold 104 = .ok (.iinc 4 1, 3) := by decide +kernel
theorem dX7_bestHold_107 : decode cX7_bestHold 107 = .ok (.goto (-64), 3) := by decide +kernel
theorem dX7_bestHold_110 : decode cX7_bestHold 110 = .ok (.iload_n 2, 1) := by decide +kernel
theorem dX7_bestHold_111 : decode cX7_bestHold 111 = .ok (.ireturn, 1) := by decide +kernel
set_option maxRecDepth 20000 in
theorem ggX7_allArrive_X7_countAt : GoodIn wsX7_allArrive wsX7_countAt := goodIn_r _ [5, 6, 7, 4, 8] (by decide +kernel) (by decide +kernel)
set_option maxRecDepth 20000 in
theorem gX7_allArrive_X7_countAt : GoodIn wsX7_allArrive (va_wsS RX7 130 yX7_countAt wsX7_countAt) := goodIn_app (goodIn_of _ (by decide +kernel)) ggX7_allArrive_X7_countAt
set_option maxRecDepth 20000 in
theorem ggX7_allArrive_X7_goHour : GoodIn wsX7_allArrive wsX7_goHour := goodIn_r _ [12, 13, 14, 4, 15, 16, 17, 18, 19, 20, 21, 22, 23, 24, 25, 26, 27, 28, 29, 30, 31, 32, 33, 34, 35, 36, 37, 6, 7, 8, 38, 39, 40, 41, 42, 43, 44, 45, 46, 47, 48, 49, 50, 51, 52, 53, 54, 55, 56, 57, 58, 59, 60, 61, 62, 63, 64, 65, 66, 67, 68, 69, 70, 71, 72, 73, 74, 75, 76, 77, 78, 79, 80, 81, 82, 83, 84, 85, 86, 87, 88, 89, 90, 91, 92, 93, 94, 95, 96, 97, 98, 99] (by decide +kernel) (by decide +kernel)
set_option maxRecDepth 20000 in
theorem gX7_allArrive_X7_goHour : GoodIn wsX7_allArrive (wsV RX7 133 RX7 yX7_goHour wsX7_goHour) := goodIn_app (goodIn_of _ (by decide +kernel)) ggX7_allArrive_X7_goHour
theorem dX7_allArrive_0 : decode cX7_allArrive 0 = .ok (.iconst 0, 1) := by decide +kernel
theorem dX7_allArrive_1 : decode cX7_allArrive 1 = .ok (.istore_n 1, 1) := by decide +kernel
theorem dX7_allArrive_2 : decode cX7_allArrive 2 = .ok (.iload_n 1, 1) := by decide +kernel
theorem dX7_allArrive_3 : decode cX7_allArrive 3 = .ok (.sipush 300, 3) := by decide +kernel
theorem dX7_allArrive_6 : decode cX7_allArrive 6 = .ok (.if_icmp .gt 37, 3) := by decide +kernel
theorem dX7_allArrive_9 : decode cX7_allArrive 9 = .ok (.aload_n 0, 1) := by decide +kernel
theorem dX7_allArrive_10 : decode cX7_allArrive 10 = .ok (.getfield 19, 3) := by decide +kernel
theorem dX7_allArrive_13 : decode cX7_allArrive 13 = .ok (.iconst 2, 1) := by decide +kernel
theorem dX7_allArrive_14 : decode cX7_allArrive 14 = .ok (.invokestatic 130, 3) := by decide +kernel
theorem dX7_allArrive_17 : decode cX7_allArrive 17 = .ok (.aload_n 0, 1) := by decide +kernel
theorem dX7_allArrive_18 : decode cX7_allArrive 18 = .ok (.getfield 19, 3) := by decide +kernel
theorem dX7_allArrive_21 : decode cX7_allArrive 21 = .ok (.bipush 6, 2) := by decide +kernel
theorem dX7_allArrive_23 : decode cX7_allArrive 23 = .ok (.iaload, 1) := by decide +kernel
theorem dX7_allArrive_24 : decode cX7_allArrive 24 = .ok (.if_icmp .ne 5, 3) := by decide +kernel
theorem dX7_allArrive_27 : decode cX7_allArrive 27 = .ok (.iconst 1, 1) := by decide +kernel
theorem dX7_allArrive_28 : decode cX7_allArrive 28 = .ok (.ireturn, 1) := by decide +kernel
theorem dX7_allArrive_29 : decode cX7_allArrive 29 = .ok (.aload_n 0, 1) := by decide +kernel
theorem dX7_allArrive_30 : decode cX7_allArrive 30 = .ok (.aload_n 0, 1) := by decide +kernel
theorem dX7_allArrive_31 : decode cX7_allArrive 31 = .ok (.getfield 19, 3) := by decide +kernel
theorem dX7_allArrive_34 : decode cX7_allArrive 34 = .ok (.invokevirtual 133, 3) := by decide +kernel
theorem dX7_allArrive_37 : decode cX7_allArrive 37 = .ok (.iinc 1 1, 3) := by decide +kernel
theorem dX7_allArrive_40 : decode cX7_allArrive 40 = .ok (.goto (-38), 3) := by decide +kernel
theorem dX7_allArrive_43 : decode cX7_allArrive 43 = .ok (.iconst 0, 1) := by decide +kernel
theorem dX7_allArrive_44 : decode cX7_allArrive 44 = .ok (.ireturn, 1) := by decide +kernel
set_option maxRecDepth 20000 in
theorem ggX7_lacks_X7_isDepot : GoodIn wsX7_lacks wsX7_isDepot := goodIn_r _ [6, 7, 8, 9, 5, 10, 110, 111, 112, 113, 114, 115, 116, 117, 118, 119, 120, 121, 122, 123] (by decide +kernel) (by decide +kernel)
set_option maxRecDepth 20000 in
theorem gX7_lacks_X7_isDepot : GoodIn wsX7_lacks (wsV RX7 236 RX7 yX7_isDepot wsX7_isDepot) := goodIn_app (goodIn_of _ (by decide +kernel)) ggX7_lacks_X7_isDepot
set_option maxRecDepth 20000 in
theorem ggX7_lacks_X7_refused : GoodIn wsX7_lacks wsX7_refused := goodIn_r _ [14, 15, 110, 111, 112, 113, 114, 115, 116, 117, 118, 119, 120, 121, 122, 123] (by decide +kernel) (by decide +kernel)
set_option maxRecDepth 20000 in
theorem gX7_lacks_X7_refused : GoodIn wsX7_lacks (wsV RX7 146 RX7 yX7_refused wsX7_refused) := goodIn_app (goodIn_of _ (by decide +kernel)) ggX7_lacks_X7_refused
set_option maxRecDepth 20000 in
theorem ggX7_lacks_X7_begin : GoodIn wsX7_lacks wsX7_begin := goodIn_r _ [19, 7, 1, 20, 21, 5, 22, 110, 111, 112, 113, 114, 115, 116, 117, 118, 119, 120, 121, 122, 123] (by decide +kernel) (by decide +kernel)
set_option maxRecDepth 20000 in
theorem gX7_lacks_X7_begin : GoodIn wsX7_lacks (wsV RX7 264 RX7 yX7_begin wsX7_begin) := goodIn_app (goodIn_of _ (by decide +kernel)) ggX7_lacks_X7_begin
set_option maxRecDepth 20000 in
theorem ggX7_lacks_X7_depotAt : GoodIn wsX7_lacks wsX7_depotAt := goodIn_r _ [25] (by decide +kernel) (by decide +kernel)
set_option maxRecDepth 20000 in
theorem gX7_lacks_X7_depotAt : GoodIn wsX7_lacks (va_wsS RX7 61 yX7_depotAt wsX7_depotAt) := goodIn_app (goodIn_of _ (by decide +kernel)) ggX7_lacks_X7_depotAt
set_option maxRecDepth 20000 in
theorem ggX7_lacks_X7_allArrive : GoodIn wsX7_lacks wsX7_allArrive := goodIn_r _ [29, 1, 30, 31, 5, 32, 33, 34, 35, 36, 37, 38, 39, 40, 41, 42, 43, 44, 45, 46, 47, 48, 49, 50, 51, 52, 53, 54, 55, 56, 57, 58, 23, 24, 25, 59, 60, 61, 62, 63, 64, 65, 66, 67, 68, 69, 70, 71, 72, 73, 74, 75, 76, 77, 78, 79, 80, 81, 82, 83, 84, 85, 86, 87, 88, 89, 90, 91, 92, 93, 94, 95, 96, 97, 98, 99, 100, 101, 102, 103, 104, 105, 106, 107, 108, 109, 110, 111, 112, 113, 114, 115, 116, 117, 118, 119, 120, 121, 122, 123] (by decide +kernel) (by decide +kernel)
set_option maxRecDepth 20000 in
theorem gX7_lacks_X7_allArrive : GoodIn wsX7_lacks (wsV RX7 270 RX7 yX7_allArrive wsX7_allArrive) := goodIn_app (goodIn_of _ (by decide +kernel)) ggX7_lacks_X7_allArrive
theorem dX7_lacks_0 : decode cX7_lacks 0 = .ok (.aload_n 0, 1) := by decide +kernel
theorem dX7_lacks_1 : decode cX7_lacks 1 = .ok (.aload_n 0, 1) := by decide +kernel
theorem dX7_lacks_2 : decode cX7_lacks 2 = .ok (.iload_n 1, 1) := by decide +kernel
theorem dX7_lacks_3 : decode cX7_lacks 3 = .ok (.invokevirtual 236, 3) := by decide +kernel
theorem dX7_lacks_6 : decode cX7_lacks 6 = .ok (.ifCond .eq 7, 3) := by decide +kernel
theorem dX7_lacks_9 : decode cX7_lacks 9 = .ok (.iconst 0, 1) := by decide +kernel
theorem dX7_lacks_10 : decode cX7_lacks 10 = .ok (.goto 4, 3) := by decide +kernel
theorem dX7_lacks_13 : decode cX7_lacks 13 = .ok (.iconst 1, 1) := by decide +kernel
theorem dX7_lacks_14 : decode cX7_lacks 14 = .ok (.invokevirtual 146, 3) := by decide +kernel
theorem dX7_lacks_17 : decode cX7_lacks 17 = .ok (.ifCond .eq 5, 3) := by decide +kernel
theorem dX7_lacks_20 : decode cX7_lacks 20 = .ok (.iconst 0, 1) := by decide +kernel
theorem dX7_lacks_21 : decode cX7_lacks 21 = .ok (.ireturn, 1) := by decide +kernel
theorem dX7_lacks_22 : decode cX7_lacks 22 = .ok (.iconst 0, 1) := by decide +kernel
theorem dX7_lacks_23 : decode cX7_lacks 23 = .ok (.istore_n 2, 1) := by decide +kernel
theorem dX7_lacks_24 : decode cX7_lacks 24 = .ok (.iload_n 2, 1) := by decide +kernel
theorem dX7_lacks_25 : decode cX7_lacks 25 = .ok (.bipush 40, 2) := by decide +kernel
theorem dX7_lacks_27 : decode cX7_lacks 27 = .ok (.if_icmp .gt 36, 3) := by decide +kernel
theorem dX7_lacks_30 : decode cX7_lacks 30 = .ok (.aload_n 0, 1) := by decide +kernel
theorem dX7_lacks_31 : decode cX7_lacks 31 = .ok (.invokevirtual 264, 3) := by decide +kernel
theorem dX7_lacks_34 : decode cX7_lacks 34 = .ok (.aload_n 0, 1) := by decide +kernel
theorem dX7_lacks_35 : decode cX7_lacks 35 = .ok (.getfield 19, 3) := by decide +kernel
theorem dX7_lacks_38 : decode cX7_lacks 38 = .ok (.iload_n 1, 1) := by decide +kernel
theorem dX7_lacks_39 : decode cX7_lacks 39 = .ok (.iconst 1, 1) := by decide +kernel
theorem dX7_lacks_40 : decode cX7_lacks 40 = .ok (.invokestatic 61, 3) := by decide +kernel
theorem dX7_lacks_43 : decode cX7_lacks 43 = .ok (.dup2, 1) := by decide +kernel
theorem dX7_lacks_44 : decode cX7_lacks 44 = .ok (.iaload, 1) := by decide +kernel
theorem dX7_lacks_45 : decode cX7_lacks 45 = .ok (.iload_n 2, 1) := by decide +kernel
theorem dX7_lacks_46 : decode cX7_lacks 46 = .ok (.iadd, 1) := by decide +kernel
theorem dX7_lacks_47 : decode cX7_lacks 47 = .ok (.iastore, 1) := by decide +kernel
theorem dX7_lacks_48 : decode cX7_lacks 48 = .ok (.aload_n 0, 1) := by decide +kernel
theorem dX7_lacks_49 : decode cX7_lacks 49 = .ok (.invokevirtual 270, 3) := by decide +kernel
theorem dX7_lacks_52 : decode cX7_lacks 52 = .ok (.ifCond .eq 5, 3) := by decide +kernel
theorem dX7_lacks_55 : decode cX7_lacks 55 = .ok (.iload_n 2, 1) := by decide +kernel
theorem dX7_lacks_56 : decode cX7_lacks 56 = .ok (.ireturn, 1) := by decide +kernel
theorem dX7_lacks_57 : decode cX7_lacks 57 = .ok (.iinc 2 1, 3) := by decide +kernel
theorem dX7_lacks_60 : decode cX7_lacks 60 = .ok (.goto (-36), 3) := by decide +kernel
theorem dX7_lacks_63 : decode cX7_lacks 63 = .ok (.bipush (-9), 2) := by decide +kernel
theorem dX7_lacks_65 : decode cX7_lacks 65 = .ok (.ireturn, 1) := by decide +kernel
set_option maxRecDepth 20000 in
theorem ggX7_does_X7_goHours : GoodIn wsX7_does wsX7_goHours := goodIn_r _ [7, 8, 9, 6, 10, 11, 12, 13, 14, 15, 16, 17, 18, 19, 20, 21, 22, 23, 24, 25, 26, 27, 28, 29, 30, 31, 32, 33, 34, 35, 36, 37, 38, 39, 40, 41, 42, 43, 44, 45, 46, 47, 48, 49, 50, 51, 52, 53, 54, 55, 56, 57, 58, 59, 60, 61, 62, 63, 64, 65, 66, 67, 68, 69, 70, 71, 72, 73, 74, 75, 76, 77, 78, 79, 80, 81, 82, 83, 84, 85, 86, 87, 88, 89, 90, 98, 99, 100, 101, 102, 103, 104, 105, 106, 107, 108, 109, 110, 111] (by decide +kernel) (by decide +kernel)
set_option maxRecDepth 20000 in
theorem gX7_does_X7_goHours : GoodIn wsX7_does (wsV RX7 261 RX7 yX7_goHours wsX7_goHours) := goodIn_app (goodIn_of _ (by decide +kernel)) ggX7_does_X7_goHours
set_option maxRecDepth 20000 in
theorem ggX7_does_X7_isHold : GoodIn wsX7_does wsX7_isHold := goodIn_r _ [93, 94, 95, 96, 6, 97] (by decide +kernel) (by decide +kernel)
set_option maxRecDepth 20000 in
theorem gX7_does_X7_isHold : GoodIn wsX7_does (va_wsS RX7 256 yX7_isHold wsX7_isHold) := goodIn_app (goodIn_of _ (by decide +kernel)) ggX7_does_X7_isHold
set_option maxRecDepth 20000 in
theorem ggX7_does_X7_convoyAt : GoodIn wsX7_does wsX7_convoyAt := goodIn_r _ [23] (by decide +kernel) (by decide +kernel)
set_option maxRecDepth 20000 in
theorem gX7_does_X7_convoyAt : GoodIn wsX7_does (va_wsS RX7 51 yX7_convoyAt wsX7_convoyAt) := goodIn_app (goodIn_of _ (by decide +kernel)) ggX7_does_X7_convoyAt
set_option maxRecDepth 20000 in
theorem ggX7_does_X7_in : GoodIn wsX7_does wsX7_in := goodIn_r _ [97] (by decide +kernel) (by decide +kernel)
set_option maxRecDepth 20000 in
theorem gX7_does_X7_in : GoodIn wsX7_does (va_wsS RX7 139 yX7_in wsX7_in) := goodIn_app (goodIn_of _ (by decide +kernel)) ggX7_does_X7_in
set_option maxRecDepth 20000 in
theorem ggX7_does_X7_depotAt : GoodIn wsX7_does wsX7_depotAt := goodIn_r _ [39] (by decide +kernel) (by decide +kernel)
set_option maxRecDepth 20000 in
theorem gX7_does_X7_depotAt : GoodIn wsX7_does (va_wsS RX7 61 yX7_depotAt wsX7_depotAt) := goodIn_app (goodIn_of _ (by decide +kernel)) ggX7_does_X7_depotAt
set_option maxRecDepth 20000 in
theorem ggX7_does_X7_carAt : GoodIn wsX7_does wsX7_carAt := goodIn_r _ [13] (by decide +kernel) (by decide +kernel)
set_option maxRecDepth 20000 in
theorem gX7_does_X7_carAt : GoodIn wsX7_does (va_wsS RX7 72 yX7_carAt wsX7_carAt) := goodIn_app (goodIn_of _ (by decide +kernel)) ggX7_does_X7_carAt
set_option maxRecDepth 20000 in
theorem ggX7_does_X7_isClosed : GoodIn wsX7_does wsX7_isClosed := goodIn_r _ [54, 49, 50, 6, 51] (by decide +kernel) (by decide +kernel)
set_option maxRecDepth 20000 in
theorem gX7_does_X7_isClosed : GoodIn wsX7_does (va_wsS RX7 109 yX7_isClosed wsX7_isClosed) := goodIn_app (goodIn_of _ (by decide +kernel)) ggX7_does_X7_isClosed
set_option maxRecDepth 20000 in
theorem ggX7_does_X7_bayAt : GoodIn wsX7_does wsX7_bayAt := goodIn_r _ [66] (by decide +kernel) (by decide +kernel)
set_option maxRecDepth 20000 in
theorem gX7_does_X7_bayAt : GoodIn wsX7_does (va_wsS RX7 58 yX7_bayAt wsX7_bayAt) := goodIn_app (goodIn_of _ (by decide +kernel)) ggX7_does_X7_bayAt
set_option maxRecDepth 20000 in
theorem ggX7_does_X7_countAt : GoodIn wsX7_does wsX7_countAt := goodIn_r _ [10, 11, 12, 6, 13] (by decide +kernel) (by decide +kernel)
set_option maxRecDepth 20000 in
theorem gX7_does_X7_countAt : GoodIn wsX7_does (va_wsS RX7 130 yX7_countAt wsX7_countAt) := goodIn_app (goodIn_of _ (by decide +kernel)) ggX7_does_X7_countAt
theorem dX7_does_0 : decode cX7_does 0 = .ok (.iload_n 1, 1) := by decide +kernel
theorem dX7_does_1 : decode cX7_does 1 = .ok (.sipush 10000, 3) := by decide +kernel
theorem dX7_does_4 : decode cX7_does 4 = .ok (.idiv, 1) := by decide +kernel
theorem dX7_does_5 : decode cX7_does 5 = .ok (.istore_n 2, 1) := by decide +kernel
theorem dX7_does_6 : decode cX7_does 6 = .ok (.iload_n 1, 1) := by decide +kernel
theorem dX7_does_7 : decode cX7_does 7 = .ok (.sipush 1000, 3) := by decide +kernel
theorem dX7_does_10 : decode cX7_does 10 = .ok (.idiv, 1) := by decide +kernel
theorem dX7_does_11 : decode cX7_does 11 = .ok (.bipush 10, 2) := by decide +kernel
theorem dX7_does_13 : decode cX7_does 13 = .ok (.irem, 1) := by decide +kernel
theorem dX7_does_14 : decode cX7_does 14 = .ok (.istore_n 3, 1) := by decide +kernel
theorem dX7_does_15 : decode cX7_does 15 = .ok (.iload_n 1, 1) := by decide +kernel
theorem dX7_does_16 : decode cX7_does 16 = .ok (.bipush 100, 2) := by decide +kernel
theorem dX7_does_18 : decode cX7_does 18 = .ok (.idiv, 1) := by decide +kernel
theorem dX7_does_19 : decode cX7_does 19 = .ok (.bipush 10, 2) := by decide +kernel
theorem dX7_does_21 : decode cX7_does 21 = .ok (.irem, 1) := by decide +kernel
theorem dX7_does_22 : decode cX7_does 22 = .ok (.istore 4, 2) := by decide +kernel
theorem dX7_does_24 : decode cX7_does 24 = .ok (.iload_n 1, 1) := by decide +kernel
theorem dX7_does_25 : decode cX7_does 25 = .ok (.bipush 100, 2) := by decide +kernel
theorem dX7_does_27 : decode cX7_does 27 = .ok (.irem, 1) := by decide +kernel
theorem dX7_does_28 : decode cX7_does 28 = .ok (.istore 5, 2) := by decide +kernel
theorem dX7_does_30 : decode cX7_does 30 = .ok (.iload_n 1, 1) := by decide +kernel
theorem dX7_does_31 : decode cX7_does 31 = .ok (.bipush 100, 2) := by decide +kernel
theorem dX7_does_33 : decode cX7_does 33 = .ok (.idiv, 1) := by decide +kernel
theorem dX7_does_34 : decode cX7_does 34 = .ok (.bipush 100, 2) := by decide +kernel
theorem dX7_does_36 : decode cX7_does 36 = .ok (.irem, 1) := by decide +kernel
theorem dX7_does_37 : decode cX7_does 37 = .ok (.istore 6, 2) := by decide +kernel
theorem dX7_does_39 : decode cX7_does 39 = .ok (.iload_n 1, 1) := by decide +kernel
theorem dX7_does_40 : decode cX7_does 40 = .ok (.sipush 1000, 3) := by decide +kernel
theorem dX7_does_43 : decode cX7_does 43 = .ok (.irem, 1) := by decide +kernel
theorem dX7_does_44 : decode cX7_does 44 = .ok (.istore 7, 2) := by decide +kernel
theorem dX7_does_46 : decode cX7_does 46 = .ok (.iload_n 2, 1) := by decide +kernel
theorem dX7_does_47 : decode cX7_does 47 = .ok (.tableswitch 391 1 9 #[49, 74, 113, 174, 210, 244, 285, 329, 367], 49) := by decide +kernel
theorem dX7_does_96 : decode cX7_does 96 = .ok (.iload 6, 2) := by decide +kernel
theorem dX7_does_98 : decode cX7_does 98 = .ok (.ifCond .ne 8, 3) := by decide +kernel
theorem dX7_does_101 : decode cX7_does 101 = .ok (.iload 5, 2) := by decide +kernel
theorem dX7_does_103 : decode cX7_does 103 = .ok (.ifCond .ne 5, 3) := by decide +kernel
theorem dX7_does_106 : decode cX7_does 106 = .ok (.iconst 0, 1) := by decide +kernel
theorem dX7_does_107 : decode cX7_does 107 = .ok (.ireturn, 1) := by decide +kernel
theorem dX7_does_108 : decode cX7_does 108 = .ok (.aload_n 0, 1) := by decide +kernel
theorem dX7_does_109 : decode cX7_does 109 = .ok (.aload_n 0, 1) := by decide +kernel
theorem dX7_does_110 : decode cX7_does 110 = .ok (.getfield 19, 3) := by decide +kernel
theorem dX7_does_113 : decode cX7_does 113 = .ok (.iload 5, 2) := by decide +kernel
theorem dX7_does_115 : decode cX7_does 115 = .ok (.invokevirtual 261, 3) := by decide +kernel
theorem dX7_does_118 : decode cX7_does 118 = .ok (.pop, 1) := by decide +kernel
theorem dX7_does_119 : decode cX7_does 119 = .ok (.iconst 1, 1) := by decide +kernel
theorem dX7_does_120 : decode cX7_does 120 = .ok (.ireturn, 1) := by decide +kernel
theorem dX7_does_121 : decode cX7_does 121 = .ok (.iload_n 3, 1) := by decide +kernel
theorem dX7_does_122 : decode cX7_does 122 = .ok (.aload_n 0, 1) := by decide +kernel
theorem dX7_does_123 : decode cX7_does 123 = .ok (.getfield 19, 3) := by decide +kernel
theorem dX7_does_126 : decode cX7_does 126 = .ok (.iconst 5, 1) := by decide +kernel
theorem dX7_does_127 : decode cX7_does 127 = .ok (.iaload, 1) := by decide +kernel
theorem dX7_does_128 : decode cX7_does 128 = .ok (.if_icmp .ge 16, 3) := by decide +kernel
theorem dX7_does_131 : decode cX7_does 131 = .ok (.iload 4, 2) := by decide +kernel
theorem dX7_does_133 : decode cX7_does 133 = .ok (.ifCond .ne 11, 3) := by decide +kernel
theorem dX7_does_136 : decode cX7_does 136 = .ok (.iload 5, 2) := by decide +kernel
theorem dX7_does_138 : decode cX7_does 138 = .ok (.invokestatic 256, 3) := by decide +kernel
theorem dX7_does_141 : decode cX7_does 141 = .ok (.ifCond .ne 5, 3) := by decide +kernel
theorem dX7_does_144 : decode cX7_does 144 = .ok (.iconst 0, 1) := by decide +kernel
theorem dX7_does_145 : decode cX7_does 145 = .ok (.ireturn, 1) := by decide +kernel
theorem dX7_does_146 : decode cX7_does 146 = .ok (.aload_n 0, 1) := by decide +kernel
theorem dX7_does_147 : decode cX7_does 147 = .ok (.getfield 19, 3) := by decide +kernel
theorem dX7_does_150 : decode cX7_does 150 = .ok (.iload_n 3, 1) := by decide +kernel
theorem dX7_does_151 : decode cX7_does 151 = .ok (.iconst 2, 1) := by decide +kernel
theorem dX7_does_152 : decode cX7_does 152 = .ok (.invokestatic 51, 3) := by decide +kernel
theorem dX7_does_155 : decode cX7_does 155 = .ok (.iload 5, 2) := by decide +kernel
theorem dX7_does_157 : decode cX7_does 157 = .ok (.iastore, 1) := by decide +kernel
theorem dX7_does_158 : decode cX7_does 158 = .ok (.iconst 1, 1) := by decide +kernel
theorem dX7_does_159 : decode cX7_does 159 = .ok (.ireturn, 1) := by decide +kernel
theorem dX7_does_160 : decode cX7_does 160 = .ok (.iload_n 3, 1) := by decide +kernel
theorem dX7_does_161 : decode cX7_does 161 = .ok (.aload_n 0, 1) := by decide +kernel
theorem dX7_does_162 : decode cX7_does 162 = .ok (.getfield 19, 3) := by decide +kernel
theorem dX7_does_165 : decode cX7_does 165 = .ok (.iconst 4, 1) := by decide +kernel
theorem dX7_does_166 : decode cX7_does 166 = .ok (.iaload, 1) := by decide +kernel
theorem dX7_does_167 : decode cX7_does 167 = .ok (.if_icmp .ge 35, 3) := by decide +kernel
theorem dX7_does_170 : decode cX7_does 170 = .ok (.iload 7, 2) := by decide +kernel
theorem dX7_does_172 : decode cX7_does 172 = .ok (.i2l, 1) := by decide +kernel
theorem dX7_does_173 : decode cX7_does 173 = .ok (.lconst 1, 1) := by decide +kernel
theorem dX7_does_174 : decode cX7_does 174 = .ok (.ldc2_w 259, 3) := by decide +kernel
theorem dX7_does_177 : decode cX7_does 177 = .ok (.invokestatic 139, 3) := by decide +kernel
theorem dX7_does_180 : decode cX7_does 180 = .ok (.ifCond .eq 22, 3) := by decide +kernel
theorem dX7_does_183 : decode cX7_does 183 = .ok (.aload_n 0, 1) := by decide +kernel
theorem dX7_does_184 : decode cX7_does 184 = .ok (.getfield 19, 3) := by decide +kernel
theorem dX7_does_187 : decode cX7_does 187 = .ok (.iload_n 3, 1) := by decide +kernel
theorem dX7_does_188 : decode cX7_does 188 = .ok (.iconst 1, 1) := by decide +kernel
theorem dX7_does_189 : decode cX7_does 189 = .ok (.invokestatic 61, 3) := by decide +kernel
theorem dX7_does_192 : decode cX7_does 192 = .ok (.iaload, 1) := by decide +kernel
theorem dX7_does_193 : decode cX7_does 193 = .ok (.iload 7, 2) := by decide +kernel
theorem dX7_does_195 : decode cX7_does 195 = .ok (.iadd, 1) := by decide +kernel
theorem dX7_does_196 : decode cX7_does 196 = .ok (.sipush 999, 3) := by decide +kernel
theorem dX7_does_199 : decode cX7_does 199 = .ok (.if_icmp .le 5, 3) := by decide +kernel
theorem dX7_does_202 : decode cX7_does 202 = .ok (.iconst 0, 1) := by decide +kernel
theorem dX7_does_203 : decode cX7_does 203 = .ok (.ireturn, 1) := by decide +kernel
theorem dX7_does_204 : decode cX7_does 204 = .ok (.aload_n 0, 1) := by decide +kernel
theorem dX7_does_205 : decode cX7_does 205 = .ok (.getfield 19, 3) := by decide +kernel
theorem dX7_does_208 : decode cX7_does 208 = .ok (.iload_n 3, 1) := by decide +kernel
theorem dX7_does_209 : decode cX7_does 209 = .ok (.iconst 1, 1) := by decide +kernel
theorem dX7_does_210 : decode cX7_does 210 = .ok (.invokestatic 61, 3) := by decide +kernel
theorem dX7_does_213 : decode cX7_does 213 = .ok (.dup2, 1) := by decide +kernel
theorem dX7_does_214 : decode cX7_does 214 = .ok (.iaload, 1) := by decide +kernel
theorem dX7_does_215 : decode cX7_does 215 = .ok (.iload 7, 2) := by decide +kernel
theorem dX7_does_217 : decode cX7_does 217 = .ok (.iadd, 1) := by decide +kernel
theorem dX7_does_218 : decode cX7_does 218 = .ok (.iastore, 1) := by decide +kernel
theorem dX7_does_219 : decode cX7_does 219 = .ok (.iconst 1, 1) := by decide +kernel
theorem dX7_does_220 : decode cX7_does 220 = .ok (.ireturn, 1) := by decide +kernel
theorem dX7_does_221 : decode cX7_does 221 = .ok (.iload_n 3, 1) := by decide +kernel
theorem dX7_does_222 : decode cX7_does 222 = .ok (.aload_n 0, 1) := by decide +kernel
theorem dX7_does_223 : decode cX7_does 223 = .ok (.getfield 19, 3) := by decide +kernel
theorem dX7_does_226 : decode cX7_does 226 = .ok (.iconst 5, 1) := by decide +kernel
theorem dX7_does_227 : decode cX7_does 227 = .ok (.iaload, 1) := by decide +kernel
theorem dX7_does_228 : decode cX7_does 228 = .ok (.if_icmp .ge 27, 3) := by decide +kernel
theorem dX7_does_231 : decode cX7_does 231 = .ok (.iload 4, 2) := by decide +kernel
theorem dX7_does_233 : decode cX7_does 233 = .ok (.ifCond .ne 22, 3) := by decide +kernel
theorem dX7_does_236 : decode cX7_does 236 = .ok (.aload_n 0, 1) := by decide +kernel
theorem dX7_does_237 : decode cX7_does 237 = .ok (.getfield 19, 3) := by decide +kernel
theorem dX7_does_240 : decode cX7_does 240 = .ok (.iload_n 3, 1) := by decide +kernel
theorem dX7_does_241 : decode cX7_does 241 = .ok (.iconst 0, 1) := by decide +kernel
theorem dX7_does_242 : decode cX7_does 242 = .ok (.invokestatic 51, 3) := by decide +kernel
theorem dX7_does_245 : decode cX7_does 245 = .ok (.iaload, 1) := by decide +kernel
theorem dX7_does_246 : decode cX7_does 246 = .ok (.iload 5, 2) := by decide +kernel
theorem dX7_does_248 : decode cX7_does 248 = .ok (.if_icmp .lt 7, 3) := by decide +kernel
theorem dX7_does_251 : decode cX7_does 251 = .ok (.iconst 1, 1) := by decide +kernel
theorem dX7_does_252 : decode cX7_does 252 = .ok (.goto 4, 3) := by decide +kernel
theorem dX7_does_255 : decode cX7_does 255 = .ok (.iconst 0, 1) := by decide +kernel
theorem dX7_does_256 : decode cX7_does 256 = .ok (.ireturn, 1) := by decide +kernel
theorem dX7_does_257 : decode cX7_does 257 = .ok (.iload 6, 2) := by decide +kernel
theorem dX7_does_259 : decode cX7_does 259 = .ok (.aload_n 0, 1) := by decide +kernel
theorem dX7_does_260 : decode cX7_does 260 = .ok (.getfield 19, 3) := by decide +kernel
theorem dX7_does_263 : decode cX7_does 263 = .ok (.bipush 6, 2) := by decide +kernel
theorem dX7_does_265 : decode cX7_does 265 = .ok (.iaload, 1) := by decide +kernel
theorem dX7_does_266 : decode cX7_does 266 = .ok (.if_icmp .ge 23, 3) := by decide +kernel
theorem dX7_does_269 : decode cX7_does 269 = .ok (.aload_n 0, 1) := by decide +kernel
theorem dX7_does_270 : decode cX7_does 270 = .ok (.getfield 19, 3) := by decide +kernel
theorem dX7_does_273 : decode cX7_does 273 = .ok (.iload 6, 2) := by decide +kernel
theorem dX7_does_275 : decode cX7_does 275 = .ok (.iconst 3, 1) := by decide +kernel
theorem dX7_does_276 : decode cX7_does 276 = .ok (.invokestatic 72, 3) := by decide +kernel
theorem dX7_does_279 : decode cX7_does 279 = .ok (.iaload, 1) := by decide +kernel
theorem dX7_does_280 : decode cX7_does 280 = .ok (.iload 5, 2) := by decide +kernel
theorem dX7_does_282 : decode cX7_does 282 = .ok (.if_icmp .lt 7, 3) := by decide +kernel
theorem dX7_does_285 : decode cX7_does 285 = .ok (.iconst 1, 1) := by decide +kernel
theorem dX7_does_286 : decode cX7_does 286 = .ok (.goto 4, 3) := by decide +kernel
theorem dX7_does_289 : decode cX7_does 289 = .ok (.iconst 0, 1) := by decide +kernel
theorem dX7_does_290 : decode cX7_does 290 = .ok (.ireturn, 1) := by decide +kernel
theorem dX7_does_291 : decode cX7_does 291 = .ok (.iload 6, 2) := by decide +kernel
theorem dX7_does_293 : decode cX7_does 293 = .ok (.aload_n 0, 1) := by decide +kernel
theorem dX7_does_294 : decode cX7_does 294 = .ok (.getfield 19, 3) := by decide +kernel
theorem dX7_does_297 : decode cX7_does 297 = .ok (.bipush 6, 2) := by decide +kernel
theorem dX7_does_299 : decode cX7_does 299 = .ok (.iaload, 1) := by decide +kernel
theorem dX7_does_300 : decode cX7_does 300 = .ok (.if_icmp .ge 30, 3) := by decide +kernel
theorem dX7_does_303 : decode cX7_does 303 = .ok (.iload 5, 2) := by decide +kernel
theorem dX7_does_305 : decode cX7_does 305 = .ok (.bipush 10, 2) := by decide +kernel
theorem dX7_does_307 : decode cX7_does 307 = .ok (.if_icmp .ge 23, 3) := by decide +kernel
theorem dX7_does_310 : decode cX7_does 310 = .ok (.aload_n 0, 1) := by decide +kernel
theorem dX7_does_311 : decode cX7_does 311 = .ok (.getfield 19, 3) := by decide +kernel
theorem dX7_does_314 : decode cX7_does 314 = .ok (.iload 6, 2) := by decide +kernel
theorem dX7_does_316 : decode cX7_does 316 = .ok (.iconst 4, 1) := by decide +kernel
theorem dX7_does_317 : decode cX7_does 317 = .ok (.invokestatic 72, 3) := by decide +kernel
theorem dX7_does_320 : decode cX7_does 320 = .ok (.iaload, 1) := by decide +kernel
theorem dX7_does_321 : decode cX7_does 321 = .ok (.iload 5, 2) := by decide +kernel
theorem dX7_does_323 : decode cX7_does 323 = .ok (.if_icmp .ne 7, 3) := by decide +kernel
theorem dX7_does_326 : decode cX7_does 326 = .ok (.iconst 1, 1) := by decide +kernel
theorem dX7_does_327 : decode cX7_does 327 = .ok (.goto 4, 3) := by decide +kernel
theorem dX7_does_330 : decode cX7_does 330 = .ok (.iconst 0, 1) := by decide +kernel
theorem dX7_does_331 : decode cX7_does 331 = .ok (.ireturn, 1) := by decide +kernel
theorem dX7_does_332 : decode cX7_does 332 = .ok (.iload_n 3, 1) := by decide +kernel
theorem dX7_does_333 : decode cX7_does 333 = .ok (.aload_n 0, 1) := by decide +kernel
theorem dX7_does_334 : decode cX7_does 334 = .ok (.getfield 19, 3) := by decide +kernel
theorem dX7_does_337 : decode cX7_does 337 = .ok (.iconst 2, 1) := by decide +kernel
theorem dX7_does_338 : decode cX7_does 338 = .ok (.iaload, 1) := by decide +kernel
theorem dX7_does_339 : decode cX7_does 339 = .ok (.if_icmp .ge 35, 3) := by decide +kernel
theorem dX7_does_342 : decode cX7_does 342 = .ok (.iload 7, 2) := by decide +kernel
theorem dX7_does_344 : decode cX7_does 344 = .ok (.iconst 2, 1) := by decide +kernel
theorem dX7_does_345 : decode cX7_does 345 = .ok (.if_icmp .ge 29, 3) := by decide +kernel
theorem dX7_does_348 : decode cX7_does 348 = .ok (.aload_n 0, 1) := by decide +kernel
theorem dX7_does_349 : decode cX7_does 349 = .ok (.getfield 19, 3) := by decide +kernel
theorem dX7_does_352 : decode cX7_does 352 = .ok (.iload_n 3, 1) := by decide +kernel
theorem dX7_does_353 : decode cX7_does 353 = .ok (.invokestatic 109, 3) := by decide +kernel
theorem dX7_does_356 : decode cX7_does 356 = .ok (.iload 7, 2) := by decide +kernel
theorem dX7_does_358 : decode cX7_does 358 = .ok (.iconst 1, 1) := by decide +kernel
theorem dX7_does_359 : decode cX7_does 359 = .ok (.if_icmp .ne 7, 3) := by decide +kernel
theorem dX7_does_362 : decode cX7_does 362 = .ok (.iconst 1, 1) := by decide +kernel
theorem dX7_does_363 : decode cX7_does 363 = .ok (.goto 4, 3) := by decide +kernel
theorem dX7_does_366 : decode cX7_does 366 = .ok (.iconst 0, 1) := by decide +kernel
theorem dX7_does_367 : decode cX7_does 367 = .ok (.if_icmp .ne 7, 3) := by decide +kernel
theorem dX7_does_370 : decode cX7_does 370 = .ok (.iconst 1, 1) := by decide +kernel
theorem dX7_does_371 : decode cX7_does 371 = .ok (.goto 4, 3) := by decide +kernel
theorem dX7_does_374 : decode cX7_does 374 = .ok (.iconst 0, 1) := by decide +kernel
theorem dX7_does_375 : decode cX7_does 375 = .ok (.ireturn, 1) := by decide +kernel
theorem dX7_does_376 : decode cX7_does 376 = .ok (.iload_n 3, 1) := by decide +kernel
theorem dX7_does_377 : decode cX7_does 377 = .ok (.aload_n 0, 1) := by decide +kernel
theorem dX7_does_378 : decode cX7_does 378 = .ok (.getfield 19, 3) := by decide +kernel
theorem dX7_does_381 : decode cX7_does 381 = .ok (.iconst 3, 1) := by decide +kernel
theorem dX7_does_382 : decode cX7_does 382 = .ok (.iaload, 1) := by decide +kernel
theorem dX7_does_383 : decode cX7_does 383 = .ok (.if_icmp .ge 29, 3) := by decide +kernel
theorem dX7_does_386 : decode cX7_does 386 = .ok (.iload 7, 2) := by decide +kernel
theorem dX7_does_388 : decode cX7_does 388 = .ok (.bipush 10, 2) := by decide +kernel
theorem dX7_does_390 : decode cX7_does 390 = .ok (.if_icmp .ge 22, 3) := by decide +kernel
theorem dX7_does_393 : decode cX7_does 393 = .ok (.aload_n 0, 1) := by decide +kernel
theorem dX7_does_394 : decode cX7_does 394 = .ok (.getfield 19, 3) := by decide +kernel
theorem dX7_does_397 : decode cX7_does 397 = .ok (.iload_n 3, 1) := by decide +kernel
theorem dX7_does_398 : decode cX7_does 398 = .ok (.iconst 2, 1) := by decide +kernel
theorem dX7_does_399 : decode cX7_does 399 = .ok (.invokestatic 58, 3) := by decide +kernel
theorem dX7_does_402 : decode cX7_does 402 = .ok (.iaload, 1) := by decide +kernel
theorem dX7_does_403 : decode cX7_does 403 = .ok (.iload 7, 2) := by decide +kernel
theorem dX7_does_405 : decode cX7_does 405 = .ok (.if_icmp .lt 7, 3) := by decide +kernel
theorem dX7_does_408 : decode cX7_does 408 = .ok (.iconst 1, 1) := by decide +kernel
theorem dX7_does_409 : decode cX7_does 409 = .ok (.goto 4, 3) := by decide +kernel
theorem dX7_does_412 : decode cX7_does 412 = .ok (.iconst 0, 1) := by decide +kernel
theorem dX7_does_413 : decode cX7_does 413 = .ok (.ireturn, 1) := by decide +kernel
theorem dX7_does_414 : decode cX7_does 414 = .ok (.iload 6, 2) := by decide +kernel
theorem dX7_does_416 : decode cX7_does 416 = .ok (.ifCond .ne 20, 3) := by decide +kernel
theorem dX7_does_419 : decode cX7_does 419 = .ok (.aload_n 0, 1) := by decide +kernel
theorem dX7_does_420 : decode cX7_does 420 = .ok (.getfield 19, 3) := by decide +kernel
theorem dX7_does_423 : decode cX7_does 423 = .ok (.iconst 2, 1) := by decide +kernel
theorem dX7_does_424 : decode cX7_does 424 = .ok (.invokestatic 130, 3) := by decide +kernel
theorem dX7_does_427 : decode cX7_does 427 = .ok (.iload 5, 2) := by decide +kernel
theorem dX7_does_429 : decode cX7_does 429 = .ok (.if_icmp .lt 7, 3) := by decide +kernel
theorem dX7_does_432 : decode cX7_does 432 = .ok (.iconst 1, 1) := by decide +kernel
theorem dX7_does_433 : decode cX7_does 433 = .ok (.goto 4, 3) := by decide +kernel
theorem dX7_does_436 : decode cX7_does 436 = .ok (.iconst 0, 1) := by decide +kernel
theorem dX7_does_437 : decode cX7_does 437 = .ok (.ireturn, 1) := by decide +kernel
theorem dX7_does_438 : decode cX7_does 438 = .ok (.iconst 0, 1) := by decide +kernel
theorem dX7_does_439 : decode cX7_does 439 = .ok (.ireturn, 1) := by decide +kernel
set_option maxRecDepth 20000 in
theorem ggX7_runScript_X7_in : GoodIn wsX7_runScript wsX7_in := goodIn_r _ [6] (by decide +kernel) (by decide +kernel)
set_option maxRecDepth 20000 in
theorem gX7_runScript_X7_in : GoodIn wsX7_runScript (va_wsS RX7 139 yX7_in wsX7_in) := goodIn_app (goodIn_of _ (by decide +kernel)) ggX7_runScript_X7_in
set_option maxRecDepth 20000 in
theorem ggX7_runScript_X7_tenTo : GoodIn wsX7_runScript wsX7_tenTo := goodIn_r _ [9, 10] (by decide +kernel) (by decide +kernel)
set_option maxRecDepth 20000 in
theorem gX7_runScript_X7_tenTo : GoodIn wsX7_runScript (va_wsS RX7 274 yX7_tenTo wsX7_tenTo) := goodIn_app (goodIn_of _ (by decide +kernel)) ggX7_runScript_X7_tenTo
set_option maxRecDepth 20000 in
theorem ggX7_runScript_X7_refused : GoodIn wsX7_runScript wsX7_refused := goodIn_r _ [14, 15, 121, 122, 123, 124, 125, 126, 127, 128, 129, 130, 131, 132, 133, 134] (by decide +kernel) (by decide +kernel)
set_option maxRecDepth 20000 in
theorem gX7_runScript_X7_refused : GoodIn wsX7_runScript (wsV RX7 146 RX7 yX7_refused wsX7_refused) := goodIn_app (goodIn_of _ (by decide +kernel)) ggX7_runScript_X7_refused
set_option maxRecDepth 20000 in
theorem ggX7_runScript_X7_begin : GoodIn wsX7_runScript wsX7_begin := goodIn_r _ [19, 20, 21, 22, 23, 5, 24, 121, 122, 123, 124, 125, 126, 127, 128, 129, 130, 131, 132, 133, 134] (by decide +kernel) (by decide +kernel)
set_option maxRecDepth 20000 in
theorem gX7_runScript_X7_begin : GoodIn wsX7_runScript (wsV RX7 264 RX7 yX7_begin wsX7_begin) := goodIn_app (goodIn_of _ (by decide +kernel)) ggX7_runScript_X7_begin
set_option maxRecDepth 20000 in
theorem ggX7_runScript_X7_does : GoodIn wsX7_runScript wsX7_does := goodIn_r _ [28, 21, 29, 30, 31, 32, 5, 33, 34, 35, 36, 37, 38, 39, 40, 41, 42, 43, 44, 45, 46, 47, 48, 49, 50, 51, 52, 53, 54, 55, 56, 57, 58, 59, 60, 61, 62, 63, 64, 65, 66, 67, 68, 69, 70, 71, 72, 73, 74, 75, 76, 77, 78, 79, 80, 81, 82, 83, 84, 85, 86, 87, 88, 89, 90, 91, 92, 93, 94, 95, 96, 97, 98, 99, 100, 101, 102, 103, 104, 105, 106, 107, 108, 109, 110, 111, 112, 113, 114, 115, 116, 117, 118, 119, 120, 3, 4, 6, 121, 122, 123, 124, 125, 126, 127, 128, 129, 130, 131, 132, 133, 134] (by decide +kernel) (by decide +kernel)
set_option maxRecDepth 20000 in
theorem gX7_runScript_X7_does : GoodIn wsX7_runScript (wsV RX7 280 RX7 yX7_does wsX7_does) := goodIn_app (goodIn_of _ (by decide +kernel)) ggX7_runScript_X7_does
theorem dX7_runScript_0 : decode cX7_runScript 0 = .ok (.iload_n 1, 1) := by decide +kernel
theorem dX7_runScript_1 : decode cX7_runScript 1 = .ok (.i2l, 1) := by decide +kernel
theorem dX7_runScript_2 : decode cX7_runScript 2 = .ok (.lconst 1, 1) := by decide +kernel
theorem dX7_runScript_3 : decode cX7_runScript 3 = .ok (.ldc2_w 234, 3) := by decide +kernel
theorem dX7_runScript_6 : decode cX7_runScript 6 = .ok (.invokestatic 139, 3) := by decide +kernel
theorem dX7_runScript_9 : decode cX7_runScript 9 = .ok (.istore 4, 2) := by decide +kernel
theorem dX7_runScript_11 : decode cX7_runScript 11 = .ok (.aload_n 0, 1) := by decide +kernel
theorem dX7_runScript_12 : decode cX7_runScript 12 = .ok (.iload 4, 2) := by decide +kernel
theorem dX7_runScript_14 : decode cX7_runScript 14 = .ok (.ifCond .eq 32, 3) := by decide +kernel
theorem dX7_runScript_17 : decode cX7_runScript 17 = .ok (.lload_n 2, 1) := by decide +kernel
theorem dX7_runScript_18 : decode cX7_runScript 18 = .ok (.lconst 0, 1) := by decide +kernel
theorem dX7_runScript_19 : decode cX7_runScript 19 = .ok (.iload 4, 2) := by decide +kernel
theorem dX7_runScript_21 : decode cX7_runScript 21 = .ok (.ifCond .eq 9, 3) := by decide +kernel
theorem dX7_runScript_24 : decode cX7_runScript 24 = .ok (.iconst 5, 1) := by decide +kernel
theorem dX7_runScript_25 : decode cX7_runScript 25 = .ok (.iload_n 1, 1) := by decide +kernel
theorem dX7_runScript_26 : decode cX7_runScript 26 = .ok (.imul, 1) := by decide +kernel
theorem dX7_runScript_27 : decode cX7_runScript 27 = .ok (.goto 4, 3) := by decide +kernel
theorem dX7_runScript_30 : decode cX7_runScript 30 = .ok (.iconst 0, 1) := by decide +kernel
theorem dX7_runScript_31 : decode cX7_runScript 31 = .ok (.invokestatic 274, 3) := by decide +kernel
theorem dX7_runScript_34 : decode cX7_runScript 34 = .ok (.lconst 1, 1) := by decide +kernel
theorem dX7_runScript_35 : decode cX7_runScript 35 = .ok (.lsub, 1) := by decide +kernel
theorem dX7_runScript_36 : decode cX7_runScript 36 = .ok (.invokestatic 139, 3) := by decide +kernel
theorem dX7_runScript_39 : decode cX7_runScript 39 = .ok (.ifCond .eq 7, 3) := by decide +kernel
theorem dX7_runScript_42 : decode cX7_runScript 42 = .ok (.iconst 0, 1) := by decide +kernel
theorem dX7_runScript_43 : decode cX7_runScript 43 = .ok (.goto 4, 3) := by decide +kernel
theorem dX7_runScript_46 : decode cX7_runScript 46 = .ok (.iconst 1, 1) := by decide +kernel
theorem dX7_runScript_47 : decode cX7_runScript 47 = .ok (.invokevirtual 146, 3) := by decide +kernel
theorem dX7_runScript_50 : decode cX7_runScript 50 = .ok (.ifCond .eq 5, 3) := by decide +kernel
theorem dX7_runScript_53 : decode cX7_runScript 53 = .ok (.iconst 0, 1) := by decide +kernel
theorem dX7_runScript_54 : decode cX7_runScript 54 = .ok (.ireturn, 1) := by decide +kernel
theorem dX7_runScript_55 : decode cX7_runScript 55 = .ok (.aload_n 0, 1) := by decide +kernel
theorem dX7_runScript_56 : decode cX7_runScript 56 = .ok (.invokevirtual 264, 3) := by decide +kernel
theorem dX7_runScript_59 : decode cX7_runScript 59 = .ok (.iconst 0, 1) := by decide +kernel
theorem dX7_runScript_60 : decode cX7_runScript 60 = .ok (.istore 5, 2) := by decide +kernel
theorem dX7_runScript_62 : decode cX7_runScript 62 = .ok (.iload 5, 2) := by decide +kernel
theorem dX7_runScript_64 : decode cX7_runScript 64 = .ok (.iload_n 1, 1) := by decide +kernel
theorem dX7_runScript_65 : decode cX7_runScript 65 = .ok (.if_icmp .ge 37, 3) := by decide +kernel
theorem dX7_runScript_68 : decode cX7_runScript 68 = .ok (.aload_n 0, 1) := by decide +kernel
theorem dX7_runScript_69 : decode cX7_runScript 69 = .ok (.lload_n 2, 1) := by decide +kernel
theorem dX7_runScript_70 : decode cX7_runScript 70 = .ok (.iconst 5, 1) := by decide +kernel
theorem dX7_runScript_71 : decode cX7_runScript 71 = .ok (.iload_n 1, 1) := by decide +kernel
theorem dX7_runScript_72 : decode cX7_runScript 72 = .ok (.iconst 1, 1) := by decide +kernel
theorem dX7_runScript_73 : decode cX7_runScript 73 = .ok (.isub, 1) := by decide +kernel
theorem dX7_runScript_74 : decode cX7_runScript 74 = .ok (.iload 5, 2) := by decide +kernel
theorem dX7_runScript_76 : decode cX7_runScript 76 = .ok (.isub, 1) := by decide +kernel
theorem dX7_runScript_77 : decode cX7_runScript 77 = .ok (.imul, 1) := by decide +kernel
theorem dX7_runScript_78 : decode cX7_runScript 78 = .ok (.invokestatic 274, 3) := by decide +kernel
theorem dX7_runScript_81 : decode cX7_runScript 81 = .ok (.ldiv, 1) := by decide +kernel
theorem dX7_runScript_82 : decode cX7_runScript 82 = .ok (.ldc2_w 278, 3) := by decide +kernel
theorem dX7_runScript_85 : decode cX7_runScript 85 = .ok (.lrem, 1) := by decide +kernel
theorem dX7_runScript_86 : decode cX7_runScript 86 = .ok (.l2i, 1) := by decide +kernel
theorem dX7_runScript_87 : decode cX7_runScript 87 = .ok (.invokevirtual 280, 3) := by decide +kernel
theorem dX7_runScript_90 : decode cX7_runScript 90 = .ok (.ifCond .ne 6, 3) := by decide +kernel
theorem dX7_runScript_93 : decode cX7_runScript 93 = .ok (.iload 5, 2) := by decide +kernel
theorem dX7_runScript_95 : decode cX7_runScript 95 = .ok (.ireturn, 1) := by decide +kernel
theorem dX7_runScript_96 : decode cX7_runScript 96 = .ok (.iinc 5 1, 3) := by decide +kernel
theorem dX7_runScript_99 : decode cX7_runScript 99 = .ok (.goto (-37), 3) := by decide +kernel
theorem dX7_runScript_102 : decode cX7_runScript 102 = .ok (.bipush (-9), 2) := by decide +kernel
theorem dX7_runScript_104 : decode cX7_runScript 104 = .ok (.ireturn, 1) := by decide +kernel
set_option maxRecDepth 20000 in
theorem ggX7_stir_X7_convoyAt : GoodIn wsX7_stir wsX7_convoyAt := goodIn_r _ [5] (by decide +kernel) (by decide +kernel)
set_option maxRecDepth 20000 in
theorem gX7_stir_X7_convoyAt : GoodIn wsX7_stir (va_wsS RX7 51 yX7_convoyAt wsX7_convoyAt) := goodIn_app (goodIn_of _ (by decide +kernel)) ggX7_stir_X7_convoyAt
set_option maxRecDepth 20000 in
theorem ggX7_stir_X7_depotAt : GoodIn wsX7_stir wsX7_depotAt := goodIn_r _ [8] (by decide +kernel) (by decide +kernel)
set_option maxRecDepth 20000 in
theorem gX7_stir_X7_depotAt : GoodIn wsX7_stir (va_wsS RX7 61 yX7_depotAt wsX7_depotAt) := goodIn_app (goodIn_of _ (by decide +kernel)) ggX7_stir_X7_depotAt
theorem dX7_stir_0 : decode cX7_stir 0 = .ok (.iload_n 1, 1) := by decide +kernel
theorem dX7_stir_1 : decode cX7_stir 1 = .ok (.iconst 5, 1) := by decide +kernel
theorem dX7_stir_2 : decode cX7_stir 2 = .ok (.irem, 1) := by decide +kernel
theorem dX7_stir_3 : decode cX7_stir 3 = .ok (.ifCond .ne 39, 3) := by decide +kernel
theorem dX7_stir_6 : decode cX7_stir 6 = .ok (.aload_n 0, 1) := by decide +kernel
theorem dX7_stir_7 : decode cX7_stir 7 = .ok (.getfield 19, 3) := by decide +kernel
theorem dX7_stir_10 : decode cX7_stir 10 = .ok (.iconst 5, 1) := by decide +kernel
theorem dX7_stir_11 : decode cX7_stir 11 = .ok (.iaload, 1) := by decide +kernel
theorem dX7_stir_12 : decode cX7_stir 12 = .ok (.ifCond .le 30, 3) := by decide +kernel
theorem dX7_stir_15 : decode cX7_stir 15 = .ok (.aload_n 0, 1) := by decide +kernel
theorem dX7_stir_16 : decode cX7_stir 16 = .ok (.getfield 19, 3) := by decide +kernel
theorem dX7_stir_19 : decode cX7_stir 19 = .ok (.iload_n 1, 1) := by decide +kernel
theorem dX7_stir_20 : decode cX7_stir 20 = .ok (.bipush 8, 2) := by decide +kernel
theorem dX7_stir_22 : decode cX7_stir 22 = .ok (.idiv, 1) := by decide +kernel
theorem dX7_stir_23 : decode cX7_stir 23 = .ok (.aload_n 0, 1) := by decide +kernel
theorem dX7_stir_24 : decode cX7_stir 24 = .ok (.getfield 19, 3) := by decide +kernel
theorem dX7_stir_27 : decode cX7_stir 27 = .ok (.iconst 5, 1) := by decide +kernel
theorem dX7_stir_28 : decode cX7_stir 28 = .ok (.iaload, 1) := by decide +kernel
theorem dX7_stir_29 : decode cX7_stir 29 = .ok (.irem, 1) := by decide +kernel
theorem dX7_stir_30 : decode cX7_stir 30 = .ok (.iconst 2, 1) := by decide +kernel
theorem dX7_stir_31 : decode cX7_stir 31 = .ok (.invokestatic 51, 3) := by decide +kernel
theorem dX7_stir_34 : decode cX7_stir 34 = .ok (.iload_n 1, 1) := by decide +kernel
theorem dX7_stir_35 : decode cX7_stir 35 = .ok (.bipush 64, 2) := by decide +kernel
theorem dX7_stir_37 : decode cX7_stir 37 = .ok (.idiv, 1) := by decide +kernel
theorem dX7_stir_38 : decode cX7_stir 38 = .ok (.bipush 6, 2) := by decide +kernel
theorem dX7_stir_40 : decode cX7_stir 40 = .ok (.irem, 1) := by decide +kernel
theorem dX7_stir_41 : decode cX7_stir 41 = .ok (.iastore, 1) := by decide +kernel
theorem dX7_stir_42 : decode cX7_stir 42 = .ok (.iload_n 1, 1) := by decide +kernel
theorem dX7_stir_43 : decode cX7_stir 43 = .ok (.iconst 5, 1) := by decide +kernel
theorem dX7_stir_44 : decode cX7_stir 44 = .ok (.irem, 1) := by decide +kernel
theorem dX7_stir_45 : decode cX7_stir 45 = .ok (.iconst 1, 1) := by decide +kernel
theorem dX7_stir_46 : decode cX7_stir 46 = .ok (.if_icmp .ne 63, 3) := by decide +kernel
theorem dX7_stir_49 : decode cX7_stir 49 = .ok (.aload_n 0, 1) := by decide +kernel
theorem dX7_stir_50 : decode cX7_stir 50 = .ok (.getfield 19, 3) := by decide +kernel
theorem dX7_stir_53 : decode cX7_stir 53 = .ok (.iconst 4, 1) := by decide +kernel
theorem dX7_stir_54 : decode cX7_stir 54 = .ok (.iaload, 1) := by decide +kernel
theorem dX7_stir_55 : decode cX7_stir 55 = .ok (.ifCond .le 54, 3) := by decide +kernel
theorem dX7_stir_58 : decode cX7_stir 58 = .ok (.iload_n 1, 1) := by decide +kernel
theorem dX7_stir_59 : decode cX7_stir 59 = .ok (.bipush 8, 2) := by decide +kernel
theorem dX7_stir_61 : decode cX7_stir 61 = .ok (.idiv, 1) := by decide +kernel
theorem dX7_stir_62 : decode cX7_stir 62 = .ok (.aload_n 0, 1) := by decide +kernel
theorem dX7_stir_63 : decode cX7_stir 63 = .ok (.getfield 19, 3) := by decide +kernel
theorem dX7_stir_66 : decode cX7_stir 66 = .ok (.iconst 4, 1) := by decide +kernel
theorem dX7_stir_67 : decode cX7_stir 67 = .ok (.iaload, 1) := by decide +kernel
theorem dX7_stir_68 : decode cX7_stir 68 = .ok (.irem, 1) := by decide +kernel
theorem dX7_stir_69 : decode cX7_stir 69 = .ok (.iconst 1, 1) := by decide +kernel
theorem dX7_stir_70 : decode cX7_stir 70 = .ok (.invokestatic 61, 3) := by decide +kernel
theorem dX7_stir_73 : decode cX7_stir 73 = .ok (.istore_n 2, 1) := by decide +kernel
theorem dX7_stir_74 : decode cX7_stir 74 = .ok (.aload_n 0, 1) := by decide +kernel
theorem dX7_stir_75 : decode cX7_stir 75 = .ok (.getfield 19, 3) := by decide +kernel
theorem dX7_stir_78 : decode cX7_stir 78 = .ok (.iload_n 2, 1) := by decide +kernel
theorem dX7_stir_79 : decode cX7_stir 79 = .ok (.iaload, 1) := by decide +kernel
theorem dX7_stir_80 : decode cX7_stir 80 = .ok (.iload_n 1, 1) := by decide +kernel
theorem dX7_stir_81 : decode cX7_stir 81 = .ok (.bipush 64, 2) := by decide +kernel
theorem dX7_stir_83 : decode cX7_stir 83 = .ok (.idiv, 1) := by decide +kernel
theorem dX7_stir_84 : decode cX7_stir 84 = .ok (.bipush 30, 2) := by decide +kernel
theorem dX7_stir_86 : decode cX7_stir 86 = .ok (.irem, 1) := by decide +kernel
theorem dX7_stir_87 : decode cX7_stir 87 = .ok (.iadd, 1) := by decide +kernel
theorem dX7_stir_88 : decode cX7_stir 88 = .ok (.istore_n 3, 1) := by decide +kernel
theorem dX7_stir_89 : decode cX7_stir 89 = .ok (.aload_n 0, 1) := by decide +kernel
theorem dX7_stir_90 : decode cX7_stir 90 = .ok (.getfield 19, 3) := by decide +kernel
theorem dX7_stir_93 : decode cX7_stir 93 = .ok (.iload_n 2, 1) := by decide +kernel
theorem dX7_stir_94 : decode cX7_stir 94 = .ok (.iload_n 3, 1) := by decide +kernel
theorem dX7_stir_95 : decode cX7_stir 95 = .ok (.sipush 999, 3) := by decide +kernel
theorem dX7_stir_98 : decode cX7_stir 98 = .ok (.if_icmp .le 9, 3) := by decide +kernel
theorem dX7_stir_101 : decode cX7_stir 101 = .ok (.sipush 999, 3) := by decide +kernel
theorem dX7_stir_104 : decode cX7_stir 104 = .ok (.goto 4, 3) := by decide +kernel
theorem dX7_stir_107 : decode cX7_stir 107 = .ok (.iload_n 3, 1) := by decide +kernel
theorem dX7_stir_108 : decode cX7_stir 108 = .ok (.iastore, 1) := by decide +kernel
theorem dX7_stir_109 : decode cX7_stir 109 = .ok (.return_, 1) := by decide +kernel
set_option maxRecDepth 20000 in
theorem ggX7_simulate_X7_in : GoodIn wsX7_simulate wsX7_in := goodIn_r _ [9] (by decide +kernel) (by decide +kernel)
set_option maxRecDepth 20000 in
theorem gX7_simulate_X7_in : GoodIn wsX7_simulate (va_wsS RX7 139 yX7_in wsX7_in) := goodIn_app (goodIn_of _ (by decide +kernel)) ggX7_simulate_X7_in
set_option maxRecDepth 20000 in
theorem ggX7_simulate_X7_refused : GoodIn wsX7_simulate wsX7_refused := goodIn_r _ [13, 14, 109, 110, 111, 112, 113, 114, 115, 116, 117, 118, 119, 120, 121, 122] (by decide +kernel) (by decide +kernel)
set_option maxRecDepth 20000 in
theorem gX7_simulate_X7_refused : GoodIn wsX7_simulate (wsV RX7 146 RX7 yX7_refused wsX7_refused) := goodIn_app (goodIn_of _ (by decide +kernel)) ggX7_simulate_X7_refused
set_option maxRecDepth 20000 in
theorem ggX7_simulate_X7_begin : GoodIn wsX7_simulate wsX7_begin := goodIn_r _ [18, 5, 4, 19, 20, 8, 21, 109, 110, 111, 112, 113, 114, 115, 116, 117, 118, 119, 120, 121, 122] (by decide +kernel) (by decide +kernel)
set_option maxRecDepth 20000 in
theorem gX7_simulate_X7_begin : GoodIn wsX7_simulate (wsV RX7 264 RX7 yX7_begin wsX7_begin) := goodIn_app (goodIn_of _ (by decide +kernel)) ggX7_simulate_X7_begin
set_option maxRecDepth 20000 in
theorem ggX7_simulate_X7_stir : GoodIn wsX7_simulate wsX7_stir := goodIn_r _ [25, 4, 26, 27, 8, 28, 29, 30, 31, 109, 110, 111, 112, 113, 114, 115, 116, 117, 118, 119, 120, 121, 122] (by decide +kernel) (by decide +kernel)
set_option maxRecDepth 20000 in
theorem gX7_simulate_X7_stir : GoodIn wsX7_simulate (wsV RX7 287 RX7 yX7_stir wsX7_stir) := goodIn_app (goodIn_of _ (by decide +kernel)) ggX7_simulate_X7_stir
set_option maxRecDepth 20000 in
theorem ggX7_simulate_X7_goHour : GoodIn wsX7_simulate wsX7_goHour := goodIn_r _ [35, 36, 37, 8, 38, 26, 27, 28, 39, 40, 41, 42, 43, 44, 45, 46, 47, 48, 49, 50, 51, 29, 30, 31, 52, 53, 54, 55, 56, 57, 58, 59, 60, 61, 62, 63, 64, 65, 66, 67, 68, 69, 70, 71, 72, 73, 74, 75, 76, 77, 78, 79, 80, 81, 82, 83, 84, 85, 86, 87, 88, 89, 90, 91, 92, 93, 94, 95, 96, 97, 98, 99, 100, 101, 102, 103, 104, 105, 109, 110, 111, 112, 113, 114, 115, 116, 117, 118, 119, 120, 121, 122] (by decide +kernel) (by decide +kernel)
set_option maxRecDepth 20000 in
theorem gX7_simulate_X7_goHour : GoodIn wsX7_simulate (wsV RX7 133 RX7 yX7_goHour wsX7_goHour) := goodIn_app (goodIn_of _ (by decide +kernel)) ggX7_simulate_X7_goHour
set_option maxRecDepth 20000 in
theorem ggX7_simulate_X7_countAt : GoodIn wsX7_simulate wsX7_countAt := goodIn_r _ [108, 55, 56, 8, 57] (by decide +kernel) (by decide +kernel)
set_option maxRecDepth 20000 in
theorem gX7_simulate_X7_countAt : GoodIn wsX7_simulate (va_wsS RX7 130 yX7_countAt wsX7_countAt) := goodIn_app (goodIn_of _ (by decide +kernel)) ggX7_simulate_X7_countAt
theorem dX7_simulate_0 : decode cX7_simulate 0 = .ok (.aload_n 0, 1) := by decide +kernel
theorem dX7_simulate_1 : decode cX7_simulate 1 = .ok (.iload_n 3, 1) := by decide +kernel
theorem dX7_simulate_2 : decode cX7_simulate 2 = .ok (.i2l, 1) := by decide +kernel
theorem dX7_simulate_3 : decode cX7_simulate 3 = .ok (.lconst 1, 1) := by decide +kernel
theorem dX7_simulate_4 : decode cX7_simulate 4 = .ok (.ldc2_w 252, 3) := by decide +kernel
theorem dX7_simulate_7 : decode cX7_simulate 7 = .ok (.invokestatic 139, 3) := by decide +kernel
theorem dX7_simulate_10 : decode cX7_simulate 10 = .ok (.ifCond .eq 7, 3) := by decide +kernel
theorem dX7_simulate_13 : decode cX7_simulate 13 = .ok (.iconst 0, 1) := by decide +kernel
theorem dX7_simulate_14 : decode cX7_simulate 14 = .ok (.goto 4, 3) := by decide +kernel
theorem dX7_simulate_17 : decode cX7_simulate 17 = .ok (.iconst 1, 1) := by decide +kernel
theorem dX7_simulate_18 : decode cX7_simulate 18 = .ok (.invokevirtual 146, 3) := by decide +kernel
theorem dX7_simulate_21 : decode cX7_simulate 21 = .ok (.ifCond .eq 5, 3) := by decide +kernel
theorem dX7_simulate_24 : decode cX7_simulate 24 = .ok (.iconst 0, 1) := by decide +kernel
theorem dX7_simulate_25 : decode cX7_simulate 25 = .ok (.ireturn, 1) := by decide +kernel
theorem dX7_simulate_26 : decode cX7_simulate 26 = .ok (.aload_n 0, 1) := by decide +kernel
theorem dX7_simulate_27 : decode cX7_simulate 27 = .ok (.invokevirtual 264, 3) := by decide +kernel
theorem dX7_simulate_30 : decode cX7_simulate 30 = .ok (.lload_n 1, 1) := by decide +kernel
theorem dX7_simulate_31 : decode cX7_simulate 31 = .ok (.lstore 4, 2) := by decide +kernel
theorem dX7_simulate_33 : decode cX7_simulate 33 = .ok (.iconst 0, 1) := by decide +kernel
theorem dX7_simulate_34 : decode cX7_simulate 34 = .ok (.istore 6, 2) := by decide +kernel
theorem dX7_simulate_36 : decode cX7_simulate 36 = .ok (.iload 6, 2) := by decide +kernel
theorem dX7_simulate_38 : decode cX7_simulate 38 = .ok (.iload_n 3, 1) := by decide +kernel
theorem dX7_simulate_39 : decode cX7_simulate 39 = .ok (.if_icmp .ge 39, 3) := by decide +kernel
theorem dX7_simulate_42 : decode cX7_simulate 42 = .ok (.lload 4, 2) := by decide +kernel
theorem dX7_simulate_44 : decode cX7_simulate 44 = .ok (.ldc2_w 283, 3) := by decide +kernel
theorem dX7_simulate_47 : decode cX7_simulate 47 = .ok (.lmul, 1) := by decide +kernel
theorem dX7_simulate_48 : decode cX7_simulate 48 = .ok (.ldc2_w 285, 3) := by decide +kernel
theorem dX7_simulate_51 : decode cX7_simulate 51 = .ok (.ladd, 1) := by decide +kernel
theorem dX7_simulate_52 : decode cX7_simulate 52 = .ok (.lstore 4, 2) := by decide +kernel
theorem dX7_simulate_54 : decode cX7_simulate 54 = .ok (.aload_n 0, 1) := by decide +kernel
theorem dX7_simulate_55 : decode cX7_simulate 55 = .ok (.lload 4, 2) := by decide +kernel
theorem dX7_simulate_57 : decode cX7_simulate 57 = .ok (.bipush 33, 2) := by decide +kernel
theorem dX7_simulate_59 : decode cX7_simulate 59 = .ok (.lushr, 1) := by decide +kernel
theorem dX7_simulate_60 : decode cX7_simulate 60 = .ok (.l2i, 1) := by decide +kernel
theorem dX7_simulate_61 : decode cX7_simulate 61 = .ok (.invokevirtual 287, 3) := by decide +kernel
theorem dX7_simulate_64 : decode cX7_simulate 64 = .ok (.aload_n 0, 1) := by decide +kernel
theorem dX7_simulate_65 : decode cX7_simulate 65 = .ok (.aload_n 0, 1) := by decide +kernel
theorem dX7_simulate_66 : decode cX7_simulate 66 = .ok (.getfield 19, 3) := by decide +kernel
theorem dX7_simulate_69 : decode cX7_simulate 69 = .ok (.invokevirtual 133, 3) := by decide +kernel
theorem dX7_simulate_72 : decode cX7_simulate 72 = .ok (.iinc 6 1, 3) := by decide +kernel
theorem dX7_simulate_75 : decode cX7_simulate 75 = .ok (.goto (-39), 3) := by decide +kernel
theorem dX7_simulate_78 : decode cX7_simulate 78 = .ok (.sipush 10000, 3) := by decide +kernel
theorem dX7_simulate_81 : decode cX7_simulate 81 = .ok (.aload_n 0, 1) := by decide +kernel
theorem dX7_simulate_82 : decode cX7_simulate 82 = .ok (.getfield 19, 3) := by decide +kernel
theorem dX7_simulate_85 : decode cX7_simulate 85 = .ok (.iconst 2, 1) := by decide +kernel
theorem dX7_simulate_86 : decode cX7_simulate 86 = .ok (.invokestatic 130, 3) := by decide +kernel
theorem dX7_simulate_89 : decode cX7_simulate 89 = .ok (.aload_n 0, 1) := by decide +kernel
theorem dX7_simulate_90 : decode cX7_simulate 90 = .ok (.getfield 16, 3) := by decide +kernel
theorem dX7_simulate_93 : decode cX7_simulate 93 = .ok (.iconst 2, 1) := by decide +kernel
theorem dX7_simulate_94 : decode cX7_simulate 94 = .ok (.invokestatic 130, 3) := by decide +kernel
theorem dX7_simulate_97 : decode cX7_simulate 97 = .ok (.isub, 1) := by decide +kernel
theorem dX7_simulate_98 : decode cX7_simulate 98 = .ok (.imul, 1) := by decide +kernel
theorem dX7_simulate_99 : decode cX7_simulate 99 = .ok (.aload_n 0, 1) := by decide +kernel
theorem dX7_simulate_100 : decode cX7_simulate 100 = .ok (.getfield 19, 3) := by decide +kernel
theorem dX7_simulate_103 : decode cX7_simulate 103 = .ok (.bipush 7, 2) := by decide +kernel
theorem dX7_simulate_105 : decode cX7_simulate 105 = .ok (.iaload, 1) := by decide +kernel
theorem dX7_simulate_106 : decode cX7_simulate 106 = .ok (.iadd, 1) := by decide +kernel
theorem dX7_simulate_107 : decode cX7_simulate 107 = .ok (.aload_n 0, 1) := by decide +kernel
theorem dX7_simulate_108 : decode cX7_simulate 108 = .ok (.getfield 16, 3) := by decide +kernel
theorem dX7_simulate_111 : decode cX7_simulate 111 = .ok (.bipush 7, 2) := by decide +kernel
theorem dX7_simulate_113 : decode cX7_simulate 113 = .ok (.iaload, 1) := by decide +kernel
theorem dX7_simulate_114 : decode cX7_simulate 114 = .ok (.isub, 1) := by decide +kernel
theorem dX7_simulate_115 : decode cX7_simulate 115 = .ok (.ireturn, 1) := by decide +kernel
set_option maxRecDepth 20000 in
theorem ggX7_save_X7_in : GoodIn wsX7_save wsX7_in := goodIn_r _ [7] (by decide +kernel) (by decide +kernel)
set_option maxRecDepth 20000 in
theorem gX7_save_X7_in : GoodIn wsX7_save (va_wsS RX7 139 yX7_in wsX7_in) := goodIn_app (goodIn_of _ (by decide +kernel)) ggX7_save_X7_in
set_option maxRecDepth 20000 in
theorem ggX7_save_X7_refused : GoodIn wsX7_save wsX7_refused := goodIn_r _ [11, 12, 16, 17, 18, 19, 20, 21, 22, 23, 24, 25, 26, 27, 28, 29] (by decide +kernel) (by decide +kernel)
set_option maxRecDepth 20000 in
theorem gX7_save_X7_refused : GoodIn wsX7_save (wsV RX7 146 RX7 yX7_refused wsX7_refused) := goodIn_app (goodIn_of _ (by decide +kernel)) ggX7_save_X7_refused
set_option maxRecDepth 20000 in
theorem ggX7_save_X7_copy : GoodIn wsX7_save wsX7_copy := goodIn_r _ [15] (by decide +kernel) (by decide +kernel)
set_option maxRecDepth 20000 in
theorem gX7_save_X7_copy : GoodIn wsX7_save (va_wsS RX7 47 yX7_copy wsX7_copy) := goodIn_app (goodIn_of _ (by decide +kernel)) ggX7_save_X7_copy
theorem dX7_save_0 : decode cX7_save 0 = .ok (.aload_n 0, 1) := by decide +kernel
theorem dX7_save_1 : decode cX7_save 1 = .ok (.iload_n 1, 1) := by decide +kernel
theorem dX7_save_2 : decode cX7_save 2 = .ok (.i2l, 1) := by decide +kernel
theorem dX7_save_3 : decode cX7_save 3 = .ok (.lconst 0, 1) := by decide +kernel
theorem dX7_save_4 : decode cX7_save 4 = .ok (.lconst 1, 1) := by decide +kernel
theorem dX7_save_5 : decode cX7_save 5 = .ok (.invokestatic 139, 3) := by decide +kernel
theorem dX7_save_8 : decode cX7_save 8 = .ok (.ifCond .eq 7, 3) := by decide +kernel
theorem dX7_save_11 : decode cX7_save 11 = .ok (.iconst 0, 1) := by decide +kernel
theorem dX7_save_12 : decode cX7_save 12 = .ok (.goto 4, 3) := by decide +kernel
theorem dX7_save_15 : decode cX7_save 15 = .ok (.iconst 1, 1) := by decide +kernel
theorem dX7_save_16 : decode cX7_save 16 = .ok (.invokevirtual 146, 3) := by decide +kernel
theorem dX7_save_19 : decode cX7_save 19 = .ok (.ifCond .eq 5, 3) := by decide +kernel
theorem dX7_save_22 : decode cX7_save 22 = .ok (.iconst 0, 1) := by decide +kernel
theorem dX7_save_23 : decode cX7_save 23 = .ok (.ireturn, 1) := by decide +kernel
theorem dX7_save_24 : decode cX7_save 24 = .ok (.aload_n 0, 1) := by decide +kernel
theorem dX7_save_25 : decode cX7_save 25 = .ok (.getfield 16, 3) := by decide +kernel
theorem dX7_save_28 : decode cX7_save 28 = .ok (.iconst 0, 1) := by decide +kernel
theorem dX7_save_29 : decode cX7_save 29 = .ok (.aload_n 0, 1) := by decide +kernel
theorem dX7_save_30 : decode cX7_save 30 = .ok (.getfield 25, 3) := by decide +kernel
theorem dX7_save_33 : decode cX7_save 33 = .ok (.sipush 250, 3) := by decide +kernel
theorem dX7_save_36 : decode cX7_save 36 = .ok (.iload_n 1, 1) := by decide +kernel
theorem dX7_save_37 : decode cX7_save 37 = .ok (.imul, 1) := by decide +kernel
theorem dX7_save_38 : decode cX7_save 38 = .ok (.sipush 250, 3) := by decide +kernel
theorem dX7_save_41 : decode cX7_save 41 = .ok (.invokestatic 47, 3) := by decide +kernel
theorem dX7_save_44 : decode cX7_save 44 = .ok (.aload_n 0, 1) := by decide +kernel
theorem dX7_save_45 : decode cX7_save 45 = .ok (.getfield 28, 3) := by decide +kernel
theorem dX7_save_48 : decode cX7_save 48 = .ok (.iload_n 1, 1) := by decide +kernel
theorem dX7_save_49 : decode cX7_save 49 = .ok (.iconst 1, 1) := by decide +kernel
theorem dX7_save_50 : decode cX7_save 50 = .ok (.bastore, 1) := by decide +kernel
theorem dX7_save_51 : decode cX7_save 51 = .ok (.aload_n 0, 1) := by decide +kernel
theorem dX7_save_52 : decode cX7_save 52 = .ok (.getfield 16, 3) := by decide +kernel
theorem dX7_save_55 : decode cX7_save 55 = .ok (.iconst 1, 1) := by decide +kernel
theorem dX7_save_56 : decode cX7_save 56 = .ok (.iaload, 1) := by decide +kernel
theorem dX7_save_57 : decode cX7_save 57 = .ok (.ireturn, 1) := by decide +kernel
set_option maxRecDepth 20000 in
theorem ggX7_restore_X7_in : GoodIn wsX7_restore wsX7_in := goodIn_r _ [8] (by decide +kernel) (by decide +kernel)
set_option maxRecDepth 20000 in
theorem gX7_restore_X7_in : GoodIn wsX7_restore (va_wsS RX7 139 yX7_in wsX7_in) := goodIn_app (goodIn_of _ (by decide +kernel)) ggX7_restore_X7_in
set_option maxRecDepth 20000 in
theorem ggX7_restore_X7_refused : GoodIn wsX7_restore wsX7_refused := goodIn_r _ [12, 13, 17, 18, 19, 20, 21, 22, 23, 24, 25, 26, 27, 28, 29, 30] (by decide +kernel) (by decide +kernel)
set_option maxRecDepth 20000 in
theorem gX7_restore_X7_refused : GoodIn wsX7_restore (wsV RX7 146 RX7 yX7_refused wsX7_refused) := goodIn_app (goodIn_of _ (by decide +kernel)) ggX7_restore_X7_refused
set_option maxRecDepth 20000 in
theorem ggX7_restore_X7_copy : GoodIn wsX7_restore wsX7_copy := goodIn_r _ [16] (by decide +kernel) (by decide +kernel)
set_option maxRecDepth 20000 in
theorem gX7_restore_X7_copy : GoodIn wsX7_restore (va_wsS RX7 47 yX7_copy wsX7_copy) := goodIn_app (goodIn_of _ (by decide +kernel)) ggX7_restore_X7_copy
theorem dX7_restore_0 : decode cX7_restore 0 = .ok (.aload_n 0, 1) := by decide +kernel
theorem dX7_restore_1 : decode cX7_restore 1 = .ok (.iload_n 1, 1) := by decide +kernel
theorem dX7_restore_2 : decode cX7_restore 2 = .ok (.i2l, 1) := by decide +kernel
theorem dX7_restore_3 : decode cX7_restore 3 = .ok (.lconst 0, 1) := by decide +kernel
theorem dX7_restore_4 : decode cX7_restore 4 = .ok (.lconst 1, 1) := by decide +kernel
theorem dX7_restore_5 : decode cX7_restore 5 = .ok (.invokestatic 139, 3) := by decide +kernel
theorem dX7_restore_8 : decode cX7_restore 8 = .ok (.ifCond .ne 7, 3) := by decide +kernel
theorem dX7_restore_11 : decode cX7_restore 11 = .ok (.iconst 1, 1) := by decide +kernel
theorem dX7_restore_12 : decode cX7_restore 12 = .ok (.goto 17, 3) := by decide +kernel
theorem dX7_restore_15 : decode cX7_restore 15 = .ok (.aload_n 0, 1) := by decide +kernel
theorem dX7_restore_16 : decode cX7_restore 16 = .ok (.getfield 28, 3) := by decide +kernel
theorem dX7_restore_19 : decode cX7_restore 19 = .ok (.iload_n 1, 1) := by decide +kernel
theorem dX7_restore_20 : decode cX7_restore 20 = .ok (.baload, 1) := by decide +kernel
theorem dX7_restore_21 : decode cX7_restore 21 = .ok (.ifCond .eq 7, 3) := by decide +kernel
theorem dX7_restore_24 : decode cX7_restore 24 = .ok (.iconst 0, 1) := by decide +kernel
theorem dX7_restore_25 : decode cX7_restore 25 = .ok (.goto 4, 3) := by decide +kernel
theorem dX7_restore_28 : decode cX7_restore 28 = .ok (.iconst 2, 1) := by decide +kernel
theorem dX7_restore_29 : decode cX7_restore 29 = .ok (.invokevirtual 146, 3) := by decide +kernel
theorem dX7_restore_32 : decode cX7_restore 32 = .ok (.ifCond .eq 5, 3) := by decide +kernel
theorem dX7_restore_35 : decode cX7_restore 35 = .ok (.iconst 0, 1) := by decide +kernel
theorem dX7_restore_36 : decode cX7_restore 36 = .ok (.ireturn, 1) := by decide +kernel
theorem dX7_restore_37 : decode cX7_restore 37 = .ok (.aload_n 0, 1) := by decide +kernel
theorem dX7_restore_38 : decode cX7_restore 38 = .ok (.getfield 25, 3) := by decide +kernel
theorem dX7_restore_41 : decode cX7_restore 41 = .ok (.sipush 250, 3) := by decide +kernel
theorem dX7_restore_44 : decode cX7_restore 44 = .ok (.iload_n 1, 1) := by decide +kernel
theorem dX7_restore_45 : decode cX7_restore 45 = .ok (.imul, 1) := by decide +kernel
theorem dX7_restore_46 : decode cX7_restore 46 = .ok (.aload_n 0, 1) := by decide +kernel
theorem dX7_restore_47 : decode cX7_restore 47 = .ok (.getfield 16, 3) := by decide +kernel
theorem dX7_restore_50 : decode cX7_restore 50 = .ok (.iconst 0, 1) := by decide +kernel
theorem dX7_restore_51 : decode cX7_restore 51 = .ok (.sipush 250, 3) := by decide +kernel
theorem dX7_restore_54 : decode cX7_restore 54 = .ok (.invokestatic 47, 3) := by decide +kernel
theorem dX7_restore_57 : decode cX7_restore 57 = .ok (.aload_n 0, 1) := by decide +kernel
theorem dX7_restore_58 : decode cX7_restore 58 = .ok (.iconst 0, 1) := by decide +kernel
theorem dX7_restore_59 : decode cX7_restore 59 = .ok (.putfield 44, 3) := by decide +kernel
theorem dX7_restore_62 : decode cX7_restore 62 = .ok (.aload_n 0, 1) := by decide +kernel
theorem dX7_restore_63 : decode cX7_restore 63 = .ok (.getfield 16, 3) := by decide +kernel
theorem dX7_restore_66 : decode cX7_restore 66 = .ok (.iconst 1, 1) := by decide +kernel
theorem dX7_restore_67 : decode cX7_restore 67 = .ok (.iaload, 1) := by decide +kernel
theorem dX7_restore_68 : decode cX7_restore 68 = .ok (.ireturn, 1) := by decide +kernel
theorem dJ9_max_7cf53_0 : decode cJ9_max_7cf53 0 = .ok (.iload_n 0, 1) := by decide +kernel
theorem dJ9_max_7cf53_1 : decode cJ9_max_7cf53 1 = .ok (.iload_n 1, 1) := by decide +kernel
theorem dJ9_max_7cf53_2 : decode cJ9_max_7cf53 2 = .ok (.if_icmp .lt 7, 3) := by decide +kernel
theorem dJ9_max_7cf53_5 : decode cJ9_max_7cf53 5 = .ok (.iload_n 0, 1) := by decide +kernel
theorem dJ9_max_7cf53_6 : decode cJ9_max_7cf53 6 = .ok (.goto 4, 3) := by decide +kernel
theorem dJ9_max_7cf53_9 : decode cJ9_max_7cf53 9 = .ok (.iload_n 1, 1) := by decide +kernel
theorem dJ9_max_7cf53_10 : decode cJ9_max_7cf53 10 = .ok (.ireturn, 1) := by decide +kernel
theorem dJ9_min_7cf53_0 : decode cJ9_min_7cf53 0 = .ok (.iload_n 0, 1) := by decide +kernel
theorem dJ9_min_7cf53_1 : decode cJ9_min_7cf53 1 = .ok (.iload_n 1, 1) := by decide +kernel
theorem dJ9_min_7cf53_2 : decode cJ9_min_7cf53 2 = .ok (.if_icmp .gt 7, 3) := by decide +kernel
theorem dJ9_min_7cf53_5 : decode cJ9_min_7cf53 5 = .ok (.iload_n 0, 1) := by decide +kernel
theorem dJ9_min_7cf53_6 : decode cJ9_min_7cf53 6 = .ok (.goto 4, 3) := by decide +kernel
theorem dJ9_min_7cf53_9 : decode cJ9_min_7cf53 9 = .ok (.iload_n 1, 1) := by decide +kernel
theorem dJ9_min_7cf53_10 : decode cJ9_min_7cf53 10 = .ok (.ireturn, 1) := by decide +kernel
set_option maxRecDepth 20000 in
theorem ggL_append_X6_append : GoodIn wsL_append wsX6_append := goodIn_ca (goodIn_ca (goodIn_r _ [7, 8, 9, 10, 6, 11, 12, 13, 14, 15, 16, 17, 18, 19, 20, 21, 22, 23, 24, 25, 26, 27, 28, 29, 30, 31, 32, 33, 34, 35, 36, 37, 38, 39, 40, 41, 42, 43, 44] (by decide +kernel) (by decide +kernel)) (goodIn_sub (fun _ h => List.mem_cons_of_mem _ (List.mem_append_left _ (List.mem_append_right _ h))) (by decide +kernel))) (goodIn_sub (fun _ h => List.mem_cons_of_mem _ (List.mem_append_right _ h)) (by decide +kernel))
set_option maxRecDepth 20000 in
theorem gL_append_X6_append : GoodIn wsL_append (wsV RL 7 RX6 yX6_append wsX6_append) := goodIn_app (goodIn_of _ (by decide +kernel)) ggL_append_X6_append
theorem dL_append_0 : decode cL_append 0 = .ok (.aload_n 2, 1) := by decide +kernel
theorem dL_append_1 : decode cL_append 1 = .ok (.iconst 0, 1) := by decide +kernel
theorem dL_append_2 : decode cL_append 2 = .ok (.aload_n 0, 1) := by decide +kernel
theorem dL_append_3 : decode cL_append 3 = .ok (.iload_n 1, 1) := by decide +kernel
theorem dL_append_4 : decode cL_append 4 = .ok (.invokevirtual 7, 3) := by decide +kernel
theorem dL_append_7 : decode cL_append 7 = .ok (.i2l, 1) := by decide +kernel
theorem dL_append_8 : decode cL_append 8 = .ok (.lastore, 1) := by decide +kernel
theorem dL_append_9 : decode cL_append 9 = .ok (.goto 9, 3) := by decide +kernel
theorem dL_append_12 : decode cL_append 12 = .ok (.astore_n 3, 1) := by decide +kernel
theorem dL_append_13 : decode cL_append 13 = .ok (.iconst 1, 1) := by decide +kernel
theorem dL_append_14 : decode cL_append 14 = .ok (.ireturn, 1) := by decide +kernel
theorem dL_append_15 : decode cL_append 15 = .ok (.astore_n 3, 1) := by decide +kernel
theorem dL_append_16 : decode cL_append 16 = .ok (.iconst 2, 1) := by decide +kernel
theorem dL_append_17 : decode cL_append 17 = .ok (.ireturn, 1) := by decide +kernel
theorem dL_append_18 : decode cL_append 18 = .ok (.iconst 0, 1) := by decide +kernel
theorem dL_append_19 : decode cL_append 19 = .ok (.ireturn, 1) := by decide +kernel
set_option maxRecDepth 20000 in
theorem ggL_load_X6_load : GoodIn wsL_load wsX6_load := goodIn_ca (goodIn_r _ [6, 7, 8, 9, 10, 11, 12, 13, 14, 15, 16, 17, 18, 19, 20, 21, 22, 23, 24, 25, 26, 27, 28, 29, 30, 5, 31, 32, 33, 34, 35, 36, 37, 38, 39, 40, 41, 42, 43, 44, 45, 46, 47, 48, 49, 50, 51, 52, 53, 54, 55, 56, 57, 58, 59, 60, 61, 62, 63, 64, 65, 66, 67, 68, 69, 70, 71, 72, 73, 74, 75, 76, 77, 78, 79, 80, 81, 82, 83, 84, 85, 86, 87, 88, 89, 90, 91, 92, 93, 94, 95, 96, 97, 98, 99, 100, 101, 102, 103, 104, 105, 106, 107, 108, 109, 110, 111, 112, 113, 114, 115, 116, 117, 118, 119, 120, 121, 122, 123, 124, 125, 126, 127, 128, 129, 130, 131, 132, 133, 134, 135, 136, 137, 138, 139, 140, 141, 142, 143, 144, 145, 146, 147, 148, 149, 150, 151, 152, 153, 154, 155, 156, 157, 158, 159, 160, 161, 162, 163, 164, 165, 166, 167, 168, 169, 170, 171, 172, 173, 174, 175, 176, 177, 178, 179, 180, 181, 182, 183, 184, 185, 186, 187, 188, 189, 190, 191, 192, 193, 194, 195, 196, 197, 198, 199, 200, 201, 202, 203, 204, 205, 206, 207, 208, 209, 210, 211, 212, 213, 214, 215, 216, 217, 218, 219, 220, 221, 222, 223, 224, 225, 226, 227, 228, 229, 230, 231, 232, 233, 234, 235, 236, 237, 238, 239, 240, 241, 242, 243, 244] (by decide +kernel) (by decide +kernel)) (goodIn_sub (fun _ h => List.mem_cons_of_mem _ (List.mem_append_right _ h)) (by decide +kernel))
set_option maxRecDepth 20000 in
theorem gL_load_X6_load : GoodIn wsL_load (wsV RL 17 RX6 yX6_load wsX6_load) := goodIn_app (goodIn_of _ (by decide +kernel)) ggL_load_X6_load
theorem dL_load_0 : decode cL_load 0 = .ok (.aload_n 1, 1) := by decide +kernel
theorem dL_load_1 : decode cL_load 1 = .ok (.iconst 0, 1) := by decide +kernel
theorem dL_load_2 : decode cL_load 2 = .ok (.aload_n 0, 1) := by decide +kernel
theorem dL_load_3 : decode cL_load 3 = .ok (.invokevirtual 17, 3) := by decide +kernel
theorem dL_load_6 : decode cL_load 6 = .ok (.i2l, 1) := by decide +kernel
theorem dL_load_7 : decode cL_load 7 = .ok (.lastore, 1) := by decide +kernel
theorem dL_load_8 : decode cL_load 8 = .ok (.goto 6, 3) := by decide +kernel
theorem dL_load_11 : decode cL_load 11 = .ok (.astore_n 2, 1) := by decide +kernel
theorem dL_load_12 : decode cL_load 12 = .ok (.iconst 1, 1) := by decide +kernel
theorem dL_load_13 : decode cL_load 13 = .ok (.ireturn, 1) := by decide +kernel
theorem dL_load_14 : decode cL_load 14 = .ok (.iconst 0, 1) := by decide +kernel
theorem dL_load_15 : decode cL_load 15 = .ok (.ireturn, 1) := by decide +kernel
set_option maxRecDepth 20000 in
theorem ggL_about_X6_about : GoodIn wsL_about wsX6_about := goodIn_ca (goodIn_r _ [6, 7, 8, 9, 10, 11, 12, 13, 14, 5, 15, 16, 17, 18, 19, 20, 21, 22, 23, 24, 25, 26, 27, 28, 29, 30, 31, 32, 33, 34, 35, 36, 37, 38, 39, 40, 41, 42, 43, 44, 45, 46, 47, 48, 49, 50, 51, 52, 53, 54, 55, 56, 57, 58, 59, 60, 61, 62, 63, 64, 65, 66, 67, 68, 69, 70, 71, 72, 73, 74, 75, 76, 77, 78] (by decide +kernel) (by decide +kernel)) (goodIn_sub (fun _ h => List.mem_cons_of_mem _ (List.mem_append_right _ h)) (by decide +kernel))
set_option maxRecDepth 20000 in
theorem gL_about_X6_about : GoodIn wsL_about (wsV RL 21 RX6 yX6_about wsX6_about) := goodIn_app (goodIn_of _ (by decide +kernel)) ggL_about_X6_about
theorem dL_about_0 : decode cL_about 0 = .ok (.aload_n 2, 1) := by decide +kernel
