theorem dX6_save_1 : decode cX6_save 1 = .ok (.invokestatic 218, 3) := by decide +kernel
theorem dX6_save_4 : decode cX6_save 4 = .ok (.aload_n 0, 1) := by decide +kernel
theorem dX6_save_5 : decode cX6_save 5 = .ok (.getfield 38, 3) := by decide +kernel
theorem dX6_save_8 : decode cX6_save 8 = .ok (.iload_n 1, 1) := by decide +kernel
theorem dX6_save_9 : decode cX6_save 9 = .ok (.aload_n 0, 1) := by decide +kernel
theorem dX6_save_10 : decode cX6_save 10 = .ok (.getfield 19, 3) := by decide +kernel
theorem dX6_save_13 : decode cX6_save 13 = .ok (.invokevirtual 221, 3) := by decide +kernel
theorem dX6_save_16 : decode cX6_save 16 = .ok (.aload_n 0, 1) := by decide +kernel
theorem dX6_save_17 : decode cX6_save 17 = .ok (.getfield 19, 3) := by decide +kernel
theorem dX6_save_20 : decode cX6_save 20 = .ok (.invokevirtual 90, 3) := by decide +kernel
theorem dX6_save_23 : decode cX6_save 23 = .ok (.ireturn, 1) := by decide +kernel
set_option maxRecDepth 20000 in
theorem ggX6_restore_X6_checkSlot : GoodIn wsX6_restore wsX6_checkSlot := goodIn_ca (goodIn_r _ [7, 8, 9, 10, 11, 6, 12] (by decide +kernel) (by decide +kernel)) (goodIn_sub (fun _ h => List.mem_cons_of_mem _ (List.mem_append_left _ (List.mem_append_right _ h))) (by decide +kernel))
set_option maxRecDepth 20000 in
theorem gX6_restore_X6_checkSlot : GoodIn wsX6_restore (va_wsS RX6 218 yX6_checkSlot wsX6_checkSlot) := goodIn_app (goodIn_of _ (by decide +kernel)) ggX6_restore_X6_checkSlot
set_option maxRecDepth 20000 in
theorem ggX6_restore_X3_holds : GoodIn wsX6_restore wsX3_holds := goodIn_r _ [17, 18, 89, 90] (by decide +kernel) (by decide +kernel)
set_option maxRecDepth 20000 in
theorem gX6_restore_X3_holds : GoodIn wsX6_restore (wsV RX6 225 RX3 yX3_holds wsX3_holds) := goodIn_app (goodIn_of _ (by decide +kernel)) ggX6_restore_X3_holds
set_option maxRecDepth 20000 in
theorem ggX6_restore_X6_refuseIf : GoodIn wsX6_restore wsX6_refuseIf := goodIn_ca (goodIn_r _ [21, 22, 23] (by decide +kernel) (by decide +kernel)) (goodIn_sub (fun _ h => List.mem_cons_of_mem _ (List.mem_append_right _ h)) (by decide +kernel))
set_option maxRecDepth 20000 in
theorem gX6_restore_X6_refuseIf : GoodIn wsX6_restore (va_wsS RX6 53 yX6_refuseIf wsX6_refuseIf) := goodIn_app (goodIn_of _ (by decide +kernel)) ggX6_restore_X6_refuseIf
set_option maxRecDepth 20000 in
theorem ggX6_restore_X3_giveBack : GoodIn wsX6_restore wsX3_giveBack := goodIn_r _ [27, 28, 29, 30, 16, 31, 32, 33, 34, 35, 36, 37, 38, 39, 40, 41, 42, 43, 44, 45, 46, 47, 48, 49, 50, 51, 52, 53, 54, 55, 56, 57, 58, 59, 60, 61, 62, 63, 64, 65, 66, 67, 68, 69, 70, 71, 72, 73, 89, 90, 91, 92, 93, 94, 95, 96, 97, 98, 99, 100, 101, 102, 103, 104, 105, 106, 107, 108, 109] (by decide +kernel) (by decide +kernel)
set_option maxRecDepth 20000 in
theorem gX6_restore_X3_giveBack : GoodIn wsX6_restore (wsV RX6 228 RX3 yX3_giveBack wsX3_giveBack) := goodIn_app (goodIn_of _ (by decide +kernel)) ggX6_restore_X3_giveBack
set_option maxRecDepth 20000 in
theorem ggX6_restore_X0_forget : GoodIn wsX6_restore wsX0_forget := goodIn_r _ [78, 79, 110, 111, 112] (by decide +kernel) (by decide +kernel)
set_option maxRecDepth 20000 in
theorem gX6_restore_X0_forget : GoodIn wsX6_restore (wsV RX6 73 RX0 yX0_forget wsX0_forget) := goodIn_app (goodIn_of _ (by decide +kernel)) ggX6_restore_X0_forget
set_option maxRecDepth 20000 in
theorem ggX6_restore_X4_hours : GoodIn wsX6_restore wsX4_hours := goodIn_r _ [83, 39, 91, 92, 93, 94, 95, 96, 97, 98, 99, 100, 101, 102] (by decide +kernel) (by decide +kernel)
set_option maxRecDepth 20000 in
theorem gX6_restore_X4_hours : GoodIn wsX6_restore (wsV RX6 90 RX4 yX4_hours wsX4_hours) := goodIn_app (goodIn_of _ (by decide +kernel)) ggX6_restore_X4_hours
theorem dX6_restore_0 : decode cX6_restore 0 = .ok (.iload_n 1, 1) := by decide +kernel
theorem dX6_restore_1 : decode cX6_restore 1 = .ok (.invokestatic 218, 3) := by decide +kernel
theorem dX6_restore_4 : decode cX6_restore 4 = .ok (.aload_n 0, 1) := by decide +kernel
theorem dX6_restore_5 : decode cX6_restore 5 = .ok (.getfield 38, 3) := by decide +kernel
theorem dX6_restore_8 : decode cX6_restore 8 = .ok (.iload_n 1, 1) := by decide +kernel
theorem dX6_restore_9 : decode cX6_restore 9 = .ok (.invokevirtual 225, 3) := by decide +kernel
theorem dX6_restore_12 : decode cX6_restore 12 = .ok (.ifCond .ne 7, 3) := by decide +kernel
theorem dX6_restore_15 : decode cX6_restore 15 = .ok (.iconst 1, 1) := by decide +kernel
theorem dX6_restore_16 : decode cX6_restore 16 = .ok (.goto 4, 3) := by decide +kernel
theorem dX6_restore_19 : decode cX6_restore 19 = .ok (.iconst 0, 1) := by decide +kernel
theorem dX6_restore_20 : decode cX6_restore 20 = .ok (.invokestatic 53, 3) := by decide +kernel
theorem dX6_restore_23 : decode cX6_restore 23 = .ok (.aload_n 0, 1) := by decide +kernel
theorem dX6_restore_24 : decode cX6_restore 24 = .ok (.getfield 38, 3) := by decide +kernel
theorem dX6_restore_27 : decode cX6_restore 27 = .ok (.iload_n 1, 1) := by decide +kernel
theorem dX6_restore_28 : decode cX6_restore 28 = .ok (.aload_n 0, 1) := by decide +kernel
theorem dX6_restore_29 : decode cX6_restore 29 = .ok (.getfield 19, 3) := by decide +kernel
theorem dX6_restore_32 : decode cX6_restore 32 = .ok (.invokevirtual 228, 3) := by decide +kernel
theorem dX6_restore_35 : decode cX6_restore 35 = .ok (.aload_n 0, 1) := by decide +kernel
theorem dX6_restore_36 : decode cX6_restore 36 = .ok (.getfield 29, 3) := by decide +kernel
theorem dX6_restore_39 : decode cX6_restore 39 = .ok (.invokevirtual 73, 3) := by decide +kernel
theorem dX6_restore_42 : decode cX6_restore 42 = .ok (.aload_n 0, 1) := by decide +kernel
theorem dX6_restore_43 : decode cX6_restore 43 = .ok (.getfield 19, 3) := by decide +kernel
theorem dX6_restore_46 : decode cX6_restore 46 = .ok (.invokevirtual 90, 3) := by decide +kernel
theorem dX6_restore_49 : decode cX6_restore 49 = .ok (.ireturn, 1) := by decide +kernel
set_option maxRecDepth 20000 in
theorem ggX6_checkExists_X5_has : GoodIn wsX6_checkExists wsX5_has := goodIn_r _ [7, 8, 9, 10, 11, 12] (by decide +kernel) (by decide +kernel)
set_option maxRecDepth 20000 in
theorem gX6_checkExists_X5_has : GoodIn wsX6_checkExists (wsV RX6 231 RX5 yX5_has wsX5_has) := goodIn_app (goodIn_of _ (by decide +kernel)) ggX6_checkExists_X5_has
theorem dX6_checkExists_0 : decode cX6_checkExists 0 = .ok (.aload_n 0, 1) := by decide +kernel
theorem dX6_checkExists_1 : decode cX6_checkExists 1 = .ok (.iload_n 1, 1) := by decide +kernel
theorem dX6_checkExists_2 : decode cX6_checkExists 2 = .ok (.invokevirtual 231, 3) := by decide +kernel
theorem dX6_checkExists_5 : decode cX6_checkExists 5 = .ok (.ifCond .ne 13, 3) := by decide +kernel
theorem dX6_checkExists_8 : decode cX6_checkExists 8 = .ok (.new 234, 3) := by decide +kernel
theorem dX6_checkExists_11 : decode cX6_checkExists 11 = .ok (.dup, 1) := by decide +kernel
theorem dX6_checkExists_12 : decode cX6_checkExists 12 = .ok (.ldc 236, 2) := by decide +kernel
theorem dX6_checkExists_14 : decode cX6_checkExists 14 = .ok (.invokespecial 238, 3) := by decide +kernel
theorem dX6_checkExists_17 : decode cX6_checkExists 17 = .ok (.athrow, 1) := by decide +kernel
theorem dX6_checkExists_18 : decode cX6_checkExists 18 = .ok (.return_, 1) := by decide +kernel
set_option maxRecDepth 20000 in
theorem ggX6_checkSlot_X6_isWithin : GoodIn wsX6_checkSlot wsX6_isWithin := goodIn_r _ [6] (by decide +kernel) (by decide +kernel)
set_option maxRecDepth 20000 in
theorem gX6_checkSlot_X6_isWithin : GoodIn wsX6_checkSlot (va_wsS RX6 241 yX6_isWithin wsX6_isWithin) := goodIn_app (goodIn_of _ (by decide +kernel)) ggX6_checkSlot_X6_isWithin
theorem dX6_checkSlot_0 : decode cX6_checkSlot 0 = .ok (.iload_n 0, 1) := by decide +kernel
theorem dX6_checkSlot_1 : decode cX6_checkSlot 1 = .ok (.iconst 0, 1) := by decide +kernel
theorem dX6_checkSlot_2 : decode cX6_checkSlot 2 = .ok (.iconst 1, 1) := by decide +kernel
theorem dX6_checkSlot_3 : decode cX6_checkSlot 3 = .ok (.invokestatic 241, 3) := by decide +kernel
theorem dX6_checkSlot_6 : decode cX6_checkSlot 6 = .ok (.ifCond .ne 13, 3) := by decide +kernel
theorem dX6_checkSlot_9 : decode cX6_checkSlot 9 = .ok (.new 234, 3) := by decide +kernel
theorem dX6_checkSlot_12 : decode cX6_checkSlot 12 = .ok (.dup, 1) := by decide +kernel
theorem dX6_checkSlot_13 : decode cX6_checkSlot 13 = .ok (.ldc 245, 2) := by decide +kernel
theorem dX6_checkSlot_15 : decode cX6_checkSlot 15 = .ok (.invokespecial 238, 3) := by decide +kernel
theorem dX6_checkSlot_18 : decode cX6_checkSlot 18 = .ok (.athrow, 1) := by decide +kernel
theorem dX6_checkSlot_19 : decode cX6_checkSlot 19 = .ok (.return_, 1) := by decide +kernel
set_option maxRecDepth 20000 in
theorem ggX6_checkRange_X6_isWithin : GoodIn wsX6_checkRange wsX6_isWithin := goodIn_r _ [4] (by decide +kernel) (by decide +kernel)
set_option maxRecDepth 20000 in
theorem gX6_checkRange_X6_isWithin : GoodIn wsX6_checkRange (va_wsS RX6 241 yX6_isWithin wsX6_isWithin) := goodIn_app (goodIn_of _ (by decide +kernel)) ggX6_checkRange_X6_isWithin
set_option maxRecDepth 20000 in
theorem ggX6_checkRange_X6_refuseArgumentIf : GoodIn wsX6_checkRange wsX6_refuseArgumentIf := goodIn_ca (goodIn_r _ [7, 8, 9] (by decide +kernel) (by decide +kernel)) (goodIn_sub (fun _ h => List.mem_cons_of_mem _ (List.mem_append_right _ h)) (by decide +kernel))
set_option maxRecDepth 20000 in
theorem gX6_checkRange_X6_refuseArgumentIf : GoodIn wsX6_checkRange (va_wsS RX6 139 yX6_refuseArgumentIf wsX6_refuseArgumentIf) := goodIn_app (goodIn_of _ (by decide +kernel)) ggX6_checkRange_X6_refuseArgumentIf
theorem dX6_checkRange_0 : decode cX6_checkRange 0 = .ok (.iload_n 0, 1) := by decide +kernel
theorem dX6_checkRange_1 : decode cX6_checkRange 1 = .ok (.iload_n 1, 1) := by decide +kernel
theorem dX6_checkRange_2 : decode cX6_checkRange 2 = .ok (.iload_n 2, 1) := by decide +kernel
theorem dX6_checkRange_3 : decode cX6_checkRange 3 = .ok (.invokestatic 241, 3) := by decide +kernel
theorem dX6_checkRange_6 : decode cX6_checkRange 6 = .ok (.ifCond .ne 7, 3) := by decide +kernel
theorem dX6_checkRange_9 : decode cX6_checkRange 9 = .ok (.iconst 1, 1) := by decide +kernel
theorem dX6_checkRange_10 : decode cX6_checkRange 10 = .ok (.goto 4, 3) := by decide +kernel
theorem dX6_checkRange_13 : decode cX6_checkRange 13 = .ok (.iconst 0, 1) := by decide +kernel
theorem dX6_checkRange_14 : decode cX6_checkRange 14 = .ok (.invokestatic 139, 3) := by decide +kernel
theorem dX6_checkRange_17 : decode cX6_checkRange 17 = .ok (.return_, 1) := by decide +kernel
theorem dX6_refuseArgumentIf_0 : decode cX6_refuseArgumentIf 0 = .ok (.iload_n 0, 1) := by decide +kernel
theorem dX6_refuseArgumentIf_1 : decode cX6_refuseArgumentIf 1 = .ok (.ifCond .eq 13, 3) := by decide +kernel
theorem dX6_refuseArgumentIf_4 : decode cX6_refuseArgumentIf 4 = .ok (.new 247, 3) := by decide +kernel
theorem dX6_refuseArgumentIf_7 : decode cX6_refuseArgumentIf 7 = .ok (.dup, 1) := by decide +kernel
theorem dX6_refuseArgumentIf_8 : decode cX6_refuseArgumentIf 8 = .ok (.ldc 249, 2) := by decide +kernel
theorem dX6_refuseArgumentIf_10 : decode cX6_refuseArgumentIf 10 = .ok (.invokespecial 251, 3) := by decide +kernel
theorem dX6_refuseArgumentIf_13 : decode cX6_refuseArgumentIf 13 = .ok (.athrow, 1) := by decide +kernel
theorem dX6_refuseArgumentIf_14 : decode cX6_refuseArgumentIf 14 = .ok (.return_, 1) := by decide +kernel
theorem dX6_refuseIf_0 : decode cX6_refuseIf 0 = .ok (.iload_n 0, 1) := by decide +kernel
theorem dX6_refuseIf_1 : decode cX6_refuseIf 1 = .ok (.ifCond .eq 13, 3) := by decide +kernel
theorem dX6_refuseIf_4 : decode cX6_refuseIf 4 = .ok (.new 252, 3) := by decide +kernel
theorem dX6_refuseIf_7 : decode cX6_refuseIf 7 = .ok (.dup, 1) := by decide +kernel
theorem dX6_refuseIf_8 : decode cX6_refuseIf 8 = .ok (.ldc 254, 2) := by decide +kernel
theorem dX6_refuseIf_10 : decode cX6_refuseIf 10 = .ok (.invokespecial 256, 3) := by decide +kernel
theorem dX6_refuseIf_13 : decode cX6_refuseIf 13 = .ok (.athrow, 1) := by decide +kernel
theorem dX6_refuseIf_14 : decode cX6_refuseIf 14 = .ok (.return_, 1) := by decide +kernel
theorem dX6_isWithin_0 : decode cX6_isWithin 0 = .ok (.iload_n 0, 1) := by decide +kernel
theorem dX6_isWithin_1 : decode cX6_isWithin 1 = .ok (.iload_n 1, 1) := by decide +kernel
theorem dX6_isWithin_2 : decode cX6_isWithin 2 = .ok (.if_icmp .lt 12, 3) := by decide +kernel
theorem dX6_isWithin_5 : decode cX6_isWithin 5 = .ok (.iload_n 0, 1) := by decide +kernel
theorem dX6_isWithin_6 : decode cX6_isWithin 6 = .ok (.iload_n 2, 1) := by decide +kernel
theorem dX6_isWithin_7 : decode cX6_isWithin 7 = .ok (.if_icmp .gt 7, 3) := by decide +kernel
theorem dX6_isWithin_10 : decode cX6_isWithin 10 = .ok (.iconst 1, 1) := by decide +kernel
theorem dX6_isWithin_11 : decode cX6_isWithin 11 = .ok (.goto 4, 3) := by decide +kernel
theorem dX6_isWithin_14 : decode cX6_isWithin 14 = .ok (.iconst 0, 1) := by decide +kernel
theorem dX6_isWithin_15 : decode cX6_isWithin 15 = .ok (.ireturn, 1) := by decide +kernel
theorem dX6_groupOf_0 : decode cX6_groupOf 0 = .ok (.lload_n 0, 1) := by decide +kernel
theorem dX6_groupOf_1 : decode cX6_groupOf 1 = .ok (.lstore_n 3, 1) := by decide +kernel
theorem dX6_groupOf_2 : decode cX6_groupOf 2 = .ok (.iconst 0, 1) := by decide +kernel
theorem dX6_groupOf_3 : decode cX6_groupOf 3 = .ok (.istore 5, 2) := by decide +kernel
theorem dX6_groupOf_5 : decode cX6_groupOf 5 = .ok (.iload 5, 2) := by decide +kernel
theorem dX6_groupOf_7 : decode cX6_groupOf 7 = .ok (.iload_n 2, 1) := by decide +kernel
theorem dX6_groupOf_8 : decode cX6_groupOf 8 = .ok (.if_icmp .ge 15, 3) := by decide +kernel
theorem dX6_groupOf_11 : decode cX6_groupOf 11 = .ok (.lload_n 3, 1) := by decide +kernel
theorem dX6_groupOf_12 : decode cX6_groupOf 12 = .ok (.ldc2_w 199, 3) := by decide +kernel
theorem dX6_groupOf_15 : decode cX6_groupOf 15 = .ok (.ldiv, 1) := by decide +kernel
theorem dX6_groupOf_16 : decode cX6_groupOf 16 = .ok (.lstore_n 3, 1) := by decide +kernel
theorem dX6_groupOf_17 : decode cX6_groupOf 17 = .ok (.iinc 5 1, 3) := by decide +kernel
theorem dX6_groupOf_20 : decode cX6_groupOf 20 = .ok (.goto (-15), 3) := by decide +kernel
theorem dX6_groupOf_23 : decode cX6_groupOf 23 = .ok (.lload_n 3, 1) := by decide +kernel
theorem dX6_groupOf_24 : decode cX6_groupOf 24 = .ok (.ldc2_w 199, 3) := by decide +kernel
theorem dX6_groupOf_27 : decode cX6_groupOf 27 = .ok (.lrem, 1) := by decide +kernel
theorem dX6_groupOf_28 : decode cX6_groupOf 28 = .ok (.l2i, 1) := by decide +kernel
theorem dX6_groupOf_29 : decode cX6_groupOf 29 = .ok (.ireturn, 1) := by decide +kernel
theorem dX7_init_0 : decode cX7_init 0 = .ok (.aload_n 0, 1) := by decide +kernel
theorem dX7_init_1 : decode cX7_init 1 = .ok (.invokespecial 1, 3) := by decide +kernel
theorem dX7_init_4 : decode cX7_init 4 = .ok (.aload_n 0, 1) := by decide +kernel
theorem dX7_init_5 : decode cX7_init 5 = .ok (.sipush 140, 3) := by decide +kernel
theorem dX7_init_8 : decode cX7_init 8 = .ok (.newarray .int, 2) := by decide +kernel
theorem dX7_init_10 : decode cX7_init 10 = .ok (.putfield 7, 3) := by decide +kernel
theorem dX7_init_13 : decode cX7_init 13 = .ok (.aload_n 0, 1) := by decide +kernel
theorem dX7_init_14 : decode cX7_init 14 = .ok (.sipush 250, 3) := by decide +kernel
theorem dX7_init_17 : decode cX7_init 17 = .ok (.newarray .int, 2) := by decide +kernel
theorem dX7_init_19 : decode cX7_init 19 = .ok (.putfield 13, 3) := by decide +kernel
theorem dX7_init_22 : decode cX7_init 22 = .ok (.aload_n 0, 1) := by decide +kernel
theorem dX7_init_23 : decode cX7_init 23 = .ok (.sipush 250, 3) := by decide +kernel
theorem dX7_init_26 : decode cX7_init 26 = .ok (.newarray .int, 2) := by decide +kernel
theorem dX7_init_28 : decode cX7_init 28 = .ok (.putfield 16, 3) := by decide +kernel
theorem dX7_init_31 : decode cX7_init 31 = .ok (.aload_n 0, 1) := by decide +kernel
theorem dX7_init_32 : decode cX7_init 32 = .ok (.sipush 250, 3) := by decide +kernel
theorem dX7_init_35 : decode cX7_init 35 = .ok (.newarray .int, 2) := by decide +kernel
theorem dX7_init_37 : decode cX7_init 37 = .ok (.putfield 19, 3) := by decide +kernel
theorem dX7_init_40 : decode cX7_init 40 = .ok (.aload_n 0, 1) := by decide +kernel
theorem dX7_init_41 : decode cX7_init 41 = .ok (.sipush 3500, 3) := by decide +kernel
theorem dX7_init_44 : decode cX7_init 44 = .ok (.newarray .int, 2) := by decide +kernel
theorem dX7_init_46 : decode cX7_init 46 = .ok (.putfield 22, 3) := by decide +kernel
theorem dX7_init_49 : decode cX7_init 49 = .ok (.aload_n 0, 1) := by decide +kernel
theorem dX7_init_50 : decode cX7_init 50 = .ok (.sipush 500, 3) := by decide +kernel
theorem dX7_init_53 : decode cX7_init 53 = .ok (.newarray .int, 2) := by decide +kernel
theorem dX7_init_55 : decode cX7_init 55 = .ok (.putfield 25, 3) := by decide +kernel
theorem dX7_init_58 : decode cX7_init 58 = .ok (.aload_n 0, 1) := by decide +kernel
theorem dX7_init_59 : decode cX7_init 59 = .ok (.iconst 2, 1) := by decide +kernel
theorem dX7_init_60 : decode cX7_init 60 = .ok (.newarray .boolean, 2) := by decide +kernel
theorem dX7_init_62 : decode cX7_init 62 = .ok (.putfield 28, 3) := by decide +kernel
theorem dX7_init_65 : decode cX7_init 65 = .ok (.aload_n 0, 1) := by decide +kernel
theorem dX7_init_66 : decode cX7_init 66 = .ok (.bipush (-9), 2) := by decide +kernel
theorem dX7_init_68 : decode cX7_init 68 = .ok (.putfield 32, 3) := by decide +kernel
theorem dX7_init_71 : decode cX7_init 71 = .ok (.aload_n 0, 1) := by decide +kernel
theorem dX7_init_72 : decode cX7_init 72 = .ok (.bipush (-9), 2) := by decide +kernel
theorem dX7_init_74 : decode cX7_init 74 = .ok (.putfield 36, 3) := by decide +kernel
theorem dX7_init_77 : decode cX7_init 77 = .ok (.aload_n 0, 1) := by decide +kernel
theorem dX7_init_78 : decode cX7_init 78 = .ok (.getfield 16, 3) := by decide +kernel
theorem dX7_init_81 : decode cX7_init 81 = .ok (.iconst 0, 1) := by decide +kernel
theorem dX7_init_82 : decode cX7_init 82 = .ok (.bipush 20, 2) := by decide +kernel
theorem dX7_init_84 : decode cX7_init 84 = .ok (.iastore, 1) := by decide +kernel
theorem dX7_init_85 : decode cX7_init 85 = .ok (.return_, 1) := by decide +kernel
theorem dX7_thrown_0 : decode cX7_thrown 0 = .ok (.aload_n 0, 1) := by decide +kernel
theorem dX7_thrown_1 : decode cX7_thrown 1 = .ok (.getfield 39, 3) := by decide +kernel
theorem dX7_thrown_4 : decode cX7_thrown 4 = .ok (.ireturn, 1) := by decide +kernel
theorem dX7_refused_0 : decode cX7_refused 0 = .ok (.aload_n 0, 1) := by decide +kernel
theorem dX7_refused_1 : decode cX7_refused 1 = .ok (.iload_n 1, 1) := by decide +kernel
theorem dX7_refused_2 : decode cX7_refused 2 = .ok (.putfield 39, 3) := by decide +kernel
theorem dX7_refused_5 : decode cX7_refused 5 = .ok (.iload_n 1, 1) := by decide +kernel
theorem dX7_refused_6 : decode cX7_refused 6 = .ok (.ifCond .le 7, 3) := by decide +kernel
theorem dX7_refused_9 : decode cX7_refused 9 = .ok (.iconst 1, 1) := by decide +kernel
theorem dX7_refused_10 : decode cX7_refused 10 = .ok (.goto 4, 3) := by decide +kernel
theorem dX7_refused_13 : decode cX7_refused 13 = .ok (.iconst 0, 1) := by decide +kernel
theorem dX7_refused_14 : decode cX7_refused 14 = .ok (.ireturn, 1) := by decide +kernel
theorem dX7_in_0 : decode cX7_in 0 = .ok (.lload_n 0, 1) := by decide +kernel
theorem dX7_in_1 : decode cX7_in 1 = .ok (.lload_n 2, 1) := by decide +kernel
theorem dX7_in_2 : decode cX7_in 2 = .ok (.lcmp, 1) := by decide +kernel
theorem dX7_in_3 : decode cX7_in 3 = .ok (.ifCond .lt 14, 3) := by decide +kernel
theorem dX7_in_6 : decode cX7_in 6 = .ok (.lload_n 0, 1) := by decide +kernel
theorem dX7_in_7 : decode cX7_in 7 = .ok (.lload 4, 2) := by decide +kernel
theorem dX7_in_9 : decode cX7_in 9 = .ok (.lcmp, 1) := by decide +kernel
theorem dX7_in_10 : decode cX7_in 10 = .ok (.ifCond .gt 7, 3) := by decide +kernel
theorem dX7_in_13 : decode cX7_in 13 = .ok (.iconst 1, 1) := by decide +kernel
theorem dX7_in_14 : decode cX7_in 14 = .ok (.goto 4, 3) := by decide +kernel
theorem dX7_in_17 : decode cX7_in 17 = .ok (.iconst 0, 1) := by decide +kernel
theorem dX7_in_18 : decode cX7_in 18 = .ok (.ireturn, 1) := by decide +kernel
theorem dX7_copy_0 : decode cX7_copy 0 = .ok (.iconst 0, 1) := by decide +kernel
theorem dX7_copy_1 : decode cX7_copy 1 = .ok (.istore 5, 2) := by decide +kernel
theorem dX7_copy_3 : decode cX7_copy 3 = .ok (.iload 5, 2) := by decide +kernel
theorem dX7_copy_5 : decode cX7_copy 5 = .ok (.iload 4, 2) := by decide +kernel
theorem dX7_copy_7 : decode cX7_copy 7 = .ok (.if_icmp .ge 21, 3) := by decide +kernel
theorem dX7_copy_10 : decode cX7_copy 10 = .ok (.aload_n 2, 1) := by decide +kernel
theorem dX7_copy_11 : decode cX7_copy 11 = .ok (.iload_n 3, 1) := by decide +kernel
theorem dX7_copy_12 : decode cX7_copy 12 = .ok (.iload 5, 2) := by decide +kernel
theorem dX7_copy_14 : decode cX7_copy 14 = .ok (.iadd, 1) := by decide +kernel
theorem dX7_copy_15 : decode cX7_copy 15 = .ok (.aload_n 0, 1) := by decide +kernel
theorem dX7_copy_16 : decode cX7_copy 16 = .ok (.iload_n 1, 1) := by decide +kernel
theorem dX7_copy_17 : decode cX7_copy 17 = .ok (.iload 5, 2) := by decide +kernel
theorem dX7_copy_19 : decode cX7_copy 19 = .ok (.iadd, 1) := by decide +kernel
theorem dX7_copy_20 : decode cX7_copy 20 = .ok (.iaload, 1) := by decide +kernel
theorem dX7_copy_21 : decode cX7_copy 21 = .ok (.iastore, 1) := by decide +kernel
theorem dX7_copy_22 : decode cX7_copy 22 = .ok (.iinc 5 1, 3) := by decide +kernel
theorem dX7_copy_25 : decode cX7_copy 25 = .ok (.goto (-22), 3) := by decide +kernel
theorem dX7_copy_28 : decode cX7_copy 28 = .ok (.return_, 1) := by decide +kernel
theorem dX7_tenTo_0 : decode cX7_tenTo 0 = .ok (.lconst 1, 1) := by decide +kernel
theorem dX7_tenTo_1 : decode cX7_tenTo 1 = .ok (.lstore_n 1, 1) := by decide +kernel
theorem dX7_tenTo_2 : decode cX7_tenTo 2 = .ok (.iconst 0, 1) := by decide +kernel
theorem dX7_tenTo_3 : decode cX7_tenTo 3 = .ok (.istore_n 3, 1) := by decide +kernel
theorem dX7_tenTo_4 : decode cX7_tenTo 4 = .ok (.iload_n 3, 1) := by decide +kernel
theorem dX7_tenTo_5 : decode cX7_tenTo 5 = .ok (.iload_n 0, 1) := by decide +kernel
theorem dX7_tenTo_6 : decode cX7_tenTo 6 = .ok (.if_icmp .ge 15, 3) := by decide +kernel
theorem dX7_tenTo_9 : decode cX7_tenTo 9 = .ok (.lload_n 1, 1) := by decide +kernel
theorem dX7_tenTo_10 : decode cX7_tenTo 10 = .ok (.ldc2_w 42, 3) := by decide +kernel
theorem dX7_tenTo_13 : decode cX7_tenTo 13 = .ok (.lmul, 1) := by decide +kernel
theorem dX7_tenTo_14 : decode cX7_tenTo 14 = .ok (.lstore_n 1, 1) := by decide +kernel
theorem dX7_tenTo_15 : decode cX7_tenTo 15 = .ok (.iinc 3 1, 3) := by decide +kernel
theorem dX7_tenTo_18 : decode cX7_tenTo 18 = .ok (.goto (-14), 3) := by decide +kernel
theorem dX7_tenTo_21 : decode cX7_tenTo 21 = .ok (.lload_n 1, 1) := by decide +kernel
theorem dX7_tenTo_22 : decode cX7_tenTo 22 = .ok (.lreturn, 1) := by decide +kernel
set_option maxRecDepth 20000 in
theorem ggX7_remember_X7_copy : GoodIn wsX7_remember wsX7_copy := goodIn_r _ [7] (by decide +kernel) (by decide +kernel)
set_option maxRecDepth 20000 in
theorem gX7_remember_X7_copy : GoodIn wsX7_remember (va_wsS RX7 47 yX7_copy wsX7_copy) := goodIn_app (goodIn_of _ (by decide +kernel)) ggX7_remember_X7_copy
theorem dX7_remember_0 : decode cX7_remember 0 = .ok (.aload_n 0, 1) := by decide +kernel
theorem dX7_remember_1 : decode cX7_remember 1 = .ok (.getfield 44, 3) := by decide +kernel
theorem dX7_remember_4 : decode cX7_remember 4 = .ok (.bipush 14, 2) := by decide +kernel
theorem dX7_remember_6 : decode cX7_remember 6 = .ok (.if_icmp .ne 31, 3) := by decide +kernel
theorem dX7_remember_9 : decode cX7_remember 9 = .ok (.aload_n 0, 1) := by decide +kernel
theorem dX7_remember_10 : decode cX7_remember 10 = .ok (.getfield 22, 3) := by decide +kernel
theorem dX7_remember_13 : decode cX7_remember 13 = .ok (.sipush 250, 3) := by decide +kernel
theorem dX7_remember_16 : decode cX7_remember 16 = .ok (.aload_n 0, 1) := by decide +kernel
theorem dX7_remember_17 : decode cX7_remember 17 = .ok (.getfield 22, 3) := by decide +kernel
theorem dX7_remember_20 : decode cX7_remember 20 = .ok (.iconst 0, 1) := by decide +kernel
theorem dX7_remember_21 : decode cX7_remember 21 = .ok (.sipush 3250, 3) := by decide +kernel
theorem dX7_remember_24 : decode cX7_remember 24 = .ok (.invokestatic 47, 3) := by decide +kernel
theorem dX7_remember_27 : decode cX7_remember 27 = .ok (.aload_n 0, 1) := by decide +kernel
theorem dX7_remember_28 : decode cX7_remember 28 = .ok (.dup, 1) := by decide +kernel
theorem dX7_remember_29 : decode cX7_remember 29 = .ok (.getfield 44, 3) := by decide +kernel
theorem dX7_remember_32 : decode cX7_remember 32 = .ok (.iconst 1, 1) := by decide +kernel
theorem dX7_remember_33 : decode cX7_remember 33 = .ok (.isub, 1) := by decide +kernel
theorem dX7_remember_34 : decode cX7_remember 34 = .ok (.putfield 44, 3) := by decide +kernel
theorem dX7_remember_37 : decode cX7_remember 37 = .ok (.aload_n 0, 1) := by decide +kernel
theorem dX7_remember_38 : decode cX7_remember 38 = .ok (.getfield 16, 3) := by decide +kernel
theorem dX7_remember_41 : decode cX7_remember 41 = .ok (.iconst 0, 1) := by decide +kernel
theorem dX7_remember_42 : decode cX7_remember 42 = .ok (.aload_n 0, 1) := by decide +kernel
theorem dX7_remember_43 : decode cX7_remember 43 = .ok (.getfield 22, 3) := by decide +kernel
theorem dX7_remember_46 : decode cX7_remember 46 = .ok (.sipush 250, 3) := by decide +kernel
theorem dX7_remember_49 : decode cX7_remember 49 = .ok (.aload_n 0, 1) := by decide +kernel
theorem dX7_remember_50 : decode cX7_remember 50 = .ok (.getfield 44, 3) := by decide +kernel
theorem dX7_remember_53 : decode cX7_remember 53 = .ok (.imul, 1) := by decide +kernel
theorem dX7_remember_54 : decode cX7_remember 54 = .ok (.sipush 250, 3) := by decide +kernel
theorem dX7_remember_57 : decode cX7_remember 57 = .ok (.invokestatic 47, 3) := by decide +kernel
theorem dX7_remember_60 : decode cX7_remember 60 = .ok (.aload_n 0, 1) := by decide +kernel
theorem dX7_remember_61 : decode cX7_remember 61 = .ok (.dup, 1) := by decide +kernel
theorem dX7_remember_62 : decode cX7_remember 62 = .ok (.getfield 44, 3) := by decide +kernel
theorem dX7_remember_65 : decode cX7_remember 65 = .ok (.iconst 1, 1) := by decide +kernel
theorem dX7_remember_66 : decode cX7_remember 66 = .ok (.iadd, 1) := by decide +kernel
theorem dX7_remember_67 : decode cX7_remember 67 = .ok (.putfield 44, 3) := by decide +kernel
theorem dX7_remember_70 : decode cX7_remember 70 = .ok (.return_, 1) := by decide +kernel
set_option maxRecDepth 20000 in
theorem ggX7_begin_X7_copy : GoodIn wsX7_begin wsX7_copy := goodIn_r _ [6] (by decide +kernel) (by decide +kernel)
set_option maxRecDepth 20000 in
theorem gX7_begin_X7_copy : GoodIn wsX7_begin (va_wsS RX7 47 yX7_copy wsX7_copy) := goodIn_app (goodIn_of _ (by decide +kernel)) ggX7_begin_X7_copy
theorem dX7_begin_0 : decode cX7_begin 0 = .ok (.aload_n 0, 1) := by decide +kernel
theorem dX7_begin_1 : decode cX7_begin 1 = .ok (.getfield 16, 3) := by decide +kernel
theorem dX7_begin_4 : decode cX7_begin 4 = .ok (.iconst 0, 1) := by decide +kernel
theorem dX7_begin_5 : decode cX7_begin 5 = .ok (.aload_n 0, 1) := by decide +kernel
theorem dX7_begin_6 : decode cX7_begin 6 = .ok (.getfield 19, 3) := by decide +kernel
theorem dX7_begin_9 : decode cX7_begin 9 = .ok (.iconst 0, 1) := by decide +kernel
theorem dX7_begin_10 : decode cX7_begin 10 = .ok (.sipush 250, 3) := by decide +kernel
theorem dX7_begin_13 : decode cX7_begin 13 = .ok (.invokestatic 47, 3) := by decide +kernel
theorem dX7_begin_16 : decode cX7_begin 16 = .ok (.return_, 1) := by decide +kernel
theorem dX7_gateAt_0 : decode cX7_gateAt 0 = .ok (.bipush 8, 2) := by decide +kernel
theorem dX7_gateAt_2 : decode cX7_gateAt 2 = .ok (.iconst 4, 1) := by decide +kernel
theorem dX7_gateAt_3 : decode cX7_gateAt 3 = .ok (.iload_n 0, 1) := by decide +kernel
theorem dX7_gateAt_4 : decode cX7_gateAt 4 = .ok (.imul, 1) := by decide +kernel
theorem dX7_gateAt_5 : decode cX7_gateAt 5 = .ok (.iadd, 1) := by decide +kernel
theorem dX7_gateAt_6 : decode cX7_gateAt 6 = .ok (.iload_n 1, 1) := by decide +kernel
theorem dX7_gateAt_7 : decode cX7_gateAt 7 = .ok (.iadd, 1) := by decide +kernel
theorem dX7_gateAt_8 : decode cX7_gateAt 8 = .ok (.ireturn, 1) := by decide +kernel
theorem dX7_bayAt_0 : decode cX7_bayAt 0 = .ok (.bipush 24, 2) := by decide +kernel
theorem dX7_bayAt_2 : decode cX7_bayAt 2 = .ok (.bipush 9, 2) := by decide +kernel
theorem dX7_bayAt_4 : decode cX7_bayAt 4 = .ok (.iload_n 0, 1) := by decide +kernel
theorem dX7_bayAt_5 : decode cX7_bayAt 5 = .ok (.imul, 1) := by decide +kernel
theorem dX7_bayAt_6 : decode cX7_bayAt 6 = .ok (.iadd, 1) := by decide +kernel
theorem dX7_bayAt_7 : decode cX7_bayAt 7 = .ok (.iload_n 1, 1) := by decide +kernel
theorem dX7_bayAt_8 : decode cX7_bayAt 8 = .ok (.iadd, 1) := by decide +kernel
theorem dX7_bayAt_9 : decode cX7_bayAt 9 = .ok (.ireturn, 1) := by decide +kernel
theorem dX7_depotAt_0 : decode cX7_depotAt 0 = .ok (.bipush 78, 2) := by decide +kernel
theorem dX7_depotAt_2 : decode cX7_depotAt 2 = .ok (.iconst 2, 1) := by decide +kernel
theorem dX7_depotAt_3 : decode cX7_depotAt 3 = .ok (.iload_n 0, 1) := by decide +kernel
theorem dX7_depotAt_4 : decode cX7_depotAt 4 = .ok (.imul, 1) := by decide +kernel
theorem dX7_depotAt_5 : decode cX7_depotAt 5 = .ok (.iadd, 1) := by decide +kernel
theorem dX7_depotAt_6 : decode cX7_depotAt 6 = .ok (.iload_n 1, 1) := by decide +kernel
theorem dX7_depotAt_7 : decode cX7_depotAt 7 = .ok (.iadd, 1) := by decide +kernel
theorem dX7_depotAt_8 : decode cX7_depotAt 8 = .ok (.ireturn, 1) := by decide +kernel
theorem dX7_convoyAt_0 : decode cX7_convoyAt 0 = .ok (.bipush 86, 2) := by decide +kernel
theorem dX7_convoyAt_2 : decode cX7_convoyAt 2 = .ok (.bipush 13, 2) := by decide +kernel
theorem dX7_convoyAt_4 : decode cX7_convoyAt 4 = .ok (.iload_n 0, 1) := by decide +kernel
theorem dX7_convoyAt_5 : decode cX7_convoyAt 5 = .ok (.imul, 1) := by decide +kernel
theorem dX7_convoyAt_6 : decode cX7_convoyAt 6 = .ok (.iadd, 1) := by decide +kernel
theorem dX7_convoyAt_7 : decode cX7_convoyAt 7 = .ok (.iload_n 1, 1) := by decide +kernel
theorem dX7_convoyAt_8 : decode cX7_convoyAt 8 = .ok (.iadd, 1) := by decide +kernel
theorem dX7_convoyAt_9 : decode cX7_convoyAt 9 = .ok (.ireturn, 1) := by decide +kernel
theorem dX7_carAt_0 : decode cX7_carAt 0 = .ok (.sipush 138, 3) := by decide +kernel
theorem dX7_carAt_3 : decode cX7_carAt 3 = .ok (.bipush 7, 2) := by decide +kernel
theorem dX7_carAt_5 : decode cX7_carAt 5 = .ok (.iload_n 0, 1) := by decide +kernel
theorem dX7_carAt_6 : decode cX7_carAt 6 = .ok (.imul, 1) := by decide +kernel
theorem dX7_carAt_7 : decode cX7_carAt 7 = .ok (.iadd, 1) := by decide +kernel
theorem dX7_carAt_8 : decode cX7_carAt 8 = .ok (.iload_n 1, 1) := by decide +kernel
theorem dX7_carAt_9 : decode cX7_carAt 9 = .ok (.iadd, 1) := by decide +kernel
theorem dX7_carAt_10 : decode cX7_carAt 10 = .ok (.ireturn, 1) := by decide +kernel
set_option maxRecDepth 20000 in
theorem ggX7_who_X7_convoyAt : GoodIn wsX7_who wsX7_convoyAt := goodIn_r _ [4] (by decide +kernel) (by decide +kernel)
set_option maxRecDepth 20000 in
theorem gX7_who_X7_convoyAt : GoodIn wsX7_who (va_wsS RX7 51 yX7_convoyAt wsX7_convoyAt) := goodIn_app (goodIn_of _ (by decide +kernel)) ggX7_who_X7_convoyAt
theorem dX7_who_0 : decode cX7_who 0 = .ok (.aload_n 0, 1) := by decide +kernel
theorem dX7_who_1 : decode cX7_who 1 = .ok (.iload_n 1, 1) := by decide +kernel
theorem dX7_who_2 : decode cX7_who 2 = .ok (.iconst 5, 1) := by decide +kernel
theorem dX7_who_3 : decode cX7_who 3 = .ok (.iload_n 2, 1) := by decide +kernel
theorem dX7_who_4 : decode cX7_who 4 = .ok (.iadd, 1) := by decide +kernel
theorem dX7_who_5 : decode cX7_who 5 = .ok (.invokestatic 51, 3) := by decide +kernel
theorem dX7_who_8 : decode cX7_who 8 = .ok (.iaload, 1) := by decide +kernel
theorem dX7_who_9 : decode cX7_who 9 = .ok (.ireturn, 1) := by decide +kernel
set_option maxRecDepth 20000 in
theorem ggX7_sizeOf_X7_convoyAt : GoodIn wsX7_sizeOf wsX7_convoyAt := goodIn_r _ [4] (by decide +kernel) (by decide +kernel)
set_option maxRecDepth 20000 in
theorem gX7_sizeOf_X7_convoyAt : GoodIn wsX7_sizeOf (va_wsS RX7 51 yX7_convoyAt wsX7_convoyAt) := goodIn_app (goodIn_of _ (by decide +kernel)) ggX7_sizeOf_X7_convoyAt
theorem dX7_sizeOf_0 : decode cX7_sizeOf 0 = .ok (.aload_n 0, 1) := by decide +kernel
theorem dX7_sizeOf_1 : decode cX7_sizeOf 1 = .ok (.iload_n 1, 1) := by decide +kernel
theorem dX7_sizeOf_2 : decode cX7_sizeOf 2 = .ok (.iconst 1, 1) := by decide +kernel
theorem dX7_sizeOf_3 : decode cX7_sizeOf 3 = .ok (.invokestatic 51, 3) := by decide +kernel
theorem dX7_sizeOf_6 : decode cX7_sizeOf 6 = .ok (.iaload, 1) := by decide +kernel
theorem dX7_sizeOf_7 : decode cX7_sizeOf 7 = .ok (.ireturn, 1) := by decide +kernel
set_option maxRecDepth 20000 in
theorem ggX7_isClosed_X7_gateAt : GoodIn wsX7_isClosed wsX7_gateAt := goodIn_r _ [4] (by decide +kernel) (by decide +kernel)
set_option maxRecDepth 20000 in
theorem gX7_isClosed_X7_gateAt : GoodIn wsX7_isClosed (va_wsS RX7 55 yX7_gateAt wsX7_gateAt) := goodIn_app (goodIn_of _ (by decide +kernel)) ggX7_isClosed_X7_gateAt
theorem dX7_isClosed_0 : decode cX7_isClosed 0 = .ok (.aload_n 0, 1) := by decide +kernel
theorem dX7_isClosed_1 : decode cX7_isClosed 1 = .ok (.iconst 1, 1) := by decide +kernel
theorem dX7_isClosed_2 : decode cX7_isClosed 2 = .ok (.iaload, 1) := by decide +kernel
theorem dX7_isClosed_3 : decode cX7_isClosed 3 = .ok (.aload_n 0, 1) := by decide +kernel
theorem dX7_isClosed_4 : decode cX7_isClosed 4 = .ok (.iload_n 1, 1) := by decide +kernel
theorem dX7_isClosed_5 : decode cX7_isClosed 5 = .ok (.iconst 3, 1) := by decide +kernel
theorem dX7_isClosed_6 : decode cX7_isClosed 6 = .ok (.invokestatic 55, 3) := by decide +kernel
theorem dX7_isClosed_9 : decode cX7_isClosed 9 = .ok (.iaload, 1) := by decide +kernel
theorem dX7_isClosed_10 : decode cX7_isClosed 10 = .ok (.iadd, 1) := by decide +kernel
theorem dX7_isClosed_11 : decode cX7_isClosed 11 = .ok (.aload_n 0, 1) := by decide +kernel
theorem dX7_isClosed_12 : decode cX7_isClosed 12 = .ok (.iload_n 1, 1) := by decide +kernel
theorem dX7_isClosed_13 : decode cX7_isClosed 13 = .ok (.iconst 1, 1) := by decide +kernel
theorem dX7_isClosed_14 : decode cX7_isClosed 14 = .ok (.invokestatic 55, 3) := by decide +kernel
theorem dX7_isClosed_17 : decode cX7_isClosed 17 = .ok (.iaload, 1) := by decide +kernel
theorem dX7_isClosed_18 : decode cX7_isClosed 18 = .ok (.irem, 1) := by decide +kernel
theorem dX7_isClosed_19 : decode cX7_isClosed 19 = .ok (.aload_n 0, 1) := by decide +kernel
theorem dX7_isClosed_20 : decode cX7_isClosed 20 = .ok (.iload_n 1, 1) := by decide +kernel
theorem dX7_isClosed_21 : decode cX7_isClosed 21 = .ok (.iconst 2, 1) := by decide +kernel
theorem dX7_isClosed_22 : decode cX7_isClosed 22 = .ok (.invokestatic 55, 3) := by decide +kernel
theorem dX7_isClosed_25 : decode cX7_isClosed 25 = .ok (.iaload, 1) := by decide +kernel
theorem dX7_isClosed_26 : decode cX7_isClosed 26 = .ok (.if_icmp .ge 7, 3) := by decide +kernel
theorem dX7_isClosed_29 : decode cX7_isClosed 29 = .ok (.iconst 1, 1) := by decide +kernel
theorem dX7_isClosed_30 : decode cX7_isClosed 30 = .ok (.goto 4, 3) := by decide +kernel
theorem dX7_isClosed_33 : decode cX7_isClosed 33 = .ok (.iconst 0, 1) := by decide +kernel
theorem dX7_isClosed_34 : decode cX7_isClosed 34 = .ok (.ireturn, 1) := by decide +kernel
set_option maxRecDepth 20000 in
theorem ggX7_bayOn_X7_bayAt : GoodIn wsX7_bayOn wsX7_bayAt := goodIn_r _ [4] (by decide +kernel) (by decide +kernel)
set_option maxRecDepth 20000 in
theorem gX7_bayOn_X7_bayAt : GoodIn wsX7_bayOn (va_wsS RX7 58 yX7_bayAt wsX7_bayAt) := goodIn_app (goodIn_of _ (by decide +kernel)) ggX7_bayOn_X7_bayAt
theorem dX7_bayOn_0 : decode cX7_bayOn 0 = .ok (.bipush (-9), 2) := by decide +kernel
theorem dX7_bayOn_2 : decode cX7_bayOn 2 = .ok (.istore_n 2, 1) := by decide +kernel
theorem dX7_bayOn_3 : decode cX7_bayOn 3 = .ok (.iconst 0, 1) := by decide +kernel
theorem dX7_bayOn_4 : decode cX7_bayOn 4 = .ok (.istore_n 3, 1) := by decide +kernel
theorem dX7_bayOn_5 : decode cX7_bayOn 5 = .ok (.iload_n 3, 1) := by decide +kernel
theorem dX7_bayOn_6 : decode cX7_bayOn 6 = .ok (.aload_n 0, 1) := by decide +kernel
theorem dX7_bayOn_7 : decode cX7_bayOn 7 = .ok (.iconst 3, 1) := by decide +kernel
theorem dX7_bayOn_8 : decode cX7_bayOn 8 = .ok (.iaload, 1) := by decide +kernel
theorem dX7_bayOn_9 : decode cX7_bayOn 9 = .ok (.if_icmp .ge 26, 3) := by decide +kernel
theorem dX7_bayOn_12 : decode cX7_bayOn 12 = .ok (.aload_n 0, 1) := by decide +kernel
theorem dX7_bayOn_13 : decode cX7_bayOn 13 = .ok (.iload_n 3, 1) := by decide +kernel
theorem dX7_bayOn_14 : decode cX7_bayOn 14 = .ok (.iconst 0, 1) := by decide +kernel
theorem dX7_bayOn_15 : decode cX7_bayOn 15 = .ok (.invokestatic 58, 3) := by decide +kernel
theorem dX7_bayOn_18 : decode cX7_bayOn 18 = .ok (.iaload, 1) := by decide +kernel
theorem dX7_bayOn_19 : decode cX7_bayOn 19 = .ok (.iload_n 1, 1) := by decide +kernel
theorem dX7_bayOn_20 : decode cX7_bayOn 20 = .ok (.if_icmp .ne 7, 3) := by decide +kernel
theorem dX7_bayOn_23 : decode cX7_bayOn 23 = .ok (.iload_n 3, 1) := by decide +kernel
theorem dX7_bayOn_24 : decode cX7_bayOn 24 = .ok (.goto 4, 3) := by decide +kernel
theorem dX7_bayOn_27 : decode cX7_bayOn 27 = .ok (.iload_n 2, 1) := by decide +kernel
theorem dX7_bayOn_28 : decode cX7_bayOn 28 = .ok (.istore_n 2, 1) := by decide +kernel
theorem dX7_bayOn_29 : decode cX7_bayOn 29 = .ok (.iinc 3 1, 3) := by decide +kernel
theorem dX7_bayOn_32 : decode cX7_bayOn 32 = .ok (.goto (-27), 3) := by decide +kernel
theorem dX7_bayOn_35 : decode cX7_bayOn 35 = .ok (.iload_n 2, 1) := by decide +kernel
theorem dX7_bayOn_36 : decode cX7_bayOn 36 = .ok (.ireturn, 1) := by decide +kernel
set_option maxRecDepth 20000 in
theorem ggX7_depotOn_X7_depotAt : GoodIn wsX7_depotOn wsX7_depotAt := goodIn_r _ [4] (by decide +kernel) (by decide +kernel)
set_option maxRecDepth 20000 in
theorem gX7_depotOn_X7_depotAt : GoodIn wsX7_depotOn (va_wsS RX7 61 yX7_depotAt wsX7_depotAt) := goodIn_app (goodIn_of _ (by decide +kernel)) ggX7_depotOn_X7_depotAt
theorem dX7_depotOn_0 : decode cX7_depotOn 0 = .ok (.bipush (-9), 2) := by decide +kernel
theorem dX7_depotOn_2 : decode cX7_depotOn 2 = .ok (.istore_n 2, 1) := by decide +kernel
theorem dX7_depotOn_3 : decode cX7_depotOn 3 = .ok (.iconst 0, 1) := by decide +kernel
theorem dX7_depotOn_4 : decode cX7_depotOn 4 = .ok (.istore_n 3, 1) := by decide +kernel
theorem dX7_depotOn_5 : decode cX7_depotOn 5 = .ok (.iload_n 3, 1) := by decide +kernel
theorem dX7_depotOn_6 : decode cX7_depotOn 6 = .ok (.aload_n 0, 1) := by decide +kernel
theorem dX7_depotOn_7 : decode cX7_depotOn 7 = .ok (.iconst 4, 1) := by decide +kernel
theorem dX7_depotOn_8 : decode cX7_depotOn 8 = .ok (.iaload, 1) := by decide +kernel
theorem dX7_depotOn_9 : decode cX7_depotOn 9 = .ok (.if_icmp .ge 26, 3) := by decide +kernel
theorem dX7_depotOn_12 : decode cX7_depotOn 12 = .ok (.aload_n 0, 1) := by decide +kernel
theorem dX7_depotOn_13 : decode cX7_depotOn 13 = .ok (.iload_n 3, 1) := by decide +kernel
theorem dX7_depotOn_14 : decode cX7_depotOn 14 = .ok (.iconst 0, 1) := by decide +kernel
theorem dX7_depotOn_15 : decode cX7_depotOn 15 = .ok (.invokestatic 61, 3) := by decide +kernel
theorem dX7_depotOn_18 : decode cX7_depotOn 18 = .ok (.iaload, 1) := by decide +kernel
theorem dX7_depotOn_19 : decode cX7_depotOn 19 = .ok (.iload_n 1, 1) := by decide +kernel
theorem dX7_depotOn_20 : decode cX7_depotOn 20 = .ok (.if_icmp .ne 7, 3) := by decide +kernel
theorem dX7_depotOn_23 : decode cX7_depotOn 23 = .ok (.iload_n 3, 1) := by decide +kernel
theorem dX7_depotOn_24 : decode cX7_depotOn 24 = .ok (.goto 4, 3) := by decide +kernel
theorem dX7_depotOn_27 : decode cX7_depotOn 27 = .ok (.iload_n 2, 1) := by decide +kernel
theorem dX7_depotOn_28 : decode cX7_depotOn 28 = .ok (.istore_n 2, 1) := by decide +kernel
theorem dX7_depotOn_29 : decode cX7_depotOn 29 = .ok (.iinc 3 1, 3) := by decide +kernel
theorem dX7_depotOn_32 : decode cX7_depotOn 32 = .ok (.goto (-27), 3) := by decide +kernel
theorem dX7_depotOn_35 : decode cX7_depotOn 35 = .ok (.iload_n 2, 1) := by decide +kernel
theorem dX7_depotOn_36 : decode cX7_depotOn 36 = .ok (.ireturn, 1) := by decide +kernel
set_option maxRecDepth 20000 in
theorem ggX7_gateOn_X7_gateAt : GoodIn wsX7_gateOn wsX7_gateAt := goodIn_r _ [4] (by decide +kernel) (by decide +kernel)
set_option maxRecDepth 20000 in
theorem gX7_gateOn_X7_gateAt : GoodIn wsX7_gateOn (va_wsS RX7 55 yX7_gateAt wsX7_gateAt) := goodIn_app (goodIn_of _ (by decide +kernel)) ggX7_gateOn_X7_gateAt
theorem dX7_gateOn_0 : decode cX7_gateOn 0 = .ok (.bipush (-9), 2) := by decide +kernel
theorem dX7_gateOn_2 : decode cX7_gateOn 2 = .ok (.istore_n 2, 1) := by decide +kernel
theorem dX7_gateOn_3 : decode cX7_gateOn 3 = .ok (.iconst 0, 1) := by decide +kernel
theorem dX7_gateOn_4 : decode cX7_gateOn 4 = .ok (.istore_n 3, 1) := by decide +kernel
theorem dX7_gateOn_5 : decode cX7_gateOn 5 = .ok (.iload_n 3, 1) := by decide +kernel
theorem dX7_gateOn_6 : decode cX7_gateOn 6 = .ok (.aload_n 0, 1) := by decide +kernel
theorem dX7_gateOn_7 : decode cX7_gateOn 7 = .ok (.iconst 2, 1) := by decide +kernel
theorem dX7_gateOn_8 : decode cX7_gateOn 8 = .ok (.iaload, 1) := by decide +kernel
theorem dX7_gateOn_9 : decode cX7_gateOn 9 = .ok (.if_icmp .ge 26, 3) := by decide +kernel
theorem dX7_gateOn_12 : decode cX7_gateOn 12 = .ok (.aload_n 0, 1) := by decide +kernel
theorem dX7_gateOn_13 : decode cX7_gateOn 13 = .ok (.iload_n 3, 1) := by decide +kernel
theorem dX7_gateOn_14 : decode cX7_gateOn 14 = .ok (.iconst 0, 1) := by decide +kernel
theorem dX7_gateOn_15 : decode cX7_gateOn 15 = .ok (.invokestatic 55, 3) := by decide +kernel
theorem dX7_gateOn_18 : decode cX7_gateOn 18 = .ok (.iaload, 1) := by decide +kernel
theorem dX7_gateOn_19 : decode cX7_gateOn 19 = .ok (.iload_n 1, 1) := by decide +kernel
theorem dX7_gateOn_20 : decode cX7_gateOn 20 = .ok (.if_icmp .ne 7, 3) := by decide +kernel
theorem dX7_gateOn_23 : decode cX7_gateOn 23 = .ok (.iload_n 3, 1) := by decide +kernel
theorem dX7_gateOn_24 : decode cX7_gateOn 24 = .ok (.goto 4, 3) := by decide +kernel
theorem dX7_gateOn_27 : decode cX7_gateOn 27 = .ok (.iload_n 2, 1) := by decide +kernel
theorem dX7_gateOn_28 : decode cX7_gateOn 28 = .ok (.istore_n 2, 1) := by decide +kernel
theorem dX7_gateOn_29 : decode cX7_gateOn 29 = .ok (.iinc 3 1, 3) := by decide +kernel
theorem dX7_gateOn_32 : decode cX7_gateOn 32 = .ok (.goto (-27), 3) := by decide +kernel
theorem dX7_gateOn_35 : decode cX7_gateOn 35 = .ok (.iload_n 2, 1) := by decide +kernel
theorem dX7_gateOn_36 : decode cX7_gateOn 36 = .ok (.ireturn, 1) := by decide +kernel
set_option maxRecDepth 20000 in
theorem ggX7_slowest_X7_sizeOf : GoodIn wsX7_slowest wsX7_sizeOf := goodIn_r _ [4, 5, 6, 3, 7] (by decide +kernel) (by decide +kernel)
set_option maxRecDepth 20000 in
theorem gX7_slowest_X7_sizeOf : GoodIn wsX7_slowest (va_wsS RX7 64 yX7_sizeOf wsX7_sizeOf) := goodIn_app (goodIn_of _ (by decide +kernel)) ggX7_slowest_X7_sizeOf
set_option maxRecDepth 20000 in
theorem ggX7_slowest_X7_who : GoodIn wsX7_slowest wsX7_who := goodIn_r _ [10, 5, 6, 3, 7] (by decide +kernel) (by decide +kernel)
set_option maxRecDepth 20000 in
theorem gX7_slowest_X7_who : GoodIn wsX7_slowest (va_wsS RX7 68 yX7_who wsX7_who) := goodIn_app (goodIn_of _ (by decide +kernel)) ggX7_slowest_X7_who
set_option maxRecDepth 20000 in
theorem ggX7_slowest_X7_carAt : GoodIn wsX7_slowest wsX7_carAt := goodIn_r _ [13] (by decide +kernel) (by decide +kernel)
set_option maxRecDepth 20000 in
theorem gX7_slowest_X7_carAt : GoodIn wsX7_slowest (va_wsS RX7 72 yX7_carAt wsX7_carAt) := goodIn_app (goodIn_of _ (by decide +kernel)) ggX7_slowest_X7_carAt
theorem dX7_slowest_0 : decode cX7_slowest 0 = .ok (.iconst 0, 1) := by decide +kernel
theorem dX7_slowest_1 : decode cX7_slowest 1 = .ok (.istore_n 2, 1) := by decide +kernel
theorem dX7_slowest_2 : decode cX7_slowest 2 = .ok (.iconst 0, 1) := by decide +kernel
theorem dX7_slowest_3 : decode cX7_slowest 3 = .ok (.istore_n 3, 1) := by decide +kernel
theorem dX7_slowest_4 : decode cX7_slowest 4 = .ok (.iload_n 3, 1) := by decide +kernel
theorem dX7_slowest_5 : decode cX7_slowest 5 = .ok (.aload_n 0, 1) := by decide +kernel
theorem dX7_slowest_6 : decode cX7_slowest 6 = .ok (.iload_n 1, 1) := by decide +kernel
theorem dX7_slowest_7 : decode cX7_slowest 7 = .ok (.invokestatic 64, 3) := by decide +kernel
theorem dX7_slowest_10 : decode cX7_slowest 10 = .ok (.if_icmp .ge 40, 3) := by decide +kernel
theorem dX7_slowest_13 : decode cX7_slowest 13 = .ok (.aload_n 0, 1) := by decide +kernel
theorem dX7_slowest_14 : decode cX7_slowest 14 = .ok (.aload_n 0, 1) := by decide +kernel
theorem dX7_slowest_15 : decode cX7_slowest 15 = .ok (.iload_n 1, 1) := by decide +kernel
theorem dX7_slowest_16 : decode cX7_slowest 16 = .ok (.iload_n 3, 1) := by decide +kernel
theorem dX7_slowest_17 : decode cX7_slowest 17 = .ok (.invokestatic 68, 3) := by decide +kernel
theorem dX7_slowest_20 : decode cX7_slowest 20 = .ok (.iconst 0, 1) := by decide +kernel
theorem dX7_slowest_21 : decode cX7_slowest 21 = .ok (.invokestatic 72, 3) := by decide +kernel
theorem dX7_slowest_24 : decode cX7_slowest 24 = .ok (.iaload, 1) := by decide +kernel
theorem dX7_slowest_25 : decode cX7_slowest 25 = .ok (.istore 4, 2) := by decide +kernel
theorem dX7_slowest_27 : decode cX7_slowest 27 = .ok (.iload_n 3, 1) := by decide +kernel
theorem dX7_slowest_28 : decode cX7_slowest 28 = .ok (.ifCond .eq 9, 3) := by decide +kernel
theorem dX7_slowest_31 : decode cX7_slowest 31 = .ok (.iload 4, 2) := by decide +kernel
theorem dX7_slowest_33 : decode cX7_slowest 33 = .ok (.iload_n 2, 1) := by decide +kernel
theorem dX7_slowest_34 : decode cX7_slowest 34 = .ok (.if_icmp .ge 8, 3) := by decide +kernel
theorem dX7_slowest_37 : decode cX7_slowest 37 = .ok (.iload 4, 2) := by decide +kernel
theorem dX7_slowest_39 : decode cX7_slowest 39 = .ok (.goto 4, 3) := by decide +kernel
theorem dX7_slowest_42 : decode cX7_slowest 42 = .ok (.iload_n 2, 1) := by decide +kernel
theorem dX7_slowest_43 : decode cX7_slowest 43 = .ok (.istore_n 2, 1) := by decide +kernel
theorem dX7_slowest_44 : decode cX7_slowest 44 = .ok (.iinc 3 1, 3) := by decide +kernel
theorem dX7_slowest_47 : decode cX7_slowest 47 = .ok (.goto (-43), 3) := by decide +kernel
theorem dX7_slowest_50 : decode cX7_slowest 50 = .ok (.iload_n 2, 1) := by decide +kernel
theorem dX7_slowest_51 : decode cX7_slowest 51 = .ok (.ireturn, 1) := by decide +kernel
set_option maxRecDepth 20000 in
theorem ggX7_isThere_X7_convoyAt : GoodIn wsX7_isThere wsX7_convoyAt := goodIn_r _ [4] (by decide +kernel) (by decide +kernel)
set_option maxRecDepth 20000 in
theorem gX7_isThere_X7_convoyAt : GoodIn wsX7_isThere (va_wsS RX7 51 yX7_convoyAt wsX7_convoyAt) := goodIn_app (goodIn_of _ (by decide +kernel)) ggX7_isThere_X7_convoyAt
theorem dX7_isThere_0 : decode cX7_isThere 0 = .ok (.aload_n 0, 1) := by decide +kernel
theorem dX7_isThere_1 : decode cX7_isThere 1 = .ok (.iload_n 1, 1) := by decide +kernel
theorem dX7_isThere_2 : decode cX7_isThere 2 = .ok (.iconst 0, 1) := by decide +kernel
theorem dX7_isThere_3 : decode cX7_isThere 3 = .ok (.invokestatic 51, 3) := by decide +kernel
theorem dX7_isThere_6 : decode cX7_isThere 6 = .ok (.iaload, 1) := by decide +kernel
theorem dX7_isThere_7 : decode cX7_isThere 7 = .ok (.aload_n 0, 1) := by decide +kernel
theorem dX7_isThere_8 : decode cX7_isThere 8 = .ok (.iconst 0, 1) := by decide +kernel
theorem dX7_isThere_9 : decode cX7_isThere 9 = .ok (.iaload, 1) := by decide +kernel
theorem dX7_isThere_10 : decode cX7_isThere 10 = .ok (.if_icmp .ne 7, 3) := by decide +kernel
theorem dX7_isThere_13 : decode cX7_isThere 13 = .ok (.iconst 1, 1) := by decide +kernel
theorem dX7_isThere_14 : decode cX7_isThere 14 = .ok (.goto 4, 3) := by decide +kernel
theorem dX7_isThere_17 : decode cX7_isThere 17 = .ok (.iconst 0, 1) := by decide +kernel
theorem dX7_isThere_18 : decode cX7_isThere 18 = .ok (.ireturn, 1) := by decide +kernel
set_option maxRecDepth 20000 in
theorem ggX7_fill_X7_convoyAt : GoodIn wsX7_fill wsX7_convoyAt := goodIn_r _ [4] (by decide +kernel) (by decide +kernel)
set_option maxRecDepth 20000 in
theorem gX7_fill_X7_convoyAt : GoodIn wsX7_fill (va_wsS RX7 51 yX7_convoyAt wsX7_convoyAt) := goodIn_app (goodIn_of _ (by decide +kernel)) ggX7_fill_X7_convoyAt
set_option maxRecDepth 20000 in
theorem ggX7_fill_X7_depotOn : GoodIn wsX7_fill wsX7_depotOn := goodIn_r _ [7, 8, 9, 3, 10] (by decide +kernel) (by decide +kernel)
set_option maxRecDepth 20000 in
theorem gX7_fill_X7_depotOn : GoodIn wsX7_fill (va_wsS RX7 75 yX7_depotOn wsX7_depotOn) := goodIn_app (goodIn_of _ (by decide +kernel)) ggX7_fill_X7_depotOn
set_option maxRecDepth 20000 in
theorem ggX7_fill_X7_sizeOf : GoodIn wsX7_fill wsX7_sizeOf := goodIn_r _ [13, 1, 2, 3, 4] (by decide +kernel) (by decide +kernel)
set_option maxRecDepth 20000 in
theorem gX7_fill_X7_sizeOf : GoodIn wsX7_fill (va_wsS RX7 64 yX7_sizeOf wsX7_sizeOf) := goodIn_app (goodIn_of _ (by decide +kernel)) ggX7_fill_X7_sizeOf
set_option maxRecDepth 20000 in
theorem ggX7_fill_X7_who : GoodIn wsX7_fill wsX7_who := goodIn_r _ [16, 1, 2, 3, 4] (by decide +kernel) (by decide +kernel)
set_option maxRecDepth 20000 in
theorem gX7_fill_X7_who : GoodIn wsX7_fill (va_wsS RX7 68 yX7_who wsX7_who) := goodIn_app (goodIn_of _ (by decide +kernel)) ggX7_fill_X7_who
set_option maxRecDepth 20000 in
theorem ggX7_fill_X7_carAt : GoodIn wsX7_fill wsX7_carAt := goodIn_r _ [19] (by decide +kernel) (by decide +kernel)
set_option maxRecDepth 20000 in
theorem gX7_fill_X7_carAt : GoodIn wsX7_fill (va_wsS RX7 72 yX7_carAt wsX7_carAt) := goodIn_app (goodIn_of _ (by decide +kernel)) ggX7_fill_X7_carAt
set_option maxRecDepth 20000 in
theorem ggX7_fill_X7_depotAt : GoodIn wsX7_fill wsX7_depotAt := goodIn_r _ [10] (by decide +kernel) (by decide +kernel)
set_option maxRecDepth 20000 in
theorem gX7_fill_X7_depotAt : GoodIn wsX7_fill (va_wsS RX7 61 yX7_depotAt wsX7_depotAt) := goodIn_app (goodIn_of _ (by decide +kernel)) ggX7_fill_X7_depotAt
theorem dX7_fill_0 : decode cX7_fill 0 = .ok (.aload_n 0, 1) := by decide +kernel
theorem dX7_fill_1 : decode cX7_fill 1 = .ok (.aload_n 0, 1) := by decide +kernel
theorem dX7_fill_2 : decode cX7_fill 2 = .ok (.iload_n 1, 1) := by decide +kernel
theorem dX7_fill_3 : decode cX7_fill 3 = .ok (.iconst 0, 1) := by decide +kernel
theorem dX7_fill_4 : decode cX7_fill 4 = .ok (.invokestatic 51, 3) := by decide +kernel
theorem dX7_fill_7 : decode cX7_fill 7 = .ok (.iaload, 1) := by decide +kernel
theorem dX7_fill_8 : decode cX7_fill 8 = .ok (.invokestatic 75, 3) := by decide +kernel
theorem dX7_fill_11 : decode cX7_fill 11 = .ok (.istore_n 2, 1) := by decide +kernel
theorem dX7_fill_12 : decode cX7_fill 12 = .ok (.iconst 0, 1) := by decide +kernel
theorem dX7_fill_13 : decode cX7_fill 13 = .ok (.istore_n 3, 1) := by decide +kernel
theorem dX7_fill_14 : decode cX7_fill 14 = .ok (.iload_n 3, 1) := by decide +kernel
theorem dX7_fill_15 : decode cX7_fill 15 = .ok (.aload_n 0, 1) := by decide +kernel
theorem dX7_fill_16 : decode cX7_fill 16 = .ok (.iload_n 1, 1) := by decide +kernel
theorem dX7_fill_17 : decode cX7_fill 17 = .ok (.invokestatic 64, 3) := by decide +kernel
theorem dX7_fill_20 : decode cX7_fill 20 = .ok (.if_icmp .ge 93, 3) := by decide +kernel
theorem dX7_fill_23 : decode cX7_fill 23 = .ok (.iload_n 2, 1) := by decide +kernel
theorem dX7_fill_24 : decode cX7_fill 24 = .ok (.bipush (-9), 2) := by decide +kernel
theorem dX7_fill_26 : decode cX7_fill 26 = .ok (.if_icmp .eq 87, 3) := by decide +kernel
theorem dX7_fill_29 : decode cX7_fill 29 = .ok (.aload_n 0, 1) := by decide +kernel
theorem dX7_fill_30 : decode cX7_fill 30 = .ok (.iload_n 1, 1) := by decide +kernel
theorem dX7_fill_31 : decode cX7_fill 31 = .ok (.iload_n 3, 1) := by decide +kernel
theorem dX7_fill_32 : decode cX7_fill 32 = .ok (.invokestatic 68, 3) := by decide +kernel
theorem dX7_fill_35 : decode cX7_fill 35 = .ok (.istore 4, 2) := by decide +kernel
theorem dX7_fill_37 : decode cX7_fill 37 = .ok (.aload_n 0, 1) := by decide +kernel
theorem dX7_fill_38 : decode cX7_fill 38 = .ok (.iload 4, 2) := by decide +kernel
theorem dX7_fill_40 : decode cX7_fill 40 = .ok (.iconst 2, 1) := by decide +kernel
theorem dX7_fill_41 : decode cX7_fill 41 = .ok (.invokestatic 72, 3) := by decide +kernel
theorem dX7_fill_44 : decode cX7_fill 44 = .ok (.iaload, 1) := by decide +kernel
theorem dX7_fill_45 : decode cX7_fill 45 = .ok (.aload_n 0, 1) := by decide +kernel
theorem dX7_fill_46 : decode cX7_fill 46 = .ok (.iload 4, 2) := by decide +kernel
theorem dX7_fill_48 : decode cX7_fill 48 = .ok (.iconst 3, 1) := by decide +kernel
theorem dX7_fill_49 : decode cX7_fill 49 = .ok (.invokestatic 72, 3) := by decide +kernel
theorem dX7_fill_52 : decode cX7_fill 52 = .ok (.iaload, 1) := by decide +kernel
theorem dX7_fill_53 : decode cX7_fill 53 = .ok (.isub, 1) := by decide +kernel
theorem dX7_fill_54 : decode cX7_fill 54 = .ok (.istore 5, 2) := by decide +kernel
theorem dX7_fill_56 : decode cX7_fill 56 = .ok (.iload 5, 2) := by decide +kernel
theorem dX7_fill_58 : decode cX7_fill 58 = .ok (.aload_n 0, 1) := by decide +kernel
theorem dX7_fill_59 : decode cX7_fill 59 = .ok (.iload_n 2, 1) := by decide +kernel
theorem dX7_fill_60 : decode cX7_fill 60 = .ok (.iconst 1, 1) := by decide +kernel
theorem dX7_fill_61 : decode cX7_fill 61 = .ok (.invokestatic 61, 3) := by decide +kernel
theorem dX7_fill_64 : decode cX7_fill 64 = .ok (.iaload, 1) := by decide +kernel
theorem dX7_fill_65 : decode cX7_fill 65 = .ok (.if_icmp .ge 8, 3) := by decide +kernel
theorem dX7_fill_68 : decode cX7_fill 68 = .ok (.iload 5, 2) := by decide +kernel
theorem dX7_fill_70 : decode cX7_fill 70 = .ok (.goto 10, 3) := by decide +kernel
theorem dX7_fill_73 : decode cX7_fill 73 = .ok (.aload_n 0, 1) := by decide +kernel
theorem dX7_fill_74 : decode cX7_fill 74 = .ok (.iload_n 2, 1) := by decide +kernel
theorem dX7_fill_75 : decode cX7_fill 75 = .ok (.iconst 1, 1) := by decide +kernel
theorem dX7_fill_76 : decode cX7_fill 76 = .ok (.invokestatic 61, 3) := by decide +kernel
theorem dX7_fill_79 : decode cX7_fill 79 = .ok (.iaload, 1) := by decide +kernel
theorem dX7_fill_80 : decode cX7_fill 80 = .ok (.istore 6, 2) := by decide +kernel
theorem dX7_fill_82 : decode cX7_fill 82 = .ok (.aload_n 0, 1) := by decide +kernel
theorem dX7_fill_83 : decode cX7_fill 83 = .ok (.iload 4, 2) := by decide +kernel
theorem dX7_fill_85 : decode cX7_fill 85 = .ok (.iconst 3, 1) := by decide +kernel
theorem dX7_fill_86 : decode cX7_fill 86 = .ok (.invokestatic 72, 3) := by decide +kernel
theorem dX7_fill_89 : decode cX7_fill 89 = .ok (.dup2, 1) := by decide +kernel
theorem dX7_fill_90 : decode cX7_fill 90 = .ok (.iaload, 1) := by decide +kernel
theorem dX7_fill_91 : decode cX7_fill 91 = .ok (.iload 6, 2) := by decide +kernel
theorem dX7_fill_93 : decode cX7_fill 93 = .ok (.iadd, 1) := by decide +kernel
theorem dX7_fill_94 : decode cX7_fill 94 = .ok (.iastore, 1) := by decide +kernel
theorem dX7_fill_95 : decode cX7_fill 95 = .ok (.aload_n 0, 1) := by decide +kernel
theorem dX7_fill_96 : decode cX7_fill 96 = .ok (.iload_n 2, 1) := by decide +kernel
theorem dX7_fill_97 : decode cX7_fill 97 = .ok (.iconst 1, 1) := by decide +kernel
theorem dX7_fill_98 : decode cX7_fill 98 = .ok (.invokestatic 61, 3) := by decide +kernel
theorem dX7_fill_101 : decode cX7_fill 101 = .ok (.dup2, 1) := by decide +kernel
theorem dX7_fill_102 : decode cX7_fill 102 = .ok (.iaload, 1) := by decide +kernel
theorem dX7_fill_103 : decode cX7_fill 103 = .ok (.iload 6, 2) := by decide +kernel
theorem dX7_fill_105 : decode cX7_fill 105 = .ok (.isub, 1) := by decide +kernel
theorem dX7_fill_106 : decode cX7_fill 106 = .ok (.iastore, 1) := by decide +kernel
theorem dX7_fill_107 : decode cX7_fill 107 = .ok (.iinc 3 1, 3) := by decide +kernel
theorem dX7_fill_110 : decode cX7_fill 110 = .ok (.goto (-96), 3) := by decide +kernel
theorem dX7_fill_113 : decode cX7_fill 113 = .ok (.return_, 1) := by decide +kernel
set_option maxRecDepth 20000 in
theorem ggX7_isShort_X7_carAt : GoodIn wsX7_isShort wsX7_carAt := goodIn_r _ [4] (by decide +kernel) (by decide +kernel)
set_option maxRecDepth 20000 in
theorem gX7_isShort_X7_carAt : GoodIn wsX7_isShort (va_wsS RX7 72 yX7_carAt wsX7_carAt) := goodIn_app (goodIn_of _ (by decide +kernel)) ggX7_isShort_X7_carAt
theorem dX7_isShort_0 : decode cX7_isShort 0 = .ok (.aload_n 0, 1) := by decide +kernel
theorem dX7_isShort_1 : decode cX7_isShort 1 = .ok (.iload_n 1, 1) := by decide +kernel
theorem dX7_isShort_2 : decode cX7_isShort 2 = .ok (.iconst 3, 1) := by decide +kernel
theorem dX7_isShort_3 : decode cX7_isShort 3 = .ok (.invokestatic 72, 3) := by decide +kernel
theorem dX7_isShort_6 : decode cX7_isShort 6 = .ok (.iaload, 1) := by decide +kernel
theorem dX7_isShort_7 : decode cX7_isShort 7 = .ok (.aload_n 0, 1) := by decide +kernel
theorem dX7_isShort_8 : decode cX7_isShort 8 = .ok (.iload_n 1, 1) := by decide +kernel
theorem dX7_isShort_9 : decode cX7_isShort 9 = .ok (.iconst 1, 1) := by decide +kernel
theorem dX7_isShort_10 : decode cX7_isShort 10 = .ok (.invokestatic 72, 3) := by decide +kernel
theorem dX7_isShort_13 : decode cX7_isShort 13 = .ok (.iaload, 1) := by decide +kernel
theorem dX7_isShort_14 : decode cX7_isShort 14 = .ok (.if_icmp .ge 7, 3) := by decide +kernel
theorem dX7_isShort_17 : decode cX7_isShort 17 = .ok (.iconst 1, 1) := by decide +kernel
theorem dX7_isShort_18 : decode cX7_isShort 18 = .ok (.goto 4, 3) := by decide +kernel
theorem dX7_isShort_21 : decode cX7_isShort 21 = .ok (.iconst 0, 1) := by decide +kernel
theorem dX7_isShort_22 : decode cX7_isShort 22 = .ok (.ireturn, 1) := by decide +kernel
theorem dX7_drop_0 : decode cX7_drop 0 = .ok (.iload_n 2, 1) := by decide +kernel
theorem dX7_drop_1 : decode cX7_drop 1 = .ok (.istore 4, 2) := by decide +kernel
theorem dX7_drop_3 : decode cX7_drop 3 = .ok (.iload 4, 2) := by decide +kernel
theorem dX7_drop_5 : decode cX7_drop 5 = .ok (.iload_n 3, 1) := by decide +kernel
theorem dX7_drop_6 : decode cX7_drop 6 = .ok (.iconst 1, 1) := by decide +kernel
theorem dX7_drop_7 : decode cX7_drop 7 = .ok (.isub, 1) := by decide +kernel
theorem dX7_drop_8 : decode cX7_drop 8 = .ok (.if_icmp .ge 23, 3) := by decide +kernel
theorem dX7_drop_11 : decode cX7_drop 11 = .ok (.aload_n 0, 1) := by decide +kernel
theorem dX7_drop_12 : decode cX7_drop 12 = .ok (.iload_n 1, 1) := by decide +kernel
theorem dX7_drop_13 : decode cX7_drop 13 = .ok (.iload 4, 2) := by decide +kernel
theorem dX7_drop_15 : decode cX7_drop 15 = .ok (.iadd, 1) := by decide +kernel
theorem dX7_drop_16 : decode cX7_drop 16 = .ok (.aload_n 0, 1) := by decide +kernel
theorem dX7_drop_17 : decode cX7_drop 17 = .ok (.iload_n 1, 1) := by decide +kernel
theorem dX7_drop_18 : decode cX7_drop 18 = .ok (.iload 4, 2) := by decide +kernel
theorem dX7_drop_20 : decode cX7_drop 20 = .ok (.iadd, 1) := by decide +kernel
theorem dX7_drop_21 : decode cX7_drop 21 = .ok (.iconst 1, 1) := by decide +kernel
theorem dX7_drop_22 : decode cX7_drop 22 = .ok (.iadd, 1) := by decide +kernel
theorem dX7_drop_23 : decode cX7_drop 23 = .ok (.iaload, 1) := by decide +kernel
theorem dX7_drop_24 : decode cX7_drop 24 = .ok (.iastore, 1) := by decide +kernel
theorem dX7_drop_25 : decode cX7_drop 25 = .ok (.iinc 4 1, 3) := by decide +kernel
theorem dX7_drop_28 : decode cX7_drop 28 = .ok (.goto (-25), 3) := by decide +kernel
theorem dX7_drop_31 : decode cX7_drop 31 = .ok (.return_, 1) := by decide +kernel
set_option maxRecDepth 20000 in
theorem ggX7_sheds_X7_convoyAt : GoodIn wsX7_sheds wsX7_convoyAt := goodIn_r _ [6] (by decide +kernel) (by decide +kernel)
set_option maxRecDepth 20000 in
theorem gX7_sheds_X7_convoyAt : GoodIn wsX7_sheds (va_wsS RX7 51 yX7_convoyAt wsX7_convoyAt) := goodIn_app (goodIn_of _ (by decide +kernel)) ggX7_sheds_X7_convoyAt
set_option maxRecDepth 20000 in
theorem ggX7_sheds_X7_bayOn : GoodIn wsX7_sheds wsX7_bayOn := goodIn_r _ [9, 10, 11, 5, 12] (by decide +kernel) (by decide +kernel)
set_option maxRecDepth 20000 in
theorem gX7_sheds_X7_bayOn : GoodIn wsX7_sheds (va_wsS RX7 78 yX7_bayOn wsX7_bayOn) := goodIn_app (goodIn_of _ (by decide +kernel)) ggX7_sheds_X7_bayOn
set_option maxRecDepth 20000 in
theorem ggX7_sheds_X7_sizeOf : GoodIn wsX7_sheds wsX7_sizeOf := goodIn_r _ [15, 3, 4, 5, 6] (by decide +kernel) (by decide +kernel)
set_option maxRecDepth 20000 in
theorem gX7_sheds_X7_sizeOf : GoodIn wsX7_sheds (va_wsS RX7 64 yX7_sizeOf wsX7_sizeOf) := goodIn_app (goodIn_of _ (by decide +kernel)) ggX7_sheds_X7_sizeOf
set_option maxRecDepth 20000 in
theorem ggX7_sheds_X7_who : GoodIn wsX7_sheds wsX7_who := goodIn_r _ [18, 3, 4, 5, 6] (by decide +kernel) (by decide +kernel)
set_option maxRecDepth 20000 in
theorem gX7_sheds_X7_who : GoodIn wsX7_sheds (va_wsS RX7 68 yX7_who wsX7_who) := goodIn_app (goodIn_of _ (by decide +kernel)) ggX7_sheds_X7_who
set_option maxRecDepth 20000 in
theorem ggX7_sheds_X7_bayAt : GoodIn wsX7_sheds wsX7_bayAt := goodIn_r _ [12] (by decide +kernel) (by decide +kernel)
set_option maxRecDepth 20000 in
theorem gX7_sheds_X7_bayAt : GoodIn wsX7_sheds (va_wsS RX7 58 yX7_bayAt wsX7_bayAt) := goodIn_app (goodIn_of _ (by decide +kernel)) ggX7_sheds_X7_bayAt
set_option maxRecDepth 20000 in
theorem ggX7_sheds_X7_isShort : GoodIn wsX7_sheds wsX7_isShort := goodIn_r _ [21, 22, 23, 5, 24] (by decide +kernel) (by decide +kernel)
set_option maxRecDepth 20000 in
theorem gX7_sheds_X7_isShort : GoodIn wsX7_sheds (va_wsS RX7 81 yX7_isShort wsX7_isShort) := goodIn_app (goodIn_of _ (by decide +kernel)) ggX7_sheds_X7_isShort
set_option maxRecDepth 20000 in
theorem ggX7_sheds_X7_carAt : GoodIn wsX7_sheds wsX7_carAt := goodIn_r _ [24] (by decide +kernel) (by decide +kernel)
set_option maxRecDepth 20000 in
theorem gX7_sheds_X7_carAt : GoodIn wsX7_sheds (va_wsS RX7 72 yX7_carAt wsX7_carAt) := goodIn_app (goodIn_of _ (by decide +kernel)) ggX7_sheds_X7_carAt
set_option maxRecDepth 20000 in
theorem ggX7_sheds_X7_drop : GoodIn wsX7_sheds wsX7_drop := goodIn_r _ [27] (by decide +kernel) (by decide +kernel)
set_option maxRecDepth 20000 in
theorem gX7_sheds_X7_drop : GoodIn wsX7_sheds (va_wsS RX7 85 yX7_drop wsX7_drop) := goodIn_app (goodIn_of _ (by decide +kernel)) ggX7_sheds_X7_drop
theorem dX7_sheds_0 : decode cX7_sheds 0 = .ok (.aload_n 1, 1) := by decide +kernel
theorem dX7_sheds_1 : decode cX7_sheds 1 = .ok (.aload_n 1, 1) := by decide +kernel
theorem dX7_sheds_2 : decode cX7_sheds 2 = .ok (.iload_n 2, 1) := by decide +kernel
theorem dX7_sheds_3 : decode cX7_sheds 3 = .ok (.iconst 0, 1) := by decide +kernel
theorem dX7_sheds_4 : decode cX7_sheds 4 = .ok (.invokestatic 51, 3) := by decide +kernel
theorem dX7_sheds_7 : decode cX7_sheds 7 = .ok (.iaload, 1) := by decide +kernel
theorem dX7_sheds_8 : decode cX7_sheds 8 = .ok (.invokestatic 78, 3) := by decide +kernel
theorem dX7_sheds_11 : decode cX7_sheds 11 = .ok (.istore_n 3, 1) := by decide +kernel
theorem dX7_sheds_12 : decode cX7_sheds 12 = .ok (.iconst 0, 1) := by decide +kernel
theorem dX7_sheds_13 : decode cX7_sheds 13 = .ok (.istore 4, 2) := by decide +kernel
theorem dX7_sheds_15 : decode cX7_sheds 15 = .ok (.iconst 1, 1) := by decide +kernel
theorem dX7_sheds_16 : decode cX7_sheds 16 = .ok (.istore 5, 2) := by decide +kernel
theorem dX7_sheds_18 : decode cX7_sheds 18 = .ok (.iload 4, 2) := by decide +kernel
theorem dX7_sheds_20 : decode cX7_sheds 20 = .ok (.aload_n 1, 1) := by decide +kernel
theorem dX7_sheds_21 : decode cX7_sheds 21 = .ok (.iload_n 2, 1) := by decide +kernel
theorem dX7_sheds_22 : decode cX7_sheds 22 = .ok (.invokestatic 64, 3) := by decide +kernel
theorem dX7_sheds_25 : decode cX7_sheds 25 = .ok (.if_icmp .ge 194, 3) := by decide +kernel
theorem dX7_sheds_28 : decode cX7_sheds 28 = .ok (.aload_n 1, 1) := by decide +kernel
theorem dX7_sheds_29 : decode cX7_sheds 29 = .ok (.iload_n 2, 1) := by decide +kernel
theorem dX7_sheds_30 : decode cX7_sheds 30 = .ok (.iload 4, 2) := by decide +kernel
theorem dX7_sheds_32 : decode cX7_sheds 32 = .ok (.invokestatic 68, 3) := by decide +kernel
theorem dX7_sheds_35 : decode cX7_sheds 35 = .ok (.istore 6, 2) := by decide +kernel
theorem dX7_sheds_37 : decode cX7_sheds 37 = .ok (.iload_n 3, 1) := by decide +kernel
theorem dX7_sheds_38 : decode cX7_sheds 38 = .ok (.bipush (-9), 2) := by decide +kernel
theorem dX7_sheds_40 : decode cX7_sheds 40 = .ok (.if_icmp .eq 24, 3) := by decide +kernel
theorem dX7_sheds_43 : decode cX7_sheds 43 = .ok (.aload_n 1, 1) := by decide +kernel
theorem dX7_sheds_44 : decode cX7_sheds 44 = .ok (.iload_n 3, 1) := by decide +kernel
theorem dX7_sheds_45 : decode cX7_sheds 45 = .ok (.iconst 2, 1) := by decide +kernel
theorem dX7_sheds_46 : decode cX7_sheds 46 = .ok (.invokestatic 58, 3) := by decide +kernel
theorem dX7_sheds_49 : decode cX7_sheds 49 = .ok (.iaload, 1) := by decide +kernel
theorem dX7_sheds_50 : decode cX7_sheds 50 = .ok (.aload_n 1, 1) := by decide +kernel
theorem dX7_sheds_51 : decode cX7_sheds 51 = .ok (.iload_n 3, 1) := by decide +kernel
theorem dX7_sheds_52 : decode cX7_sheds 52 = .ok (.iconst 1, 1) := by decide +kernel
theorem dX7_sheds_53 : decode cX7_sheds 53 = .ok (.invokestatic 58, 3) := by decide +kernel
theorem dX7_sheds_56 : decode cX7_sheds 56 = .ok (.iaload, 1) := by decide +kernel
theorem dX7_sheds_57 : decode cX7_sheds 57 = .ok (.if_icmp .ge 7, 3) := by decide +kernel
theorem dX7_sheds_60 : decode cX7_sheds 60 = .ok (.iconst 1, 1) := by decide +kernel
theorem dX7_sheds_61 : decode cX7_sheds 61 = .ok (.goto 4, 3) := by decide +kernel
theorem dX7_sheds_64 : decode cX7_sheds 64 = .ok (.iconst 0, 1) := by decide +kernel
theorem dX7_sheds_65 : decode cX7_sheds 65 = .ok (.istore 7, 2) := by decide +kernel
theorem dX7_sheds_67 : decode cX7_sheds 67 = .ok (.aload_n 1, 1) := by decide +kernel
theorem dX7_sheds_68 : decode cX7_sheds 68 = .ok (.iload 6, 2) := by decide +kernel
theorem dX7_sheds_70 : decode cX7_sheds 70 = .ok (.invokestatic 81, 3) := by decide +kernel
theorem dX7_sheds_73 : decode cX7_sheds 73 = .ok (.ifCond .eq 119, 3) := by decide +kernel
theorem dX7_sheds_76 : decode cX7_sheds 76 = .ok (.iload 7, 2) := by decide +kernel
theorem dX7_sheds_78 : decode cX7_sheds 78 = .ok (.ifCond .eq 114, 3) := by decide +kernel
theorem dX7_sheds_81 : decode cX7_sheds 81 = .ok (.aload_n 1, 1) := by decide +kernel
theorem dX7_sheds_82 : decode cX7_sheds 82 = .ok (.iload_n 3, 1) := by decide +kernel
theorem dX7_sheds_83 : decode cX7_sheds 83 = .ok (.iconst 3, 1) := by decide +kernel
theorem dX7_sheds_84 : decode cX7_sheds 84 = .ok (.aload_n 1, 1) := by decide +kernel
theorem dX7_sheds_85 : decode cX7_sheds 85 = .ok (.iload_n 3, 1) := by decide +kernel
theorem dX7_sheds_86 : decode cX7_sheds 86 = .ok (.iconst 2, 1) := by decide +kernel
theorem dX7_sheds_87 : decode cX7_sheds 87 = .ok (.invokestatic 58, 3) := by decide +kernel
theorem dX7_sheds_90 : decode cX7_sheds 90 = .ok (.iaload, 1) := by decide +kernel
theorem dX7_sheds_91 : decode cX7_sheds 91 = .ok (.iadd, 1) := by decide +kernel
theorem dX7_sheds_92 : decode cX7_sheds 92 = .ok (.invokestatic 58, 3) := by decide +kernel
theorem dX7_sheds_95 : decode cX7_sheds 95 = .ok (.iload 6, 2) := by decide +kernel
theorem dX7_sheds_97 : decode cX7_sheds 97 = .ok (.iastore, 1) := by decide +kernel
theorem dX7_sheds_98 : decode cX7_sheds 98 = .ok (.aload_n 1, 1) := by decide +kernel
theorem dX7_sheds_99 : decode cX7_sheds 99 = .ok (.iload_n 3, 1) := by decide +kernel
theorem dX7_sheds_100 : decode cX7_sheds 100 = .ok (.iconst 2, 1) := by decide +kernel
theorem dX7_sheds_101 : decode cX7_sheds 101 = .ok (.invokestatic 58, 3) := by decide +kernel
theorem dX7_sheds_104 : decode cX7_sheds 104 = .ok (.dup2, 1) := by decide +kernel
theorem dX7_sheds_105 : decode cX7_sheds 105 = .ok (.iaload, 1) := by decide +kernel
theorem dX7_sheds_106 : decode cX7_sheds 106 = .ok (.iconst 1, 1) := by decide +kernel
theorem dX7_sheds_107 : decode cX7_sheds 107 = .ok (.iadd, 1) := by decide +kernel
theorem dX7_sheds_108 : decode cX7_sheds 108 = .ok (.iastore, 1) := by decide +kernel
theorem dX7_sheds_109 : decode cX7_sheds 109 = .ok (.aload_n 1, 1) := by decide +kernel
theorem dX7_sheds_110 : decode cX7_sheds 110 = .ok (.iload 6, 2) := by decide +kernel
theorem dX7_sheds_112 : decode cX7_sheds 112 = .ok (.iconst 4, 1) := by decide +kernel
theorem dX7_sheds_113 : decode cX7_sheds 113 = .ok (.invokestatic 72, 3) := by decide +kernel
theorem dX7_sheds_116 : decode cX7_sheds 116 = .ok (.iconst 1, 1) := by decide +kernel
theorem dX7_sheds_117 : decode cX7_sheds 117 = .ok (.iastore, 1) := by decide +kernel
theorem dX7_sheds_118 : decode cX7_sheds 118 = .ok (.aload_n 1, 1) := by decide +kernel
theorem dX7_sheds_119 : decode cX7_sheds 119 = .ok (.iload 6, 2) := by decide +kernel
theorem dX7_sheds_121 : decode cX7_sheds 121 = .ok (.iconst 5, 1) := by decide +kernel
theorem dX7_sheds_122 : decode cX7_sheds 122 = .ok (.invokestatic 72, 3) := by decide +kernel
theorem dX7_sheds_125 : decode cX7_sheds 125 = .ok (.iload_n 3, 1) := by decide +kernel
theorem dX7_sheds_126 : decode cX7_sheds 126 = .ok (.iastore, 1) := by decide +kernel
theorem dX7_sheds_127 : decode cX7_sheds 127 = .ok (.aload_n 1, 1) := by decide +kernel
theorem dX7_sheds_128 : decode cX7_sheds 128 = .ok (.iload_n 2, 1) := by decide +kernel
theorem dX7_sheds_129 : decode cX7_sheds 129 = .ok (.iconst 5, 1) := by decide +kernel
theorem dX7_sheds_130 : decode cX7_sheds 130 = .ok (.invokestatic 51, 3) := by decide +kernel
theorem dX7_sheds_133 : decode cX7_sheds 133 = .ok (.iload 4, 2) := by decide +kernel
theorem dX7_sheds_135 : decode cX7_sheds 135 = .ok (.aload_n 1, 1) := by decide +kernel
theorem dX7_sheds_136 : decode cX7_sheds 136 = .ok (.iload_n 2, 1) := by decide +kernel
theorem dX7_sheds_137 : decode cX7_sheds 137 = .ok (.invokestatic 64, 3) := by decide +kernel
theorem dX7_sheds_140 : decode cX7_sheds 140 = .ok (.invokestatic 85, 3) := by decide +kernel
theorem dX7_sheds_143 : decode cX7_sheds 143 = .ok (.aload_n 1, 1) := by decide +kernel
theorem dX7_sheds_144 : decode cX7_sheds 144 = .ok (.iload_n 2, 1) := by decide +kernel
theorem dX7_sheds_145 : decode cX7_sheds 145 = .ok (.iconst 1, 1) := by decide +kernel
theorem dX7_sheds_146 : decode cX7_sheds 146 = .ok (.invokestatic 51, 3) := by decide +kernel
theorem dX7_sheds_149 : decode cX7_sheds 149 = .ok (.dup2, 1) := by decide +kernel
theorem dX7_sheds_150 : decode cX7_sheds 150 = .ok (.iaload, 1) := by decide +kernel
theorem dX7_sheds_151 : decode cX7_sheds 151 = .ok (.iconst 1, 1) := by decide +kernel
theorem dX7_sheds_152 : decode cX7_sheds 152 = .ok (.isub, 1) := by decide +kernel
theorem dX7_sheds_153 : decode cX7_sheds 153 = .ok (.iastore, 1) := by decide +kernel
theorem dX7_sheds_154 : decode cX7_sheds 154 = .ok (.aload_n 0, 1) := by decide +kernel
theorem dX7_sheds_155 : decode cX7_sheds 155 = .ok (.iload_n 2, 1) := by decide +kernel
theorem dX7_sheds_156 : decode cX7_sheds 156 = .ok (.aload_n 0, 1) := by decide +kernel
theorem dX7_sheds_157 : decode cX7_sheds 157 = .ok (.getfield 32, 3) := by decide +kernel
theorem dX7_sheds_160 : decode cX7_sheds 160 = .ok (.if_icmp .ne 22, 3) := by decide +kernel
theorem dX7_sheds_163 : decode cX7_sheds 163 = .ok (.aload_n 0, 1) := by decide +kernel
theorem dX7_sheds_164 : decode cX7_sheds 164 = .ok (.getfield 36, 3) := by decide +kernel
theorem dX7_sheds_167 : decode cX7_sheds 167 = .ok (.bipush (-9), 2) := by decide +kernel
theorem dX7_sheds_169 : decode cX7_sheds 169 = .ok (.if_icmp .ne 13, 3) := by decide +kernel
theorem dX7_sheds_172 : decode cX7_sheds 172 = .ok (.bipush 100, 2) := by decide +kernel
theorem dX7_sheds_174 : decode cX7_sheds 174 = .ok (.iload_n 3, 1) := by decide +kernel
theorem dX7_sheds_175 : decode cX7_sheds 175 = .ok (.imul, 1) := by decide +kernel
theorem dX7_sheds_176 : decode cX7_sheds 176 = .ok (.iload 6, 2) := by decide +kernel
theorem dX7_sheds_178 : decode cX7_sheds 178 = .ok (.iadd, 1) := by decide +kernel
theorem dX7_sheds_179 : decode cX7_sheds 179 = .ok (.goto 7, 3) := by decide +kernel
theorem dX7_sheds_182 : decode cX7_sheds 182 = .ok (.aload_n 0, 1) := by decide +kernel
theorem dX7_sheds_183 : decode cX7_sheds 183 = .ok (.getfield 36, 3) := by decide +kernel
theorem dX7_sheds_186 : decode cX7_sheds 186 = .ok (.putfield 36, 3) := by decide +kernel
theorem dX7_sheds_189 : decode cX7_sheds 189 = .ok (.goto 27, 3) := by decide +kernel
theorem dX7_sheds_192 : decode cX7_sheds 192 = .ok (.iload 5, 2) := by decide +kernel
theorem dX7_sheds_194 : decode cX7_sheds 194 = .ok (.ifCond .eq 16, 3) := by decide +kernel
theorem dX7_sheds_197 : decode cX7_sheds 197 = .ok (.aload_n 1, 1) := by decide +kernel
theorem dX7_sheds_198 : decode cX7_sheds 198 = .ok (.iload 6, 2) := by decide +kernel
theorem dX7_sheds_200 : decode cX7_sheds 200 = .ok (.invokestatic 81, 3) := by decide +kernel
theorem dX7_sheds_203 : decode cX7_sheds 203 = .ok (.ifCond .ne 7, 3) := by decide +kernel
theorem dX7_sheds_206 : decode cX7_sheds 206 = .ok (.iconst 1, 1) := by decide +kernel
theorem dX7_sheds_207 : decode cX7_sheds 207 = .ok (.goto 4, 3) := by decide +kernel
theorem dX7_sheds_210 : decode cX7_sheds 210 = .ok (.iconst 0, 1) := by decide +kernel
theorem dX7_sheds_211 : decode cX7_sheds 211 = .ok (.istore 5, 2) := by decide +kernel
theorem dX7_sheds_213 : decode cX7_sheds 213 = .ok (.iinc 4 1, 3) := by decide +kernel
theorem dX7_sheds_216 : decode cX7_sheds 216 = .ok (.goto (-198), 3) := by decide +kernel
theorem dX7_sheds_219 : decode cX7_sheds 219 = .ok (.iload 5, 2) := by decide +kernel
theorem dX7_sheds_221 : decode cX7_sheds 221 = .ok (.ifCond .eq 15, 3) := by decide +kernel
theorem dX7_sheds_224 : decode cX7_sheds 224 = .ok (.aload_n 1, 1) := by decide +kernel
theorem dX7_sheds_225 : decode cX7_sheds 225 = .ok (.iload_n 2, 1) := by decide +kernel
theorem dX7_sheds_226 : decode cX7_sheds 226 = .ok (.invokestatic 64, 3) := by decide +kernel
theorem dX7_sheds_229 : decode cX7_sheds 229 = .ok (.ifCond .le 7, 3) := by decide +kernel
theorem dX7_sheds_232 : decode cX7_sheds 232 = .ok (.iconst 1, 1) := by decide +kernel
theorem dX7_sheds_233 : decode cX7_sheds 233 = .ok (.goto 4, 3) := by decide +kernel
theorem dX7_sheds_236 : decode cX7_sheds 236 = .ok (.iconst 0, 1) := by decide +kernel
theorem dX7_sheds_237 : decode cX7_sheds 237 = .ok (.ireturn, 1) := by decide +kernel
set_option maxRecDepth 20000 in
theorem ggX7_burn_X7_convoyAt : GoodIn wsX7_burn wsX7_convoyAt := goodIn_r _ [4] (by decide +kernel) (by decide +kernel)
set_option maxRecDepth 20000 in
theorem gX7_burn_X7_convoyAt : GoodIn wsX7_burn (va_wsS RX7 51 yX7_convoyAt wsX7_convoyAt) := goodIn_app (goodIn_of _ (by decide +kernel)) ggX7_burn_X7_convoyAt
set_option maxRecDepth 20000 in
theorem ggX7_burn_X7_sizeOf : GoodIn wsX7_burn wsX7_sizeOf := goodIn_r _ [7, 1, 2, 3, 4] (by decide +kernel) (by decide +kernel)
set_option maxRecDepth 20000 in
theorem gX7_burn_X7_sizeOf : GoodIn wsX7_burn (va_wsS RX7 64 yX7_sizeOf wsX7_sizeOf) := goodIn_app (goodIn_of _ (by decide +kernel)) ggX7_burn_X7_sizeOf
set_option maxRecDepth 20000 in
theorem ggX7_burn_X7_who : GoodIn wsX7_burn wsX7_who := goodIn_r _ [10, 1, 2, 3, 4] (by decide +kernel) (by decide +kernel)
set_option maxRecDepth 20000 in
theorem gX7_burn_X7_who : GoodIn wsX7_burn (va_wsS RX7 68 yX7_who wsX7_who) := goodIn_app (goodIn_of _ (by decide +kernel)) ggX7_burn_X7_who
set_option maxRecDepth 20000 in
theorem ggX7_burn_X7_carAt : GoodIn wsX7_burn wsX7_carAt := goodIn_r _ [13] (by decide +kernel) (by decide +kernel)
set_option maxRecDepth 20000 in
theorem gX7_burn_X7_carAt : GoodIn wsX7_burn (va_wsS RX7 72 yX7_carAt wsX7_carAt) := goodIn_app (goodIn_of _ (by decide +kernel)) ggX7_burn_X7_carAt
theorem dX7_burn_0 : decode cX7_burn 0 = .ok (.aload_n 0, 1) := by decide +kernel
theorem dX7_burn_1 : decode cX7_burn 1 = .ok (.iload_n 1, 1) := by decide +kernel
theorem dX7_burn_2 : decode cX7_burn 2 = .ok (.iconst 0, 1) := by decide +kernel
theorem dX7_burn_3 : decode cX7_burn 3 = .ok (.invokestatic 51, 3) := by decide +kernel
theorem dX7_burn_6 : decode cX7_burn 6 = .ok (.dup2, 1) := by decide +kernel
theorem dX7_burn_7 : decode cX7_burn 7 = .ok (.iaload, 1) := by decide +kernel
theorem dX7_burn_8 : decode cX7_burn 8 = .ok (.iconst 1, 1) := by decide +kernel
theorem dX7_burn_9 : decode cX7_burn 9 = .ok (.iadd, 1) := by decide +kernel
theorem dX7_burn_10 : decode cX7_burn 10 = .ok (.iastore, 1) := by decide +kernel
theorem dX7_burn_11 : decode cX7_burn 11 = .ok (.iconst 0, 1) := by decide +kernel
theorem dX7_burn_12 : decode cX7_burn 12 = .ok (.istore_n 2, 1) := by decide +kernel
theorem dX7_burn_13 : decode cX7_burn 13 = .ok (.iload_n 2, 1) := by decide +kernel
theorem dX7_burn_14 : decode cX7_burn 14 = .ok (.aload_n 0, 1) := by decide +kernel
theorem dX7_burn_15 : decode cX7_burn 15 = .ok (.iload_n 1, 1) := by decide +kernel
theorem dX7_burn_16 : decode cX7_burn 16 = .ok (.invokestatic 64, 3) := by decide +kernel
theorem dX7_burn_19 : decode cX7_burn 19 = .ok (.if_icmp .ge 65, 3) := by decide +kernel
theorem dX7_burn_22 : decode cX7_burn 22 = .ok (.aload_n 0, 1) := by decide +kernel
theorem dX7_burn_23 : decode cX7_burn 23 = .ok (.iload_n 1, 1) := by decide +kernel
theorem dX7_burn_24 : decode cX7_burn 24 = .ok (.iload_n 2, 1) := by decide +kernel
theorem dX7_burn_25 : decode cX7_burn 25 = .ok (.invokestatic 68, 3) := by decide +kernel
theorem dX7_burn_28 : decode cX7_burn 28 = .ok (.istore_n 3, 1) := by decide +kernel
theorem dX7_burn_29 : decode cX7_burn 29 = .ok (.aload_n 0, 1) := by decide +kernel
theorem dX7_burn_30 : decode cX7_burn 30 = .ok (.iload_n 3, 1) := by decide +kernel
theorem dX7_burn_31 : decode cX7_burn 31 = .ok (.iconst 3, 1) := by decide +kernel
theorem dX7_burn_32 : decode cX7_burn 32 = .ok (.invokestatic 72, 3) := by decide +kernel
theorem dX7_burn_35 : decode cX7_burn 35 = .ok (.dup2, 1) := by decide +kernel
theorem dX7_burn_36 : decode cX7_burn 36 = .ok (.iaload, 1) := by decide +kernel
theorem dX7_burn_37 : decode cX7_burn 37 = .ok (.aload_n 0, 1) := by decide +kernel
theorem dX7_burn_38 : decode cX7_burn 38 = .ok (.iload_n 3, 1) := by decide +kernel
theorem dX7_burn_39 : decode cX7_burn 39 = .ok (.iconst 1, 1) := by decide +kernel
theorem dX7_burn_40 : decode cX7_burn 40 = .ok (.invokestatic 72, 3) := by decide +kernel
theorem dX7_burn_43 : decode cX7_burn 43 = .ok (.iaload, 1) := by decide +kernel
theorem dX7_burn_44 : decode cX7_burn 44 = .ok (.isub, 1) := by decide +kernel
theorem dX7_burn_45 : decode cX7_burn 45 = .ok (.iastore, 1) := by decide +kernel
theorem dX7_burn_46 : decode cX7_burn 46 = .ok (.aload_n 0, 1) := by decide +kernel
theorem dX7_burn_47 : decode cX7_burn 47 = .ok (.iload_n 3, 1) := by decide +kernel
theorem dX7_burn_48 : decode cX7_burn 48 = .ok (.bipush 6, 2) := by decide +kernel
theorem dX7_burn_50 : decode cX7_burn 50 = .ok (.invokestatic 72, 3) := by decide +kernel
theorem dX7_burn_53 : decode cX7_burn 53 = .ok (.dup2, 1) := by decide +kernel
theorem dX7_burn_54 : decode cX7_burn 54 = .ok (.iaload, 1) := by decide +kernel
theorem dX7_burn_55 : decode cX7_burn 55 = .ok (.aload_n 0, 1) := by decide +kernel
theorem dX7_burn_56 : decode cX7_burn 56 = .ok (.iload_n 3, 1) := by decide +kernel
theorem dX7_burn_57 : decode cX7_burn 57 = .ok (.iconst 1, 1) := by decide +kernel
theorem dX7_burn_58 : decode cX7_burn 58 = .ok (.invokestatic 72, 3) := by decide +kernel
theorem dX7_burn_61 : decode cX7_burn 61 = .ok (.iaload, 1) := by decide +kernel
theorem dX7_burn_62 : decode cX7_burn 62 = .ok (.iadd, 1) := by decide +kernel
theorem dX7_burn_63 : decode cX7_burn 63 = .ok (.iastore, 1) := by decide +kernel
theorem dX7_burn_64 : decode cX7_burn 64 = .ok (.aload_n 0, 1) := by decide +kernel
theorem dX7_burn_65 : decode cX7_burn 65 = .ok (.bipush 7, 2) := by decide +kernel
theorem dX7_burn_67 : decode cX7_burn 67 = .ok (.dup2, 1) := by decide +kernel
theorem dX7_burn_68 : decode cX7_burn 68 = .ok (.iaload, 1) := by decide +kernel
theorem dX7_burn_69 : decode cX7_burn 69 = .ok (.aload_n 0, 1) := by decide +kernel
theorem dX7_burn_70 : decode cX7_burn 70 = .ok (.iload_n 3, 1) := by decide +kernel
theorem dX7_burn_71 : decode cX7_burn 71 = .ok (.iconst 1, 1) := by decide +kernel
theorem dX7_burn_72 : decode cX7_burn 72 = .ok (.invokestatic 72, 3) := by decide +kernel
theorem dX7_burn_75 : decode cX7_burn 75 = .ok (.iaload, 1) := by decide +kernel
theorem dX7_burn_76 : decode cX7_burn 76 = .ok (.iadd, 1) := by decide +kernel
theorem dX7_burn_77 : decode cX7_burn 77 = .ok (.iastore, 1) := by decide +kernel
theorem dX7_burn_78 : decode cX7_burn 78 = .ok (.iinc 2 1, 3) := by decide +kernel
theorem dX7_burn_81 : decode cX7_burn 81 = .ok (.goto (-68), 3) := by decide +kernel
theorem dX7_burn_84 : decode cX7_burn 84 = .ok (.return_, 1) := by decide +kernel
set_option maxRecDepth 20000 in
theorem ggX7_arrive_X7_sizeOf : GoodIn wsX7_arrive wsX7_sizeOf := goodIn_r _ [4, 5, 6, 3, 7] (by decide +kernel) (by decide +kernel)
set_option maxRecDepth 20000 in
theorem gX7_arrive_X7_sizeOf : GoodIn wsX7_arrive (va_wsS RX7 64 yX7_sizeOf wsX7_sizeOf) := goodIn_app (goodIn_of _ (by decide +kernel)) ggX7_arrive_X7_sizeOf
set_option maxRecDepth 20000 in
theorem ggX7_arrive_X7_who : GoodIn wsX7_arrive wsX7_who := goodIn_r _ [10, 5, 6, 3, 7] (by decide +kernel) (by decide +kernel)
set_option maxRecDepth 20000 in
theorem gX7_arrive_X7_who : GoodIn wsX7_arrive (va_wsS RX7 68 yX7_who wsX7_who) := goodIn_app (goodIn_of _ (by decide +kernel)) ggX7_arrive_X7_who
set_option maxRecDepth 20000 in
theorem ggX7_arrive_X7_carAt : GoodIn wsX7_arrive wsX7_carAt := goodIn_r _ [13] (by decide +kernel) (by decide +kernel)
set_option maxRecDepth 20000 in
theorem gX7_arrive_X7_carAt : GoodIn wsX7_arrive (va_wsS RX7 72 yX7_carAt wsX7_carAt) := goodIn_app (goodIn_of _ (by decide +kernel)) ggX7_arrive_X7_carAt
set_option maxRecDepth 20000 in
theorem ggX7_arrive_X7_convoyAt : GoodIn wsX7_arrive wsX7_convoyAt := goodIn_r _ [7] (by decide +kernel) (by decide +kernel)
set_option maxRecDepth 20000 in
theorem gX7_arrive_X7_convoyAt : GoodIn wsX7_arrive (va_wsS RX7 51 yX7_convoyAt wsX7_convoyAt) := goodIn_app (goodIn_of _ (by decide +kernel)) ggX7_arrive_X7_convoyAt
theorem dX7_arrive_0 : decode cX7_arrive 0 = .ok (.iconst 0, 1) := by decide +kernel
theorem dX7_arrive_1 : decode cX7_arrive 1 = .ok (.istore_n 2, 1) := by decide +kernel
theorem dX7_arrive_2 : decode cX7_arrive 2 = .ok (.iload_n 2, 1) := by decide +kernel
theorem dX7_arrive_3 : decode cX7_arrive 3 = .ok (.aload_n 0, 1) := by decide +kernel
theorem dX7_arrive_4 : decode cX7_arrive 4 = .ok (.iload_n 1, 1) := by decide +kernel
theorem dX7_arrive_5 : decode cX7_arrive 5 = .ok (.invokestatic 64, 3) := by decide +kernel
theorem dX7_arrive_8 : decode cX7_arrive 8 = .ok (.if_icmp .ge 36, 3) := by decide +kernel
theorem dX7_arrive_11 : decode cX7_arrive 11 = .ok (.aload_n 0, 1) := by decide +kernel
theorem dX7_arrive_12 : decode cX7_arrive 12 = .ok (.aload_n 0, 1) := by decide +kernel
theorem dX7_arrive_13 : decode cX7_arrive 13 = .ok (.iload_n 1, 1) := by decide +kernel
theorem dX7_arrive_14 : decode cX7_arrive 14 = .ok (.iload_n 2, 1) := by decide +kernel
theorem dX7_arrive_15 : decode cX7_arrive 15 = .ok (.invokestatic 68, 3) := by decide +kernel
theorem dX7_arrive_18 : decode cX7_arrive 18 = .ok (.iconst 4, 1) := by decide +kernel
theorem dX7_arrive_19 : decode cX7_arrive 19 = .ok (.invokestatic 72, 3) := by decide +kernel
theorem dX7_arrive_22 : decode cX7_arrive 22 = .ok (.iconst 2, 1) := by decide +kernel
theorem dX7_arrive_23 : decode cX7_arrive 23 = .ok (.iastore, 1) := by decide +kernel
theorem dX7_arrive_24 : decode cX7_arrive 24 = .ok (.aload_n 0, 1) := by decide +kernel
theorem dX7_arrive_25 : decode cX7_arrive 25 = .ok (.aload_n 0, 1) := by decide +kernel
theorem dX7_arrive_26 : decode cX7_arrive 26 = .ok (.iload_n 1, 1) := by decide +kernel
theorem dX7_arrive_27 : decode cX7_arrive 27 = .ok (.iload_n 2, 1) := by decide +kernel
theorem dX7_arrive_28 : decode cX7_arrive 28 = .ok (.invokestatic 68, 3) := by decide +kernel
theorem dX7_arrive_31 : decode cX7_arrive 31 = .ok (.iconst 5, 1) := by decide +kernel
theorem dX7_arrive_32 : decode cX7_arrive 32 = .ok (.invokestatic 72, 3) := by decide +kernel
theorem dX7_arrive_35 : decode cX7_arrive 35 = .ok (.bipush (-9), 2) := by decide +kernel
theorem dX7_arrive_37 : decode cX7_arrive 37 = .ok (.iastore, 1) := by decide +kernel
theorem dX7_arrive_38 : decode cX7_arrive 38 = .ok (.iinc 2 1, 3) := by decide +kernel
theorem dX7_arrive_41 : decode cX7_arrive 41 = .ok (.goto (-39), 3) := by decide +kernel
theorem dX7_arrive_44 : decode cX7_arrive 44 = .ok (.aload_n 0, 1) := by decide +kernel
theorem dX7_arrive_45 : decode cX7_arrive 45 = .ok (.iload_n 1, 1) := by decide +kernel
theorem dX7_arrive_46 : decode cX7_arrive 46 = .ok (.iconst 1, 1) := by decide +kernel
theorem dX7_arrive_47 : decode cX7_arrive 47 = .ok (.invokestatic 51, 3) := by decide +kernel
theorem dX7_arrive_50 : decode cX7_arrive 50 = .ok (.iconst 0, 1) := by decide +kernel
theorem dX7_arrive_51 : decode cX7_arrive 51 = .ok (.iastore, 1) := by decide +kernel
theorem dX7_arrive_52 : decode cX7_arrive 52 = .ok (.return_, 1) := by decide +kernel
set_option maxRecDepth 20000 in
theorem ggX7_helps_X7_bayAt : GoodIn wsX7_helps wsX7_bayAt := goodIn_r _ [4] (by decide +kernel) (by decide +kernel)
set_option maxRecDepth 20000 in
theorem gX7_helps_X7_bayAt : GoodIn wsX7_helps (va_wsS RX7 58 yX7_bayAt wsX7_bayAt) := goodIn_app (goodIn_of _ (by decide +kernel)) ggX7_helps_X7_bayAt
set_option maxRecDepth 20000 in
theorem ggX7_helps_X7_who : GoodIn wsX7_helps wsX7_who := goodIn_r _ [7, 8, 9, 3, 10] (by decide +kernel) (by decide +kernel)
set_option maxRecDepth 20000 in
theorem gX7_helps_X7_who : GoodIn wsX7_helps (va_wsS RX7 68 yX7_who wsX7_who) := goodIn_app (goodIn_of _ (by decide +kernel)) ggX7_helps_X7_who
set_option maxRecDepth 20000 in
theorem ggX7_helps_X7_sizeOf : GoodIn wsX7_helps wsX7_sizeOf := goodIn_r _ [13, 8, 9, 3, 10] (by decide +kernel) (by decide +kernel)
set_option maxRecDepth 20000 in
theorem gX7_helps_X7_sizeOf : GoodIn wsX7_helps (va_wsS RX7 64 yX7_sizeOf wsX7_sizeOf) := goodIn_app (goodIn_of _ (by decide +kernel)) ggX7_helps_X7_sizeOf
set_option maxRecDepth 20000 in
theorem ggX7_helps_X7_carAt : GoodIn wsX7_helps wsX7_carAt := goodIn_r _ [16] (by decide +kernel) (by decide +kernel)
set_option maxRecDepth 20000 in
theorem gX7_helps_X7_carAt : GoodIn wsX7_helps (va_wsS RX7 72 yX7_carAt wsX7_carAt) := goodIn_app (goodIn_of _ (by decide +kernel)) ggX7_helps_X7_carAt
set_option maxRecDepth 20000 in
theorem ggX7_helps_X7_isShort : GoodIn wsX7_helps wsX7_isShort := goodIn_r _ [19, 14, 15, 3, 16] (by decide +kernel) (by decide +kernel)
set_option maxRecDepth 20000 in
theorem gX7_helps_X7_isShort : GoodIn wsX7_helps (va_wsS RX7 81 yX7_isShort wsX7_isShort) := goodIn_app (goodIn_of _ (by decide +kernel)) ggX7_helps_X7_isShort
set_option maxRecDepth 20000 in
theorem ggX7_helps_X7_drop : GoodIn wsX7_helps wsX7_drop := goodIn_r _ [22] (by decide +kernel) (by decide +kernel)
set_option maxRecDepth 20000 in
theorem gX7_helps_X7_drop : GoodIn wsX7_helps (va_wsS RX7 85 yX7_drop wsX7_drop) := goodIn_app (goodIn_of _ (by decide +kernel)) ggX7_helps_X7_drop
set_option maxRecDepth 20000 in
theorem ggX7_helps_X7_convoyAt : GoodIn wsX7_helps wsX7_convoyAt := goodIn_r _ [10] (by decide +kernel) (by decide +kernel)
set_option maxRecDepth 20000 in
theorem gX7_helps_X7_convoyAt : GoodIn wsX7_helps (va_wsS RX7 51 yX7_convoyAt wsX7_convoyAt) := goodIn_app (goodIn_of _ (by decide +kernel)) ggX7_helps_X7_convoyAt
theorem dX7_helps_0 : decode cX7_helps 0 = .ok (.aload_n 0, 1) := by decide +kernel
theorem dX7_helps_1 : decode cX7_helps 1 = .ok (.iload_n 2, 1) := by decide +kernel
theorem dX7_helps_2 : decode cX7_helps 2 = .ok (.iconst 3, 1) := by decide +kernel
theorem dX7_helps_3 : decode cX7_helps 3 = .ok (.invokestatic 58, 3) := by decide +kernel
theorem dX7_helps_6 : decode cX7_helps 6 = .ok (.iaload, 1) := by decide +kernel
theorem dX7_helps_7 : decode cX7_helps 7 = .ok (.istore_n 3, 1) := by decide +kernel
theorem dX7_helps_8 : decode cX7_helps 8 = .ok (.aload_n 0, 1) := by decide +kernel
theorem dX7_helps_9 : decode cX7_helps 9 = .ok (.iload_n 1, 1) := by decide +kernel
theorem dX7_helps_10 : decode cX7_helps 10 = .ok (.iconst 0, 1) := by decide +kernel
theorem dX7_helps_11 : decode cX7_helps 11 = .ok (.invokestatic 68, 3) := by decide +kernel
theorem dX7_helps_14 : decode cX7_helps 14 = .ok (.istore 4, 2) := by decide +kernel
theorem dX7_helps_16 : decode cX7_helps 16 = .ok (.iconst 1, 1) := by decide +kernel
theorem dX7_helps_17 : decode cX7_helps 17 = .ok (.istore 5, 2) := by decide +kernel
theorem dX7_helps_19 : decode cX7_helps 19 = .ok (.iload 5, 2) := by decide +kernel
theorem dX7_helps_21 : decode cX7_helps 21 = .ok (.aload_n 0, 1) := by decide +kernel
theorem dX7_helps_22 : decode cX7_helps 22 = .ok (.iload_n 1, 1) := by decide +kernel
theorem dX7_helps_23 : decode cX7_helps 23 = .ok (.invokestatic 64, 3) := by decide +kernel
theorem dX7_helps_26 : decode cX7_helps 26 = .ok (.if_icmp .ge 46, 3) := by decide +kernel
theorem dX7_helps_29 : decode cX7_helps 29 = .ok (.aload_n 0, 1) := by decide +kernel
theorem dX7_helps_30 : decode cX7_helps 30 = .ok (.iload_n 1, 1) := by decide +kernel
theorem dX7_helps_31 : decode cX7_helps 31 = .ok (.iload 5, 2) := by decide +kernel
theorem dX7_helps_33 : decode cX7_helps 33 = .ok (.invokestatic 68, 3) := by decide +kernel
theorem dX7_helps_36 : decode cX7_helps 36 = .ok (.istore 6, 2) := by decide +kernel
theorem dX7_helps_38 : decode cX7_helps 38 = .ok (.aload_n 0, 1) := by decide +kernel
theorem dX7_helps_39 : decode cX7_helps 39 = .ok (.iload 6, 2) := by decide +kernel
theorem dX7_helps_41 : decode cX7_helps 41 = .ok (.iconst 3, 1) := by decide +kernel
theorem dX7_helps_42 : decode cX7_helps 42 = .ok (.invokestatic 72, 3) := by decide +kernel
theorem dX7_helps_45 : decode cX7_helps 45 = .ok (.iaload, 1) := by decide +kernel
theorem dX7_helps_46 : decode cX7_helps 46 = .ok (.aload_n 0, 1) := by decide +kernel
theorem dX7_helps_47 : decode cX7_helps 47 = .ok (.iload 4, 2) := by decide +kernel
theorem dX7_helps_49 : decode cX7_helps 49 = .ok (.iconst 3, 1) := by decide +kernel
theorem dX7_helps_50 : decode cX7_helps 50 = .ok (.invokestatic 72, 3) := by decide +kernel
theorem dX7_helps_53 : decode cX7_helps 53 = .ok (.iaload, 1) := by decide +kernel
theorem dX7_helps_54 : decode cX7_helps 54 = .ok (.if_icmp .le 8, 3) := by decide +kernel
theorem dX7_helps_57 : decode cX7_helps 57 = .ok (.iload 6, 2) := by decide +kernel
theorem dX7_helps_59 : decode cX7_helps 59 = .ok (.goto 5, 3) := by decide +kernel
theorem dX7_helps_62 : decode cX7_helps 62 = .ok (.iload 4, 2) := by decide +kernel
theorem dX7_helps_64 : decode cX7_helps 64 = .ok (.istore 4, 2) := by decide +kernel
theorem dX7_helps_66 : decode cX7_helps 66 = .ok (.iinc 5 1, 3) := by decide +kernel
theorem dX7_helps_69 : decode cX7_helps 69 = .ok (.goto (-50), 3) := by decide +kernel
theorem dX7_helps_72 : decode cX7_helps 72 = .ok (.aload_n 0, 1) := by decide +kernel
theorem dX7_helps_73 : decode cX7_helps 73 = .ok (.iload 4, 2) := by decide +kernel
theorem dX7_helps_75 : decode cX7_helps 75 = .ok (.iconst 3, 1) := by decide +kernel
theorem dX7_helps_76 : decode cX7_helps 76 = .ok (.invokestatic 72, 3) := by decide +kernel
theorem dX7_helps_79 : decode cX7_helps 79 = .ok (.iaload, 1) := by decide +kernel
theorem dX7_helps_80 : decode cX7_helps 80 = .ok (.iconst 2, 1) := by decide +kernel
theorem dX7_helps_81 : decode cX7_helps 81 = .ok (.idiv, 1) := by decide +kernel
theorem dX7_helps_82 : decode cX7_helps 82 = .ok (.istore 5, 2) := by decide +kernel
theorem dX7_helps_84 : decode cX7_helps 84 = .ok (.iload 5, 2) := by decide +kernel
theorem dX7_helps_86 : decode cX7_helps 86 = .ok (.bipush 10, 2) := by decide +kernel
theorem dX7_helps_88 : decode cX7_helps 88 = .ok (.if_icmp .le 8, 3) := by decide +kernel
theorem dX7_helps_91 : decode cX7_helps 91 = .ok (.bipush 10, 2) := by decide +kernel
theorem dX7_helps_93 : decode cX7_helps 93 = .ok (.goto 5, 3) := by decide +kernel
theorem dX7_helps_96 : decode cX7_helps 96 = .ok (.iload 5, 2) := by decide +kernel
theorem dX7_helps_98 : decode cX7_helps 98 = .ok (.istore 5, 2) := by decide +kernel
theorem dX7_helps_100 : decode cX7_helps 100 = .ok (.aload_n 0, 1) := by decide +kernel
theorem dX7_helps_101 : decode cX7_helps 101 = .ok (.iload_n 3, 1) := by decide +kernel
theorem dX7_helps_102 : decode cX7_helps 102 = .ok (.iconst 2, 1) := by decide +kernel
theorem dX7_helps_103 : decode cX7_helps 103 = .ok (.invokestatic 72, 3) := by decide +kernel
theorem dX7_helps_106 : decode cX7_helps 106 = .ok (.iaload, 1) := by decide +kernel
theorem dX7_helps_107 : decode cX7_helps 107 = .ok (.aload_n 0, 1) := by decide +kernel
theorem dX7_helps_108 : decode cX7_helps 108 = .ok (.iload_n 3, 1) := by decide +kernel
theorem dX7_helps_109 : decode cX7_helps 109 = .ok (.iconst 3, 1) := by decide +kernel
theorem dX7_helps_110 : decode cX7_helps 110 = .ok (.invokestatic 72, 3) := by decide +kernel
theorem dX7_helps_113 : decode cX7_helps 113 = .ok (.iaload, 1) := by decide +kernel
theorem dX7_helps_114 : decode cX7_helps 114 = .ok (.isub, 1) := by decide +kernel
theorem dX7_helps_115 : decode cX7_helps 115 = .ok (.istore 6, 2) := by decide +kernel
theorem dX7_helps_117 : decode cX7_helps 117 = .ok (.iload 5, 2) := by decide +kernel
theorem dX7_helps_119 : decode cX7_helps 119 = .ok (.iload 6, 2) := by decide +kernel
theorem dX7_helps_121 : decode cX7_helps 121 = .ok (.if_icmp .le 8, 3) := by decide +kernel
theorem dX7_helps_124 : decode cX7_helps 124 = .ok (.iload 6, 2) := by decide +kernel
theorem dX7_helps_126 : decode cX7_helps 126 = .ok (.goto 5, 3) := by decide +kernel
theorem dX7_helps_129 : decode cX7_helps 129 = .ok (.iload 5, 2) := by decide +kernel
theorem dX7_helps_131 : decode cX7_helps 131 = .ok (.istore 5, 2) := by decide +kernel
theorem dX7_helps_133 : decode cX7_helps 133 = .ok (.aload_n 0, 1) := by decide +kernel
theorem dX7_helps_134 : decode cX7_helps 134 = .ok (.iload 4, 2) := by decide +kernel
theorem dX7_helps_136 : decode cX7_helps 136 = .ok (.iconst 3, 1) := by decide +kernel
theorem dX7_helps_137 : decode cX7_helps 137 = .ok (.invokestatic 72, 3) := by decide +kernel
theorem dX7_helps_140 : decode cX7_helps 140 = .ok (.dup2, 1) := by decide +kernel
theorem dX7_helps_141 : decode cX7_helps 141 = .ok (.iaload, 1) := by decide +kernel
theorem dX7_helps_142 : decode cX7_helps 142 = .ok (.iload 5, 2) := by decide +kernel
theorem dX7_helps_144 : decode cX7_helps 144 = .ok (.isub, 1) := by decide +kernel
theorem dX7_helps_145 : decode cX7_helps 145 = .ok (.iastore, 1) := by decide +kernel
theorem dX7_helps_146 : decode cX7_helps 146 = .ok (.aload_n 0, 1) := by decide +kernel
theorem dX7_helps_147 : decode cX7_helps 147 = .ok (.iload_n 3, 1) := by decide +kernel
theorem dX7_helps_148 : decode cX7_helps 148 = .ok (.iconst 3, 1) := by decide +kernel
theorem dX7_helps_149 : decode cX7_helps 149 = .ok (.invokestatic 72, 3) := by decide +kernel
theorem dX7_helps_152 : decode cX7_helps 152 = .ok (.dup2, 1) := by decide +kernel
theorem dX7_helps_153 : decode cX7_helps 153 = .ok (.iaload, 1) := by decide +kernel
theorem dX7_helps_154 : decode cX7_helps 154 = .ok (.iload 5, 2) := by decide +kernel
theorem dX7_helps_156 : decode cX7_helps 156 = .ok (.iadd, 1) := by decide +kernel
theorem dX7_helps_157 : decode cX7_helps 157 = .ok (.iastore, 1) := by decide +kernel
theorem dX7_helps_158 : decode cX7_helps 158 = .ok (.aload_n 0, 1) := by decide +kernel
theorem dX7_helps_159 : decode cX7_helps 159 = .ok (.iload_n 3, 1) := by decide +kernel
theorem dX7_helps_160 : decode cX7_helps 160 = .ok (.invokestatic 81, 3) := by decide +kernel
theorem dX7_helps_163 : decode cX7_helps 163 = .ok (.ifCond .eq 5, 3) := by decide +kernel
theorem dX7_helps_166 : decode cX7_helps 166 = .ok (.iconst 0, 1) := by decide +kernel
theorem dX7_helps_167 : decode cX7_helps 167 = .ok (.ireturn, 1) := by decide +kernel
theorem dX7_helps_168 : decode cX7_helps 168 = .ok (.aload_n 0, 1) := by decide +kernel
theorem dX7_helps_169 : decode cX7_helps 169 = .ok (.iload_n 2, 1) := by decide +kernel
theorem dX7_helps_170 : decode cX7_helps 170 = .ok (.iconst 3, 1) := by decide +kernel
theorem dX7_helps_171 : decode cX7_helps 171 = .ok (.invokestatic 58, 3) := by decide +kernel
theorem dX7_helps_174 : decode cX7_helps 174 = .ok (.iconst 0, 1) := by decide +kernel
theorem dX7_helps_175 : decode cX7_helps 175 = .ok (.aload_n 0, 1) := by decide +kernel
theorem dX7_helps_176 : decode cX7_helps 176 = .ok (.iload_n 2, 1) := by decide +kernel
theorem dX7_helps_177 : decode cX7_helps 177 = .ok (.iconst 2, 1) := by decide +kernel
theorem dX7_helps_178 : decode cX7_helps 178 = .ok (.invokestatic 58, 3) := by decide +kernel
theorem dX7_helps_181 : decode cX7_helps 181 = .ok (.iaload, 1) := by decide +kernel
theorem dX7_helps_182 : decode cX7_helps 182 = .ok (.invokestatic 85, 3) := by decide +kernel
theorem dX7_helps_185 : decode cX7_helps 185 = .ok (.aload_n 0, 1) := by decide +kernel
theorem dX7_helps_186 : decode cX7_helps 186 = .ok (.iload_n 2, 1) := by decide +kernel
theorem dX7_helps_187 : decode cX7_helps 187 = .ok (.iconst 2, 1) := by decide +kernel
theorem dX7_helps_188 : decode cX7_helps 188 = .ok (.invokestatic 58, 3) := by decide +kernel
theorem dX7_helps_191 : decode cX7_helps 191 = .ok (.dup2, 1) := by decide +kernel
theorem dX7_helps_192 : decode cX7_helps 192 = .ok (.iaload, 1) := by decide +kernel
theorem dX7_helps_193 : decode cX7_helps 193 = .ok (.iconst 1, 1) := by decide +kernel
theorem dX7_helps_194 : decode cX7_helps 194 = .ok (.isub, 1) := by decide +kernel
theorem dX7_helps_195 : decode cX7_helps 195 = .ok (.iastore, 1) := by decide +kernel
theorem dX7_helps_196 : decode cX7_helps 196 = .ok (.aload_n 0, 1) := by decide +kernel
theorem dX7_helps_197 : decode cX7_helps 197 = .ok (.iload_n 1, 1) := by decide +kernel
theorem dX7_helps_198 : decode cX7_helps 198 = .ok (.iconst 5, 1) := by decide +kernel
theorem dX7_helps_199 : decode cX7_helps 199 = .ok (.aload_n 0, 1) := by decide +kernel
theorem dX7_helps_200 : decode cX7_helps 200 = .ok (.iload_n 1, 1) := by decide +kernel
theorem dX7_helps_201 : decode cX7_helps 201 = .ok (.invokestatic 64, 3) := by decide +kernel
theorem dX7_helps_204 : decode cX7_helps 204 = .ok (.iadd, 1) := by decide +kernel
theorem dX7_helps_205 : decode cX7_helps 205 = .ok (.invokestatic 51, 3) := by decide +kernel
theorem dX7_helps_208 : decode cX7_helps 208 = .ok (.iload_n 3, 1) := by decide +kernel
theorem dX7_helps_209 : decode cX7_helps 209 = .ok (.iastore, 1) := by decide +kernel
theorem dX7_helps_210 : decode cX7_helps 210 = .ok (.aload_n 0, 1) := by decide +kernel
theorem dX7_helps_211 : decode cX7_helps 211 = .ok (.iload_n 1, 1) := by decide +kernel
theorem dX7_helps_212 : decode cX7_helps 212 = .ok (.iconst 1, 1) := by decide +kernel
theorem dX7_helps_213 : decode cX7_helps 213 = .ok (.invokestatic 51, 3) := by decide +kernel
theorem dX7_helps_216 : decode cX7_helps 216 = .ok (.dup2, 1) := by decide +kernel
theorem dX7_helps_217 : decode cX7_helps 217 = .ok (.iaload, 1) := by decide +kernel
theorem dX7_helps_218 : decode cX7_helps 218 = .ok (.iconst 1, 1) := by decide +kernel
theorem dX7_helps_219 : decode cX7_helps 219 = .ok (.iadd, 1) := by decide +kernel
theorem dX7_helps_220 : decode cX7_helps 220 = .ok (.iastore, 1) := by decide +kernel
theorem dX7_helps_221 : decode cX7_helps 221 = .ok (.aload_n 0, 1) := by decide +kernel
theorem dX7_helps_222 : decode cX7_helps 222 = .ok (.iload_n 3, 1) := by decide +kernel
theorem dX7_helps_223 : decode cX7_helps 223 = .ok (.iconst 4, 1) := by decide +kernel
theorem dX7_helps_224 : decode cX7_helps 224 = .ok (.invokestatic 72, 3) := by decide +kernel
theorem dX7_helps_227 : decode cX7_helps 227 = .ok (.iconst 0, 1) := by decide +kernel
theorem dX7_helps_228 : decode cX7_helps 228 = .ok (.iastore, 1) := by decide +kernel
theorem dX7_helps_229 : decode cX7_helps 229 = .ok (.aload_n 0, 1) := by decide +kernel
theorem dX7_helps_230 : decode cX7_helps 230 = .ok (.iload_n 3, 1) := by decide +kernel
theorem dX7_helps_231 : decode cX7_helps 231 = .ok (.iconst 5, 1) := by decide +kernel
theorem dX7_helps_232 : decode cX7_helps 232 = .ok (.invokestatic 72, 3) := by decide +kernel
theorem dX7_helps_235 : decode cX7_helps 235 = .ok (.iload_n 1, 1) := by decide +kernel
theorem dX7_helps_236 : decode cX7_helps 236 = .ok (.iastore, 1) := by decide +kernel
theorem dX7_helps_237 : decode cX7_helps 237 = .ok (.iconst 1, 1) := by decide +kernel
theorem dX7_helps_238 : decode cX7_helps 238 = .ok (.ireturn, 1) := by decide +kernel
set_option maxRecDepth 20000 in
theorem ggX7_isBefore_X7_carAt : GoodIn wsX7_isBefore wsX7_carAt := goodIn_r _ [4] (by decide +kernel) (by decide +kernel)
set_option maxRecDepth 20000 in
theorem gX7_isBefore_X7_carAt : GoodIn wsX7_isBefore (va_wsS RX7 72 yX7_carAt wsX7_carAt) := goodIn_app (goodIn_of _ (by decide +kernel)) ggX7_isBefore_X7_carAt
theorem dX7_isBefore_0 : decode cX7_isBefore 0 = .ok (.aload_n 0, 1) := by decide +kernel
theorem dX7_isBefore_1 : decode cX7_isBefore 1 = .ok (.iload_n 1, 1) := by decide +kernel
theorem dX7_isBefore_2 : decode cX7_isBefore 2 = .ok (.iconst 0, 1) := by decide +kernel
theorem dX7_isBefore_3 : decode cX7_isBefore 3 = .ok (.invokestatic 72, 3) := by decide +kernel
theorem dX7_isBefore_6 : decode cX7_isBefore 6 = .ok (.iaload, 1) := by decide +kernel
theorem dX7_isBefore_7 : decode cX7_isBefore 7 = .ok (.aload_n 0, 1) := by decide +kernel
theorem dX7_isBefore_8 : decode cX7_isBefore 8 = .ok (.iload_n 2, 1) := by decide +kernel
theorem dX7_isBefore_9 : decode cX7_isBefore 9 = .ok (.iconst 0, 1) := by decide +kernel
theorem dX7_isBefore_10 : decode cX7_isBefore 10 = .ok (.invokestatic 72, 3) := by decide +kernel
theorem dX7_isBefore_13 : decode cX7_isBefore 13 = .ok (.iaload, 1) := by decide +kernel
theorem dX7_isBefore_14 : decode cX7_isBefore 14 = .ok (.isub, 1) := by decide +kernel
theorem dX7_isBefore_15 : decode cX7_isBefore 15 = .ok (.istore_n 3, 1) := by decide +kernel
theorem dX7_isBefore_16 : decode cX7_isBefore 16 = .ok (.iload_n 3, 1) := by decide +kernel
theorem dX7_isBefore_17 : decode cX7_isBefore 17 = .ok (.ifCond .lt 12, 3) := by decide +kernel
theorem dX7_isBefore_20 : decode cX7_isBefore 20 = .ok (.iload_n 3, 1) := by decide +kernel
theorem dX7_isBefore_21 : decode cX7_isBefore 21 = .ok (.ifCond .ne 12, 3) := by decide +kernel
theorem dX7_isBefore_24 : decode cX7_isBefore 24 = .ok (.iload_n 1, 1) := by decide +kernel
theorem dX7_isBefore_25 : decode cX7_isBefore 25 = .ok (.iload_n 2, 1) := by decide +kernel
theorem dX7_isBefore_26 : decode cX7_isBefore 26 = .ok (.if_icmp .ge 7, 3) := by decide +kernel
theorem dX7_isBefore_29 : decode cX7_isBefore 29 = .ok (.iconst 1, 1) := by decide +kernel
theorem dX7_isBefore_30 : decode cX7_isBefore 30 = .ok (.goto 4, 3) := by decide +kernel
theorem dX7_isBefore_33 : decode cX7_isBefore 33 = .ok (.iconst 0, 1) := by decide +kernel
theorem dX7_isBefore_34 : decode cX7_isBefore 34 = .ok (.ireturn, 1) := by decide +kernel
set_option maxRecDepth 20000 in
theorem ggX7_order_X7_convoyAt : GoodIn wsX7_order wsX7_convoyAt := goodIn_r _ [4] (by decide +kernel) (by decide +kernel)
set_option maxRecDepth 20000 in
theorem gX7_order_X7_convoyAt : GoodIn wsX7_order (va_wsS RX7 51 yX7_convoyAt wsX7_convoyAt) := goodIn_app (goodIn_of _ (by decide +kernel)) ggX7_order_X7_convoyAt
set_option maxRecDepth 20000 in
theorem ggX7_order_X7_sizeOf : GoodIn wsX7_order wsX7_sizeOf := goodIn_r _ [7, 1, 2, 3, 4] (by decide +kernel) (by decide +kernel)
set_option maxRecDepth 20000 in
theorem gX7_order_X7_sizeOf : GoodIn wsX7_order (va_wsS RX7 64 yX7_sizeOf wsX7_sizeOf) := goodIn_app (goodIn_of _ (by decide +kernel)) ggX7_order_X7_sizeOf
set_option maxRecDepth 20000 in
theorem ggX7_order_X7_isBefore : GoodIn wsX7_order wsX7_isBefore := goodIn_r _ [10, 11, 12, 3, 13] (by decide +kernel) (by decide +kernel)
set_option maxRecDepth 20000 in
theorem gX7_order_X7_isBefore : GoodIn wsX7_order (va_wsS RX7 89 yX7_isBefore wsX7_isBefore) := goodIn_app (goodIn_of _ (by decide +kernel)) ggX7_order_X7_isBefore
theorem dX7_order_0 : decode cX7_order 0 = .ok (.iload_n 1, 1) := by decide +kernel
theorem dX7_order_1 : decode cX7_order 1 = .ok (.iconst 5, 1) := by decide +kernel
theorem dX7_order_2 : decode cX7_order 2 = .ok (.invokestatic 51, 3) := by decide +kernel
theorem dX7_order_5 : decode cX7_order 5 = .ok (.istore_n 2, 1) := by decide +kernel
theorem dX7_order_6 : decode cX7_order 6 = .ok (.iconst 1, 1) := by decide +kernel
theorem dX7_order_7 : decode cX7_order 7 = .ok (.istore_n 3, 1) := by decide +kernel
theorem dX7_order_8 : decode cX7_order 8 = .ok (.iload_n 3, 1) := by decide +kernel
theorem dX7_order_9 : decode cX7_order 9 = .ok (.aload_n 0, 1) := by decide +kernel
theorem dX7_order_10 : decode cX7_order 10 = .ok (.iload_n 1, 1) := by decide +kernel
theorem dX7_order_11 : decode cX7_order 11 = .ok (.invokestatic 64, 3) := by decide +kernel
theorem dX7_order_14 : decode cX7_order 14 = .ok (.if_icmp .ge 76, 3) := by decide +kernel
theorem dX7_order_17 : decode cX7_order 17 = .ok (.iload_n 3, 1) := by decide +kernel
theorem dX7_order_18 : decode cX7_order 18 = .ok (.istore 4, 2) := by decide +kernel
theorem dX7_order_20 : decode cX7_order 20 = .ok (.iload 4, 2) := by decide +kernel
theorem dX7_order_22 : decode cX7_order 22 = .ok (.ifCond .le 62, 3) := by decide +kernel
theorem dX7_order_25 : decode cX7_order 25 = .ok (.aload_n 0, 1) := by decide +kernel
theorem dX7_order_26 : decode cX7_order 26 = .ok (.aload_n 0, 1) := by decide +kernel
theorem dX7_order_27 : decode cX7_order 27 = .ok (.iload_n 2, 1) := by decide +kernel
theorem dX7_order_28 : decode cX7_order 28 = .ok (.iload 4, 2) := by decide +kernel
theorem dX7_order_30 : decode cX7_order 30 = .ok (.iadd, 1) := by decide +kernel
theorem dX7_order_31 : decode cX7_order 31 = .ok (.iaload, 1) := by decide +kernel
theorem dX7_order_32 : decode cX7_order 32 = .ok (.aload_n 0, 1) := by decide +kernel
theorem dX7_order_33 : decode cX7_order 33 = .ok (.iload_n 2, 1) := by decide +kernel
theorem dX7_order_34 : decode cX7_order 34 = .ok (.iload 4, 2) := by decide +kernel
theorem dX7_order_36 : decode cX7_order 36 = .ok (.iadd, 1) := by decide +kernel
theorem dX7_order_37 : decode cX7_order 37 = .ok (.iconst 1, 1) := by decide +kernel
theorem dX7_order_38 : decode cX7_order 38 = .ok (.isub, 1) := by decide +kernel
theorem dX7_order_39 : decode cX7_order 39 = .ok (.iaload, 1) := by decide +kernel
theorem dX7_order_40 : decode cX7_order 40 = .ok (.invokestatic 89, 3) := by decide +kernel
theorem dX7_order_43 : decode cX7_order 43 = .ok (.ifCond .eq 41, 3) := by decide +kernel
theorem dX7_order_46 : decode cX7_order 46 = .ok (.aload_n 0, 1) := by decide +kernel
theorem dX7_order_47 : decode cX7_order 47 = .ok (.iload_n 2, 1) := by decide +kernel
theorem dX7_order_48 : decode cX7_order 48 = .ok (.iload 4, 2) := by decide +kernel
theorem dX7_order_50 : decode cX7_order 50 = .ok (.iadd, 1) := by decide +kernel
theorem dX7_order_51 : decode cX7_order 51 = .ok (.iaload, 1) := by decide +kernel
theorem dX7_order_52 : decode cX7_order 52 = .ok (.istore 5, 2) := by decide +kernel
theorem dX7_order_54 : decode cX7_order 54 = .ok (.aload_n 0, 1) := by decide +kernel
theorem dX7_order_55 : decode cX7_order 55 = .ok (.iload_n 2, 1) := by decide +kernel
theorem dX7_order_56 : decode cX7_order 56 = .ok (.iload 4, 2) := by decide +kernel
theorem dX7_order_58 : decode cX7_order 58 = .ok (.iadd, 1) := by decide +kernel
theorem dX7_order_59 : decode cX7_order 59 = .ok (.aload_n 0, 1) := by decide +kernel
theorem dX7_order_60 : decode cX7_order 60 = .ok (.iload_n 2, 1) := by decide +kernel
theorem dX7_order_61 : decode cX7_order 61 = .ok (.iload 4, 2) := by decide +kernel
theorem dX7_order_63 : decode cX7_order 63 = .ok (.iadd, 1) := by decide +kernel
theorem dX7_order_64 : decode cX7_order 64 = .ok (.iconst 1, 1) := by decide +kernel
theorem dX7_order_65 : decode cX7_order 65 = .ok (.isub, 1) := by decide +kernel
theorem dX7_order_66 : decode cX7_order 66 = .ok (.iaload, 1) := by decide +kernel
theorem dX7_order_67 : decode cX7_order 67 = .ok (.iastore, 1) := by decide +kernel
theorem dX7_order_68 : decode cX7_order 68 = .ok (.aload_n 0, 1) := by decide +kernel
theorem dX7_order_69 : decode cX7_order 69 = .ok (.iload_n 2, 1) := by decide +kernel
theorem dX7_order_70 : decode cX7_order 70 = .ok (.iload 4, 2) := by decide +kernel
theorem dX7_order_72 : decode cX7_order 72 = .ok (.iadd, 1) := by decide +kernel
theorem dX7_order_73 : decode cX7_order 73 = .ok (.iconst 1, 1) := by decide +kernel
theorem dX7_order_74 : decode cX7_order 74 = .ok (.isub, 1) := by decide +kernel
theorem dX7_order_75 : decode cX7_order 75 = .ok (.iload 5, 2) := by decide +kernel
theorem dX7_order_77 : decode cX7_order 77 = .ok (.iastore, 1) := by decide +kernel
theorem dX7_order_78 : decode cX7_order 78 = .ok (.iinc 4 (-1), 3) := by decide +kernel
theorem dX7_order_81 : decode cX7_order 81 = .ok (.goto (-61), 3) := by decide +kernel
theorem dX7_order_84 : decode cX7_order 84 = .ok (.iinc 3 1, 3) := by decide +kernel
theorem dX7_order_87 : decode cX7_order 87 = .ok (.goto (-79), 3) := by decide +kernel
theorem dX7_order_90 : decode cX7_order 90 = .ok (.return_, 1) := by decide +kernel
set_option maxRecDepth 20000 in
theorem ggX7_rescue_X7_convoyAt : GoodIn wsX7_rescue wsX7_convoyAt := goodIn_r _ [4] (by decide +kernel) (by decide +kernel)
set_option maxRecDepth 20000 in
theorem gX7_rescue_X7_convoyAt : GoodIn wsX7_rescue (va_wsS RX7 51 yX7_convoyAt wsX7_convoyAt) := goodIn_app (goodIn_of _ (by decide +kernel)) ggX7_rescue_X7_convoyAt
set_option maxRecDepth 20000 in
theorem ggX7_rescue_X7_bayOn : GoodIn wsX7_rescue wsX7_bayOn := goodIn_r _ [7, 8, 9, 3, 10] (by decide +kernel) (by decide +kernel)
set_option maxRecDepth 20000 in
theorem gX7_rescue_X7_bayOn : GoodIn wsX7_rescue (va_wsS RX7 78 yX7_bayOn wsX7_bayOn) := goodIn_app (goodIn_of _ (by decide +kernel)) ggX7_rescue_X7_bayOn
set_option maxRecDepth 20000 in
theorem ggX7_rescue_X7_bayAt : GoodIn wsX7_rescue wsX7_bayAt := goodIn_r _ [10] (by decide +kernel) (by decide +kernel)
set_option maxRecDepth 20000 in
theorem gX7_rescue_X7_bayAt : GoodIn wsX7_rescue (va_wsS RX7 58 yX7_bayAt wsX7_bayAt) := goodIn_app (goodIn_of _ (by decide +kernel)) ggX7_rescue_X7_bayAt
set_option maxRecDepth 20000 in
theorem ggX7_rescue_X7_sizeOf : GoodIn wsX7_rescue wsX7_sizeOf := goodIn_r _ [13, 1, 2, 3, 4] (by decide +kernel) (by decide +kernel)
set_option maxRecDepth 20000 in
theorem gX7_rescue_X7_sizeOf : GoodIn wsX7_rescue (va_wsS RX7 64 yX7_sizeOf wsX7_sizeOf) := goodIn_app (goodIn_of _ (by decide +kernel)) ggX7_rescue_X7_sizeOf
set_option maxRecDepth 20000 in
theorem ggX7_rescue_X7_helps : GoodIn wsX7_rescue wsX7_helps := goodIn_r _ [16, 8, 9, 3, 10, 17, 18, 19, 1, 2, 4, 11, 12, 13, 20, 21, 22, 23, 24, 25, 26, 27, 28] (by decide +kernel) (by decide +kernel)
set_option maxRecDepth 20000 in
theorem gX7_rescue_X7_helps : GoodIn wsX7_rescue (va_wsS RX7 93 yX7_helps wsX7_helps) := goodIn_app (goodIn_of _ (by decide +kernel)) ggX7_rescue_X7_helps
set_option maxRecDepth 20000 in
theorem ggX7_rescue_X7_order : GoodIn wsX7_rescue wsX7_order := goodIn_r _ [31, 1, 2, 3, 4, 11, 12, 13, 32, 33, 34, 20, 21, 22] (by decide +kernel) (by decide +kernel)
set_option maxRecDepth 20000 in
theorem gX7_rescue_X7_order : GoodIn wsX7_rescue (va_wsS RX7 96 yX7_order wsX7_order) := goodIn_app (goodIn_of _ (by decide +kernel)) ggX7_rescue_X7_order
theorem dX7_rescue_0 : decode cX7_rescue 0 = .ok (.aload_n 0, 1) := by decide +kernel
theorem dX7_rescue_1 : decode cX7_rescue 1 = .ok (.aload_n 0, 1) := by decide +kernel
theorem dX7_rescue_2 : decode cX7_rescue 2 = .ok (.iload_n 1, 1) := by decide +kernel
theorem dX7_rescue_3 : decode cX7_rescue 3 = .ok (.iconst 0, 1) := by decide +kernel
theorem dX7_rescue_4 : decode cX7_rescue 4 = .ok (.invokestatic 51, 3) := by decide +kernel
theorem dX7_rescue_7 : decode cX7_rescue 7 = .ok (.iaload, 1) := by decide +kernel
theorem dX7_rescue_8 : decode cX7_rescue 8 = .ok (.invokestatic 78, 3) := by decide +kernel
theorem dX7_rescue_11 : decode cX7_rescue 11 = .ok (.istore_n 2, 1) := by decide +kernel
theorem dX7_rescue_12 : decode cX7_rescue 12 = .ok (.iconst 0, 1) := by decide +kernel
theorem dX7_rescue_13 : decode cX7_rescue 13 = .ok (.istore_n 3, 1) := by decide +kernel
theorem dX7_rescue_14 : decode cX7_rescue 14 = .ok (.iload_n 2, 1) := by decide +kernel
theorem dX7_rescue_15 : decode cX7_rescue 15 = .ok (.bipush (-9), 2) := by decide +kernel
theorem dX7_rescue_17 : decode cX7_rescue 17 = .ok (.if_icmp .eq 7, 3) := by decide +kernel
theorem dX7_rescue_20 : decode cX7_rescue 20 = .ok (.iconst 1, 1) := by decide +kernel
theorem dX7_rescue_21 : decode cX7_rescue 21 = .ok (.goto 4, 3) := by decide +kernel
theorem dX7_rescue_24 : decode cX7_rescue 24 = .ok (.iconst 0, 1) := by decide +kernel
theorem dX7_rescue_25 : decode cX7_rescue 25 = .ok (.istore 4, 2) := by decide +kernel
theorem dX7_rescue_27 : decode cX7_rescue 27 = .ok (.iload 4, 2) := by decide +kernel
theorem dX7_rescue_29 : decode cX7_rescue 29 = .ok (.ifCond .eq 49, 3) := by decide +kernel
theorem dX7_rescue_32 : decode cX7_rescue 32 = .ok (.aload_n 0, 1) := by decide +kernel
theorem dX7_rescue_33 : decode cX7_rescue 33 = .ok (.iload_n 2, 1) := by decide +kernel
theorem dX7_rescue_34 : decode cX7_rescue 34 = .ok (.iconst 2, 1) := by decide +kernel
theorem dX7_rescue_35 : decode cX7_rescue 35 = .ok (.invokestatic 58, 3) := by decide +kernel
theorem dX7_rescue_38 : decode cX7_rescue 38 = .ok (.iaload, 1) := by decide +kernel
theorem dX7_rescue_39 : decode cX7_rescue 39 = .ok (.ifCond .le 39, 3) := by decide +kernel
theorem dX7_rescue_42 : decode cX7_rescue 42 = .ok (.aload_n 0, 1) := by decide +kernel
theorem dX7_rescue_43 : decode cX7_rescue 43 = .ok (.iload_n 1, 1) := by decide +kernel
theorem dX7_rescue_44 : decode cX7_rescue 44 = .ok (.invokestatic 64, 3) := by decide +kernel
theorem dX7_rescue_47 : decode cX7_rescue 47 = .ok (.bipush 8, 2) := by decide +kernel
theorem dX7_rescue_49 : decode cX7_rescue 49 = .ok (.if_icmp .ge 29, 3) := by decide +kernel
theorem dX7_rescue_52 : decode cX7_rescue 52 = .ok (.aload_n 0, 1) := by decide +kernel
theorem dX7_rescue_53 : decode cX7_rescue 53 = .ok (.iload_n 1, 1) := by decide +kernel
theorem dX7_rescue_54 : decode cX7_rescue 54 = .ok (.iload_n 2, 1) := by decide +kernel
theorem dX7_rescue_55 : decode cX7_rescue 55 = .ok (.invokestatic 93, 3) := by decide +kernel
theorem dX7_rescue_58 : decode cX7_rescue 58 = .ok (.istore 4, 2) := by decide +kernel
theorem dX7_rescue_60 : decode cX7_rescue 60 = .ok (.iload_n 3, 1) := by decide +kernel
theorem dX7_rescue_61 : decode cX7_rescue 61 = .ok (.ifCond .ne 8, 3) := by decide +kernel
theorem dX7_rescue_64 : decode cX7_rescue 64 = .ok (.iload 4, 2) := by decide +kernel
theorem dX7_rescue_66 : decode cX7_rescue 66 = .ok (.ifCond .eq 7, 3) := by decide +kernel
theorem dX7_rescue_69 : decode cX7_rescue 69 = .ok (.iconst 1, 1) := by decide +kernel
theorem dX7_rescue_70 : decode cX7_rescue 70 = .ok (.goto 4, 3) := by decide +kernel
theorem dX7_rescue_73 : decode cX7_rescue 73 = .ok (.iconst 0, 1) := by decide +kernel
theorem dX7_rescue_74 : decode cX7_rescue 74 = .ok (.istore_n 3, 1) := by decide +kernel
theorem dX7_rescue_75 : decode cX7_rescue 75 = .ok (.goto (-48), 3) := by decide +kernel
theorem dX7_rescue_78 : decode cX7_rescue 78 = .ok (.iload_n 3, 1) := by decide +kernel
theorem dX7_rescue_79 : decode cX7_rescue 79 = .ok (.ifCond .eq 8, 3) := by decide +kernel
theorem dX7_rescue_82 : decode cX7_rescue 82 = .ok (.aload_n 0, 1) := by decide +kernel
theorem dX7_rescue_83 : decode cX7_rescue 83 = .ok (.iload_n 1, 1) := by decide +kernel
theorem dX7_rescue_84 : decode cX7_rescue 84 = .ok (.invokestatic 96, 3) := by decide +kernel
theorem dX7_rescue_87 : decode cX7_rescue 87 = .ok (.return_, 1) := by decide +kernel
set_option maxRecDepth 20000 in
theorem ggX7_goConvoy_X7_convoyAt : GoodIn wsX7_goConvoy wsX7_convoyAt := goodIn_r _ [4] (by decide +kernel) (by decide +kernel)
set_option maxRecDepth 20000 in
theorem gX7_goConvoy_X7_convoyAt : GoodIn wsX7_goConvoy (va_wsS RX7 51 yX7_convoyAt wsX7_convoyAt) := goodIn_app (goodIn_of _ (by decide +kernel)) ggX7_goConvoy_X7_convoyAt
set_option maxRecDepth 20000 in
theorem ggX7_goConvoy_X7_fill : GoodIn wsX7_goConvoy wsX7_fill := goodIn_r _ [7, 1, 2, 3, 4, 8, 9, 10, 11, 12, 13, 14, 15, 16, 17, 18, 19, 20, 21, 22] (by decide +kernel) (by decide +kernel)
set_option maxRecDepth 20000 in
theorem gX7_goConvoy_X7_fill : GoodIn wsX7_goConvoy (va_wsS RX7 100 yX7_fill wsX7_fill) := goodIn_app (goodIn_of _ (by decide +kernel)) ggX7_goConvoy_X7_fill
set_option maxRecDepth 20000 in
theorem ggX7_goConvoy_X7_slowest : GoodIn wsX7_goConvoy wsX7_slowest := goodIn_r _ [25, 14, 15, 3, 16, 1, 2, 4, 17, 18, 19, 20, 21, 22] (by decide +kernel) (by decide +kernel)
set_option maxRecDepth 20000 in
theorem gX7_goConvoy_X7_slowest : GoodIn wsX7_goConvoy (va_wsS RX7 103 yX7_slowest wsX7_slowest) := goodIn_app (goodIn_of _ (by decide +kernel)) ggX7_goConvoy_X7_slowest
set_option maxRecDepth 20000 in
theorem ggX7_goConvoy_X7_gateOn : GoodIn wsX7_goConvoy wsX7_gateOn := goodIn_r _ [28, 29, 30, 3, 31] (by decide +kernel) (by decide +kernel)
set_option maxRecDepth 20000 in
theorem gX7_goConvoy_X7_gateOn : GoodIn wsX7_goConvoy (va_wsS RX7 106 yX7_gateOn wsX7_gateOn) := goodIn_app (goodIn_of _ (by decide +kernel)) ggX7_goConvoy_X7_gateOn
set_option maxRecDepth 20000 in
theorem ggX7_goConvoy_X7_isClosed : GoodIn wsX7_goConvoy wsX7_isClosed := goodIn_r _ [34, 29, 30, 3, 31] (by decide +kernel) (by decide +kernel)
set_option maxRecDepth 20000 in
theorem gX7_goConvoy_X7_isClosed : GoodIn wsX7_goConvoy (va_wsS RX7 109 yX7_isClosed wsX7_isClosed) := goodIn_app (goodIn_of _ (by decide +kernel)) ggX7_goConvoy_X7_isClosed
set_option maxRecDepth 20000 in
theorem ggX7_goConvoy_X7_sheds : GoodIn wsX7_goConvoy wsX7_sheds := goodIn_r _ [38, 39, 40, 1, 2, 3, 4, 41, 42, 43, 44, 45, 46, 14, 15, 16, 17, 18, 19, 47, 48, 49, 20, 21, 22, 50, 51, 52, 74, 75, 76, 77, 78, 79, 80, 81, 82, 83, 84, 85, 86, 87] (by decide +kernel) (by decide +kernel)
set_option maxRecDepth 20000 in
theorem gX7_goConvoy_X7_sheds : GoodIn wsX7_goConvoy (wsV RX7 112 RX7 yX7_sheds wsX7_sheds) := goodIn_app (goodIn_of _ (by decide +kernel)) ggX7_goConvoy_X7_sheds
set_option maxRecDepth 20000 in
theorem ggX7_goConvoy_X7_burn : GoodIn wsX7_goConvoy wsX7_burn := goodIn_r _ [55, 1, 2, 3, 4, 14, 15, 16, 17, 18, 19, 20, 21, 22] (by decide +kernel) (by decide +kernel)
set_option maxRecDepth 20000 in
theorem gX7_goConvoy_X7_burn : GoodIn wsX7_goConvoy (va_wsS RX7 115 yX7_burn wsX7_burn) := goodIn_app (goodIn_of _ (by decide +kernel)) ggX7_goConvoy_X7_burn
set_option maxRecDepth 20000 in
theorem ggX7_goConvoy_X7_isThere : GoodIn wsX7_goConvoy wsX7_isThere := goodIn_r _ [58, 1, 2, 3, 4] (by decide +kernel) (by decide +kernel)
set_option maxRecDepth 20000 in
theorem gX7_goConvoy_X7_isThere : GoodIn wsX7_goConvoy (va_wsS RX7 118 yX7_isThere wsX7_isThere) := goodIn_app (goodIn_of _ (by decide +kernel)) ggX7_goConvoy_X7_isThere
set_option maxRecDepth 20000 in
theorem ggX7_goConvoy_X7_arrive : GoodIn wsX7_goConvoy wsX7_arrive := goodIn_r _ [61, 14, 15, 3, 16, 1, 2, 4, 17, 18, 19, 20, 21, 22] (by decide +kernel) (by decide +kernel)
set_option maxRecDepth 20000 in
theorem gX7_goConvoy_X7_arrive : GoodIn wsX7_goConvoy (va_wsS RX7 121 yX7_arrive wsX7_arrive) := goodIn_app (goodIn_of _ (by decide +kernel)) ggX7_goConvoy_X7_arrive
set_option maxRecDepth 20000 in
theorem ggX7_goConvoy_X7_rescue : GoodIn wsX7_goConvoy wsX7_rescue := goodIn_r _ [64, 1, 2, 3, 4, 41, 42, 43, 44, 45, 46, 14, 15, 16, 65, 66, 67, 17, 18, 19, 20, 21, 22, 47, 48, 49, 50, 51, 52, 68, 69, 70, 71, 72, 73] (by decide +kernel) (by decide +kernel)
set_option maxRecDepth 20000 in
theorem gX7_goConvoy_X7_rescue : GoodIn wsX7_goConvoy (va_wsS RX7 124 yX7_rescue wsX7_rescue) := goodIn_app (goodIn_of _ (by decide +kernel)) ggX7_goConvoy_X7_rescue
theorem dX7_goConvoy_0 : decode cX7_goConvoy 0 = .ok (.aload_n 1, 1) := by decide +kernel
theorem dX7_goConvoy_1 : decode cX7_goConvoy 1 = .ok (.iload_n 2, 1) := by decide +kernel
theorem dX7_goConvoy_2 : decode cX7_goConvoy 2 = .ok (.iconst 2, 1) := by decide +kernel
theorem dX7_goConvoy_3 : decode cX7_goConvoy 3 = .ok (.invokestatic 51, 3) := by decide +kernel
theorem dX7_goConvoy_6 : decode cX7_goConvoy 6 = .ok (.iaload, 1) := by decide +kernel
theorem dX7_goConvoy_7 : decode cX7_goConvoy 7 = .ok (.ifCond .le 15, 3) := by decide +kernel
theorem dX7_goConvoy_10 : decode cX7_goConvoy 10 = .ok (.aload_n 1, 1) := by decide +kernel
theorem dX7_goConvoy_11 : decode cX7_goConvoy 11 = .ok (.iload_n 2, 1) := by decide +kernel
theorem dX7_goConvoy_12 : decode cX7_goConvoy 12 = .ok (.iconst 2, 1) := by decide +kernel
theorem dX7_goConvoy_13 : decode cX7_goConvoy 13 = .ok (.invokestatic 51, 3) := by decide +kernel
theorem dX7_goConvoy_16 : decode cX7_goConvoy 16 = .ok (.dup2, 1) := by decide +kernel
theorem dX7_goConvoy_17 : decode cX7_goConvoy 17 = .ok (.iaload, 1) := by decide +kernel
theorem dX7_goConvoy_18 : decode cX7_goConvoy 18 = .ok (.iconst 1, 1) := by decide +kernel
theorem dX7_goConvoy_19 : decode cX7_goConvoy 19 = .ok (.isub, 1) := by decide +kernel
theorem dX7_goConvoy_20 : decode cX7_goConvoy 20 = .ok (.iastore, 1) := by decide +kernel
theorem dX7_goConvoy_21 : decode cX7_goConvoy 21 = .ok (.return_, 1) := by decide +kernel
theorem dX7_goConvoy_22 : decode cX7_goConvoy 22 = .ok (.aload_n 1, 1) := by decide +kernel
theorem dX7_goConvoy_23 : decode cX7_goConvoy 23 = .ok (.iload_n 2, 1) := by decide +kernel
theorem dX7_goConvoy_24 : decode cX7_goConvoy 24 = .ok (.invokestatic 100, 3) := by decide +kernel
theorem dX7_goConvoy_27 : decode cX7_goConvoy 27 = .ok (.aload_n 1, 1) := by decide +kernel
theorem dX7_goConvoy_28 : decode cX7_goConvoy 28 = .ok (.iload_n 2, 1) := by decide +kernel
theorem dX7_goConvoy_29 : decode cX7_goConvoy 29 = .ok (.invokestatic 103, 3) := by decide +kernel
theorem dX7_goConvoy_32 : decode cX7_goConvoy 32 = .ok (.istore_n 3, 1) := by decide +kernel
theorem dX7_goConvoy_33 : decode cX7_goConvoy 33 = .ok (.iconst 0, 1) := by decide +kernel
theorem dX7_goConvoy_34 : decode cX7_goConvoy 34 = .ok (.istore 4, 2) := by decide +kernel
theorem dX7_goConvoy_36 : decode cX7_goConvoy 36 = .ok (.iload 4, 2) := by decide +kernel
theorem dX7_goConvoy_38 : decode cX7_goConvoy 38 = .ok (.iload_n 3, 1) := by decide +kernel
theorem dX7_goConvoy_39 : decode cX7_goConvoy 39 = .ok (.if_icmp .ge 97, 3) := by decide +kernel
theorem dX7_goConvoy_42 : decode cX7_goConvoy 42 = .ok (.aload_n 1, 1) := by decide +kernel
theorem dX7_goConvoy_43 : decode cX7_goConvoy 43 = .ok (.aload_n 1, 1) := by decide +kernel
theorem dX7_goConvoy_44 : decode cX7_goConvoy 44 = .ok (.iload_n 2, 1) := by decide +kernel
theorem dX7_goConvoy_45 : decode cX7_goConvoy 45 = .ok (.iconst 0, 1) := by decide +kernel
theorem dX7_goConvoy_46 : decode cX7_goConvoy 46 = .ok (.invokestatic 51, 3) := by decide +kernel
theorem dX7_goConvoy_49 : decode cX7_goConvoy 49 = .ok (.iaload, 1) := by decide +kernel
theorem dX7_goConvoy_50 : decode cX7_goConvoy 50 = .ok (.iconst 1, 1) := by decide +kernel
theorem dX7_goConvoy_51 : decode cX7_goConvoy 51 = .ok (.iadd, 1) := by decide +kernel
theorem dX7_goConvoy_52 : decode cX7_goConvoy 52 = .ok (.invokestatic 106, 3) := by decide +kernel
theorem dX7_goConvoy_55 : decode cX7_goConvoy 55 = .ok (.istore 5, 2) := by decide +kernel
theorem dX7_goConvoy_57 : decode cX7_goConvoy 57 = .ok (.iload 5, 2) := by decide +kernel
theorem dX7_goConvoy_59 : decode cX7_goConvoy 59 = .ok (.bipush (-9), 2) := by decide +kernel
theorem dX7_goConvoy_61 : decode cX7_goConvoy 61 = .ok (.if_icmp .eq 24, 3) := by decide +kernel
theorem dX7_goConvoy_64 : decode cX7_goConvoy 64 = .ok (.aload_n 1, 1) := by decide +kernel
theorem dX7_goConvoy_65 : decode cX7_goConvoy 65 = .ok (.iload 5, 2) := by decide +kernel
theorem dX7_goConvoy_67 : decode cX7_goConvoy 67 = .ok (.invokestatic 109, 3) := by decide +kernel
theorem dX7_goConvoy_70 : decode cX7_goConvoy 70 = .ok (.ifCond .eq 15, 3) := by decide +kernel
theorem dX7_goConvoy_73 : decode cX7_goConvoy 73 = .ok (.aload_n 1, 1) := by decide +kernel
theorem dX7_goConvoy_74 : decode cX7_goConvoy 74 = .ok (.iload_n 2, 1) := by decide +kernel
theorem dX7_goConvoy_75 : decode cX7_goConvoy 75 = .ok (.iconst 3, 1) := by decide +kernel
theorem dX7_goConvoy_76 : decode cX7_goConvoy 76 = .ok (.invokestatic 51, 3) := by decide +kernel
theorem dX7_goConvoy_79 : decode cX7_goConvoy 79 = .ok (.dup2, 1) := by decide +kernel
theorem dX7_goConvoy_80 : decode cX7_goConvoy 80 = .ok (.iaload, 1) := by decide +kernel
theorem dX7_goConvoy_81 : decode cX7_goConvoy 81 = .ok (.iconst 1, 1) := by decide +kernel
theorem dX7_goConvoy_82 : decode cX7_goConvoy 82 = .ok (.iadd, 1) := by decide +kernel
theorem dX7_goConvoy_83 : decode cX7_goConvoy 83 = .ok (.iastore, 1) := by decide +kernel
theorem dX7_goConvoy_84 : decode cX7_goConvoy 84 = .ok (.return_, 1) := by decide +kernel
theorem dX7_goConvoy_85 : decode cX7_goConvoy 85 = .ok (.aload_n 0, 1) := by decide +kernel
theorem dX7_goConvoy_86 : decode cX7_goConvoy 86 = .ok (.aload_n 1, 1) := by decide +kernel
theorem dX7_goConvoy_87 : decode cX7_goConvoy 87 = .ok (.iload_n 2, 1) := by decide +kernel
theorem dX7_goConvoy_88 : decode cX7_goConvoy 88 = .ok (.invokevirtual 112, 3) := by decide +kernel
theorem dX7_goConvoy_91 : decode cX7_goConvoy 91 = .ok (.ifCond .ne 15, 3) := by decide +kernel
theorem dX7_goConvoy_94 : decode cX7_goConvoy 94 = .ok (.aload_n 1, 1) := by decide +kernel
theorem dX7_goConvoy_95 : decode cX7_goConvoy 95 = .ok (.iload_n 2, 1) := by decide +kernel
theorem dX7_goConvoy_96 : decode cX7_goConvoy 96 = .ok (.iconst 4, 1) := by decide +kernel
theorem dX7_goConvoy_97 : decode cX7_goConvoy 97 = .ok (.invokestatic 51, 3) := by decide +kernel
theorem dX7_goConvoy_100 : decode cX7_goConvoy 100 = .ok (.dup2, 1) := by decide +kernel
theorem dX7_goConvoy_101 : decode cX7_goConvoy 101 = .ok (.iaload, 1) := by decide +kernel
theorem dX7_goConvoy_102 : decode cX7_goConvoy 102 = .ok (.iconst 1, 1) := by decide +kernel
theorem dX7_goConvoy_103 : decode cX7_goConvoy 103 = .ok (.iadd, 1) := by decide +kernel
theorem dX7_goConvoy_104 : decode cX7_goConvoy 104 = .ok (.iastore, 1) := by decide +kernel
theorem dX7_goConvoy_105 : decode cX7_goConvoy 105 = .ok (.return_, 1) := by decide +kernel
theorem dX7_goConvoy_106 : decode cX7_goConvoy 106 = .ok (.aload_n 1, 1) := by decide +kernel
theorem dX7_goConvoy_107 : decode cX7_goConvoy 107 = .ok (.iload_n 2, 1) := by decide +kernel
theorem dX7_goConvoy_108 : decode cX7_goConvoy 108 = .ok (.invokestatic 115, 3) := by decide +kernel
theorem dX7_goConvoy_111 : decode cX7_goConvoy 111 = .ok (.aload_n 1, 1) := by decide +kernel
theorem dX7_goConvoy_112 : decode cX7_goConvoy 112 = .ok (.iload_n 2, 1) := by decide +kernel
theorem dX7_goConvoy_113 : decode cX7_goConvoy 113 = .ok (.invokestatic 118, 3) := by decide +kernel
theorem dX7_goConvoy_116 : decode cX7_goConvoy 116 = .ok (.ifCond .eq 9, 3) := by decide +kernel
theorem dX7_goConvoy_119 : decode cX7_goConvoy 119 = .ok (.aload_n 1, 1) := by decide +kernel
theorem dX7_goConvoy_120 : decode cX7_goConvoy 120 = .ok (.iload_n 2, 1) := by decide +kernel
theorem dX7_goConvoy_121 : decode cX7_goConvoy 121 = .ok (.invokestatic 121, 3) := by decide +kernel
theorem dX7_goConvoy_124 : decode cX7_goConvoy 124 = .ok (.return_, 1) := by decide +kernel
theorem dX7_goConvoy_125 : decode cX7_goConvoy 125 = .ok (.aload_n 1, 1) := by decide +kernel
theorem dX7_goConvoy_126 : decode cX7_goConvoy 126 = .ok (.iload_n 2, 1) := by decide +kernel
theorem dX7_goConvoy_127 : decode cX7_goConvoy 127 = .ok (.invokestatic 124, 3) := by decide +kernel
theorem dX7_goConvoy_130 : decode cX7_goConvoy 130 = .ok (.iinc 4 1, 3) := by decide +kernel
theorem dX7_goConvoy_133 : decode cX7_goConvoy 133 = .ok (.goto (-97), 3) := by decide +kernel
theorem dX7_goConvoy_136 : decode cX7_goConvoy 136 = .ok (.return_, 1) := by decide +kernel
set_option maxRecDepth 20000 in
theorem ggX7_goHour_X7_sizeOf : GoodIn wsX7_goHour wsX7_sizeOf := goodIn_r _ [4, 5, 6, 3, 7] (by decide +kernel) (by decide +kernel)
set_option maxRecDepth 20000 in
theorem gX7_goHour_X7_sizeOf : GoodIn wsX7_goHour (va_wsS RX7 64 yX7_sizeOf wsX7_sizeOf) := goodIn_app (goodIn_of _ (by decide +kernel)) ggX7_goHour_X7_sizeOf
set_option maxRecDepth 20000 in
theorem ggX7_goHour_X7_isThere : GoodIn wsX7_goHour wsX7_isThere := goodIn_r _ [10, 5, 6, 3, 7] (by decide +kernel) (by decide +kernel)
set_option maxRecDepth 20000 in
theorem gX7_goHour_X7_isThere : GoodIn wsX7_goHour (va_wsS RX7 118 yX7_isThere wsX7_isThere) := goodIn_app (goodIn_of _ (by decide +kernel)) ggX7_goHour_X7_isThere
set_option maxRecDepth 20000 in
theorem ggX7_goHour_X7_goConvoy : GoodIn wsX7_goHour wsX7_goConvoy := goodIn_r _ [14, 5, 6, 3, 7, 15, 16, 17, 18, 19, 20, 21, 22, 23, 1, 2, 4, 24, 25, 26, 27, 28, 29, 30, 31, 32, 33, 34, 35, 36, 37, 38, 39, 40, 41, 42, 43, 44, 45, 46, 47, 48, 49, 50, 51, 52, 53, 54, 55, 56, 57, 58, 59, 60, 61, 62, 8, 9, 10, 63, 64, 65, 66, 67, 68, 69, 70, 71, 72, 73, 74, 75, 76, 77, 78, 79, 80, 81, 82, 83, 84, 85, 86, 87, 88, 89, 90, 91] (by decide +kernel) (by decide +kernel)
set_option maxRecDepth 20000 in
theorem gX7_goHour_X7_goConvoy : GoodIn wsX7_goHour (wsV RX7 127 RX7 yX7_goConvoy wsX7_goConvoy) := goodIn_app (goodIn_of _ (by decide +kernel)) ggX7_goHour_X7_goConvoy
theorem dX7_goHour_0 : decode cX7_goHour 0 = .ok (.iconst 0, 1) := by decide +kernel
theorem dX7_goHour_1 : decode cX7_goHour 1 = .ok (.istore_n 2, 1) := by decide +kernel
theorem dX7_goHour_2 : decode cX7_goHour 2 = .ok (.iload_n 2, 1) := by decide +kernel
theorem dX7_goHour_3 : decode cX7_goHour 3 = .ok (.aload_n 1, 1) := by decide +kernel
theorem dX7_goHour_4 : decode cX7_goHour 4 = .ok (.iconst 5, 1) := by decide +kernel
theorem dX7_goHour_5 : decode cX7_goHour 5 = .ok (.iaload, 1) := by decide +kernel
theorem dX7_goHour_6 : decode cX7_goHour 6 = .ok (.if_icmp .ge 31, 3) := by decide +kernel
theorem dX7_goHour_9 : decode cX7_goHour 9 = .ok (.aload_n 1, 1) := by decide +kernel
theorem dX7_goHour_10 : decode cX7_goHour 10 = .ok (.iload_n 2, 1) := by decide +kernel
theorem dX7_goHour_11 : decode cX7_goHour 11 = .ok (.invokestatic 64, 3) := by decide +kernel
theorem dX7_goHour_14 : decode cX7_goHour 14 = .ok (.ifCond .le 17, 3) := by decide +kernel
theorem dX7_goHour_17 : decode cX7_goHour 17 = .ok (.aload_n 1, 1) := by decide +kernel
theorem dX7_goHour_18 : decode cX7_goHour 18 = .ok (.iload_n 2, 1) := by decide +kernel
theorem dX7_goHour_19 : decode cX7_goHour 19 = .ok (.invokestatic 118, 3) := by decide +kernel
theorem dX7_goHour_22 : decode cX7_goHour 22 = .ok (.ifCond .ne 9, 3) := by decide +kernel
theorem dX7_goHour_25 : decode cX7_goHour 25 = .ok (.aload_n 0, 1) := by decide +kernel
theorem dX7_goHour_26 : decode cX7_goHour 26 = .ok (.aload_n 1, 1) := by decide +kernel
theorem dX7_goHour_27 : decode cX7_goHour 27 = .ok (.iload_n 2, 1) := by decide +kernel
theorem dX7_goHour_28 : decode cX7_goHour 28 = .ok (.invokevirtual 127, 3) := by decide +kernel
theorem dX7_goHour_31 : decode cX7_goHour 31 = .ok (.iinc 2 1, 3) := by decide +kernel
theorem dX7_goHour_34 : decode cX7_goHour 34 = .ok (.goto (-32), 3) := by decide +kernel
theorem dX7_goHour_37 : decode cX7_goHour 37 = .ok (.aload_n 1, 1) := by decide +kernel
theorem dX7_goHour_38 : decode cX7_goHour 38 = .ok (.iconst 1, 1) := by decide +kernel
theorem dX7_goHour_39 : decode cX7_goHour 39 = .ok (.dup2, 1) := by decide +kernel
theorem dX7_goHour_40 : decode cX7_goHour 40 = .ok (.iaload, 1) := by decide +kernel
theorem dX7_goHour_41 : decode cX7_goHour 41 = .ok (.iconst 1, 1) := by decide +kernel
theorem dX7_goHour_42 : decode cX7_goHour 42 = .ok (.iadd, 1) := by decide +kernel
theorem dX7_goHour_43 : decode cX7_goHour 43 = .ok (.iastore, 1) := by decide +kernel
theorem dX7_goHour_44 : decode cX7_goHour 44 = .ok (.return_, 1) := by decide +kernel
set_option maxRecDepth 20000 in
theorem ggX7_countAt_X7_carAt : GoodIn wsX7_countAt wsX7_carAt := goodIn_r _ [4] (by decide +kernel) (by decide +kernel)
set_option maxRecDepth 20000 in
theorem gX7_countAt_X7_carAt : GoodIn wsX7_countAt (va_wsS RX7 72 yX7_carAt wsX7_carAt) := goodIn_app (goodIn_of _ (by decide +kernel)) ggX7_countAt_X7_carAt
theorem dX7_countAt_0 : decode cX7_countAt 0 = .ok (.iconst 0, 1) := by decide +kernel
theorem dX7_countAt_1 : decode cX7_countAt 1 = .ok (.istore_n 2, 1) := by decide +kernel
theorem dX7_countAt_2 : decode cX7_countAt 2 = .ok (.iconst 0, 1) := by decide +kernel
theorem dX7_countAt_3 : decode cX7_countAt 3 = .ok (.istore_n 3, 1) := by decide +kernel
theorem dX7_countAt_4 : decode cX7_countAt 4 = .ok (.iload_n 3, 1) := by decide +kernel
theorem dX7_countAt_5 : decode cX7_countAt 5 = .ok (.aload_n 0, 1) := by decide +kernel
theorem dX7_countAt_6 : decode cX7_countAt 6 = .ok (.bipush 6, 2) := by decide +kernel
theorem dX7_countAt_8 : decode cX7_countAt 8 = .ok (.iaload, 1) := by decide +kernel
theorem dX7_countAt_9 : decode cX7_countAt 9 = .ok (.if_icmp .ge 28, 3) := by decide +kernel
theorem dX7_countAt_12 : decode cX7_countAt 12 = .ok (.iload_n 2, 1) := by decide +kernel
theorem dX7_countAt_13 : decode cX7_countAt 13 = .ok (.aload_n 0, 1) := by decide +kernel
theorem dX7_countAt_14 : decode cX7_countAt 14 = .ok (.iload_n 3, 1) := by decide +kernel
theorem dX7_countAt_15 : decode cX7_countAt 15 = .ok (.iconst 4, 1) := by decide +kernel
theorem dX7_countAt_16 : decode cX7_countAt 16 = .ok (.invokestatic 72, 3) := by decide +kernel
theorem dX7_countAt_19 : decode cX7_countAt 19 = .ok (.iaload, 1) := by decide +kernel
theorem dX7_countAt_20 : decode cX7_countAt 20 = .ok (.iload_n 1, 1) := by decide +kernel
theorem dX7_countAt_21 : decode cX7_countAt 21 = .ok (.if_icmp .ne 7, 3) := by decide +kernel
theorem dX7_countAt_24 : decode cX7_countAt 24 = .ok (.iconst 1, 1) := by decide +kernel
theorem dX7_countAt_25 : decode cX7_countAt 25 = .ok (.goto 4, 3) := by decide +kernel
theorem dX7_countAt_28 : decode cX7_countAt 28 = .ok (.iconst 0, 1) := by decide +kernel
theorem dX7_countAt_29 : decode cX7_countAt 29 = .ok (.iadd, 1) := by decide +kernel
theorem dX7_countAt_30 : decode cX7_countAt 30 = .ok (.istore_n 2, 1) := by decide +kernel
theorem dX7_countAt_31 : decode cX7_countAt 31 = .ok (.iinc 3 1, 3) := by decide +kernel
theorem dX7_countAt_34 : decode cX7_countAt 34 = .ok (.goto (-30), 3) := by decide +kernel
theorem dX7_countAt_37 : decode cX7_countAt 37 = .ok (.iload_n 2, 1) := by decide +kernel
theorem dX7_countAt_38 : decode cX7_countAt 38 = .ok (.ireturn, 1) := by decide +kernel
set_option maxRecDepth 20000 in
theorem ggX7_goHours_X7_countAt : GoodIn wsX7_goHours wsX7_countAt := goodIn_r _ [4, 5, 6, 3, 7] (by decide +kernel) (by decide +kernel)
set_option maxRecDepth 20000 in
theorem gX7_goHours_X7_countAt : GoodIn wsX7_goHours (va_wsS RX7 130 yX7_countAt wsX7_countAt) := goodIn_app (goodIn_of _ (by decide +kernel)) ggX7_goHours_X7_countAt
set_option maxRecDepth 20000 in
theorem ggX7_goHours_X7_goHour : GoodIn wsX7_goHours wsX7_goHour := goodIn_r _ [11, 12, 13, 3, 14, 15, 16, 17, 18, 19, 20, 21, 22, 23, 24, 25, 26, 27, 28, 29, 30, 31, 32, 33, 34, 35, 36, 5, 6, 7, 37, 38, 39, 40, 41, 42, 43, 44, 45, 46, 47, 48, 49, 50, 51, 52, 53, 54, 55, 56, 57, 58, 59, 60, 61, 62, 63, 64, 65, 66, 67, 68, 69, 70, 71, 72, 73, 74, 75, 76, 77, 78, 79, 80, 81, 82, 83, 84, 85, 86, 87, 88, 89, 90, 91, 92, 93, 94, 95, 96, 97, 98] (by decide +kernel) (by decide +kernel)
set_option maxRecDepth 20000 in
theorem gX7_goHours_X7_goHour : GoodIn wsX7_goHours (wsV RX7 133 RX7 yX7_goHour wsX7_goHour) := goodIn_app (goodIn_of _ (by decide +kernel)) ggX7_goHours_X7_goHour
theorem dX7_goHours_0 : decode cX7_goHours 0 = .ok (.aload_n 1, 1) := by decide +kernel
theorem dX7_goHours_1 : decode cX7_goHours 1 = .ok (.iconst 2, 1) := by decide +kernel
theorem dX7_goHours_2 : decode cX7_goHours 2 = .ok (.invokestatic 130, 3) := by decide +kernel
theorem dX7_goHours_5 : decode cX7_goHours 5 = .ok (.istore_n 3, 1) := by decide +kernel
theorem dX7_goHours_6 : decode cX7_goHours 6 = .ok (.iconst 0, 1) := by decide +kernel
theorem dX7_goHours_7 : decode cX7_goHours 7 = .ok (.istore 4, 2) := by decide +kernel
theorem dX7_goHours_9 : decode cX7_goHours 9 = .ok (.iload 4, 2) := by decide +kernel
theorem dX7_goHours_11 : decode cX7_goHours 11 = .ok (.iload_n 2, 1) := by decide +kernel
theorem dX7_goHours_12 : decode cX7_goHours 12 = .ok (.if_icmp .ge 14, 3) := by decide +kernel
theorem dX7_goHours_15 : decode cX7_goHours 15 = .ok (.aload_n 0, 1) := by decide +kernel
theorem dX7_goHours_16 : decode cX7_goHours 16 = .ok (.aload_n 1, 1) := by decide +kernel
theorem dX7_goHours_17 : decode cX7_goHours 17 = .ok (.invokevirtual 133, 3) := by decide +kernel
theorem dX7_goHours_20 : decode cX7_goHours 20 = .ok (.iinc 4 1, 3) := by decide +kernel
theorem dX7_goHours_23 : decode cX7_goHours 23 = .ok (.goto (-14), 3) := by decide +kernel
theorem dX7_goHours_26 : decode cX7_goHours 26 = .ok (.aload_n 1, 1) := by decide +kernel
theorem dX7_goHours_27 : decode cX7_goHours 27 = .ok (.iconst 2, 1) := by decide +kernel
theorem dX7_goHours_28 : decode cX7_goHours 28 = .ok (.invokestatic 130, 3) := by decide +kernel
theorem dX7_goHours_31 : decode cX7_goHours 31 = .ok (.iload_n 3, 1) := by decide +kernel
theorem dX7_goHours_32 : decode cX7_goHours 32 = .ok (.isub, 1) := by decide +kernel
theorem dX7_goHours_33 : decode cX7_goHours 33 = .ok (.ireturn, 1) := by decide +kernel
set_option maxRecDepth 20000 in
theorem ggX7_addGateTo_X7_gateAt : GoodIn wsX7_addGateTo wsX7_gateAt := goodIn_r _ [4] (by decide +kernel) (by decide +kernel)
set_option maxRecDepth 20000 in
theorem gX7_addGateTo_X7_gateAt : GoodIn wsX7_addGateTo (va_wsS RX7 55 yX7_gateAt wsX7_gateAt) := goodIn_app (goodIn_of _ (by decide +kernel)) ggX7_addGateTo_X7_gateAt
theorem dX7_addGateTo_0 : decode cX7_addGateTo 0 = .ok (.aload_n 0, 1) := by decide +kernel
theorem dX7_addGateTo_1 : decode cX7_addGateTo 1 = .ok (.iconst 2, 1) := by decide +kernel
theorem dX7_addGateTo_2 : decode cX7_addGateTo 2 = .ok (.iaload, 1) := by decide +kernel
theorem dX7_addGateTo_3 : decode cX7_addGateTo 3 = .ok (.istore 5, 2) := by decide +kernel
theorem dX7_addGateTo_5 : decode cX7_addGateTo 5 = .ok (.aload_n 0, 1) := by decide +kernel
theorem dX7_addGateTo_6 : decode cX7_addGateTo 6 = .ok (.iload 5, 2) := by decide +kernel
theorem dX7_addGateTo_8 : decode cX7_addGateTo 8 = .ok (.iconst 0, 1) := by decide +kernel
theorem dX7_addGateTo_9 : decode cX7_addGateTo 9 = .ok (.invokestatic 55, 3) := by decide +kernel
theorem dX7_addGateTo_12 : decode cX7_addGateTo 12 = .ok (.iload_n 1, 1) := by decide +kernel
theorem dX7_addGateTo_13 : decode cX7_addGateTo 13 = .ok (.iastore, 1) := by decide +kernel
theorem dX7_addGateTo_14 : decode cX7_addGateTo 14 = .ok (.aload_n 0, 1) := by decide +kernel
theorem dX7_addGateTo_15 : decode cX7_addGateTo 15 = .ok (.iload 5, 2) := by decide +kernel
theorem dX7_addGateTo_17 : decode cX7_addGateTo 17 = .ok (.iconst 1, 1) := by decide +kernel
theorem dX7_addGateTo_18 : decode cX7_addGateTo 18 = .ok (.invokestatic 55, 3) := by decide +kernel
theorem dX7_addGateTo_21 : decode cX7_addGateTo 21 = .ok (.iload_n 2, 1) := by decide +kernel
theorem dX7_addGateTo_22 : decode cX7_addGateTo 22 = .ok (.iastore, 1) := by decide +kernel
theorem dX7_addGateTo_23 : decode cX7_addGateTo 23 = .ok (.aload_n 0, 1) := by decide +kernel
theorem dX7_addGateTo_24 : decode cX7_addGateTo 24 = .ok (.iload 5, 2) := by decide +kernel
theorem dX7_addGateTo_26 : decode cX7_addGateTo 26 = .ok (.iconst 2, 1) := by decide +kernel
theorem dX7_addGateTo_27 : decode cX7_addGateTo 27 = .ok (.invokestatic 55, 3) := by decide +kernel
theorem dX7_addGateTo_30 : decode cX7_addGateTo 30 = .ok (.iload_n 3, 1) := by decide +kernel
theorem dX7_addGateTo_31 : decode cX7_addGateTo 31 = .ok (.iastore, 1) := by decide +kernel
theorem dX7_addGateTo_32 : decode cX7_addGateTo 32 = .ok (.aload_n 0, 1) := by decide +kernel
theorem dX7_addGateTo_33 : decode cX7_addGateTo 33 = .ok (.iload 5, 2) := by decide +kernel
theorem dX7_addGateTo_35 : decode cX7_addGateTo 35 = .ok (.iconst 3, 1) := by decide +kernel
theorem dX7_addGateTo_36 : decode cX7_addGateTo 36 = .ok (.invokestatic 55, 3) := by decide +kernel
theorem dX7_addGateTo_39 : decode cX7_addGateTo 39 = .ok (.iload 4, 2) := by decide +kernel
theorem dX7_addGateTo_41 : decode cX7_addGateTo 41 = .ok (.iastore, 1) := by decide +kernel
theorem dX7_addGateTo_42 : decode cX7_addGateTo 42 = .ok (.aload_n 0, 1) := by decide +kernel
theorem dX7_addGateTo_43 : decode cX7_addGateTo 43 = .ok (.iconst 2, 1) := by decide +kernel
theorem dX7_addGateTo_44 : decode cX7_addGateTo 44 = .ok (.dup2, 1) := by decide +kernel
theorem dX7_addGateTo_45 : decode cX7_addGateTo 45 = .ok (.iaload, 1) := by decide +kernel
theorem dX7_addGateTo_46 : decode cX7_addGateTo 46 = .ok (.iconst 1, 1) := by decide +kernel
theorem dX7_addGateTo_47 : decode cX7_addGateTo 47 = .ok (.iadd, 1) := by decide +kernel
theorem dX7_addGateTo_48 : decode cX7_addGateTo 48 = .ok (.iastore, 1) := by decide +kernel
theorem dX7_addGateTo_49 : decode cX7_addGateTo 49 = .ok (.return_, 1) := by decide +kernel
set_option maxRecDepth 20000 in
theorem ggX7_addBayTo_X7_bayAt : GoodIn wsX7_addBayTo wsX7_bayAt := goodIn_r _ [4] (by decide +kernel) (by decide +kernel)
set_option maxRecDepth 20000 in
theorem gX7_addBayTo_X7_bayAt : GoodIn wsX7_addBayTo (va_wsS RX7 58 yX7_bayAt wsX7_bayAt) := goodIn_app (goodIn_of _ (by decide +kernel)) ggX7_addBayTo_X7_bayAt
theorem dX7_addBayTo_0 : decode cX7_addBayTo 0 = .ok (.aload_n 0, 1) := by decide +kernel
theorem dX7_addBayTo_1 : decode cX7_addBayTo 1 = .ok (.iconst 3, 1) := by decide +kernel
theorem dX7_addBayTo_2 : decode cX7_addBayTo 2 = .ok (.iaload, 1) := by decide +kernel
theorem dX7_addBayTo_3 : decode cX7_addBayTo 3 = .ok (.istore_n 3, 1) := by decide +kernel
theorem dX7_addBayTo_4 : decode cX7_addBayTo 4 = .ok (.aload_n 0, 1) := by decide +kernel
theorem dX7_addBayTo_5 : decode cX7_addBayTo 5 = .ok (.iload_n 3, 1) := by decide +kernel
theorem dX7_addBayTo_6 : decode cX7_addBayTo 6 = .ok (.iconst 0, 1) := by decide +kernel
theorem dX7_addBayTo_7 : decode cX7_addBayTo 7 = .ok (.invokestatic 58, 3) := by decide +kernel
theorem dX7_addBayTo_10 : decode cX7_addBayTo 10 = .ok (.iload_n 1, 1) := by decide +kernel
theorem dX7_addBayTo_11 : decode cX7_addBayTo 11 = .ok (.iastore, 1) := by decide +kernel
theorem dX7_addBayTo_12 : decode cX7_addBayTo 12 = .ok (.aload_n 0, 1) := by decide +kernel
theorem dX7_addBayTo_13 : decode cX7_addBayTo 13 = .ok (.iload_n 3, 1) := by decide +kernel
theorem dX7_addBayTo_14 : decode cX7_addBayTo 14 = .ok (.iconst 1, 1) := by decide +kernel
theorem dX7_addBayTo_15 : decode cX7_addBayTo 15 = .ok (.invokestatic 58, 3) := by decide +kernel
theorem dX7_addBayTo_18 : decode cX7_addBayTo 18 = .ok (.iload_n 2, 1) := by decide +kernel
theorem dX7_addBayTo_19 : decode cX7_addBayTo 19 = .ok (.iastore, 1) := by decide +kernel
theorem dX7_addBayTo_20 : decode cX7_addBayTo 20 = .ok (.aload_n 0, 1) := by decide +kernel
theorem dX7_addBayTo_21 : decode cX7_addBayTo 21 = .ok (.iload_n 3, 1) := by decide +kernel
theorem dX7_addBayTo_22 : decode cX7_addBayTo 22 = .ok (.iconst 2, 1) := by decide +kernel
theorem dX7_addBayTo_23 : decode cX7_addBayTo 23 = .ok (.invokestatic 58, 3) := by decide +kernel
theorem dX7_addBayTo_26 : decode cX7_addBayTo 26 = .ok (.iconst 0, 1) := by decide +kernel
theorem dX7_addBayTo_27 : decode cX7_addBayTo 27 = .ok (.iastore, 1) := by decide +kernel
theorem dX7_addBayTo_28 : decode cX7_addBayTo 28 = .ok (.aload_n 0, 1) := by decide +kernel
theorem dX7_addBayTo_29 : decode cX7_addBayTo 29 = .ok (.iconst 3, 1) := by decide +kernel
theorem dX7_addBayTo_30 : decode cX7_addBayTo 30 = .ok (.dup2, 1) := by decide +kernel
theorem dX7_addBayTo_31 : decode cX7_addBayTo 31 = .ok (.iaload, 1) := by decide +kernel
theorem dX7_addBayTo_32 : decode cX7_addBayTo 32 = .ok (.iconst 1, 1) := by decide +kernel
theorem dX7_addBayTo_33 : decode cX7_addBayTo 33 = .ok (.iadd, 1) := by decide +kernel
theorem dX7_addBayTo_34 : decode cX7_addBayTo 34 = .ok (.iastore, 1) := by decide +kernel
theorem dX7_addBayTo_35 : decode cX7_addBayTo 35 = .ok (.return_, 1) := by decide +kernel
set_option maxRecDepth 20000 in
theorem ggX7_addDepotTo_X7_depotAt : GoodIn wsX7_addDepotTo wsX7_depotAt := goodIn_r _ [4] (by decide +kernel) (by decide +kernel)
set_option maxRecDepth 20000 in
theorem gX7_addDepotTo_X7_depotAt : GoodIn wsX7_addDepotTo (va_wsS RX7 61 yX7_depotAt wsX7_depotAt) := goodIn_app (goodIn_of _ (by decide +kernel)) ggX7_addDepotTo_X7_depotAt
theorem dX7_addDepotTo_0 : decode cX7_addDepotTo 0 = .ok (.aload_n 0, 1) := by decide +kernel
theorem dX7_addDepotTo_1 : decode cX7_addDepotTo 1 = .ok (.iconst 4, 1) := by decide +kernel
theorem dX7_addDepotTo_2 : decode cX7_addDepotTo 2 = .ok (.iaload, 1) := by decide +kernel
theorem dX7_addDepotTo_3 : decode cX7_addDepotTo 3 = .ok (.istore_n 3, 1) := by decide +kernel
theorem dX7_addDepotTo_4 : decode cX7_addDepotTo 4 = .ok (.aload_n 0, 1) := by decide +kernel
theorem dX7_addDepotTo_5 : decode cX7_addDepotTo 5 = .ok (.iload_n 3, 1) := by decide +kernel
theorem dX7_addDepotTo_6 : decode cX7_addDepotTo 6 = .ok (.iconst 0, 1) := by decide +kernel
theorem dX7_addDepotTo_7 : decode cX7_addDepotTo 7 = .ok (.invokestatic 61, 3) := by decide +kernel
theorem dX7_addDepotTo_10 : decode cX7_addDepotTo 10 = .ok (.iload_n 1, 1) := by decide +kernel
theorem dX7_addDepotTo_11 : decode cX7_addDepotTo 11 = .ok (.iastore, 1) := by decide +kernel
theorem dX7_addDepotTo_12 : decode cX7_addDepotTo 12 = .ok (.aload_n 0, 1) := by decide +kernel
theorem dX7_addDepotTo_13 : decode cX7_addDepotTo 13 = .ok (.iload_n 3, 1) := by decide +kernel
theorem dX7_addDepotTo_14 : decode cX7_addDepotTo 14 = .ok (.iconst 1, 1) := by decide +kernel
theorem dX7_addDepotTo_15 : decode cX7_addDepotTo 15 = .ok (.invokestatic 61, 3) := by decide +kernel
theorem dX7_addDepotTo_18 : decode cX7_addDepotTo 18 = .ok (.iload_n 2, 1) := by decide +kernel
theorem dX7_addDepotTo_19 : decode cX7_addDepotTo 19 = .ok (.iastore, 1) := by decide +kernel
theorem dX7_addDepotTo_20 : decode cX7_addDepotTo 20 = .ok (.aload_n 0, 1) := by decide +kernel
theorem dX7_addDepotTo_21 : decode cX7_addDepotTo 21 = .ok (.iconst 4, 1) := by decide +kernel
theorem dX7_addDepotTo_22 : decode cX7_addDepotTo 22 = .ok (.dup2, 1) := by decide +kernel
theorem dX7_addDepotTo_23 : decode cX7_addDepotTo 23 = .ok (.iaload, 1) := by decide +kernel
theorem dX7_addDepotTo_24 : decode cX7_addDepotTo 24 = .ok (.iconst 1, 1) := by decide +kernel
theorem dX7_addDepotTo_25 : decode cX7_addDepotTo 25 = .ok (.iadd, 1) := by decide +kernel
theorem dX7_addDepotTo_26 : decode cX7_addDepotTo 26 = .ok (.iastore, 1) := by decide +kernel
theorem dX7_addDepotTo_27 : decode cX7_addDepotTo 27 = .ok (.return_, 1) := by decide +kernel
set_option maxRecDepth 20000 in
theorem ggX7_addConvoyTo_X7_convoyAt : GoodIn wsX7_addConvoyTo wsX7_convoyAt := goodIn_r _ [4] (by decide +kernel) (by decide +kernel)
set_option maxRecDepth 20000 in
theorem gX7_addConvoyTo_X7_convoyAt : GoodIn wsX7_addConvoyTo (va_wsS RX7 51 yX7_convoyAt wsX7_convoyAt) := goodIn_app (goodIn_of _ (by decide +kernel)) ggX7_addConvoyTo_X7_convoyAt
theorem dX7_addConvoyTo_0 : decode cX7_addConvoyTo 0 = .ok (.iconst 0, 1) := by decide +kernel
theorem dX7_addConvoyTo_1 : decode cX7_addConvoyTo 1 = .ok (.istore_n 1, 1) := by decide +kernel
theorem dX7_addConvoyTo_2 : decode cX7_addConvoyTo 2 = .ok (.iload_n 1, 1) := by decide +kernel
theorem dX7_addConvoyTo_3 : decode cX7_addConvoyTo 3 = .ok (.bipush 13, 2) := by decide +kernel
theorem dX7_addConvoyTo_5 : decode cX7_addConvoyTo 5 = .ok (.if_icmp .ge 19, 3) := by decide +kernel
theorem dX7_addConvoyTo_8 : decode cX7_addConvoyTo 8 = .ok (.aload_n 0, 1) := by decide +kernel
theorem dX7_addConvoyTo_9 : decode cX7_addConvoyTo 9 = .ok (.aload_n 0, 1) := by decide +kernel
theorem dX7_addConvoyTo_10 : decode cX7_addConvoyTo 10 = .ok (.iconst 5, 1) := by decide +kernel
theorem dX7_addConvoyTo_11 : decode cX7_addConvoyTo 11 = .ok (.iaload, 1) := by decide +kernel
theorem dX7_addConvoyTo_12 : decode cX7_addConvoyTo 12 = .ok (.iload_n 1, 1) := by decide +kernel
theorem dX7_addConvoyTo_13 : decode cX7_addConvoyTo 13 = .ok (.invokestatic 51, 3) := by decide +kernel
theorem dX7_addConvoyTo_16 : decode cX7_addConvoyTo 16 = .ok (.iconst 0, 1) := by decide +kernel
theorem dX7_addConvoyTo_17 : decode cX7_addConvoyTo 17 = .ok (.iastore, 1) := by decide +kernel
theorem dX7_addConvoyTo_18 : decode cX7_addConvoyTo 18 = .ok (.iinc 1 1, 3) := by decide +kernel
theorem dX7_addConvoyTo_21 : decode cX7_addConvoyTo 21 = .ok (.goto (-19), 3) := by decide +kernel
theorem dX7_addConvoyTo_24 : decode cX7_addConvoyTo 24 = .ok (.aload_n 0, 1) := by decide +kernel
theorem dX7_addConvoyTo_25 : decode cX7_addConvoyTo 25 = .ok (.iconst 5, 1) := by decide +kernel
theorem dX7_addConvoyTo_26 : decode cX7_addConvoyTo 26 = .ok (.dup2, 1) := by decide +kernel
theorem dX7_addConvoyTo_27 : decode cX7_addConvoyTo 27 = .ok (.iaload, 1) := by decide +kernel
theorem dX7_addConvoyTo_28 : decode cX7_addConvoyTo 28 = .ok (.iconst 1, 1) := by decide +kernel
theorem dX7_addConvoyTo_29 : decode cX7_addConvoyTo 29 = .ok (.iadd, 1) := by decide +kernel
theorem dX7_addConvoyTo_30 : decode cX7_addConvoyTo 30 = .ok (.iastore, 1) := by decide +kernel
theorem dX7_addConvoyTo_31 : decode cX7_addConvoyTo 31 = .ok (.return_, 1) := by decide +kernel
set_option maxRecDepth 20000 in
theorem ggX7_addCarTo_X7_carAt : GoodIn wsX7_addCarTo wsX7_carAt := goodIn_r _ [4] (by decide +kernel) (by decide +kernel)
set_option maxRecDepth 20000 in
theorem gX7_addCarTo_X7_carAt : GoodIn wsX7_addCarTo (va_wsS RX7 72 yX7_carAt wsX7_carAt) := goodIn_app (goodIn_of _ (by decide +kernel)) ggX7_addCarTo_X7_carAt
set_option maxRecDepth 20000 in
theorem ggX7_addCarTo_X7_sizeOf : GoodIn wsX7_addCarTo wsX7_sizeOf := goodIn_r _ [7, 8, 9, 3, 10] (by decide +kernel) (by decide +kernel)
set_option maxRecDepth 20000 in
theorem gX7_addCarTo_X7_sizeOf : GoodIn wsX7_addCarTo (va_wsS RX7 64 yX7_sizeOf wsX7_sizeOf) := goodIn_app (goodIn_of _ (by decide +kernel)) ggX7_addCarTo_X7_sizeOf
set_option maxRecDepth 20000 in
theorem ggX7_addCarTo_X7_convoyAt : GoodIn wsX7_addCarTo wsX7_convoyAt := goodIn_r _ [10] (by decide +kernel) (by decide +kernel)
set_option maxRecDepth 20000 in
theorem gX7_addCarTo_X7_convoyAt : GoodIn wsX7_addCarTo (va_wsS RX7 51 yX7_convoyAt wsX7_convoyAt) := goodIn_app (goodIn_of _ (by decide +kernel)) ggX7_addCarTo_X7_convoyAt
theorem dX7_addCarTo_0 : decode cX7_addCarTo 0 = .ok (.aload_n 0, 1) := by decide +kernel
theorem dX7_addCarTo_1 : decode cX7_addCarTo 1 = .ok (.bipush 6, 2) := by decide +kernel
theorem dX7_addCarTo_3 : decode cX7_addCarTo 3 = .ok (.iaload, 1) := by decide +kernel
theorem dX7_addCarTo_4 : decode cX7_addCarTo 4 = .ok (.istore 6, 2) := by decide +kernel
theorem dX7_addCarTo_6 : decode cX7_addCarTo 6 = .ok (.aload_n 0, 1) := by decide +kernel
theorem dX7_addCarTo_7 : decode cX7_addCarTo 7 = .ok (.iload 6, 2) := by decide +kernel
theorem dX7_addCarTo_9 : decode cX7_addCarTo 9 = .ok (.iconst 0, 1) := by decide +kernel
theorem dX7_addCarTo_10 : decode cX7_addCarTo 10 = .ok (.invokestatic 72, 3) := by decide +kernel
theorem dX7_addCarTo_13 : decode cX7_addCarTo 13 = .ok (.iload_n 2, 1) := by decide +kernel
theorem dX7_addCarTo_14 : decode cX7_addCarTo 14 = .ok (.iastore, 1) := by decide +kernel
theorem dX7_addCarTo_15 : decode cX7_addCarTo 15 = .ok (.aload_n 0, 1) := by decide +kernel
theorem dX7_addCarTo_16 : decode cX7_addCarTo 16 = .ok (.iload 6, 2) := by decide +kernel
theorem dX7_addCarTo_18 : decode cX7_addCarTo 18 = .ok (.iconst 1, 1) := by decide +kernel
theorem dX7_addCarTo_19 : decode cX7_addCarTo 19 = .ok (.invokestatic 72, 3) := by decide +kernel
theorem dX7_addCarTo_22 : decode cX7_addCarTo 22 = .ok (.iload_n 3, 1) := by decide +kernel
theorem dX7_addCarTo_23 : decode cX7_addCarTo 23 = .ok (.iastore, 1) := by decide +kernel
theorem dX7_addCarTo_24 : decode cX7_addCarTo 24 = .ok (.aload_n 0, 1) := by decide +kernel
theorem dX7_addCarTo_25 : decode cX7_addCarTo 25 = .ok (.iload 6, 2) := by decide +kernel
theorem dX7_addCarTo_27 : decode cX7_addCarTo 27 = .ok (.iconst 2, 1) := by decide +kernel
theorem dX7_addCarTo_28 : decode cX7_addCarTo 28 = .ok (.invokestatic 72, 3) := by decide +kernel
theorem dX7_addCarTo_31 : decode cX7_addCarTo 31 = .ok (.iload 4, 2) := by decide +kernel
theorem dX7_addCarTo_33 : decode cX7_addCarTo 33 = .ok (.iastore, 1) := by decide +kernel
theorem dX7_addCarTo_34 : decode cX7_addCarTo 34 = .ok (.aload_n 0, 1) := by decide +kernel
theorem dX7_addCarTo_35 : decode cX7_addCarTo 35 = .ok (.iload 6, 2) := by decide +kernel
theorem dX7_addCarTo_37 : decode cX7_addCarTo 37 = .ok (.iconst 3, 1) := by decide +kernel
theorem dX7_addCarTo_38 : decode cX7_addCarTo 38 = .ok (.invokestatic 72, 3) := by decide +kernel
theorem dX7_addCarTo_41 : decode cX7_addCarTo 41 = .ok (.iload 5, 2) := by decide +kernel
theorem dX7_addCarTo_43 : decode cX7_addCarTo 43 = .ok (.iastore, 1) := by decide +kernel
theorem dX7_addCarTo_44 : decode cX7_addCarTo 44 = .ok (.aload_n 0, 1) := by decide +kernel
theorem dX7_addCarTo_45 : decode cX7_addCarTo 45 = .ok (.iload 6, 2) := by decide +kernel
theorem dX7_addCarTo_47 : decode cX7_addCarTo 47 = .ok (.iconst 4, 1) := by decide +kernel
theorem dX7_addCarTo_48 : decode cX7_addCarTo 48 = .ok (.invokestatic 72, 3) := by decide +kernel
theorem dX7_addCarTo_51 : decode cX7_addCarTo 51 = .ok (.iconst 0, 1) := by decide +kernel
theorem dX7_addCarTo_52 : decode cX7_addCarTo 52 = .ok (.iastore, 1) := by decide +kernel
theorem dX7_addCarTo_53 : decode cX7_addCarTo 53 = .ok (.aload_n 0, 1) := by decide +kernel
theorem dX7_addCarTo_54 : decode cX7_addCarTo 54 = .ok (.iload 6, 2) := by decide +kernel
theorem dX7_addCarTo_56 : decode cX7_addCarTo 56 = .ok (.iconst 5, 1) := by decide +kernel
theorem dX7_addCarTo_57 : decode cX7_addCarTo 57 = .ok (.invokestatic 72, 3) := by decide +kernel
theorem dX7_addCarTo_60 : decode cX7_addCarTo 60 = .ok (.iload_n 1, 1) := by decide +kernel
theorem dX7_addCarTo_61 : decode cX7_addCarTo 61 = .ok (.iastore, 1) := by decide +kernel
theorem dX7_addCarTo_62 : decode cX7_addCarTo 62 = .ok (.aload_n 0, 1) := by decide +kernel
theorem dX7_addCarTo_63 : decode cX7_addCarTo 63 = .ok (.iload 6, 2) := by decide +kernel
theorem dX7_addCarTo_65 : decode cX7_addCarTo 65 = .ok (.bipush 6, 2) := by decide +kernel
theorem dX7_addCarTo_67 : decode cX7_addCarTo 67 = .ok (.invokestatic 72, 3) := by decide +kernel
theorem dX7_addCarTo_70 : decode cX7_addCarTo 70 = .ok (.iconst 0, 1) := by decide +kernel
theorem dX7_addCarTo_71 : decode cX7_addCarTo 71 = .ok (.iastore, 1) := by decide +kernel
theorem dX7_addCarTo_72 : decode cX7_addCarTo 72 = .ok (.aload_n 0, 1) := by decide +kernel
theorem dX7_addCarTo_73 : decode cX7_addCarTo 73 = .ok (.iload_n 1, 1) := by decide +kernel
theorem dX7_addCarTo_74 : decode cX7_addCarTo 74 = .ok (.iconst 5, 1) := by decide +kernel
theorem dX7_addCarTo_75 : decode cX7_addCarTo 75 = .ok (.aload_n 0, 1) := by decide +kernel
theorem dX7_addCarTo_76 : decode cX7_addCarTo 76 = .ok (.iload_n 1, 1) := by decide +kernel
theorem dX7_addCarTo_77 : decode cX7_addCarTo 77 = .ok (.invokestatic 64, 3) := by decide +kernel
theorem dX7_addCarTo_80 : decode cX7_addCarTo 80 = .ok (.iadd, 1) := by decide +kernel
theorem dX7_addCarTo_81 : decode cX7_addCarTo 81 = .ok (.invokestatic 51, 3) := by decide +kernel
theorem dX7_addCarTo_84 : decode cX7_addCarTo 84 = .ok (.iload 6, 2) := by decide +kernel
theorem dX7_addCarTo_86 : decode cX7_addCarTo 86 = .ok (.iastore, 1) := by decide +kernel
theorem dX7_addCarTo_87 : decode cX7_addCarTo 87 = .ok (.aload_n 0, 1) := by decide +kernel
theorem dX7_addCarTo_88 : decode cX7_addCarTo 88 = .ok (.iload_n 1, 1) := by decide +kernel
theorem dX7_addCarTo_89 : decode cX7_addCarTo 89 = .ok (.iconst 1, 1) := by decide +kernel
theorem dX7_addCarTo_90 : decode cX7_addCarTo 90 = .ok (.invokestatic 51, 3) := by decide +kernel
theorem dX7_addCarTo_93 : decode cX7_addCarTo 93 = .ok (.dup2, 1) := by decide +kernel
theorem dX7_addCarTo_94 : decode cX7_addCarTo 94 = .ok (.iaload, 1) := by decide +kernel
theorem dX7_addCarTo_95 : decode cX7_addCarTo 95 = .ok (.iconst 1, 1) := by decide +kernel
theorem dX7_addCarTo_96 : decode cX7_addCarTo 96 = .ok (.iadd, 1) := by decide +kernel
theorem dX7_addCarTo_97 : decode cX7_addCarTo 97 = .ok (.iastore, 1) := by decide +kernel
theorem dX7_addCarTo_98 : decode cX7_addCarTo 98 = .ok (.aload_n 0, 1) := by decide +kernel
theorem dX7_addCarTo_99 : decode cX7_addCarTo 99 = .ok (.bipush 6, 2) := by decide +kernel
theorem dX7_addCarTo_101 : decode cX7_addCarTo 101 = .ok (.dup2, 1) := by decide +kernel
theorem dX7_addCarTo_102 : decode cX7_addCarTo 102 = .ok (.iaload, 1) := by decide +kernel
theorem dX7_addCarTo_103 : decode cX7_addCarTo 103 = .ok (.iconst 1, 1) := by decide +kernel
theorem dX7_addCarTo_104 : decode cX7_addCarTo 104 = .ok (.iadd, 1) := by decide +kernel
theorem dX7_addCarTo_105 : decode cX7_addCarTo 105 = .ok (.iastore, 1) := by decide +kernel
theorem dX7_addCarTo_106 : decode cX7_addCarTo 106 = .ok (.return_, 1) := by decide +kernel
set_option maxRecDepth 20000 in
theorem ggX7_append_X7_in : GoodIn wsX7_append wsX7_in := goodIn_r _ [7] (by decide +kernel) (by decide +kernel)
set_option maxRecDepth 20000 in
theorem gX7_append_X7_in : GoodIn wsX7_append (va_wsS RX7 139 yX7_in wsX7_in) := goodIn_app (goodIn_of _ (by decide +kernel)) ggX7_append_X7_in
set_option maxRecDepth 20000 in
theorem ggX7_append_X7_refused : GoodIn wsX7_append wsX7_refused := goodIn_r _ [11, 12, 13, 14, 15, 16, 17, 18, 19, 20, 21, 22, 23, 24, 25, 26] (by decide +kernel) (by decide +kernel)
set_option maxRecDepth 20000 in
theorem gX7_append_X7_refused : GoodIn wsX7_append (wsV RX7 146 RX7 yX7_refused wsX7_refused) := goodIn_app (goodIn_of _ (by decide +kernel)) ggX7_append_X7_refused
theorem dX7_append_0 : decode cX7_append 0 = .ok (.aload_n 0, 1) := by decide +kernel
theorem dX7_append_1 : decode cX7_append 1 = .ok (.iload_n 1, 1) := by decide +kernel
theorem dX7_append_2 : decode cX7_append 2 = .ok (.i2l, 1) := by decide +kernel
theorem dX7_append_3 : decode cX7_append 3 = .ok (.lconst 0, 1) := by decide +kernel
theorem dX7_append_4 : decode cX7_append 4 = .ok (.ldc2_w 137, 3) := by decide +kernel
theorem dX7_append_7 : decode cX7_append 7 = .ok (.invokestatic 139, 3) := by decide +kernel
theorem dX7_append_10 : decode cX7_append 10 = .ok (.ifCond .ne 7, 3) := by decide +kernel
theorem dX7_append_13 : decode cX7_append 13 = .ok (.iconst 1, 1) := by decide +kernel
theorem dX7_append_14 : decode cX7_append 14 = .ok (.goto 18, 3) := by decide +kernel
theorem dX7_append_17 : decode cX7_append 17 = .ok (.aload_n 0, 1) := by decide +kernel
theorem dX7_append_18 : decode cX7_append 18 = .ok (.getfield 143, 3) := by decide +kernel
theorem dX7_append_21 : decode cX7_append 21 = .ok (.sipush 140, 3) := by decide +kernel
theorem dX7_append_24 : decode cX7_append 24 = .ok (.if_icmp .ne 7, 3) := by decide +kernel
theorem dX7_append_27 : decode cX7_append 27 = .ok (.iconst 2, 1) := by decide +kernel
theorem dX7_append_28 : decode cX7_append 28 = .ok (.goto 4, 3) := by decide +kernel
theorem dX7_append_31 : decode cX7_append 31 = .ok (.iconst 0, 1) := by decide +kernel
theorem dX7_append_32 : decode cX7_append 32 = .ok (.invokevirtual 146, 3) := by decide +kernel
theorem dX7_append_35 : decode cX7_append 35 = .ok (.ifCond .eq 5, 3) := by decide +kernel
theorem dX7_append_38 : decode cX7_append 38 = .ok (.iconst 0, 1) := by decide +kernel
theorem dX7_append_39 : decode cX7_append 39 = .ok (.ireturn, 1) := by decide +kernel
theorem dX7_append_40 : decode cX7_append 40 = .ok (.aload_n 0, 1) := by decide +kernel
theorem dX7_append_41 : decode cX7_append 41 = .ok (.getfield 7, 3) := by decide +kernel
theorem dX7_append_44 : decode cX7_append 44 = .ok (.aload_n 0, 1) := by decide +kernel
theorem dX7_append_45 : decode cX7_append 45 = .ok (.getfield 143, 3) := by decide +kernel
theorem dX7_append_48 : decode cX7_append 48 = .ok (.iload_n 1, 1) := by decide +kernel
theorem dX7_append_49 : decode cX7_append 49 = .ok (.iastore, 1) := by decide +kernel
theorem dX7_append_50 : decode cX7_append 50 = .ok (.aload_n 0, 1) := by decide +kernel
theorem dX7_append_51 : decode cX7_append 51 = .ok (.dup, 1) := by decide +kernel
theorem dX7_append_52 : decode cX7_append 52 = .ok (.getfield 143, 3) := by decide +kernel
theorem dX7_append_55 : decode cX7_append 55 = .ok (.iconst 1, 1) := by decide +kernel
theorem dX7_append_56 : decode cX7_append 56 = .ok (.iadd, 1) := by decide +kernel
theorem dX7_append_57 : decode cX7_append 57 = .ok (.putfield 143, 3) := by decide +kernel
theorem dX7_append_60 : decode cX7_append 60 = .ok (.aload_n 0, 1) := by decide +kernel
theorem dX7_append_61 : decode cX7_append 61 = .ok (.getfield 143, 3) := by decide +kernel
theorem dX7_append_64 : decode cX7_append 64 = .ok (.ireturn, 1) := by decide +kernel
theorem dX7_clearText_0 : decode cX7_clearText 0 = .ok (.aload_n 0, 1) := by decide +kernel
theorem dX7_clearText_1 : decode cX7_clearText 1 = .ok (.iconst 0, 1) := by decide +kernel
theorem dX7_clearText_2 : decode cX7_clearText 2 = .ok (.putfield 39, 3) := by decide +kernel
theorem dX7_clearText_5 : decode cX7_clearText 5 = .ok (.aload_n 0, 1) := by decide +kernel
theorem dX7_clearText_6 : decode cX7_clearText 6 = .ok (.getfield 143, 3) := by decide +kernel
theorem dX7_clearText_9 : decode cX7_clearText 9 = .ok (.istore_n 1, 1) := by decide +kernel
theorem dX7_clearText_10 : decode cX7_clearText 10 = .ok (.aload_n 0, 1) := by decide +kernel
theorem dX7_clearText_11 : decode cX7_clearText 11 = .ok (.iconst 0, 1) := by decide +kernel
theorem dX7_clearText_12 : decode cX7_clearText 12 = .ok (.putfield 143, 3) := by decide +kernel
theorem dX7_clearText_15 : decode cX7_clearText 15 = .ok (.iload_n 1, 1) := by decide +kernel
theorem dX7_clearText_16 : decode cX7_clearText 16 = .ok (.ireturn, 1) := by decide +kernel
theorem dX7_isNext_0 : decode cX7_isNext 0 = .ok (.aload_n 0, 1) := by decide +kernel
theorem dX7_isNext_1 : decode cX7_isNext 1 = .ok (.getfield 150, 3) := by decide +kernel
theorem dX7_isNext_4 : decode cX7_isNext 4 = .ok (.aload_n 0, 1) := by decide +kernel
theorem dX7_isNext_5 : decode cX7_isNext 5 = .ok (.getfield 143, 3) := by decide +kernel
theorem dX7_isNext_8 : decode cX7_isNext 8 = .ok (.if_icmp .ge 20, 3) := by decide +kernel
theorem dX7_isNext_11 : decode cX7_isNext 11 = .ok (.aload_n 0, 1) := by decide +kernel
theorem dX7_isNext_12 : decode cX7_isNext 12 = .ok (.getfield 7, 3) := by decide +kernel
theorem dX7_isNext_15 : decode cX7_isNext 15 = .ok (.aload_n 0, 1) := by decide +kernel
theorem dX7_isNext_16 : decode cX7_isNext 16 = .ok (.getfield 150, 3) := by decide +kernel
theorem dX7_isNext_19 : decode cX7_isNext 19 = .ok (.iaload, 1) := by decide +kernel
theorem dX7_isNext_20 : decode cX7_isNext 20 = .ok (.iload_n 1, 1) := by decide +kernel
theorem dX7_isNext_21 : decode cX7_isNext 21 = .ok (.if_icmp .ne 7, 3) := by decide +kernel
theorem dX7_isNext_24 : decode cX7_isNext 24 = .ok (.iconst 1, 1) := by decide +kernel
theorem dX7_isNext_25 : decode cX7_isNext 25 = .ok (.goto 4, 3) := by decide +kernel
theorem dX7_isNext_28 : decode cX7_isNext 28 = .ok (.iconst 0, 1) := by decide +kernel
theorem dX7_isNext_29 : decode cX7_isNext 29 = .ok (.ireturn, 1) := by decide +kernel
theorem dX7_accept_0 : decode cX7_accept 0 = .ok (.aload_n 0, 1) := by decide +kernel
theorem dX7_accept_1 : decode cX7_accept 1 = .ok (.aload_n 0, 1) := by decide +kernel
theorem dX7_accept_2 : decode cX7_accept 2 = .ok (.getfield 153, 3) := by decide +kernel
theorem dX7_accept_5 : decode cX7_accept 5 = .ok (.ifCond .eq 11, 3) := by decide +kernel
theorem dX7_accept_8 : decode cX7_accept 8 = .ok (.iload_n 1, 1) := by decide +kernel
theorem dX7_accept_9 : decode cX7_accept 9 = .ok (.ifCond .eq 7, 3) := by decide +kernel
theorem dX7_accept_12 : decode cX7_accept 12 = .ok (.iconst 1, 1) := by decide +kernel
theorem dX7_accept_13 : decode cX7_accept 13 = .ok (.goto 4, 3) := by decide +kernel
theorem dX7_accept_16 : decode cX7_accept 16 = .ok (.iconst 0, 1) := by decide +kernel
theorem dX7_accept_17 : decode cX7_accept 17 = .ok (.putfield 153, 3) := by decide +kernel
theorem dX7_accept_20 : decode cX7_accept 20 = .ok (.aload_n 0, 1) := by decide +kernel
theorem dX7_accept_21 : decode cX7_accept 21 = .ok (.dup, 1) := by decide +kernel
theorem dX7_accept_22 : decode cX7_accept 22 = .ok (.getfield 150, 3) := by decide +kernel
theorem dX7_accept_25 : decode cX7_accept 25 = .ok (.aload_n 0, 1) := by decide +kernel
theorem dX7_accept_26 : decode cX7_accept 26 = .ok (.getfield 153, 3) := by decide +kernel
theorem dX7_accept_29 : decode cX7_accept 29 = .ok (.ifCond .eq 7, 3) := by decide +kernel
theorem dX7_accept_32 : decode cX7_accept 32 = .ok (.iconst 1, 1) := by decide +kernel
theorem dX7_accept_33 : decode cX7_accept 33 = .ok (.goto 4, 3) := by decide +kernel
theorem dX7_accept_36 : decode cX7_accept 36 = .ok (.iconst 0, 1) := by decide +kernel
theorem dX7_accept_37 : decode cX7_accept 37 = .ok (.iadd, 1) := by decide +kernel
theorem dX7_accept_38 : decode cX7_accept 38 = .ok (.putfield 150, 3) := by decide +kernel
theorem dX7_accept_41 : decode cX7_accept 41 = .ok (.return_, 1) := by decide +kernel
set_option maxRecDepth 20000 in
theorem ggX7_digit_X7_in : GoodIn wsX7_digit wsX7_in := goodIn_r _ [9] (by decide +kernel) (by decide +kernel)
set_option maxRecDepth 20000 in
theorem gX7_digit_X7_in : GoodIn wsX7_digit (va_wsS RX7 139 yX7_in wsX7_in) := goodIn_app (goodIn_of _ (by decide +kernel)) ggX7_digit_X7_in
set_option maxRecDepth 20000 in
theorem ggX7_digit_X7_accept : GoodIn wsX7_digit wsX7_accept := goodIn_r _ [13, 5, 1, 14, 15, 16, 17, 18, 19, 20, 21, 22, 23, 24, 25, 26, 27] (by decide +kernel) (by decide +kernel)
set_option maxRecDepth 20000 in
theorem gX7_digit_X7_accept : GoodIn wsX7_digit (wsV RX7 159 RX7 yX7_accept wsX7_accept) := goodIn_app (goodIn_of _ (by decide +kernel)) ggX7_digit_X7_accept
theorem dX7_digit_0 : decode cX7_digit 0 = .ok (.aload_n 0, 1) := by decide +kernel
theorem dX7_digit_1 : decode cX7_digit 1 = .ok (.getfield 150, 3) := by decide +kernel
theorem dX7_digit_4 : decode cX7_digit 4 = .ok (.aload_n 0, 1) := by decide +kernel
theorem dX7_digit_5 : decode cX7_digit 5 = .ok (.getfield 143, 3) := by decide +kernel
theorem dX7_digit_8 : decode cX7_digit 8 = .ok (.if_icmp .ge 18, 3) := by decide +kernel
theorem dX7_digit_11 : decode cX7_digit 11 = .ok (.aload_n 0, 1) := by decide +kernel
theorem dX7_digit_12 : decode cX7_digit 12 = .ok (.getfield 7, 3) := by decide +kernel
theorem dX7_digit_15 : decode cX7_digit 15 = .ok (.aload_n 0, 1) := by decide +kernel
theorem dX7_digit_16 : decode cX7_digit 16 = .ok (.getfield 150, 3) := by decide +kernel
theorem dX7_digit_19 : decode cX7_digit 19 = .ok (.iaload, 1) := by decide +kernel
theorem dX7_digit_20 : decode cX7_digit 20 = .ok (.bipush 48, 2) := by decide +kernel
theorem dX7_digit_22 : decode cX7_digit 22 = .ok (.isub, 1) := by decide +kernel
theorem dX7_digit_23 : decode cX7_digit 23 = .ok (.goto 5, 3) := by decide +kernel
theorem dX7_digit_26 : decode cX7_digit 26 = .ok (.bipush (-9), 2) := by decide +kernel
theorem dX7_digit_28 : decode cX7_digit 28 = .ok (.istore_n 3, 1) := by decide +kernel
theorem dX7_digit_29 : decode cX7_digit 29 = .ok (.aload_n 0, 1) := by decide +kernel
theorem dX7_digit_30 : decode cX7_digit 30 = .ok (.iload_n 3, 1) := by decide +kernel
theorem dX7_digit_31 : decode cX7_digit 31 = .ok (.i2l, 1) := by decide +kernel
theorem dX7_digit_32 : decode cX7_digit 32 = .ok (.lconst 0, 1) := by decide +kernel
theorem dX7_digit_33 : decode cX7_digit 33 = .ok (.ldc2_w 157, 3) := by decide +kernel
theorem dX7_digit_36 : decode cX7_digit 36 = .ok (.invokestatic 139, 3) := by decide +kernel
theorem dX7_digit_39 : decode cX7_digit 39 = .ok (.ifCond .eq 19, 3) := by decide +kernel
theorem dX7_digit_42 : decode cX7_digit 42 = .ok (.iload_n 3, 1) := by decide +kernel
theorem dX7_digit_43 : decode cX7_digit 43 = .ok (.i2l, 1) := by decide +kernel
theorem dX7_digit_44 : decode cX7_digit 44 = .ok (.iload_n 1, 1) := by decide +kernel
theorem dX7_digit_45 : decode cX7_digit 45 = .ok (.i2l, 1) := by decide +kernel
theorem dX7_digit_46 : decode cX7_digit 46 = .ok (.iload_n 2, 1) := by decide +kernel
theorem dX7_digit_47 : decode cX7_digit 47 = .ok (.i2l, 1) := by decide +kernel
theorem dX7_digit_48 : decode cX7_digit 48 = .ok (.invokestatic 139, 3) := by decide +kernel
theorem dX7_digit_51 : decode cX7_digit 51 = .ok (.ifCond .eq 7, 3) := by decide +kernel
theorem dX7_digit_54 : decode cX7_digit 54 = .ok (.iconst 1, 1) := by decide +kernel
theorem dX7_digit_55 : decode cX7_digit 55 = .ok (.goto 4, 3) := by decide +kernel
theorem dX7_digit_58 : decode cX7_digit 58 = .ok (.iconst 0, 1) := by decide +kernel
theorem dX7_digit_59 : decode cX7_digit 59 = .ok (.invokevirtual 159, 3) := by decide +kernel
theorem dX7_digit_62 : decode cX7_digit 62 = .ok (.aload_n 0, 1) := by decide +kernel
theorem dX7_digit_63 : decode cX7_digit 63 = .ok (.getfield 153, 3) := by decide +kernel
theorem dX7_digit_66 : decode cX7_digit 66 = .ok (.ifCond .eq 7, 3) := by decide +kernel
theorem dX7_digit_69 : decode cX7_digit 69 = .ok (.iload_n 3, 1) := by decide +kernel
theorem dX7_digit_70 : decode cX7_digit 70 = .ok (.goto 4, 3) := by decide +kernel
theorem dX7_digit_73 : decode cX7_digit 73 = .ok (.iload_n 1, 1) := by decide +kernel
theorem dX7_digit_74 : decode cX7_digit 74 = .ok (.ireturn, 1) := by decide +kernel
set_option maxRecDepth 20000 in
theorem ggX7_two_X7_digit : GoodIn wsX7_two wsX7_digit := goodIn_r _ [5, 6, 7, 8, 9, 10, 11, 12, 4, 13, 14, 15, 16, 17, 18, 19, 20, 21, 22, 23, 24, 25, 26, 27, 28, 29, 30, 31] (by decide +kernel) (by decide +kernel)
set_option maxRecDepth 20000 in
theorem gX7_two_X7_digit : GoodIn wsX7_two (wsV RX7 163 RX7 yX7_digit wsX7_digit) := goodIn_app (goodIn_of _ (by decide +kernel)) ggX7_two_X7_digit
theorem dX7_two_0 : decode cX7_two 0 = .ok (.aload_n 0, 1) := by decide +kernel
theorem dX7_two_1 : decode cX7_two 1 = .ok (.iload_n 1, 1) := by decide +kernel
theorem dX7_two_2 : decode cX7_two 2 = .ok (.bipush 10, 2) := by decide +kernel
theorem dX7_two_4 : decode cX7_two 4 = .ok (.idiv, 1) := by decide +kernel
theorem dX7_two_5 : decode cX7_two 5 = .ok (.iload_n 2, 1) := by decide +kernel
theorem dX7_two_6 : decode cX7_two 6 = .ok (.bipush 10, 2) := by decide +kernel
theorem dX7_two_8 : decode cX7_two 8 = .ok (.idiv, 1) := by decide +kernel
theorem dX7_two_9 : decode cX7_two 9 = .ok (.invokevirtual 163, 3) := by decide +kernel
theorem dX7_two_12 : decode cX7_two 12 = .ok (.istore_n 3, 1) := by decide +kernel
theorem dX7_two_13 : decode cX7_two 13 = .ok (.iload_n 1, 1) := by decide +kernel
theorem dX7_two_14 : decode cX7_two 14 = .ok (.bipush 10, 2) := by decide +kernel
theorem dX7_two_16 : decode cX7_two 16 = .ok (.iload_n 3, 1) := by decide +kernel
theorem dX7_two_17 : decode cX7_two 17 = .ok (.imul, 1) := by decide +kernel
theorem dX7_two_18 : decode cX7_two 18 = .ok (.isub, 1) := by decide +kernel
theorem dX7_two_19 : decode cX7_two 19 = .ok (.istore 4, 2) := by decide +kernel
theorem dX7_two_21 : decode cX7_two 21 = .ok (.iload_n 2, 1) := by decide +kernel
theorem dX7_two_22 : decode cX7_two 22 = .ok (.bipush 10, 2) := by decide +kernel
theorem dX7_two_24 : decode cX7_two 24 = .ok (.iload_n 3, 1) := by decide +kernel
theorem dX7_two_25 : decode cX7_two 25 = .ok (.imul, 1) := by decide +kernel
theorem dX7_two_26 : decode cX7_two 26 = .ok (.isub, 1) := by decide +kernel
theorem dX7_two_27 : decode cX7_two 27 = .ok (.istore 5, 2) := by decide +kernel
theorem dX7_two_29 : decode cX7_two 29 = .ok (.bipush 10, 2) := by decide +kernel
theorem dX7_two_31 : decode cX7_two 31 = .ok (.iload_n 3, 1) := by decide +kernel
theorem dX7_two_32 : decode cX7_two 32 = .ok (.imul, 1) := by decide +kernel
theorem dX7_two_33 : decode cX7_two 33 = .ok (.aload_n 0, 1) := by decide +kernel
theorem dX7_two_34 : decode cX7_two 34 = .ok (.iload 4, 2) := by decide +kernel
theorem dX7_two_36 : decode cX7_two 36 = .ok (.ifCond .ge 7, 3) := by decide +kernel
theorem dX7_two_39 : decode cX7_two 39 = .ok (.iconst 0, 1) := by decide +kernel
theorem dX7_two_40 : decode cX7_two 40 = .ok (.goto 5, 3) := by decide +kernel
theorem dX7_two_43 : decode cX7_two 43 = .ok (.iload 4, 2) := by decide +kernel
theorem dX7_two_45 : decode cX7_two 45 = .ok (.iload 5, 2) := by decide +kernel
theorem dX7_two_47 : decode cX7_two 47 = .ok (.bipush 9, 2) := by decide +kernel
theorem dX7_two_49 : decode cX7_two 49 = .ok (.if_icmp .le 8, 3) := by decide +kernel
theorem dX7_two_52 : decode cX7_two 52 = .ok (.bipush 9, 2) := by decide +kernel
theorem dX7_two_54 : decode cX7_two 54 = .ok (.goto 5, 3) := by decide +kernel
theorem dX7_two_57 : decode cX7_two 57 = .ok (.iload 5, 2) := by decide +kernel
theorem dX7_two_59 : decode cX7_two 59 = .ok (.invokevirtual 163, 3) := by decide +kernel
theorem dX7_two_62 : decode cX7_two 62 = .ok (.iadd, 1) := by decide +kernel
theorem dX7_two_63 : decode cX7_two 63 = .ok (.ireturn, 1) := by decide +kernel
theorem dX7_demand_0 : decode cX7_demand 0 = .ok (.aload_n 0, 1) := by decide +kernel
theorem dX7_demand_1 : decode cX7_demand 1 = .ok (.getfield 153, 3) := by decide +kernel
theorem dX7_demand_4 : decode cX7_demand 4 = .ok (.ifCond .eq 22, 3) := by decide +kernel
theorem dX7_demand_7 : decode cX7_demand 7 = .ok (.iload_n 1, 1) := by decide +kernel
theorem dX7_demand_8 : decode cX7_demand 8 = .ok (.ifCond .ne 18, 3) := by decide +kernel
theorem dX7_demand_11 : decode cX7_demand 11 = .ok (.aload_n 0, 1) := by decide +kernel
theorem dX7_demand_12 : decode cX7_demand 12 = .ok (.iconst 0, 1) := by decide +kernel
theorem dX7_demand_13 : decode cX7_demand 13 = .ok (.putfield 153, 3) := by decide +kernel
theorem dX7_demand_16 : decode cX7_demand 16 = .ok (.aload_n 0, 1) := by decide +kernel
theorem dX7_demand_17 : decode cX7_demand 17 = .ok (.dup, 1) := by decide +kernel
theorem dX7_demand_18 : decode cX7_demand 18 = .ok (.getfield 150, 3) := by decide +kernel
theorem dX7_demand_21 : decode cX7_demand 21 = .ok (.iconst 1, 1) := by decide +kernel
theorem dX7_demand_22 : decode cX7_demand 22 = .ok (.isub, 1) := by decide +kernel
theorem dX7_demand_23 : decode cX7_demand 23 = .ok (.putfield 150, 3) := by decide +kernel
theorem dX7_demand_26 : decode cX7_demand 26 = .ok (.return_, 1) := by decide +kernel
set_option maxRecDepth 20000 in
theorem ggX7_readGate_X7_accept : GoodIn wsX7_readGate wsX7_accept := goodIn_r _ [7, 2, 8, 36, 37, 38, 39, 40, 41, 42, 43, 44, 45, 46, 47, 48, 49] (by decide +kernel) (by decide +kernel)
set_option maxRecDepth 20000 in
theorem gX7_readGate_X7_accept : GoodIn wsX7_readGate (wsV RX7 159 RX7 yX7_accept wsX7_accept) := goodIn_app (goodIn_of _ (by decide +kernel)) ggX7_readGate_X7_accept
set_option maxRecDepth 20000 in
theorem ggX7_readGate_X7_two : GoodIn wsX7_readGate wsX7_two := goodIn_r _ [12, 13, 14, 15, 6, 16, 8, 17, 18, 19, 2, 20, 21, 22, 3, 4, 5, 7, 36, 37, 38, 39, 40, 41, 42, 43, 44, 45, 46, 47, 48, 49] (by decide +kernel) (by decide +kernel)
set_option maxRecDepth 20000 in
theorem gX7_readGate_X7_two : GoodIn wsX7_readGate (wsV RX7 166 RX7 yX7_two wsX7_two) := goodIn_app (goodIn_of _ (by decide +kernel)) ggX7_readGate_X7_two
set_option maxRecDepth 20000 in
theorem ggX7_readGate_X7_gateOn : GoodIn wsX7_readGate wsX7_gateOn := goodIn_r _ [25, 26, 27, 6, 28] (by decide +kernel) (by decide +kernel)
set_option maxRecDepth 20000 in
theorem gX7_readGate_X7_gateOn : GoodIn wsX7_readGate (va_wsS RX7 106 yX7_gateOn wsX7_gateOn) := goodIn_app (goodIn_of _ (by decide +kernel)) ggX7_readGate_X7_gateOn
set_option maxRecDepth 20000 in
theorem ggX7_readGate_X7_demand : GoodIn wsX7_readGate wsX7_demand := goodIn_r _ [32, 2, 8, 36, 37, 38, 39, 40, 41, 42, 43, 44, 45, 46, 47, 48, 49] (by decide +kernel) (by decide +kernel)
set_option maxRecDepth 20000 in
theorem gX7_readGate_X7_demand : GoodIn wsX7_readGate (wsV RX7 169 RX7 yX7_demand wsX7_demand) := goodIn_app (goodIn_of _ (by decide +kernel)) ggX7_readGate_X7_demand
set_option maxRecDepth 20000 in
theorem ggX7_readGate_X7_addGateTo : GoodIn wsX7_readGate wsX7_addGateTo := goodIn_r _ [35, 26, 27, 6, 28] (by decide +kernel) (by decide +kernel)
set_option maxRecDepth 20000 in
theorem gX7_readGate_X7_addGateTo : GoodIn wsX7_readGate (va_wsS RX7 172 yX7_addGateTo wsX7_addGateTo) := goodIn_app (goodIn_of _ (by decide +kernel)) ggX7_readGate_X7_addGateTo
theorem dX7_readGate_0 : decode cX7_readGate 0 = .ok (.aload_n 0, 1) := by decide +kernel
theorem dX7_readGate_1 : decode cX7_readGate 1 = .ok (.aload_n 0, 1) := by decide +kernel
theorem dX7_readGate_2 : decode cX7_readGate 2 = .ok (.getfield 13, 3) := by decide +kernel
theorem dX7_readGate_5 : decode cX7_readGate 5 = .ok (.iconst 2, 1) := by decide +kernel
theorem dX7_readGate_6 : decode cX7_readGate 6 = .ok (.iaload, 1) := by decide +kernel
theorem dX7_readGate_7 : decode cX7_readGate 7 = .ok (.iconst 4, 1) := by decide +kernel
theorem dX7_readGate_8 : decode cX7_readGate 8 = .ok (.if_icmp .ge 7, 3) := by decide +kernel
theorem dX7_readGate_11 : decode cX7_readGate 11 = .ok (.iconst 1, 1) := by decide +kernel
theorem dX7_readGate_12 : decode cX7_readGate 12 = .ok (.goto 4, 3) := by decide +kernel
theorem dX7_readGate_15 : decode cX7_readGate 15 = .ok (.iconst 0, 1) := by decide +kernel
theorem dX7_readGate_16 : decode cX7_readGate 16 = .ok (.invokevirtual 159, 3) := by decide +kernel
theorem dX7_readGate_19 : decode cX7_readGate 19 = .ok (.aload_n 0, 1) := by decide +kernel
theorem dX7_readGate_20 : decode cX7_readGate 20 = .ok (.iconst 1, 1) := by decide +kernel
theorem dX7_readGate_21 : decode cX7_readGate 21 = .ok (.aload_n 0, 1) := by decide +kernel
theorem dX7_readGate_22 : decode cX7_readGate 22 = .ok (.getfield 13, 3) := by decide +kernel
theorem dX7_readGate_25 : decode cX7_readGate 25 = .ok (.iconst 0, 1) := by decide +kernel
theorem dX7_readGate_26 : decode cX7_readGate 26 = .ok (.iaload, 1) := by decide +kernel
theorem dX7_readGate_27 : decode cX7_readGate 27 = .ok (.iconst 1, 1) := by decide +kernel
theorem dX7_readGate_28 : decode cX7_readGate 28 = .ok (.isub, 1) := by decide +kernel
theorem dX7_readGate_29 : decode cX7_readGate 29 = .ok (.invokevirtual 166, 3) := by decide +kernel
theorem dX7_readGate_32 : decode cX7_readGate 32 = .ok (.istore_n 1, 1) := by decide +kernel
theorem dX7_readGate_33 : decode cX7_readGate 33 = .ok (.aload_n 0, 1) := by decide +kernel
theorem dX7_readGate_34 : decode cX7_readGate 34 = .ok (.aload_n 0, 1) := by decide +kernel
theorem dX7_readGate_35 : decode cX7_readGate 35 = .ok (.getfield 13, 3) := by decide +kernel
theorem dX7_readGate_38 : decode cX7_readGate 38 = .ok (.iload_n 1, 1) := by decide +kernel
theorem dX7_readGate_39 : decode cX7_readGate 39 = .ok (.invokestatic 106, 3) := by decide +kernel
theorem dX7_readGate_42 : decode cX7_readGate 42 = .ok (.bipush (-9), 2) := by decide +kernel
theorem dX7_readGate_44 : decode cX7_readGate 44 = .ok (.if_icmp .ne 7, 3) := by decide +kernel
theorem dX7_readGate_47 : decode cX7_readGate 47 = .ok (.iconst 1, 1) := by decide +kernel
theorem dX7_readGate_48 : decode cX7_readGate 48 = .ok (.goto 4, 3) := by decide +kernel
theorem dX7_readGate_51 : decode cX7_readGate 51 = .ok (.iconst 0, 1) := by decide +kernel
theorem dX7_readGate_52 : decode cX7_readGate 52 = .ok (.invokevirtual 169, 3) := by decide +kernel
theorem dX7_readGate_55 : decode cX7_readGate 55 = .ok (.aload_n 0, 1) := by decide +kernel
theorem dX7_readGate_56 : decode cX7_readGate 56 = .ok (.iconst 2, 1) := by decide +kernel
theorem dX7_readGate_57 : decode cX7_readGate 57 = .ok (.bipush 24, 2) := by decide +kernel
theorem dX7_readGate_59 : decode cX7_readGate 59 = .ok (.invokevirtual 166, 3) := by decide +kernel
theorem dX7_readGate_62 : decode cX7_readGate 62 = .ok (.istore_n 2, 1) := by decide +kernel
theorem dX7_readGate_63 : decode cX7_readGate 63 = .ok (.aload_n 0, 1) := by decide +kernel
theorem dX7_readGate_64 : decode cX7_readGate 64 = .ok (.iconst 0, 1) := by decide +kernel
theorem dX7_readGate_65 : decode cX7_readGate 65 = .ok (.iload_n 2, 1) := by decide +kernel
theorem dX7_readGate_66 : decode cX7_readGate 66 = .ok (.iconst 1, 1) := by decide +kernel
theorem dX7_readGate_67 : decode cX7_readGate 67 = .ok (.isub, 1) := by decide +kernel
theorem dX7_readGate_68 : decode cX7_readGate 68 = .ok (.invokevirtual 166, 3) := by decide +kernel
theorem dX7_readGate_71 : decode cX7_readGate 71 = .ok (.istore_n 3, 1) := by decide +kernel
theorem dX7_readGate_72 : decode cX7_readGate 72 = .ok (.aload_n 0, 1) := by decide +kernel
theorem dX7_readGate_73 : decode cX7_readGate 73 = .ok (.iconst 0, 1) := by decide +kernel
theorem dX7_readGate_74 : decode cX7_readGate 74 = .ok (.iload_n 2, 1) := by decide +kernel
theorem dX7_readGate_75 : decode cX7_readGate 75 = .ok (.iconst 1, 1) := by decide +kernel
theorem dX7_readGate_76 : decode cX7_readGate 76 = .ok (.isub, 1) := by decide +kernel
theorem dX7_readGate_77 : decode cX7_readGate 77 = .ok (.invokevirtual 166, 3) := by decide +kernel
theorem dX7_readGate_80 : decode cX7_readGate 80 = .ok (.istore 4, 2) := by decide +kernel
theorem dX7_readGate_82 : decode cX7_readGate 82 = .ok (.aload_n 0, 1) := by decide +kernel
theorem dX7_readGate_83 : decode cX7_readGate 83 = .ok (.getfield 153, 3) := by decide +kernel
theorem dX7_readGate_86 : decode cX7_readGate 86 = .ok (.ifCond .eq 15, 3) := by decide +kernel
theorem dX7_readGate_89 : decode cX7_readGate 89 = .ok (.aload_n 0, 1) := by decide +kernel
theorem dX7_readGate_90 : decode cX7_readGate 90 = .ok (.getfield 13, 3) := by decide +kernel
theorem dX7_readGate_93 : decode cX7_readGate 93 = .ok (.iload_n 1, 1) := by decide +kernel
theorem dX7_readGate_94 : decode cX7_readGate 94 = .ok (.iload_n 2, 1) := by decide +kernel
theorem dX7_readGate_95 : decode cX7_readGate 95 = .ok (.iload_n 3, 1) := by decide +kernel
theorem dX7_readGate_96 : decode cX7_readGate 96 = .ok (.iload 4, 2) := by decide +kernel
theorem dX7_readGate_98 : decode cX7_readGate 98 = .ok (.invokestatic 172, 3) := by decide +kernel
theorem dX7_readGate_101 : decode cX7_readGate 101 = .ok (.return_, 1) := by decide +kernel
set_option maxRecDepth 20000 in
theorem ggX7_readBay_X7_accept : GoodIn wsX7_readBay wsX7_accept := goodIn_r _ [7, 2, 8, 36, 37, 38, 39, 40, 41, 42, 43, 44, 45, 46, 47, 48, 49] (by decide +kernel) (by decide +kernel)
set_option maxRecDepth 20000 in
theorem gX7_readBay_X7_accept : GoodIn wsX7_readBay (wsV RX7 159 RX7 yX7_accept wsX7_accept) := goodIn_app (goodIn_of _ (by decide +kernel)) ggX7_readBay_X7_accept
set_option maxRecDepth 20000 in
theorem ggX7_readBay_X7_two : GoodIn wsX7_readBay wsX7_two := goodIn_r _ [12, 13, 14, 15, 6, 16, 8, 17, 18, 19, 2, 20, 21, 22, 3, 4, 5, 7, 36, 37, 38, 39, 40, 41, 42, 43, 44, 45, 46, 47, 48, 49] (by decide +kernel) (by decide +kernel)
set_option maxRecDepth 20000 in
theorem gX7_readBay_X7_two : GoodIn wsX7_readBay (wsV RX7 166 RX7 yX7_two wsX7_two) := goodIn_app (goodIn_of _ (by decide +kernel)) ggX7_readBay_X7_two
set_option maxRecDepth 20000 in
theorem ggX7_readBay_X7_bayOn : GoodIn wsX7_readBay wsX7_bayOn := goodIn_r _ [25, 26, 27, 6, 28] (by decide +kernel) (by decide +kernel)
set_option maxRecDepth 20000 in
theorem gX7_readBay_X7_bayOn : GoodIn wsX7_readBay (va_wsS RX7 78 yX7_bayOn wsX7_bayOn) := goodIn_app (goodIn_of _ (by decide +kernel)) ggX7_readBay_X7_bayOn
set_option maxRecDepth 20000 in
theorem ggX7_readBay_X7_demand : GoodIn wsX7_readBay wsX7_demand := goodIn_r _ [32, 2, 8, 36, 37, 38, 39, 40, 41, 42, 43, 44, 45, 46, 47, 48, 49] (by decide +kernel) (by decide +kernel)
set_option maxRecDepth 20000 in
theorem gX7_readBay_X7_demand : GoodIn wsX7_readBay (wsV RX7 169 RX7 yX7_demand wsX7_demand) := goodIn_app (goodIn_of _ (by decide +kernel)) ggX7_readBay_X7_demand
set_option maxRecDepth 20000 in
theorem ggX7_readBay_X7_digit : GoodIn wsX7_readBay wsX7_digit := goodIn_r _ [16, 8, 17, 18, 19, 2, 20, 21, 6, 22, 3, 4, 5, 7, 36, 37, 38, 39, 40, 41, 42, 43, 44, 45, 46, 47, 48, 49] (by decide +kernel) (by decide +kernel)
set_option maxRecDepth 20000 in
theorem gX7_readBay_X7_digit : GoodIn wsX7_readBay (wsV RX7 163 RX7 yX7_digit wsX7_digit) := goodIn_app (goodIn_of _ (by decide +kernel)) ggX7_readBay_X7_digit
set_option maxRecDepth 20000 in
theorem ggX7_readBay_X7_addBayTo : GoodIn wsX7_readBay wsX7_addBayTo := goodIn_r _ [35, 26, 27, 6, 28] (by decide +kernel) (by decide +kernel)
set_option maxRecDepth 20000 in
theorem gX7_readBay_X7_addBayTo : GoodIn wsX7_readBay (va_wsS RX7 176 yX7_addBayTo wsX7_addBayTo) := goodIn_app (goodIn_of _ (by decide +kernel)) ggX7_readBay_X7_addBayTo
theorem dX7_readBay_0 : decode cX7_readBay 0 = .ok (.aload_n 0, 1) := by decide +kernel
theorem dX7_readBay_1 : decode cX7_readBay 1 = .ok (.aload_n 0, 1) := by decide +kernel
theorem dX7_readBay_2 : decode cX7_readBay 2 = .ok (.getfield 13, 3) := by decide +kernel
theorem dX7_readBay_5 : decode cX7_readBay 5 = .ok (.iconst 3, 1) := by decide +kernel
theorem dX7_readBay_6 : decode cX7_readBay 6 = .ok (.iaload, 1) := by decide +kernel
theorem dX7_readBay_7 : decode cX7_readBay 7 = .ok (.bipush 6, 2) := by decide +kernel
theorem dX7_readBay_9 : decode cX7_readBay 9 = .ok (.if_icmp .ge 7, 3) := by decide +kernel
theorem dX7_readBay_12 : decode cX7_readBay 12 = .ok (.iconst 1, 1) := by decide +kernel
theorem dX7_readBay_13 : decode cX7_readBay 13 = .ok (.goto 4, 3) := by decide +kernel
theorem dX7_readBay_16 : decode cX7_readBay 16 = .ok (.iconst 0, 1) := by decide +kernel
theorem dX7_readBay_17 : decode cX7_readBay 17 = .ok (.invokevirtual 159, 3) := by decide +kernel
theorem dX7_readBay_20 : decode cX7_readBay 20 = .ok (.aload_n 0, 1) := by decide +kernel
theorem dX7_readBay_21 : decode cX7_readBay 21 = .ok (.iconst 1, 1) := by decide +kernel
theorem dX7_readBay_22 : decode cX7_readBay 22 = .ok (.aload_n 0, 1) := by decide +kernel
theorem dX7_readBay_23 : decode cX7_readBay 23 = .ok (.getfield 13, 3) := by decide +kernel
theorem dX7_readBay_26 : decode cX7_readBay 26 = .ok (.iconst 0, 1) := by decide +kernel
theorem dX7_readBay_27 : decode cX7_readBay 27 = .ok (.iaload, 1) := by decide +kernel
theorem dX7_readBay_28 : decode cX7_readBay 28 = .ok (.iconst 1, 1) := by decide +kernel
theorem dX7_readBay_29 : decode cX7_readBay 29 = .ok (.isub, 1) := by decide +kernel
theorem dX7_readBay_30 : decode cX7_readBay 30 = .ok (.invokevirtual 166, 3) := by decide +kernel
theorem dX7_readBay_33 : decode cX7_readBay 33 = .ok (.istore_n 1, 1) := by decide +kernel
theorem dX7_readBay_34 : decode cX7_readBay 34 = .ok (.aload_n 0, 1) := by decide +kernel
theorem dX7_readBay_35 : decode cX7_readBay 35 = .ok (.aload_n 0, 1) := by decide +kernel
theorem dX7_readBay_36 : decode cX7_readBay 36 = .ok (.getfield 13, 3) := by decide +kernel
theorem dX7_readBay_39 : decode cX7_readBay 39 = .ok (.iload_n 1, 1) := by decide +kernel
theorem dX7_readBay_40 : decode cX7_readBay 40 = .ok (.invokestatic 78, 3) := by decide +kernel
theorem dX7_readBay_43 : decode cX7_readBay 43 = .ok (.bipush (-9), 2) := by decide +kernel
theorem dX7_readBay_45 : decode cX7_readBay 45 = .ok (.if_icmp .ne 7, 3) := by decide +kernel
theorem dX7_readBay_48 : decode cX7_readBay 48 = .ok (.iconst 1, 1) := by decide +kernel
theorem dX7_readBay_49 : decode cX7_readBay 49 = .ok (.goto 4, 3) := by decide +kernel
theorem dX7_readBay_52 : decode cX7_readBay 52 = .ok (.iconst 0, 1) := by decide +kernel
theorem dX7_readBay_53 : decode cX7_readBay 53 = .ok (.invokevirtual 169, 3) := by decide +kernel
theorem dX7_readBay_56 : decode cX7_readBay 56 = .ok (.aload_n 0, 1) := by decide +kernel
theorem dX7_readBay_57 : decode cX7_readBay 57 = .ok (.iconst 1, 1) := by decide +kernel
theorem dX7_readBay_58 : decode cX7_readBay 58 = .ok (.bipush 6, 2) := by decide +kernel
theorem dX7_readBay_60 : decode cX7_readBay 60 = .ok (.invokevirtual 163, 3) := by decide +kernel
theorem dX7_readBay_63 : decode cX7_readBay 63 = .ok (.istore_n 2, 1) := by decide +kernel
theorem dX7_readBay_64 : decode cX7_readBay 64 = .ok (.aload_n 0, 1) := by decide +kernel
theorem dX7_readBay_65 : decode cX7_readBay 65 = .ok (.getfield 153, 3) := by decide +kernel
theorem dX7_readBay_68 : decode cX7_readBay 68 = .ok (.ifCond .eq 12, 3) := by decide +kernel
theorem dX7_readBay_71 : decode cX7_readBay 71 = .ok (.aload_n 0, 1) := by decide +kernel
theorem dX7_readBay_72 : decode cX7_readBay 72 = .ok (.getfield 13, 3) := by decide +kernel
theorem dX7_readBay_75 : decode cX7_readBay 75 = .ok (.iload_n 1, 1) := by decide +kernel
theorem dX7_readBay_76 : decode cX7_readBay 76 = .ok (.iload_n 2, 1) := by decide +kernel
theorem dX7_readBay_77 : decode cX7_readBay 77 = .ok (.invokestatic 176, 3) := by decide +kernel
theorem dX7_readBay_80 : decode cX7_readBay 80 = .ok (.return_, 1) := by decide +kernel
set_option maxRecDepth 20000 in
theorem ggX7_readDepot_X7_accept : GoodIn wsX7_readDepot wsX7_accept := goodIn_r _ [7, 2, 8, 36, 37, 38, 39, 40, 41, 42, 43, 44, 45, 46, 47, 48, 49] (by decide +kernel) (by decide +kernel)
set_option maxRecDepth 20000 in
theorem gX7_readDepot_X7_accept : GoodIn wsX7_readDepot (wsV RX7 159 RX7 yX7_accept wsX7_accept) := goodIn_app (goodIn_of _ (by decide +kernel)) ggX7_readDepot_X7_accept
set_option maxRecDepth 20000 in
theorem ggX7_readDepot_X7_two : GoodIn wsX7_readDepot wsX7_two := goodIn_r _ [12, 13, 14, 15, 6, 16, 8, 17, 18, 19, 2, 20, 21, 22, 3, 4, 5, 7, 36, 37, 38, 39, 40, 41, 42, 43, 44, 45, 46, 47, 48, 49] (by decide +kernel) (by decide +kernel)
set_option maxRecDepth 20000 in
theorem gX7_readDepot_X7_two : GoodIn wsX7_readDepot (wsV RX7 166 RX7 yX7_two wsX7_two) := goodIn_app (goodIn_of _ (by decide +kernel)) ggX7_readDepot_X7_two
set_option maxRecDepth 20000 in
theorem ggX7_readDepot_X7_depotOn : GoodIn wsX7_readDepot wsX7_depotOn := goodIn_r _ [25, 26, 27, 6, 28] (by decide +kernel) (by decide +kernel)
set_option maxRecDepth 20000 in
theorem gX7_readDepot_X7_depotOn : GoodIn wsX7_readDepot (va_wsS RX7 75 yX7_depotOn wsX7_depotOn) := goodIn_app (goodIn_of _ (by decide +kernel)) ggX7_readDepot_X7_depotOn
set_option maxRecDepth 20000 in
theorem ggX7_readDepot_X7_demand : GoodIn wsX7_readDepot wsX7_demand := goodIn_r _ [32, 2, 8, 36, 37, 38, 39, 40, 41, 42, 43, 44, 45, 46, 47, 48, 49] (by decide +kernel) (by decide +kernel)
set_option maxRecDepth 20000 in
theorem gX7_readDepot_X7_demand : GoodIn wsX7_readDepot (wsV RX7 169 RX7 yX7_demand wsX7_demand) := goodIn_app (goodIn_of _ (by decide +kernel)) ggX7_readDepot_X7_demand
set_option maxRecDepth 20000 in
theorem ggX7_readDepot_X7_digit : GoodIn wsX7_readDepot wsX7_digit := goodIn_r _ [16, 8, 17, 18, 19, 2, 20, 21, 6, 22, 3, 4, 5, 7, 36, 37, 38, 39, 40, 41, 42, 43, 44, 45, 46, 47, 48, 49] (by decide +kernel) (by decide +kernel)
set_option maxRecDepth 20000 in
theorem gX7_readDepot_X7_digit : GoodIn wsX7_readDepot (wsV RX7 163 RX7 yX7_digit wsX7_digit) := goodIn_app (goodIn_of _ (by decide +kernel)) ggX7_readDepot_X7_digit
set_option maxRecDepth 20000 in
theorem ggX7_readDepot_X7_addDepotTo : GoodIn wsX7_readDepot wsX7_addDepotTo := goodIn_r _ [35, 26, 27, 6, 28] (by decide +kernel) (by decide +kernel)
set_option maxRecDepth 20000 in
theorem gX7_readDepot_X7_addDepotTo : GoodIn wsX7_readDepot (va_wsS RX7 180 yX7_addDepotTo wsX7_addDepotTo) := goodIn_app (goodIn_of _ (by decide +kernel)) ggX7_readDepot_X7_addDepotTo
theorem dX7_readDepot_0 : decode cX7_readDepot 0 = .ok (.aload_n 0, 1) := by decide +kernel
theorem dX7_readDepot_1 : decode cX7_readDepot 1 = .ok (.aload_n 0, 1) := by decide +kernel
theorem dX7_readDepot_2 : decode cX7_readDepot 2 = .ok (.getfield 13, 3) := by decide +kernel
theorem dX7_readDepot_5 : decode cX7_readDepot 5 = .ok (.iconst 4, 1) := by decide +kernel
theorem dX7_readDepot_6 : decode cX7_readDepot 6 = .ok (.iaload, 1) := by decide +kernel
theorem dX7_readDepot_7 : decode cX7_readDepot 7 = .ok (.iconst 4, 1) := by decide +kernel
theorem dX7_readDepot_8 : decode cX7_readDepot 8 = .ok (.if_icmp .ge 7, 3) := by decide +kernel
theorem dX7_readDepot_11 : decode cX7_readDepot 11 = .ok (.iconst 1, 1) := by decide +kernel
theorem dX7_readDepot_12 : decode cX7_readDepot 12 = .ok (.goto 4, 3) := by decide +kernel
theorem dX7_readDepot_15 : decode cX7_readDepot 15 = .ok (.iconst 0, 1) := by decide +kernel
theorem dX7_readDepot_16 : decode cX7_readDepot 16 = .ok (.invokevirtual 159, 3) := by decide +kernel
theorem dX7_readDepot_19 : decode cX7_readDepot 19 = .ok (.aload_n 0, 1) := by decide +kernel
theorem dX7_readDepot_20 : decode cX7_readDepot 20 = .ok (.iconst 0, 1) := by decide +kernel
theorem dX7_readDepot_21 : decode cX7_readDepot 21 = .ok (.aload_n 0, 1) := by decide +kernel
theorem dX7_readDepot_22 : decode cX7_readDepot 22 = .ok (.getfield 13, 3) := by decide +kernel
theorem dX7_readDepot_25 : decode cX7_readDepot 25 = .ok (.iconst 0, 1) := by decide +kernel
theorem dX7_readDepot_26 : decode cX7_readDepot 26 = .ok (.iaload, 1) := by decide +kernel
theorem dX7_readDepot_27 : decode cX7_readDepot 27 = .ok (.invokevirtual 166, 3) := by decide +kernel
theorem dX7_readDepot_30 : decode cX7_readDepot 30 = .ok (.istore_n 1, 1) := by decide +kernel
theorem dX7_readDepot_31 : decode cX7_readDepot 31 = .ok (.aload_n 0, 1) := by decide +kernel
theorem dX7_readDepot_32 : decode cX7_readDepot 32 = .ok (.aload_n 0, 1) := by decide +kernel
theorem dX7_readDepot_33 : decode cX7_readDepot 33 = .ok (.getfield 13, 3) := by decide +kernel
theorem dX7_readDepot_36 : decode cX7_readDepot 36 = .ok (.iload_n 1, 1) := by decide +kernel
theorem dX7_readDepot_37 : decode cX7_readDepot 37 = .ok (.invokestatic 75, 3) := by decide +kernel
theorem dX7_readDepot_40 : decode cX7_readDepot 40 = .ok (.bipush (-9), 2) := by decide +kernel
theorem dX7_readDepot_42 : decode cX7_readDepot 42 = .ok (.if_icmp .ne 7, 3) := by decide +kernel
theorem dX7_readDepot_45 : decode cX7_readDepot 45 = .ok (.iconst 1, 1) := by decide +kernel
theorem dX7_readDepot_46 : decode cX7_readDepot 46 = .ok (.goto 4, 3) := by decide +kernel
theorem dX7_readDepot_49 : decode cX7_readDepot 49 = .ok (.iconst 0, 1) := by decide +kernel
theorem dX7_readDepot_50 : decode cX7_readDepot 50 = .ok (.invokevirtual 169, 3) := by decide +kernel
theorem dX7_readDepot_53 : decode cX7_readDepot 53 = .ok (.aload_n 0, 1) := by decide +kernel
theorem dX7_readDepot_54 : decode cX7_readDepot 54 = .ok (.iconst 0, 1) := by decide +kernel
theorem dX7_readDepot_55 : decode cX7_readDepot 55 = .ok (.bipush 9, 2) := by decide +kernel
theorem dX7_readDepot_57 : decode cX7_readDepot 57 = .ok (.invokevirtual 163, 3) := by decide +kernel
theorem dX7_readDepot_60 : decode cX7_readDepot 60 = .ok (.istore_n 2, 1) := by decide +kernel
theorem dX7_readDepot_61 : decode cX7_readDepot 61 = .ok (.bipush 100, 2) := by decide +kernel
theorem dX7_readDepot_63 : decode cX7_readDepot 63 = .ok (.iload_n 2, 1) := by decide +kernel
theorem dX7_readDepot_64 : decode cX7_readDepot 64 = .ok (.imul, 1) := by decide +kernel
theorem dX7_readDepot_65 : decode cX7_readDepot 65 = .ok (.aload_n 0, 1) := by decide +kernel
theorem dX7_readDepot_66 : decode cX7_readDepot 66 = .ok (.iconst 0, 1) := by decide +kernel
theorem dX7_readDepot_67 : decode cX7_readDepot 67 = .ok (.bipush 99, 2) := by decide +kernel
theorem dX7_readDepot_69 : decode cX7_readDepot 69 = .ok (.invokevirtual 166, 3) := by decide +kernel
theorem dX7_readDepot_72 : decode cX7_readDepot 72 = .ok (.iadd, 1) := by decide +kernel
theorem dX7_readDepot_73 : decode cX7_readDepot 73 = .ok (.istore_n 3, 1) := by decide +kernel
theorem dX7_readDepot_74 : decode cX7_readDepot 74 = .ok (.aload_n 0, 1) := by decide +kernel
theorem dX7_readDepot_75 : decode cX7_readDepot 75 = .ok (.getfield 153, 3) := by decide +kernel
theorem dX7_readDepot_78 : decode cX7_readDepot 78 = .ok (.ifCond .eq 12, 3) := by decide +kernel
theorem dX7_readDepot_81 : decode cX7_readDepot 81 = .ok (.aload_n 0, 1) := by decide +kernel
theorem dX7_readDepot_82 : decode cX7_readDepot 82 = .ok (.getfield 13, 3) := by decide +kernel
theorem dX7_readDepot_85 : decode cX7_readDepot 85 = .ok (.iload_n 1, 1) := by decide +kernel
theorem dX7_readDepot_86 : decode cX7_readDepot 86 = .ok (.iload_n 3, 1) := by decide +kernel
theorem dX7_readDepot_87 : decode cX7_readDepot 87 = .ok (.invokestatic 180, 3) := by decide +kernel
theorem dX7_readDepot_90 : decode cX7_readDepot 90 = .ok (.return_, 1) := by decide +kernel
set_option maxRecDepth 20000 in
theorem ggX7_readCar_X7_isNext : GoodIn wsX7_readCar wsX7_isNext := goodIn_r _ [7, 8, 9, 10, 39, 40, 41, 42, 43, 44, 45, 46, 47, 48, 49, 50, 51, 52] (by decide +kernel) (by decide +kernel)
set_option maxRecDepth 20000 in
theorem gX7_readCar_X7_isNext : GoodIn wsX7_readCar (wsV RX7 183 RX7 yX7_isNext wsX7_isNext) := goodIn_app (goodIn_of _ (by decide +kernel)) ggX7_readCar_X7_isNext
set_option maxRecDepth 20000 in
theorem ggX7_readCar_X7_sizeOf : GoodIn wsX7_readCar wsX7_sizeOf := goodIn_r _ [13, 14, 15, 6, 16] (by decide +kernel) (by decide +kernel)
set_option maxRecDepth 20000 in
theorem gX7_readCar_X7_sizeOf : GoodIn wsX7_readCar (va_wsS RX7 64 yX7_sizeOf wsX7_sizeOf) := goodIn_app (goodIn_of _ (by decide +kernel)) ggX7_readCar_X7_sizeOf
set_option maxRecDepth 20000 in
theorem ggX7_readCar_X7_accept : GoodIn wsX7_readCar wsX7_accept := goodIn_r _ [20, 2, 8, 39, 40, 41, 42, 43, 44, 45, 46, 47, 48, 49, 50, 51, 52] (by decide +kernel) (by decide +kernel)
set_option maxRecDepth 20000 in
theorem gX7_readCar_X7_accept : GoodIn wsX7_readCar (wsV RX7 159 RX7 yX7_accept wsX7_accept) := goodIn_app (goodIn_of _ (by decide +kernel)) ggX7_readCar_X7_accept
set_option maxRecDepth 20000 in
theorem ggX7_readCar_X7_digit : GoodIn wsX7_readCar wsX7_digit := goodIn_r _ [24, 8, 9, 10, 25, 2, 26, 27, 6, 28, 17, 18, 19, 20, 39, 40, 41, 42, 43, 44, 45, 46, 47, 48, 49, 50, 51, 52] (by decide +kernel) (by decide +kernel)
set_option maxRecDepth 20000 in
theorem gX7_readCar_X7_digit : GoodIn wsX7_readCar (wsV RX7 163 RX7 yX7_digit wsX7_digit) := goodIn_app (goodIn_of _ (by decide +kernel)) ggX7_readCar_X7_digit
set_option maxRecDepth 20000 in
theorem ggX7_readCar_X7_two : GoodIn wsX7_readCar wsX7_two := goodIn_r _ [32, 21, 22, 23, 6, 24, 8, 9, 10, 25, 2, 26, 27, 28, 17, 18, 19, 20, 39, 40, 41, 42, 43, 44, 45, 46, 47, 48, 49, 50, 51, 52] (by decide +kernel) (by decide +kernel)
set_option maxRecDepth 20000 in
theorem gX7_readCar_X7_two : GoodIn wsX7_readCar (wsV RX7 166 RX7 yX7_two wsX7_two) := goodIn_app (goodIn_of _ (by decide +kernel)) ggX7_readCar_X7_two
set_option maxRecDepth 20000 in
theorem ggX7_readCar_X7_addCarTo : GoodIn wsX7_readCar wsX7_addCarTo := goodIn_r _ [35, 36, 37, 6, 38, 11, 12, 13, 14, 15, 16] (by decide +kernel) (by decide +kernel)
set_option maxRecDepth 20000 in
theorem gX7_readCar_X7_addCarTo : GoodIn wsX7_readCar (va_wsS RX7 186 yX7_addCarTo wsX7_addCarTo) := goodIn_app (goodIn_of _ (by decide +kernel)) ggX7_readCar_X7_addCarTo
theorem dX7_readCar_0 : decode cX7_readCar 0 = .ok (.aload_n 0, 1) := by decide +kernel
theorem dX7_readCar_1 : decode cX7_readCar 1 = .ok (.getfield 13, 3) := by decide +kernel
theorem dX7_readCar_4 : decode cX7_readCar 4 = .ok (.iconst 5, 1) := by decide +kernel
theorem dX7_readCar_5 : decode cX7_readCar 5 = .ok (.iaload, 1) := by decide +kernel
theorem dX7_readCar_6 : decode cX7_readCar 6 = .ok (.iconst 1, 1) := by decide +kernel
theorem dX7_readCar_7 : decode cX7_readCar 7 = .ok (.isub, 1) := by decide +kernel
theorem dX7_readCar_8 : decode cX7_readCar 8 = .ok (.istore_n 1, 1) := by decide +kernel
theorem dX7_readCar_9 : decode cX7_readCar 9 = .ok (.aload_n 0, 1) := by decide +kernel
theorem dX7_readCar_10 : decode cX7_readCar 10 = .ok (.aload_n 0, 1) := by decide +kernel
theorem dX7_readCar_11 : decode cX7_readCar 11 = .ok (.bipush 118, 2) := by decide +kernel
theorem dX7_readCar_13 : decode cX7_readCar 13 = .ok (.invokevirtual 183, 3) := by decide +kernel
theorem dX7_readCar_16 : decode cX7_readCar 16 = .ok (.ifCond .eq 44, 3) := by decide +kernel
theorem dX7_readCar_19 : decode cX7_readCar 19 = .ok (.iload_n 1, 1) := by decide +kernel
theorem dX7_readCar_20 : decode cX7_readCar 20 = .ok (.ifCond .lt 40, 3) := by decide +kernel
theorem dX7_readCar_23 : decode cX7_readCar 23 = .ok (.aload_n 0, 1) := by decide +kernel
theorem dX7_readCar_24 : decode cX7_readCar 24 = .ok (.getfield 13, 3) := by decide +kernel
theorem dX7_readCar_27 : decode cX7_readCar 27 = .ok (.bipush 6, 2) := by decide +kernel
theorem dX7_readCar_29 : decode cX7_readCar 29 = .ok (.iaload, 1) := by decide +kernel
theorem dX7_readCar_30 : decode cX7_readCar 30 = .ok (.bipush 16, 2) := by decide +kernel
theorem dX7_readCar_32 : decode cX7_readCar 32 = .ok (.if_icmp .ge 28, 3) := by decide +kernel
theorem dX7_readCar_35 : decode cX7_readCar 35 = .ok (.aload_n 0, 1) := by decide +kernel
theorem dX7_readCar_36 : decode cX7_readCar 36 = .ok (.getfield 13, 3) := by decide +kernel
theorem dX7_readCar_39 : decode cX7_readCar 39 = .ok (.iload_n 1, 1) := by decide +kernel
theorem dX7_readCar_40 : decode cX7_readCar 40 = .ok (.ifCond .ge 7, 3) := by decide +kernel
theorem dX7_readCar_43 : decode cX7_readCar 43 = .ok (.iconst 0, 1) := by decide +kernel
theorem dX7_readCar_44 : decode cX7_readCar 44 = .ok (.goto 4, 3) := by decide +kernel
theorem dX7_readCar_47 : decode cX7_readCar 47 = .ok (.iload_n 1, 1) := by decide +kernel
theorem dX7_readCar_48 : decode cX7_readCar 48 = .ok (.invokestatic 64, 3) := by decide +kernel
theorem dX7_readCar_51 : decode cX7_readCar 51 = .ok (.bipush 8, 2) := by decide +kernel
theorem dX7_readCar_53 : decode cX7_readCar 53 = .ok (.if_icmp .ge 7, 3) := by decide +kernel
theorem dX7_readCar_56 : decode cX7_readCar 56 = .ok (.iconst 1, 1) := by decide +kernel
theorem dX7_readCar_57 : decode cX7_readCar 57 = .ok (.goto 4, 3) := by decide +kernel
theorem dX7_readCar_60 : decode cX7_readCar 60 = .ok (.iconst 0, 1) := by decide +kernel
theorem dX7_readCar_61 : decode cX7_readCar 61 = .ok (.invokevirtual 159, 3) := by decide +kernel
theorem dX7_readCar_64 : decode cX7_readCar 64 = .ok (.aload_n 0, 1) := by decide +kernel
theorem dX7_readCar_65 : decode cX7_readCar 65 = .ok (.iconst 1, 1) := by decide +kernel
theorem dX7_readCar_66 : decode cX7_readCar 66 = .ok (.bipush 9, 2) := by decide +kernel
theorem dX7_readCar_68 : decode cX7_readCar 68 = .ok (.invokevirtual 163, 3) := by decide +kernel
theorem dX7_readCar_71 : decode cX7_readCar 71 = .ok (.istore_n 2, 1) := by decide +kernel
theorem dX7_readCar_72 : decode cX7_readCar 72 = .ok (.aload_n 0, 1) := by decide +kernel
theorem dX7_readCar_73 : decode cX7_readCar 73 = .ok (.iconst 1, 1) := by decide +kernel
theorem dX7_readCar_74 : decode cX7_readCar 74 = .ok (.iconst 4, 1) := by decide +kernel
theorem dX7_readCar_75 : decode cX7_readCar 75 = .ok (.invokevirtual 163, 3) := by decide +kernel
theorem dX7_readCar_78 : decode cX7_readCar 78 = .ok (.istore_n 3, 1) := by decide +kernel
theorem dX7_readCar_79 : decode cX7_readCar 79 = .ok (.aload_n 0, 1) := by decide +kernel
theorem dX7_readCar_80 : decode cX7_readCar 80 = .ok (.bipush 20, 2) := by decide +kernel
theorem dX7_readCar_82 : decode cX7_readCar 82 = .ok (.bipush 99, 2) := by decide +kernel
theorem dX7_readCar_84 : decode cX7_readCar 84 = .ok (.invokevirtual 166, 3) := by decide +kernel
theorem dX7_readCar_87 : decode cX7_readCar 87 = .ok (.istore 4, 2) := by decide +kernel
theorem dX7_readCar_89 : decode cX7_readCar 89 = .ok (.aload_n 0, 1) := by decide +kernel
theorem dX7_readCar_90 : decode cX7_readCar 90 = .ok (.iconst 0, 1) := by decide +kernel
theorem dX7_readCar_91 : decode cX7_readCar 91 = .ok (.iload 4, 2) := by decide +kernel
theorem dX7_readCar_93 : decode cX7_readCar 93 = .ok (.invokevirtual 166, 3) := by decide +kernel
theorem dX7_readCar_96 : decode cX7_readCar 96 = .ok (.istore 5, 2) := by decide +kernel
theorem dX7_readCar_98 : decode cX7_readCar 98 = .ok (.aload_n 0, 1) := by decide +kernel
theorem dX7_readCar_99 : decode cX7_readCar 99 = .ok (.getfield 153, 3) := by decide +kernel
theorem dX7_readCar_102 : decode cX7_readCar 102 = .ok (.ifCond .eq 17, 3) := by decide +kernel
theorem dX7_readCar_105 : decode cX7_readCar 105 = .ok (.aload_n 0, 1) := by decide +kernel
theorem dX7_readCar_106 : decode cX7_readCar 106 = .ok (.getfield 13, 3) := by decide +kernel
theorem dX7_readCar_109 : decode cX7_readCar 109 = .ok (.iload_n 1, 1) := by decide +kernel
theorem dX7_readCar_110 : decode cX7_readCar 110 = .ok (.iload_n 2, 1) := by decide +kernel
theorem dX7_readCar_111 : decode cX7_readCar 111 = .ok (.iload_n 3, 1) := by decide +kernel
theorem dX7_readCar_112 : decode cX7_readCar 112 = .ok (.iload 4, 2) := by decide +kernel
theorem dX7_readCar_114 : decode cX7_readCar 114 = .ok (.iload 5, 2) := by decide +kernel
theorem dX7_readCar_116 : decode cX7_readCar 116 = .ok (.invokestatic 186, 3) := by decide +kernel
theorem dX7_readCar_119 : decode cX7_readCar 119 = .ok (.return_, 1) := by decide +kernel
set_option maxRecDepth 20000 in
theorem ggX7_readText_X7_isNext : GoodIn wsX7_readText wsX7_isNext := goodIn_r _ [9, 1, 4, 10, 89, 90, 91, 92, 93, 94, 95, 96, 97, 98, 99, 100, 101, 102] (by decide +kernel) (by decide +kernel)
set_option maxRecDepth 20000 in
theorem gX7_readText_X7_isNext : GoodIn wsX7_readText (wsV RX7 183 RX7 yX7_isNext wsX7_isNext) := goodIn_app (goodIn_of _ (by decide +kernel)) ggX7_readText_X7_isNext
set_option maxRecDepth 20000 in
theorem ggX7_readText_X7_accept : GoodIn wsX7_readText wsX7_accept := goodIn_r _ [14, 2, 1, 89, 90, 91, 92, 93, 94, 95, 96, 97, 98, 99, 100, 101, 102] (by decide +kernel) (by decide +kernel)
set_option maxRecDepth 20000 in
theorem gX7_readText_X7_accept : GoodIn wsX7_readText (wsV RX7 159 RX7 yX7_accept wsX7_accept) := goodIn_app (goodIn_of _ (by decide +kernel)) ggX7_readText_X7_accept
set_option maxRecDepth 20000 in
theorem ggX7_readText_X7_two : GoodIn wsX7_readText wsX7_two := goodIn_r _ [18, 19, 20, 21, 8, 22, 1, 4, 10, 23, 2, 24, 25, 26, 11, 12, 13, 14, 89, 90, 91, 92, 93, 94, 95, 96, 97, 98, 99, 100, 101, 102] (by decide +kernel) (by decide +kernel)
set_option maxRecDepth 20000 in
theorem gX7_readText_X7_two : GoodIn wsX7_readText (wsV RX7 166 RX7 yX7_two wsX7_two) := goodIn_app (goodIn_of _ (by decide +kernel)) ggX7_readText_X7_two
set_option maxRecDepth 20000 in
theorem ggX7_readText_X7_readGate : GoodIn wsX7_readText wsX7_readGate := goodIn_r _ [30, 3, 2, 11, 12, 13, 8, 14, 1, 15, 16, 17, 18, 19, 20, 21, 22, 4, 10, 23, 24, 25, 26, 31, 32, 33, 34, 35, 36, 37, 38, 39, 40, 41, 42, 43, 89, 90, 91, 92, 93, 94, 95, 96, 97, 98, 99, 100, 101, 102] (by decide +kernel) (by decide +kernel)
set_option maxRecDepth 20000 in
theorem gX7_readText_X7_readGate : GoodIn wsX7_readText (wsV RX7 190 RX7 yX7_readGate wsX7_readGate) := goodIn_app (goodIn_of _ (by decide +kernel)) ggX7_readText_X7_readGate
set_option maxRecDepth 20000 in
theorem ggX7_readText_X7_readBay : GoodIn wsX7_readText wsX7_readBay := goodIn_r _ [47, 3, 2, 11, 12, 13, 8, 14, 1, 15, 16, 17, 18, 19, 20, 21, 22, 4, 10, 23, 24, 25, 26, 48, 49, 50, 51, 52, 53, 37, 38, 39, 40, 54, 55, 56, 89, 90, 91, 92, 93, 94, 95, 96, 97, 98, 99, 100, 101, 102] (by decide +kernel) (by decide +kernel)
set_option maxRecDepth 20000 in
theorem gX7_readText_X7_readBay : GoodIn wsX7_readText (wsV RX7 193 RX7 yX7_readBay wsX7_readBay) := goodIn_app (goodIn_of _ (by decide +kernel)) ggX7_readText_X7_readBay
set_option maxRecDepth 20000 in
theorem ggX7_readText_X7_readDepot : GoodIn wsX7_readText wsX7_readDepot := goodIn_r _ [60, 3, 2, 11, 12, 13, 8, 14, 1, 15, 16, 17, 18, 19, 20, 21, 22, 4, 10, 23, 24, 25, 26, 61, 62, 63, 64, 65, 66, 37, 38, 39, 40, 67, 68, 69, 89, 90, 91, 92, 93, 94, 95, 96, 97, 98, 99, 100, 101, 102] (by decide +kernel) (by decide +kernel)
set_option maxRecDepth 20000 in
theorem gX7_readText_X7_readDepot : GoodIn wsX7_readText (wsV RX7 196 RX7 yX7_readDepot wsX7_readDepot) := goodIn_app (goodIn_of _ (by decide +kernel)) ggX7_readText_X7_readDepot
set_option maxRecDepth 20000 in
theorem ggX7_readText_X7_addConvoyTo : GoodIn wsX7_readText wsX7_addConvoyTo := goodIn_r _ [72, 73, 74, 8, 75] (by decide +kernel) (by decide +kernel)
set_option maxRecDepth 20000 in
theorem gX7_readText_X7_addConvoyTo : GoodIn wsX7_readText (va_wsS RX7 199 yX7_addConvoyTo wsX7_addConvoyTo) := goodIn_app (goodIn_of _ (by decide +kernel)) ggX7_readText_X7_addConvoyTo
set_option maxRecDepth 20000 in
theorem ggX7_readText_X7_readCar : GoodIn wsX7_readText wsX7_readCar := goodIn_r _ [79, 3, 2, 5, 6, 7, 8, 9, 1, 4, 10, 80, 81, 82, 73, 74, 75, 11, 12, 13, 14, 19, 20, 21, 22, 23, 24, 25, 26, 15, 16, 17, 18, 83, 84, 85, 86, 87, 88, 89, 90, 91, 92, 93, 94, 95, 96, 97, 98, 99, 100, 101, 102] (by decide +kernel) (by decide +kernel)
set_option maxRecDepth 20000 in
theorem gX7_readText_X7_readCar : GoodIn wsX7_readText (wsV RX7 202 RX7 yX7_readCar wsX7_readCar) := goodIn_app (goodIn_of _ (by decide +kernel)) ggX7_readText_X7_readCar
theorem dX7_readText_0 : decode cX7_readText 0 = .ok (.aload_n 0, 1) := by decide +kernel
