theorem dX0_init_0 : decode cX0_init 0 = .ok (.aload_n 0, 1) := by decide +kernel
theorem dX0_init_1 : decode cX0_init 1 = .ok (.invokespecial 3, 3) := by decide +kernel
theorem dX0_init_4 : decode cX0_init 4 = .ok (.aload_n 0, 1) := by decide +kernel
theorem dX0_init_5 : decode cX0_init 5 = .ok (.new 9, 3) := by decide +kernel
theorem dX0_init_8 : decode cX0_init 8 = .ok (.dup, 1) := by decide +kernel
theorem dX0_init_9 : decode cX0_init 9 = .ok (.bipush 14, 2) := by decide +kernel
theorem dX0_init_11 : decode cX0_init 11 = .ok (.invokespecial 11, 3) := by decide +kernel
theorem dX0_init_14 : decode cX0_init 14 = .ok (.putfield 14, 3) := by decide +kernel
theorem dX0_init_17 : decode cX0_init 17 = .ok (.return_, 1) := by decide +kernel
theorem dX0_size_0 : decode cX0_size 0 = .ok (.aload_n 0, 1) := by decide +kernel
theorem dX0_size_1 : decode cX0_size 1 = .ok (.getfield 20, 3) := by decide +kernel
theorem dX0_size_4 : decode cX0_size 4 = .ok (.ireturn, 1) := by decide +kernel
theorem dX0_remember_0 : decode cX0_remember 0 = .ok (.aload_n 0, 1) := by decide +kernel
theorem dX0_remember_1 : decode cX0_remember 1 = .ok (.getfield 14, 3) := by decide +kernel
theorem dX0_remember_4 : decode cX0_remember 4 = .ok (.aload_n 0, 1) := by decide +kernel
theorem dX0_remember_5 : decode cX0_remember 5 = .ok (.getfield 24, 3) := by decide +kernel
theorem dX0_remember_8 : decode cX0_remember 8 = .ok (.aload_n 1, 1) := by decide +kernel
theorem dX0_remember_9 : decode cX0_remember 9 = .ok (.invokevirtual 27, 3) := by decide +kernel
theorem dX0_remember_12 : decode cX0_remember 12 = .ok (.aload_n 0, 1) := by decide +kernel
theorem dX0_remember_13 : decode cX0_remember 13 = .ok (.aload_n 0, 1) := by decide +kernel
theorem dX0_remember_14 : decode cX0_remember 14 = .ok (.getfield 24, 3) := by decide +kernel
theorem dX0_remember_17 : decode cX0_remember 17 = .ok (.iconst 1, 1) := by decide +kernel
theorem dX0_remember_18 : decode cX0_remember 18 = .ok (.iadd, 1) := by decide +kernel
theorem dX0_remember_19 : decode cX0_remember 19 = .ok (.bipush 14, 2) := by decide +kernel
theorem dX0_remember_21 : decode cX0_remember 21 = .ok (.irem, 1) := by decide +kernel
theorem dX0_remember_22 : decode cX0_remember 22 = .ok (.putfield 24, 3) := by decide +kernel
theorem dX0_remember_25 : decode cX0_remember 25 = .ok (.aload_n 0, 1) := by decide +kernel
theorem dX0_remember_26 : decode cX0_remember 26 = .ok (.aload_n 0, 1) := by decide +kernel
theorem dX0_remember_27 : decode cX0_remember 27 = .ok (.getfield 20, 3) := by decide +kernel
theorem dX0_remember_30 : decode cX0_remember 30 = .ok (.iconst 1, 1) := by decide +kernel
theorem dX0_remember_31 : decode cX0_remember 31 = .ok (.iadd, 1) := by decide +kernel
theorem dX0_remember_32 : decode cX0_remember 32 = .ok (.bipush 14, 2) := by decide +kernel
theorem dX0_remember_34 : decode cX0_remember 34 = .ok (.invokestatic 31, 3) := by decide +kernel
theorem dX0_remember_37 : decode cX0_remember 37 = .ok (.putfield 20, 3) := by decide +kernel
theorem dX0_remember_40 : decode cX0_remember 40 = .ok (.return_, 1) := by decide +kernel
theorem dX0_takeBack_0 : decode cX0_takeBack 0 = .ok (.aload_n 0, 1) := by decide +kernel
theorem dX0_takeBack_1 : decode cX0_takeBack 1 = .ok (.getfield 20, 3) := by decide +kernel
theorem dX0_takeBack_4 : decode cX0_takeBack 4 = .ok (.ifCond .le 41, 3) := by decide +kernel
theorem dX0_takeBack_7 : decode cX0_takeBack 7 = .ok (.aload_n 0, 1) := by decide +kernel
theorem dX0_takeBack_8 : decode cX0_takeBack 8 = .ok (.aload_n 0, 1) := by decide +kernel
theorem dX0_takeBack_9 : decode cX0_takeBack 9 = .ok (.getfield 24, 3) := by decide +kernel
theorem dX0_takeBack_12 : decode cX0_takeBack 12 = .ok (.bipush 14, 2) := by decide +kernel
theorem dX0_takeBack_14 : decode cX0_takeBack 14 = .ok (.iadd, 1) := by decide +kernel
theorem dX0_takeBack_15 : decode cX0_takeBack 15 = .ok (.iconst 1, 1) := by decide +kernel
theorem dX0_takeBack_16 : decode cX0_takeBack 16 = .ok (.isub, 1) := by decide +kernel
theorem dX0_takeBack_17 : decode cX0_takeBack 17 = .ok (.bipush 14, 2) := by decide +kernel
theorem dX0_takeBack_19 : decode cX0_takeBack 19 = .ok (.irem, 1) := by decide +kernel
theorem dX0_takeBack_20 : decode cX0_takeBack 20 = .ok (.putfield 24, 3) := by decide +kernel
theorem dX0_takeBack_23 : decode cX0_takeBack 23 = .ok (.aload_n 0, 1) := by decide +kernel
theorem dX0_takeBack_24 : decode cX0_takeBack 24 = .ok (.dup, 1) := by decide +kernel
theorem dX0_takeBack_25 : decode cX0_takeBack 25 = .ok (.getfield 20, 3) := by decide +kernel
theorem dX0_takeBack_28 : decode cX0_takeBack 28 = .ok (.iconst 1, 1) := by decide +kernel
theorem dX0_takeBack_29 : decode cX0_takeBack 29 = .ok (.isub, 1) := by decide +kernel
theorem dX0_takeBack_30 : decode cX0_takeBack 30 = .ok (.putfield 20, 3) := by decide +kernel
theorem dX0_takeBack_33 : decode cX0_takeBack 33 = .ok (.aload_n 0, 1) := by decide +kernel
theorem dX0_takeBack_34 : decode cX0_takeBack 34 = .ok (.getfield 14, 3) := by decide +kernel
theorem dX0_takeBack_37 : decode cX0_takeBack 37 = .ok (.aload_n 0, 1) := by decide +kernel
theorem dX0_takeBack_38 : decode cX0_takeBack 38 = .ok (.getfield 24, 3) := by decide +kernel
theorem dX0_takeBack_41 : decode cX0_takeBack 41 = .ok (.aload_n 1, 1) := by decide +kernel
theorem dX0_takeBack_42 : decode cX0_takeBack 42 = .ok (.invokevirtual 37, 3) := by decide +kernel
theorem dX0_takeBack_45 : decode cX0_takeBack 45 = .ok (.return_, 1) := by decide +kernel
theorem dX0_forget_0 : decode cX0_forget 0 = .ok (.aload_n 0, 1) := by decide +kernel
theorem dX0_forget_1 : decode cX0_forget 1 = .ok (.iconst 0, 1) := by decide +kernel
theorem dX0_forget_2 : decode cX0_forget 2 = .ok (.putfield 20, 3) := by decide +kernel
theorem dX0_forget_5 : decode cX0_forget 5 = .ok (.return_, 1) := by decide +kernel
theorem dX1_init_0 : decode cX1_init 0 = .ok (.aload_n 0, 1) := by decide +kernel
theorem dX1_init_1 : decode cX1_init 1 = .ok (.invokespecial 3, 3) := by decide +kernel
theorem dX1_init_4 : decode cX1_init 4 = .ok (.aload_n 0, 1) := by decide +kernel
theorem dX1_init_5 : decode cX1_init 5 = .ok (.sipush 140, 3) := by decide +kernel
theorem dX1_init_8 : decode cX1_init 8 = .ok (.newarray .char, 2) := by decide +kernel
theorem dX1_init_10 : decode cX1_init 10 = .ok (.putfield 9, 3) := by decide +kernel
theorem dX1_init_13 : decode cX1_init 13 = .ok (.return_, 1) := by decide +kernel
theorem dX1_isFull_0 : decode cX1_isFull 0 = .ok (.aload_n 0, 1) := by decide +kernel
theorem dX1_isFull_1 : decode cX1_isFull 1 = .ok (.getfield 15, 3) := by decide +kernel
theorem dX1_isFull_4 : decode cX1_isFull 4 = .ok (.sipush 140, 3) := by decide +kernel
theorem dX1_isFull_7 : decode cX1_isFull 7 = .ok (.if_icmp .lt 7, 3) := by decide +kernel
theorem dX1_isFull_10 : decode cX1_isFull 10 = .ok (.iconst 1, 1) := by decide +kernel
theorem dX1_isFull_11 : decode cX1_isFull 11 = .ok (.goto 4, 3) := by decide +kernel
theorem dX1_isFull_14 : decode cX1_isFull 14 = .ok (.iconst 0, 1) := by decide +kernel
theorem dX1_isFull_15 : decode cX1_isFull 15 = .ok (.ireturn, 1) := by decide +kernel
theorem dX1_addSign_0 : decode cX1_addSign 0 = .ok (.aload_n 0, 1) := by decide +kernel
theorem dX1_addSign_1 : decode cX1_addSign 1 = .ok (.getfield 15, 3) := by decide +kernel
theorem dX1_addSign_4 : decode cX1_addSign 4 = .ok (.ifCond .lt 35, 3) := by decide +kernel
theorem dX1_addSign_7 : decode cX1_addSign 7 = .ok (.aload_n 0, 1) := by decide +kernel
theorem dX1_addSign_8 : decode cX1_addSign 8 = .ok (.getfield 15, 3) := by decide +kernel
theorem dX1_addSign_11 : decode cX1_addSign 11 = .ok (.aload_n 0, 1) := by decide +kernel
theorem dX1_addSign_12 : decode cX1_addSign 12 = .ok (.getfield 9, 3) := by decide +kernel
theorem dX1_addSign_15 : decode cX1_addSign 15 = .ok (.arraylength, 1) := by decide +kernel
theorem dX1_addSign_16 : decode cX1_addSign 16 = .ok (.if_icmp .ge 23, 3) := by decide +kernel
theorem dX1_addSign_19 : decode cX1_addSign 19 = .ok (.aload_n 0, 1) := by decide +kernel
theorem dX1_addSign_20 : decode cX1_addSign 20 = .ok (.getfield 9, 3) := by decide +kernel
theorem dX1_addSign_23 : decode cX1_addSign 23 = .ok (.aload_n 0, 1) := by decide +kernel
theorem dX1_addSign_24 : decode cX1_addSign 24 = .ok (.getfield 15, 3) := by decide +kernel
theorem dX1_addSign_27 : decode cX1_addSign 27 = .ok (.iload_n 1, 1) := by decide +kernel
theorem dX1_addSign_28 : decode cX1_addSign 28 = .ok (.castore, 1) := by decide +kernel
theorem dX1_addSign_29 : decode cX1_addSign 29 = .ok (.aload_n 0, 1) := by decide +kernel
theorem dX1_addSign_30 : decode cX1_addSign 30 = .ok (.dup, 1) := by decide +kernel
theorem dX1_addSign_31 : decode cX1_addSign 31 = .ok (.getfield 15, 3) := by decide +kernel
theorem dX1_addSign_34 : decode cX1_addSign 34 = .ok (.iconst 1, 1) := by decide +kernel
theorem dX1_addSign_35 : decode cX1_addSign 35 = .ok (.iadd, 1) := by decide +kernel
theorem dX1_addSign_36 : decode cX1_addSign 36 = .ok (.putfield 15, 3) := by decide +kernel
theorem dX1_addSign_39 : decode cX1_addSign 39 = .ok (.aload_n 0, 1) := by decide +kernel
theorem dX1_addSign_40 : decode cX1_addSign 40 = .ok (.getfield 15, 3) := by decide +kernel
theorem dX1_addSign_43 : decode cX1_addSign 43 = .ok (.ireturn, 1) := by decide +kernel
theorem dX1_emptyOut_0 : decode cX1_emptyOut 0 = .ok (.aload_n 0, 1) := by decide +kernel
theorem dX1_emptyOut_1 : decode cX1_emptyOut 1 = .ok (.getfield 15, 3) := by decide +kernel
theorem dX1_emptyOut_4 : decode cX1_emptyOut 4 = .ok (.istore_n 1, 1) := by decide +kernel
theorem dX1_emptyOut_5 : decode cX1_emptyOut 5 = .ok (.aload_n 0, 1) := by decide +kernel
theorem dX1_emptyOut_6 : decode cX1_emptyOut 6 = .ok (.iconst 0, 1) := by decide +kernel
theorem dX1_emptyOut_7 : decode cX1_emptyOut 7 = .ok (.putfield 15, 3) := by decide +kernel
theorem dX1_emptyOut_10 : decode cX1_emptyOut 10 = .ok (.iload_n 1, 1) := by decide +kernel
theorem dX1_emptyOut_11 : decode cX1_emptyOut 11 = .ok (.ireturn, 1) := by decide +kernel
theorem dX1_readInto_0 : decode cX1_readInto 0 = .ok (.aload_n 0, 1) := by decide +kernel
theorem dX1_readInto_1 : decode cX1_readInto 1 = .ok (.iconst 0, 1) := by decide +kernel
theorem dX1_readInto_2 : decode cX1_readInto 2 = .ok (.putfield 19, 3) := by decide +kernel
theorem dX1_readInto_5 : decode cX1_readInto 5 = .ok (.aload_n 0, 1) := by decide +kernel
theorem dX1_readInto_6 : decode cX1_readInto 6 = .ok (.aload_n 0, 1) := by decide +kernel
theorem dX1_readInto_7 : decode cX1_readInto 7 = .ok (.invokevirtual 22, 3) := by decide +kernel
theorem dX1_readInto_10 : decode cX1_readInto 10 = .ok (.bipush 87, 2) := by decide +kernel
theorem dX1_readInto_12 : decode cX1_readInto 12 = .ok (.if_icmp .eq 7, 3) := by decide +kernel
theorem dX1_readInto_15 : decode cX1_readInto 15 = .ok (.iconst 1, 1) := by decide +kernel
theorem dX1_readInto_16 : decode cX1_readInto 16 = .ok (.goto 4, 3) := by decide +kernel
theorem dX1_readInto_19 : decode cX1_readInto 19 = .ok (.iconst 0, 1) := by decide +kernel
theorem dX1_readInto_20 : decode cX1_readInto 20 = .ok (.putfield 26, 3) := by decide +kernel
theorem dX1_readInto_23 : decode cX1_readInto 23 = .ok (.aload_n 0, 1) := by decide +kernel
theorem dX1_readInto_24 : decode cX1_readInto 24 = .ok (.getfield 26, 3) := by decide +kernel
theorem dX1_readInto_27 : decode cX1_readInto 27 = .ok (.ifCond .ne 13, 3) := by decide +kernel
theorem dX1_readInto_30 : decode cX1_readInto 30 = .ok (.aload_n 0, 1) := by decide +kernel
theorem dX1_readInto_31 : decode cX1_readInto 31 = .ok (.dup, 1) := by decide +kernel
theorem dX1_readInto_32 : decode cX1_readInto 32 = .ok (.getfield 19, 3) := by decide +kernel
theorem dX1_readInto_35 : decode cX1_readInto 35 = .ok (.iconst 1, 1) := by decide +kernel
theorem dX1_readInto_36 : decode cX1_readInto 36 = .ok (.iadd, 1) := by decide +kernel
theorem dX1_readInto_37 : decode cX1_readInto 37 = .ok (.putfield 19, 3) := by decide +kernel
theorem dX1_readInto_40 : decode cX1_readInto 40 = .ok (.aload_n 0, 1) := by decide +kernel
theorem dX1_readInto_41 : decode cX1_readInto 41 = .ok (.iconst 2, 1) := by decide +kernel
theorem dX1_readInto_42 : decode cX1_readInto 42 = .ok (.bipush 10, 2) := by decide +kernel
theorem dX1_readInto_44 : decode cX1_readInto 44 = .ok (.bipush 60, 2) := by decide +kernel
theorem dX1_readInto_46 : decode cX1_readInto 46 = .ok (.invokevirtual 30, 3) := by decide +kernel
theorem dX1_readInto_49 : decode cX1_readInto 49 = .ok (.istore_n 2, 1) := by decide +kernel
theorem dX1_readInto_50 : decode cX1_readInto 50 = .ok (.aload_n 1, 1) := by decide +kernel
theorem dX1_readInto_51 : decode cX1_readInto 51 = .ok (.iload_n 2, 1) := by decide +kernel
theorem dX1_readInto_52 : decode cX1_readInto 52 = .ok (.invokevirtual 34, 3) := by decide +kernel
theorem dX1_readInto_55 : decode cX1_readInto 55 = .ok (.iconst 0, 1) := by decide +kernel
theorem dX1_readInto_56 : decode cX1_readInto 56 = .ok (.istore_n 3, 1) := by decide +kernel
theorem dX1_readInto_57 : decode cX1_readInto 57 = .ok (.iload_n 3, 1) := by decide +kernel
theorem dX1_readInto_58 : decode cX1_readInto 58 = .ok (.sipush 140, 3) := by decide +kernel
theorem dX1_readInto_61 : decode cX1_readInto 61 = .ok (.if_icmp .ge 32, 3) := by decide +kernel
theorem dX1_readInto_64 : decode cX1_readInto 64 = .ok (.aload_n 0, 1) := by decide +kernel
theorem dX1_readInto_65 : decode cX1_readInto 65 = .ok (.getfield 19, 3) := by decide +kernel
theorem dX1_readInto_68 : decode cX1_readInto 68 = .ok (.aload_n 0, 1) := by decide +kernel
theorem dX1_readInto_69 : decode cX1_readInto 69 = .ok (.getfield 15, 3) := by decide +kernel
theorem dX1_readInto_72 : decode cX1_readInto 72 = .ok (.if_icmp .ge 21, 3) := by decide +kernel
theorem dX1_readInto_75 : decode cX1_readInto 75 = .ok (.aload_n 0, 1) := by decide +kernel
theorem dX1_readInto_76 : decode cX1_readInto 76 = .ok (.getfield 26, 3) := by decide +kernel
theorem dX1_readInto_79 : decode cX1_readInto 79 = .ok (.ifCond .ne 14, 3) := by decide +kernel
theorem dX1_readInto_82 : decode cX1_readInto 82 = .ok (.aload_n 0, 1) := by decide +kernel
theorem dX1_readInto_83 : decode cX1_readInto 83 = .ok (.aload_n 1, 1) := by decide +kernel
theorem dX1_readInto_84 : decode cX1_readInto 84 = .ok (.invokevirtual 40, 3) := by decide +kernel
theorem dX1_readInto_87 : decode cX1_readInto 87 = .ok (.iinc 3 1, 3) := by decide +kernel
theorem dX1_readInto_90 : decode cX1_readInto 90 = .ok (.goto (-33), 3) := by decide +kernel
theorem dX1_readInto_93 : decode cX1_readInto 93 = .ok (.aload_n 0, 1) := by decide +kernel
theorem dX1_readInto_94 : decode cX1_readInto 94 = .ok (.getfield 26, 3) := by decide +kernel
theorem dX1_readInto_97 : decode cX1_readInto 97 = .ok (.ifCond .eq 10, 3) := by decide +kernel
theorem dX1_readInto_100 : decode cX1_readInto 100 = .ok (.aload_n 0, 1) := by decide +kernel
theorem dX1_readInto_101 : decode cX1_readInto 101 = .ok (.getfield 19, 3) := by decide +kernel
theorem dX1_readInto_104 : decode cX1_readInto 104 = .ok (.goto 5, 3) := by decide +kernel
theorem dX1_readInto_107 : decode cX1_readInto 107 = .ok (.bipush (-9), 2) := by decide +kernel
theorem dX1_readInto_109 : decode cX1_readInto 109 = .ok (.ireturn, 1) := by decide +kernel
theorem dX1_signAt_0 : decode cX1_signAt 0 = .ok (.aload_n 0, 1) := by decide +kernel
theorem dX1_signAt_1 : decode cX1_signAt 1 = .ok (.getfield 19, 3) := by decide +kernel
theorem dX1_signAt_4 : decode cX1_signAt 4 = .ok (.ifCond .lt 38, 3) := by decide +kernel
theorem dX1_signAt_7 : decode cX1_signAt 7 = .ok (.aload_n 0, 1) := by decide +kernel
theorem dX1_signAt_8 : decode cX1_signAt 8 = .ok (.getfield 19, 3) := by decide +kernel
theorem dX1_signAt_11 : decode cX1_signAt 11 = .ok (.aload_n 0, 1) := by decide +kernel
theorem dX1_signAt_12 : decode cX1_signAt 12 = .ok (.getfield 15, 3) := by decide +kernel
theorem dX1_signAt_15 : decode cX1_signAt 15 = .ok (.if_icmp .ge 27, 3) := by decide +kernel
theorem dX1_signAt_18 : decode cX1_signAt 18 = .ok (.aload_n 0, 1) := by decide +kernel
theorem dX1_signAt_19 : decode cX1_signAt 19 = .ok (.getfield 19, 3) := by decide +kernel
theorem dX1_signAt_22 : decode cX1_signAt 22 = .ok (.aload_n 0, 1) := by decide +kernel
theorem dX1_signAt_23 : decode cX1_signAt 23 = .ok (.getfield 9, 3) := by decide +kernel
theorem dX1_signAt_26 : decode cX1_signAt 26 = .ok (.arraylength, 1) := by decide +kernel
theorem dX1_signAt_27 : decode cX1_signAt 27 = .ok (.if_icmp .ge 15, 3) := by decide +kernel
theorem dX1_signAt_30 : decode cX1_signAt 30 = .ok (.aload_n 0, 1) := by decide +kernel
theorem dX1_signAt_31 : decode cX1_signAt 31 = .ok (.getfield 9, 3) := by decide +kernel
theorem dX1_signAt_34 : decode cX1_signAt 34 = .ok (.aload_n 0, 1) := by decide +kernel
theorem dX1_signAt_35 : decode cX1_signAt 35 = .ok (.getfield 19, 3) := by decide +kernel
theorem dX1_signAt_38 : decode cX1_signAt 38 = .ok (.caload, 1) := by decide +kernel
theorem dX1_signAt_39 : decode cX1_signAt 39 = .ok (.goto 5, 3) := by decide +kernel
theorem dX1_signAt_42 : decode cX1_signAt 42 = .ok (.bipush (-9), 2) := by decide +kernel
theorem dX1_signAt_44 : decode cX1_signAt 44 = .ok (.ireturn, 1) := by decide +kernel
theorem dX1_readPart_0 : decode cX1_readPart 0 = .ok (.aload_n 0, 1) := by decide +kernel
theorem dX1_readPart_1 : decode cX1_readPart 1 = .ok (.invokevirtual 22, 3) := by decide +kernel
theorem dX1_readPart_4 : decode cX1_readPart 4 = .ok (.istore_n 2, 1) := by decide +kernel
theorem dX1_readPart_5 : decode cX1_readPart 5 = .ok (.aload_n 0, 1) := by decide +kernel
theorem dX1_readPart_6 : decode cX1_readPart 6 = .ok (.aload_n 0, 1) := by decide +kernel
theorem dX1_readPart_7 : decode cX1_readPart 7 = .ok (.iload_n 2, 1) := by decide +kernel
theorem dX1_readPart_8 : decode cX1_readPart 8 = .ok (.aload_n 1, 1) := by decide +kernel
theorem dX1_readPart_9 : decode cX1_readPart 9 = .ok (.invokevirtual 44, 3) := by decide +kernel
theorem dX1_readPart_12 : decode cX1_readPart 12 = .ok (.ifCond .ne 7, 3) := by decide +kernel
theorem dX1_readPart_15 : decode cX1_readPart 15 = .ok (.iconst 1, 1) := by decide +kernel
theorem dX1_readPart_16 : decode cX1_readPart 16 = .ok (.goto 4, 3) := by decide +kernel
theorem dX1_readPart_19 : decode cX1_readPart 19 = .ok (.iconst 0, 1) := by decide +kernel
theorem dX1_readPart_20 : decode cX1_readPart 20 = .ok (.putfield 26, 3) := by decide +kernel
theorem dX1_readPart_23 : decode cX1_readPart 23 = .ok (.aload_n 0, 1) := by decide +kernel
theorem dX1_readPart_24 : decode cX1_readPart 24 = .ok (.getfield 26, 3) := by decide +kernel
theorem dX1_readPart_27 : decode cX1_readPart 27 = .ok (.ifCond .eq 4, 3) := by decide +kernel
theorem dX1_readPart_30 : decode cX1_readPart 30 = .ok (.return_, 1) := by decide +kernel
theorem dX1_readPart_31 : decode cX1_readPart 31 = .ok (.aload_n 0, 1) := by decide +kernel
theorem dX1_readPart_32 : decode cX1_readPart 32 = .ok (.dup, 1) := by decide +kernel
theorem dX1_readPart_33 : decode cX1_readPart 33 = .ok (.getfield 19, 3) := by decide +kernel
theorem dX1_readPart_36 : decode cX1_readPart 36 = .ok (.iconst 1, 1) := by decide +kernel
theorem dX1_readPart_37 : decode cX1_readPart 37 = .ok (.iadd, 1) := by decide +kernel
theorem dX1_readPart_38 : decode cX1_readPart 38 = .ok (.putfield 19, 3) := by decide +kernel
theorem dX1_readPart_41 : decode cX1_readPart 41 = .ok (.iload_n 2, 1) := by decide +kernel
theorem dX1_readPart_42 : decode cX1_readPart 42 = .ok (.tableswitch 70 98 103 #[46, 62, 54, 70, 70, 38], 38) := by decide +kernel
theorem dX1_readPart_80 : decode cX1_readPart 80 = .ok (.aload_n 0, 1) := by decide +kernel
theorem dX1_readPart_81 : decode cX1_readPart 81 = .ok (.aload_n 1, 1) := by decide +kernel
theorem dX1_readPart_82 : decode cX1_readPart 82 = .ok (.invokevirtual 48, 3) := by decide +kernel
theorem dX1_readPart_85 : decode cX1_readPart 85 = .ok (.goto 32, 3) := by decide +kernel
theorem dX1_readPart_88 : decode cX1_readPart 88 = .ok (.aload_n 0, 1) := by decide +kernel
theorem dX1_readPart_89 : decode cX1_readPart 89 = .ok (.aload_n 1, 1) := by decide +kernel
theorem dX1_readPart_90 : decode cX1_readPart 90 = .ok (.invokevirtual 51, 3) := by decide +kernel
theorem dX1_readPart_93 : decode cX1_readPart 93 = .ok (.goto 24, 3) := by decide +kernel
theorem dX1_readPart_96 : decode cX1_readPart 96 = .ok (.aload_n 0, 1) := by decide +kernel
theorem dX1_readPart_97 : decode cX1_readPart 97 = .ok (.aload_n 1, 1) := by decide +kernel
theorem dX1_readPart_98 : decode cX1_readPart 98 = .ok (.invokevirtual 54, 3) := by decide +kernel
theorem dX1_readPart_101 : decode cX1_readPart 101 = .ok (.goto 16, 3) := by decide +kernel
theorem dX1_readPart_104 : decode cX1_readPart 104 = .ok (.aload_n 1, 1) := by decide +kernel
theorem dX1_readPart_105 : decode cX1_readPart 105 = .ok (.invokevirtual 57, 3) := by decide +kernel
theorem dX1_readPart_108 : decode cX1_readPart 108 = .ok (.pop, 1) := by decide +kernel
theorem dX1_readPart_109 : decode cX1_readPart 109 = .ok (.goto 8, 3) := by decide +kernel
theorem dX1_readPart_112 : decode cX1_readPart 112 = .ok (.aload_n 0, 1) := by decide +kernel
theorem dX1_readPart_113 : decode cX1_readPart 113 = .ok (.aload_n 1, 1) := by decide +kernel
theorem dX1_readPart_114 : decode cX1_readPart 114 = .ok (.invokevirtual 60, 3) := by decide +kernel
theorem dX1_readPart_117 : decode cX1_readPart 117 = .ok (.return_, 1) := by decide +kernel
theorem dX1_isAllowed_0 : decode cX1_isAllowed 0 = .ok (.iload_n 1, 1) := by decide +kernel
theorem dX1_isAllowed_1 : decode cX1_isAllowed 1 = .ok (.lookupswitch 129 #[(98, 67), (99, 99), (100, 83), (103, 51), (118, 115)], 51) := by decide +kernel
theorem dX1_isAllowed_52 : decode cX1_isAllowed 52 = .ok (.aload_n 2, 1) := by decide +kernel
theorem dX1_isAllowed_53 : decode cX1_isAllowed 53 = .ok (.getfield 63, 3) := by decide +kernel
theorem dX1_isAllowed_56 : decode cX1_isAllowed 56 = .ok (.invokevirtual 67, 3) := by decide +kernel
theorem dX1_isAllowed_59 : decode cX1_isAllowed 59 = .ok (.ifCond .ne 7, 3) := by decide +kernel
theorem dX1_isAllowed_62 : decode cX1_isAllowed 62 = .ok (.iconst 1, 1) := by decide +kernel
theorem dX1_isAllowed_63 : decode cX1_isAllowed 63 = .ok (.goto 4, 3) := by decide +kernel
theorem dX1_isAllowed_66 : decode cX1_isAllowed 66 = .ok (.iconst 0, 1) := by decide +kernel
theorem dX1_isAllowed_67 : decode cX1_isAllowed 67 = .ok (.ireturn, 1) := by decide +kernel
theorem dX1_isAllowed_68 : decode cX1_isAllowed 68 = .ok (.aload_n 2, 1) := by decide +kernel
theorem dX1_isAllowed_69 : decode cX1_isAllowed 69 = .ok (.getfield 73, 3) := by decide +kernel
theorem dX1_isAllowed_72 : decode cX1_isAllowed 72 = .ok (.invokevirtual 67, 3) := by decide +kernel
theorem dX1_isAllowed_75 : decode cX1_isAllowed 75 = .ok (.ifCond .ne 7, 3) := by decide +kernel
theorem dX1_isAllowed_78 : decode cX1_isAllowed 78 = .ok (.iconst 1, 1) := by decide +kernel
theorem dX1_isAllowed_79 : decode cX1_isAllowed 79 = .ok (.goto 4, 3) := by decide +kernel
theorem dX1_isAllowed_82 : decode cX1_isAllowed 82 = .ok (.iconst 0, 1) := by decide +kernel
theorem dX1_isAllowed_83 : decode cX1_isAllowed 83 = .ok (.ireturn, 1) := by decide +kernel
theorem dX1_isAllowed_84 : decode cX1_isAllowed 84 = .ok (.aload_n 2, 1) := by decide +kernel
theorem dX1_isAllowed_85 : decode cX1_isAllowed 85 = .ok (.getfield 76, 3) := by decide +kernel
theorem dX1_isAllowed_88 : decode cX1_isAllowed 88 = .ok (.invokevirtual 67, 3) := by decide +kernel
theorem dX1_isAllowed_91 : decode cX1_isAllowed 91 = .ok (.ifCond .ne 7, 3) := by decide +kernel
theorem dX1_isAllowed_94 : decode cX1_isAllowed 94 = .ok (.iconst 1, 1) := by decide +kernel
theorem dX1_isAllowed_95 : decode cX1_isAllowed 95 = .ok (.goto 4, 3) := by decide +kernel
theorem dX1_isAllowed_98 : decode cX1_isAllowed 98 = .ok (.iconst 0, 1) := by decide +kernel
theorem dX1_isAllowed_99 : decode cX1_isAllowed 99 = .ok (.ireturn, 1) := by decide +kernel
theorem dX1_isAllowed_100 : decode cX1_isAllowed 100 = .ok (.aload_n 2, 1) := by decide +kernel
theorem dX1_isAllowed_101 : decode cX1_isAllowed 101 = .ok (.getfield 79, 3) := by decide +kernel
theorem dX1_isAllowed_104 : decode cX1_isAllowed 104 = .ok (.invokevirtual 67, 3) := by decide +kernel
theorem dX1_isAllowed_107 : decode cX1_isAllowed 107 = .ok (.ifCond .ne 7, 3) := by decide +kernel
theorem dX1_isAllowed_110 : decode cX1_isAllowed 110 = .ok (.iconst 1, 1) := by decide +kernel
theorem dX1_isAllowed_111 : decode cX1_isAllowed 111 = .ok (.goto 4, 3) := by decide +kernel
theorem dX1_isAllowed_114 : decode cX1_isAllowed 114 = .ok (.iconst 0, 1) := by decide +kernel
theorem dX1_isAllowed_115 : decode cX1_isAllowed 115 = .ok (.ireturn, 1) := by decide +kernel
theorem dX1_isAllowed_116 : decode cX1_isAllowed 116 = .ok (.aload_n 2, 1) := by decide +kernel
theorem dX1_isAllowed_117 : decode cX1_isAllowed 117 = .ok (.aload_n 2, 1) := by decide +kernel
theorem dX1_isAllowed_118 : decode cX1_isAllowed 118 = .ok (.getfield 79, 3) := by decide +kernel
theorem dX1_isAllowed_121 : decode cX1_isAllowed 121 = .ok (.invokevirtual 82, 3) := by decide +kernel
theorem dX1_isAllowed_124 : decode cX1_isAllowed 124 = .ok (.iconst 1, 1) := by decide +kernel
theorem dX1_isAllowed_125 : decode cX1_isAllowed 125 = .ok (.isub, 1) := by decide +kernel
theorem dX1_isAllowed_126 : decode cX1_isAllowed 126 = .ok (.invokevirtual 85, 3) := by decide +kernel
theorem dX1_isAllowed_129 : decode cX1_isAllowed 129 = .ok (.ireturn, 1) := by decide +kernel
theorem dX1_isAllowed_130 : decode cX1_isAllowed 130 = .ok (.iconst 0, 1) := by decide +kernel
theorem dX1_isAllowed_131 : decode cX1_isAllowed 131 = .ok (.ireturn, 1) := by decide +kernel
theorem dX1_readGate_0 : decode cX1_readGate 0 = .ok (.aload_n 0, 1) := by decide +kernel
theorem dX1_readGate_1 : decode cX1_readGate 1 = .ok (.aload_n 1, 1) := by decide +kernel
theorem dX1_readGate_2 : decode cX1_readGate 2 = .ok (.getfield 63, 3) := by decide +kernel
theorem dX1_readGate_5 : decode cX1_readGate 5 = .ok (.iconst 1, 1) := by decide +kernel
theorem dX1_readGate_6 : decode cX1_readGate 6 = .ok (.aload_n 1, 1) := by decide +kernel
theorem dX1_readGate_7 : decode cX1_readGate 7 = .ok (.invokevirtual 89, 3) := by decide +kernel
theorem dX1_readGate_10 : decode cX1_readGate 10 = .ok (.iconst 1, 1) := by decide +kernel
theorem dX1_readGate_11 : decode cX1_readGate 11 = .ok (.isub, 1) := by decide +kernel
theorem dX1_readGate_12 : decode cX1_readGate 12 = .ok (.invokevirtual 91, 3) := by decide +kernel
theorem dX1_readGate_15 : decode cX1_readGate 15 = .ok (.istore_n 2, 1) := by decide +kernel
theorem dX1_readGate_16 : decode cX1_readGate 16 = .ok (.aload_n 0, 1) := by decide +kernel
theorem dX1_readGate_17 : decode cX1_readGate 17 = .ok (.iconst 2, 1) := by decide +kernel
theorem dX1_readGate_18 : decode cX1_readGate 18 = .ok (.iconst 2, 1) := by decide +kernel
theorem dX1_readGate_19 : decode cX1_readGate 19 = .ok (.bipush 24, 2) := by decide +kernel
theorem dX1_readGate_21 : decode cX1_readGate 21 = .ok (.invokevirtual 30, 3) := by decide +kernel
theorem dX1_readGate_24 : decode cX1_readGate 24 = .ok (.istore_n 3, 1) := by decide +kernel
theorem dX1_readGate_25 : decode cX1_readGate 25 = .ok (.aload_n 0, 1) := by decide +kernel
theorem dX1_readGate_26 : decode cX1_readGate 26 = .ok (.iconst 2, 1) := by decide +kernel
theorem dX1_readGate_27 : decode cX1_readGate 27 = .ok (.iconst 0, 1) := by decide +kernel
theorem dX1_readGate_28 : decode cX1_readGate 28 = .ok (.iload_n 3, 1) := by decide +kernel
theorem dX1_readGate_29 : decode cX1_readGate 29 = .ok (.iconst 1, 1) := by decide +kernel
theorem dX1_readGate_30 : decode cX1_readGate 30 = .ok (.isub, 1) := by decide +kernel
theorem dX1_readGate_31 : decode cX1_readGate 31 = .ok (.invokevirtual 30, 3) := by decide +kernel
theorem dX1_readGate_34 : decode cX1_readGate 34 = .ok (.istore 4, 2) := by decide +kernel
theorem dX1_readGate_36 : decode cX1_readGate 36 = .ok (.aload_n 0, 1) := by decide +kernel
theorem dX1_readGate_37 : decode cX1_readGate 37 = .ok (.iconst 2, 1) := by decide +kernel
theorem dX1_readGate_38 : decode cX1_readGate 38 = .ok (.iconst 0, 1) := by decide +kernel
theorem dX1_readGate_39 : decode cX1_readGate 39 = .ok (.iload_n 3, 1) := by decide +kernel
theorem dX1_readGate_40 : decode cX1_readGate 40 = .ok (.iconst 1, 1) := by decide +kernel
theorem dX1_readGate_41 : decode cX1_readGate 41 = .ok (.isub, 1) := by decide +kernel
theorem dX1_readGate_42 : decode cX1_readGate 42 = .ok (.invokevirtual 30, 3) := by decide +kernel
theorem dX1_readGate_45 : decode cX1_readGate 45 = .ok (.istore 5, 2) := by decide +kernel
theorem dX1_readGate_47 : decode cX1_readGate 47 = .ok (.aload_n 0, 1) := by decide +kernel
theorem dX1_readGate_48 : decode cX1_readGate 48 = .ok (.getfield 26, 3) := by decide +kernel
theorem dX1_readGate_51 : decode cX1_readGate 51 = .ok (.ifCond .ne 14, 3) := by decide +kernel
theorem dX1_readGate_54 : decode cX1_readGate 54 = .ok (.aload_n 1, 1) := by decide +kernel
theorem dX1_readGate_55 : decode cX1_readGate 55 = .ok (.iload_n 2, 1) := by decide +kernel
theorem dX1_readGate_56 : decode cX1_readGate 56 = .ok (.iload_n 3, 1) := by decide +kernel
theorem dX1_readGate_57 : decode cX1_readGate 57 = .ok (.iload 4, 2) := by decide +kernel
theorem dX1_readGate_59 : decode cX1_readGate 59 = .ok (.iload 5, 2) := by decide +kernel
theorem dX1_readGate_61 : decode cX1_readGate 61 = .ok (.invokevirtual 95, 3) := by decide +kernel
theorem dX1_readGate_64 : decode cX1_readGate 64 = .ok (.pop, 1) := by decide +kernel
theorem dX1_readGate_65 : decode cX1_readGate 65 = .ok (.return_, 1) := by decide +kernel
theorem dX1_readBay_0 : decode cX1_readBay 0 = .ok (.aload_n 0, 1) := by decide +kernel
theorem dX1_readBay_1 : decode cX1_readBay 1 = .ok (.aload_n 1, 1) := by decide +kernel
theorem dX1_readBay_2 : decode cX1_readBay 2 = .ok (.getfield 73, 3) := by decide +kernel
theorem dX1_readBay_5 : decode cX1_readBay 5 = .ok (.iconst 1, 1) := by decide +kernel
theorem dX1_readBay_6 : decode cX1_readBay 6 = .ok (.aload_n 1, 1) := by decide +kernel
theorem dX1_readBay_7 : decode cX1_readBay 7 = .ok (.invokevirtual 89, 3) := by decide +kernel
theorem dX1_readBay_10 : decode cX1_readBay 10 = .ok (.iconst 1, 1) := by decide +kernel
theorem dX1_readBay_11 : decode cX1_readBay 11 = .ok (.isub, 1) := by decide +kernel
theorem dX1_readBay_12 : decode cX1_readBay 12 = .ok (.invokevirtual 91, 3) := by decide +kernel
theorem dX1_readBay_15 : decode cX1_readBay 15 = .ok (.istore_n 2, 1) := by decide +kernel
theorem dX1_readBay_16 : decode cX1_readBay 16 = .ok (.aload_n 0, 1) := by decide +kernel
theorem dX1_readBay_17 : decode cX1_readBay 17 = .ok (.iconst 1, 1) := by decide +kernel
theorem dX1_readBay_18 : decode cX1_readBay 18 = .ok (.iconst 1, 1) := by decide +kernel
theorem dX1_readBay_19 : decode cX1_readBay 19 = .ok (.bipush 6, 2) := by decide +kernel
theorem dX1_readBay_21 : decode cX1_readBay 21 = .ok (.invokevirtual 30, 3) := by decide +kernel
theorem dX1_readBay_24 : decode cX1_readBay 24 = .ok (.istore_n 3, 1) := by decide +kernel
theorem dX1_readBay_25 : decode cX1_readBay 25 = .ok (.aload_n 0, 1) := by decide +kernel
theorem dX1_readBay_26 : decode cX1_readBay 26 = .ok (.getfield 26, 3) := by decide +kernel
theorem dX1_readBay_29 : decode cX1_readBay 29 = .ok (.ifCond .ne 10, 3) := by decide +kernel
theorem dX1_readBay_32 : decode cX1_readBay 32 = .ok (.aload_n 1, 1) := by decide +kernel
theorem dX1_readBay_33 : decode cX1_readBay 33 = .ok (.iload_n 2, 1) := by decide +kernel
theorem dX1_readBay_34 : decode cX1_readBay 34 = .ok (.iload_n 3, 1) := by decide +kernel
theorem dX1_readBay_35 : decode cX1_readBay 35 = .ok (.invokevirtual 99, 3) := by decide +kernel
theorem dX1_readBay_38 : decode cX1_readBay 38 = .ok (.pop, 1) := by decide +kernel
theorem dX1_readBay_39 : decode cX1_readBay 39 = .ok (.return_, 1) := by decide +kernel
theorem dX1_readDepot_0 : decode cX1_readDepot 0 = .ok (.aload_n 0, 1) := by decide +kernel
theorem dX1_readDepot_1 : decode cX1_readDepot 1 = .ok (.aload_n 1, 1) := by decide +kernel
theorem dX1_readDepot_2 : decode cX1_readDepot 2 = .ok (.getfield 76, 3) := by decide +kernel
theorem dX1_readDepot_5 : decode cX1_readDepot 5 = .ok (.iconst 0, 1) := by decide +kernel
theorem dX1_readDepot_6 : decode cX1_readDepot 6 = .ok (.aload_n 1, 1) := by decide +kernel
theorem dX1_readDepot_7 : decode cX1_readDepot 7 = .ok (.invokevirtual 89, 3) := by decide +kernel
theorem dX1_readDepot_10 : decode cX1_readDepot 10 = .ok (.invokevirtual 91, 3) := by decide +kernel
theorem dX1_readDepot_13 : decode cX1_readDepot 13 = .ok (.istore_n 2, 1) := by decide +kernel
theorem dX1_readDepot_14 : decode cX1_readDepot 14 = .ok (.aload_n 0, 1) := by decide +kernel
theorem dX1_readDepot_15 : decode cX1_readDepot 15 = .ok (.iconst 3, 1) := by decide +kernel
theorem dX1_readDepot_16 : decode cX1_readDepot 16 = .ok (.iconst 0, 1) := by decide +kernel
theorem dX1_readDepot_17 : decode cX1_readDepot 17 = .ok (.sipush 999, 3) := by decide +kernel
theorem dX1_readDepot_20 : decode cX1_readDepot 20 = .ok (.invokevirtual 30, 3) := by decide +kernel
theorem dX1_readDepot_23 : decode cX1_readDepot 23 = .ok (.istore_n 3, 1) := by decide +kernel
theorem dX1_readDepot_24 : decode cX1_readDepot 24 = .ok (.aload_n 0, 1) := by decide +kernel
theorem dX1_readDepot_25 : decode cX1_readDepot 25 = .ok (.getfield 26, 3) := by decide +kernel
theorem dX1_readDepot_28 : decode cX1_readDepot 28 = .ok (.ifCond .ne 10, 3) := by decide +kernel
theorem dX1_readDepot_31 : decode cX1_readDepot 31 = .ok (.aload_n 1, 1) := by decide +kernel
theorem dX1_readDepot_32 : decode cX1_readDepot 32 = .ok (.iload_n 2, 1) := by decide +kernel
theorem dX1_readDepot_33 : decode cX1_readDepot 33 = .ok (.iload_n 3, 1) := by decide +kernel
theorem dX1_readDepot_34 : decode cX1_readDepot 34 = .ok (.invokevirtual 103, 3) := by decide +kernel
theorem dX1_readDepot_37 : decode cX1_readDepot 37 = .ok (.pop, 1) := by decide +kernel
theorem dX1_readDepot_38 : decode cX1_readDepot 38 = .ok (.return_, 1) := by decide +kernel
theorem dX1_readVehicle_0 : decode cX1_readVehicle 0 = .ok (.aload_n 0, 1) := by decide +kernel
theorem dX1_readVehicle_1 : decode cX1_readVehicle 1 = .ok (.iconst 1, 1) := by decide +kernel
theorem dX1_readVehicle_2 : decode cX1_readVehicle 2 = .ok (.iconst 1, 1) := by decide +kernel
theorem dX1_readVehicle_3 : decode cX1_readVehicle 3 = .ok (.bipush 9, 2) := by decide +kernel
theorem dX1_readVehicle_5 : decode cX1_readVehicle 5 = .ok (.invokevirtual 30, 3) := by decide +kernel
theorem dX1_readVehicle_8 : decode cX1_readVehicle 8 = .ok (.istore_n 2, 1) := by decide +kernel
theorem dX1_readVehicle_9 : decode cX1_readVehicle 9 = .ok (.aload_n 0, 1) := by decide +kernel
theorem dX1_readVehicle_10 : decode cX1_readVehicle 10 = .ok (.iconst 1, 1) := by decide +kernel
theorem dX1_readVehicle_11 : decode cX1_readVehicle 11 = .ok (.iconst 1, 1) := by decide +kernel
theorem dX1_readVehicle_12 : decode cX1_readVehicle 12 = .ok (.iconst 4, 1) := by decide +kernel
theorem dX1_readVehicle_13 : decode cX1_readVehicle 13 = .ok (.invokevirtual 30, 3) := by decide +kernel
theorem dX1_readVehicle_16 : decode cX1_readVehicle 16 = .ok (.istore_n 3, 1) := by decide +kernel
theorem dX1_readVehicle_17 : decode cX1_readVehicle 17 = .ok (.aload_n 0, 1) := by decide +kernel
theorem dX1_readVehicle_18 : decode cX1_readVehicle 18 = .ok (.iconst 2, 1) := by decide +kernel
theorem dX1_readVehicle_19 : decode cX1_readVehicle 19 = .ok (.bipush 20, 2) := by decide +kernel
theorem dX1_readVehicle_21 : decode cX1_readVehicle 21 = .ok (.bipush 99, 2) := by decide +kernel
theorem dX1_readVehicle_23 : decode cX1_readVehicle 23 = .ok (.invokevirtual 30, 3) := by decide +kernel
theorem dX1_readVehicle_26 : decode cX1_readVehicle 26 = .ok (.istore 4, 2) := by decide +kernel
theorem dX1_readVehicle_28 : decode cX1_readVehicle 28 = .ok (.aload_n 0, 1) := by decide +kernel
theorem dX1_readVehicle_29 : decode cX1_readVehicle 29 = .ok (.iconst 2, 1) := by decide +kernel
theorem dX1_readVehicle_30 : decode cX1_readVehicle 30 = .ok (.iconst 0, 1) := by decide +kernel
theorem dX1_readVehicle_31 : decode cX1_readVehicle 31 = .ok (.iload 4, 2) := by decide +kernel
theorem dX1_readVehicle_33 : decode cX1_readVehicle 33 = .ok (.invokevirtual 30, 3) := by decide +kernel
theorem dX1_readVehicle_36 : decode cX1_readVehicle 36 = .ok (.istore 5, 2) := by decide +kernel
theorem dX1_readVehicle_38 : decode cX1_readVehicle 38 = .ok (.aload_n 0, 1) := by decide +kernel
theorem dX1_readVehicle_39 : decode cX1_readVehicle 39 = .ok (.getfield 26, 3) := by decide +kernel
theorem dX1_readVehicle_42 : decode cX1_readVehicle 42 = .ok (.ifCond .ne 23, 3) := by decide +kernel
theorem dX1_readVehicle_45 : decode cX1_readVehicle 45 = .ok (.aload_n 1, 1) := by decide +kernel
theorem dX1_readVehicle_46 : decode cX1_readVehicle 46 = .ok (.aload_n 1, 1) := by decide +kernel
theorem dX1_readVehicle_47 : decode cX1_readVehicle 47 = .ok (.getfield 79, 3) := by decide +kernel
theorem dX1_readVehicle_50 : decode cX1_readVehicle 50 = .ok (.invokevirtual 82, 3) := by decide +kernel
theorem dX1_readVehicle_53 : decode cX1_readVehicle 53 = .ok (.iconst 1, 1) := by decide +kernel
theorem dX1_readVehicle_54 : decode cX1_readVehicle 54 = .ok (.isub, 1) := by decide +kernel
theorem dX1_readVehicle_55 : decode cX1_readVehicle 55 = .ok (.iload_n 2, 1) := by decide +kernel
theorem dX1_readVehicle_56 : decode cX1_readVehicle 56 = .ok (.iload_n 3, 1) := by decide +kernel
theorem dX1_readVehicle_57 : decode cX1_readVehicle 57 = .ok (.iload 4, 2) := by decide +kernel
theorem dX1_readVehicle_59 : decode cX1_readVehicle 59 = .ok (.iload 5, 2) := by decide +kernel
theorem dX1_readVehicle_61 : decode cX1_readVehicle 61 = .ok (.invokevirtual 106, 3) := by decide +kernel
theorem dX1_readVehicle_64 : decode cX1_readVehicle 64 = .ok (.pop, 1) := by decide +kernel
theorem dX1_readVehicle_65 : decode cX1_readVehicle 65 = .ok (.return_, 1) := by decide +kernel
theorem dX1_kilometer_0 : decode cX1_kilometer 0 = .ok (.aload_n 0, 1) := by decide +kernel
theorem dX1_kilometer_1 : decode cX1_kilometer 1 = .ok (.iconst 2, 1) := by decide +kernel
theorem dX1_kilometer_2 : decode cX1_kilometer 2 = .ok (.iload_n 2, 1) := by decide +kernel
theorem dX1_kilometer_3 : decode cX1_kilometer 3 = .ok (.iload_n 3, 1) := by decide +kernel
theorem dX1_kilometer_4 : decode cX1_kilometer 4 = .ok (.invokevirtual 30, 3) := by decide +kernel
theorem dX1_kilometer_7 : decode cX1_kilometer 7 = .ok (.istore 4, 2) := by decide +kernel
theorem dX1_kilometer_9 : decode cX1_kilometer 9 = .ok (.aload_n 0, 1) := by decide +kernel
theorem dX1_kilometer_10 : decode cX1_kilometer 10 = .ok (.getfield 26, 3) := by decide +kernel
theorem dX1_kilometer_13 : decode cX1_kilometer 13 = .ok (.ifCond .ne 29, 3) := by decide +kernel
theorem dX1_kilometer_16 : decode cX1_kilometer 16 = .ok (.aload_n 1, 1) := by decide +kernel
theorem dX1_kilometer_17 : decode cX1_kilometer 17 = .ok (.iload 4, 2) := by decide +kernel
theorem dX1_kilometer_19 : decode cX1_kilometer 19 = .ok (.invokevirtual 110, 3) := by decide +kernel
theorem dX1_kilometer_22 : decode cX1_kilometer 22 = .ok (.bipush (-9), 2) := by decide +kernel
theorem dX1_kilometer_24 : decode cX1_kilometer 24 = .ok (.if_icmp .eq 18, 3) := by decide +kernel
theorem dX1_kilometer_27 : decode cX1_kilometer 27 = .ok (.aload_n 0, 1) := by decide +kernel
theorem dX1_kilometer_28 : decode cX1_kilometer 28 = .ok (.iconst 1, 1) := by decide +kernel
theorem dX1_kilometer_29 : decode cX1_kilometer 29 = .ok (.putfield 26, 3) := by decide +kernel
theorem dX1_kilometer_32 : decode cX1_kilometer 32 = .ok (.aload_n 0, 1) := by decide +kernel
theorem dX1_kilometer_33 : decode cX1_kilometer 33 = .ok (.dup, 1) := by decide +kernel
theorem dX1_kilometer_34 : decode cX1_kilometer 34 = .ok (.getfield 19, 3) := by decide +kernel
theorem dX1_kilometer_37 : decode cX1_kilometer 37 = .ok (.iconst 1, 1) := by decide +kernel
theorem dX1_kilometer_38 : decode cX1_kilometer 38 = .ok (.isub, 1) := by decide +kernel
theorem dX1_kilometer_39 : decode cX1_kilometer 39 = .ok (.putfield 19, 3) := by decide +kernel
theorem dX1_kilometer_42 : decode cX1_kilometer 42 = .ok (.iload 4, 2) := by decide +kernel
theorem dX1_kilometer_44 : decode cX1_kilometer 44 = .ok (.ireturn, 1) := by decide +kernel
theorem dX1_number_0 : decode cX1_number 0 = .ok (.iconst 0, 1) := by decide +kernel
theorem dX1_number_1 : decode cX1_number 1 = .ok (.istore 4, 2) := by decide +kernel
theorem dX1_number_3 : decode cX1_number 3 = .ok (.iconst 1, 1) := by decide +kernel
theorem dX1_number_4 : decode cX1_number 4 = .ok (.istore 5, 2) := by decide +kernel
theorem dX1_number_6 : decode cX1_number 6 = .ok (.iconst 1, 1) := by decide +kernel
theorem dX1_number_7 : decode cX1_number 7 = .ok (.istore 6, 2) := by decide +kernel
theorem dX1_number_9 : decode cX1_number 9 = .ok (.iload 6, 2) := by decide +kernel
theorem dX1_number_11 : decode cX1_number 11 = .ok (.iload_n 1, 1) := by decide +kernel
theorem dX1_number_12 : decode cX1_number 12 = .ok (.if_icmp .ge 16, 3) := by decide +kernel
theorem dX1_number_15 : decode cX1_number 15 = .ok (.iload 5, 2) := by decide +kernel
theorem dX1_number_17 : decode cX1_number 17 = .ok (.bipush 10, 2) := by decide +kernel
theorem dX1_number_19 : decode cX1_number 19 = .ok (.imul, 1) := by decide +kernel
theorem dX1_number_20 : decode cX1_number 20 = .ok (.istore 5, 2) := by decide +kernel
theorem dX1_number_22 : decode cX1_number 22 = .ok (.iinc 6 1, 3) := by decide +kernel
theorem dX1_number_25 : decode cX1_number 25 = .ok (.goto (-16), 3) := by decide +kernel
theorem dX1_number_28 : decode cX1_number 28 = .ok (.iconst 0, 1) := by decide +kernel
theorem dX1_number_29 : decode cX1_number 29 = .ok (.istore 6, 2) := by decide +kernel
theorem dX1_number_31 : decode cX1_number 31 = .ok (.iload 6, 2) := by decide +kernel
theorem dX1_number_33 : decode cX1_number 33 = .ok (.iload_n 1, 1) := by decide +kernel
theorem dX1_number_34 : decode cX1_number 34 = .ok (.if_icmp .ge 109, 3) := by decide +kernel
theorem dX1_number_37 : decode cX1_number 37 = .ok (.aload_n 0, 1) := by decide +kernel
theorem dX1_number_38 : decode cX1_number 38 = .ok (.getfield 26, 3) := by decide +kernel
theorem dX1_number_41 : decode cX1_number 41 = .ok (.ifCond .ne 102, 3) := by decide +kernel
theorem dX1_number_44 : decode cX1_number 44 = .ok (.aload_n 0, 1) := by decide +kernel
theorem dX1_number_45 : decode cX1_number 45 = .ok (.invokevirtual 22, 3) := by decide +kernel
theorem dX1_number_48 : decode cX1_number 48 = .ok (.bipush 48, 2) := by decide +kernel
theorem dX1_number_50 : decode cX1_number 50 = .ok (.isub, 1) := by decide +kernel
theorem dX1_number_51 : decode cX1_number 51 = .ok (.istore 7, 2) := by decide +kernel
theorem dX1_number_53 : decode cX1_number 53 = .ok (.iload 4, 2) := by decide +kernel
theorem dX1_number_55 : decode cX1_number 55 = .ok (.bipush 10, 2) := by decide +kernel
theorem dX1_number_57 : decode cX1_number 57 = .ok (.imul, 1) := by decide +kernel
theorem dX1_number_58 : decode cX1_number 58 = .ok (.iload 7, 2) := by decide +kernel
theorem dX1_number_60 : decode cX1_number 60 = .ok (.iadd, 1) := by decide +kernel
theorem dX1_number_61 : decode cX1_number 61 = .ok (.iload 5, 2) := by decide +kernel
theorem dX1_number_63 : decode cX1_number 63 = .ok (.imul, 1) := by decide +kernel
theorem dX1_number_64 : decode cX1_number 64 = .ok (.istore 8, 2) := by decide +kernel
theorem dX1_number_66 : decode cX1_number 66 = .ok (.aload_n 0, 1) := by decide +kernel
theorem dX1_number_67 : decode cX1_number 67 = .ok (.iload 7, 2) := by decide +kernel
theorem dX1_number_69 : decode cX1_number 69 = .ok (.iconst 0, 1) := by decide +kernel
theorem dX1_number_70 : decode cX1_number 70 = .ok (.bipush 9, 2) := by decide +kernel
theorem dX1_number_72 : decode cX1_number 72 = .ok (.invokestatic 114, 3) := by decide +kernel
theorem dX1_number_75 : decode cX1_number 75 = .ok (.ifCond .eq 20, 3) := by decide +kernel
theorem dX1_number_78 : decode cX1_number 78 = .ok (.iload 8, 2) := by decide +kernel
theorem dX1_number_80 : decode cX1_number 80 = .ok (.iload_n 3, 1) := by decide +kernel
theorem dX1_number_81 : decode cX1_number 81 = .ok (.if_icmp .gt 14, 3) := by decide +kernel
theorem dX1_number_84 : decode cX1_number 84 = .ok (.iload 8, 2) := by decide +kernel
theorem dX1_number_86 : decode cX1_number 86 = .ok (.iload 5, 2) := by decide +kernel
theorem dX1_number_88 : decode cX1_number 88 = .ok (.iadd, 1) := by decide +kernel
theorem dX1_number_89 : decode cX1_number 89 = .ok (.iconst 1, 1) := by decide +kernel
theorem dX1_number_90 : decode cX1_number 90 = .ok (.isub, 1) := by decide +kernel
theorem dX1_number_91 : decode cX1_number 91 = .ok (.iload_n 2, 1) := by decide +kernel
theorem dX1_number_92 : decode cX1_number 92 = .ok (.if_icmp .ge 7, 3) := by decide +kernel
theorem dX1_number_95 : decode cX1_number 95 = .ok (.iconst 1, 1) := by decide +kernel
theorem dX1_number_96 : decode cX1_number 96 = .ok (.goto 4, 3) := by decide +kernel
theorem dX1_number_99 : decode cX1_number 99 = .ok (.iconst 0, 1) := by decide +kernel
theorem dX1_number_100 : decode cX1_number 100 = .ok (.putfield 26, 3) := by decide +kernel
theorem dX1_number_103 : decode cX1_number 103 = .ok (.aload_n 0, 1) := by decide +kernel
theorem dX1_number_104 : decode cX1_number 104 = .ok (.getfield 26, 3) := by decide +kernel
theorem dX1_number_107 : decode cX1_number 107 = .ok (.ifCond .ne 30, 3) := by decide +kernel
theorem dX1_number_110 : decode cX1_number 110 = .ok (.iload 4, 2) := by decide +kernel
theorem dX1_number_112 : decode cX1_number 112 = .ok (.bipush 10, 2) := by decide +kernel
theorem dX1_number_114 : decode cX1_number 114 = .ok (.imul, 1) := by decide +kernel
theorem dX1_number_115 : decode cX1_number 115 = .ok (.iload 7, 2) := by decide +kernel
theorem dX1_number_117 : decode cX1_number 117 = .ok (.iadd, 1) := by decide +kernel
theorem dX1_number_118 : decode cX1_number 118 = .ok (.istore 4, 2) := by decide +kernel
theorem dX1_number_120 : decode cX1_number 120 = .ok (.aload_n 0, 1) := by decide +kernel
theorem dX1_number_121 : decode cX1_number 121 = .ok (.dup, 1) := by decide +kernel
theorem dX1_number_122 : decode cX1_number 122 = .ok (.getfield 19, 3) := by decide +kernel
theorem dX1_number_125 : decode cX1_number 125 = .ok (.iconst 1, 1) := by decide +kernel
theorem dX1_number_126 : decode cX1_number 126 = .ok (.iadd, 1) := by decide +kernel
theorem dX1_number_127 : decode cX1_number 127 = .ok (.putfield 19, 3) := by decide +kernel
theorem dX1_number_130 : decode cX1_number 130 = .ok (.iload 5, 2) := by decide +kernel
theorem dX1_number_132 : decode cX1_number 132 = .ok (.bipush 10, 2) := by decide +kernel
theorem dX1_number_134 : decode cX1_number 134 = .ok (.idiv, 1) := by decide +kernel
theorem dX1_number_135 : decode cX1_number 135 = .ok (.istore 5, 2) := by decide +kernel
theorem dX1_number_137 : decode cX1_number 137 = .ok (.iinc 6 1, 3) := by decide +kernel
theorem dX1_number_140 : decode cX1_number 140 = .ok (.goto (-109), 3) := by decide +kernel
theorem dX1_number_143 : decode cX1_number 143 = .ok (.iload 4, 2) := by decide +kernel
theorem dX1_number_145 : decode cX1_number 145 = .ok (.ireturn, 1) := by decide +kernel
theorem dX2_init_0 : decode cX2_init 0 = .ok (.aload_n 0, 1) := by decide +kernel
theorem dX2_init_1 : decode cX2_init 1 = .ok (.invokespecial 3, 3) := by decide +kernel
theorem dX2_init_4 : decode cX2_init 4 = .ok (.aload_n 0, 1) := by decide +kernel
theorem dX2_init_5 : decode cX2_init 5 = .ok (.iload_n 2, 1) := by decide +kernel
theorem dX2_init_6 : decode cX2_init 6 = .ok (.putfield 9, 3) := by decide +kernel
theorem dX2_init_9 : decode cX2_init 9 = .ok (.aload_n 0, 1) := by decide +kernel
theorem dX2_init_10 : decode cX2_init 10 = .ok (.iconst 0, 1) := by decide +kernel
theorem dX2_init_11 : decode cX2_init 11 = .ok (.iload_n 1, 1) := by decide +kernel
theorem dX2_init_12 : decode cX2_init 12 = .ok (.invokestatic 15, 3) := by decide +kernel
theorem dX2_init_15 : decode cX2_init 15 = .ok (.newarray .int, 2) := by decide +kernel
theorem dX2_init_17 : decode cX2_init 17 = .ok (.putfield 21, 3) := by decide +kernel
theorem dX2_init_20 : decode cX2_init 20 = .ok (.aload_n 0, 1) := by decide +kernel
theorem dX2_init_21 : decode cX2_init 21 = .ok (.iconst 0, 1) := by decide +kernel
theorem dX2_init_22 : decode cX2_init 22 = .ok (.iload_n 1, 1) := by decide +kernel
theorem dX2_init_23 : decode cX2_init 23 = .ok (.iload_n 2, 1) := by decide +kernel
theorem dX2_init_24 : decode cX2_init 24 = .ok (.imul, 1) := by decide +kernel
theorem dX2_init_25 : decode cX2_init 25 = .ok (.invokestatic 15, 3) := by decide +kernel
theorem dX2_init_28 : decode cX2_init 28 = .ok (.newarray .int, 2) := by decide +kernel
theorem dX2_init_30 : decode cX2_init 30 = .ok (.putfield 25, 3) := by decide +kernel
theorem dX2_init_33 : decode cX2_init 33 = .ok (.return_, 1) := by decide +kernel
theorem dX2_size_0 : decode cX2_size 0 = .ok (.iload_n 1, 1) := by decide +kernel
theorem dX2_size_1 : decode cX2_size 1 = .ok (.ifCond .lt 21, 3) := by decide +kernel
theorem dX2_size_4 : decode cX2_size 4 = .ok (.iload_n 1, 1) := by decide +kernel
theorem dX2_size_5 : decode cX2_size 5 = .ok (.aload_n 0, 1) := by decide +kernel
theorem dX2_size_6 : decode cX2_size 6 = .ok (.getfield 21, 3) := by decide +kernel
theorem dX2_size_9 : decode cX2_size 9 = .ok (.arraylength, 1) := by decide +kernel
theorem dX2_size_10 : decode cX2_size 10 = .ok (.if_icmp .ge 12, 3) := by decide +kernel
theorem dX2_size_13 : decode cX2_size 13 = .ok (.aload_n 0, 1) := by decide +kernel
theorem dX2_size_14 : decode cX2_size 14 = .ok (.getfield 21, 3) := by decide +kernel
theorem dX2_size_17 : decode cX2_size 17 = .ok (.iload_n 1, 1) := by decide +kernel
theorem dX2_size_18 : decode cX2_size 18 = .ok (.iaload, 1) := by decide +kernel
theorem dX2_size_19 : decode cX2_size 19 = .ok (.goto 4, 3) := by decide +kernel
theorem dX2_size_22 : decode cX2_size 22 = .ok (.iconst 0, 1) := by decide +kernel
theorem dX2_size_23 : decode cX2_size 23 = .ok (.ireturn, 1) := by decide +kernel
theorem dX2_get_0 : decode cX2_get 0 = .ok (.iload_n 1, 1) := by decide +kernel
theorem dX2_get_1 : decode cX2_get 1 = .ok (.aload_n 0, 1) := by decide +kernel
theorem dX2_get_2 : decode cX2_get 2 = .ok (.getfield 9, 3) := by decide +kernel
theorem dX2_get_5 : decode cX2_get 5 = .ok (.imul, 1) := by decide +kernel
theorem dX2_get_6 : decode cX2_get 6 = .ok (.iload_n 2, 1) := by decide +kernel
theorem dX2_get_7 : decode cX2_get 7 = .ok (.iadd, 1) := by decide +kernel
theorem dX2_get_8 : decode cX2_get 8 = .ok (.istore_n 3, 1) := by decide +kernel
theorem dX2_get_9 : decode cX2_get 9 = .ok (.iload_n 1, 1) := by decide +kernel
theorem dX2_get_10 : decode cX2_get 10 = .ok (.ifCond .lt 30, 3) := by decide +kernel
theorem dX2_get_13 : decode cX2_get 13 = .ok (.iload_n 1, 1) := by decide +kernel
theorem dX2_get_14 : decode cX2_get 14 = .ok (.aload_n 0, 1) := by decide +kernel
theorem dX2_get_15 : decode cX2_get 15 = .ok (.getfield 21, 3) := by decide +kernel
theorem dX2_get_18 : decode cX2_get 18 = .ok (.arraylength, 1) := by decide +kernel
theorem dX2_get_19 : decode cX2_get 19 = .ok (.if_icmp .ge 21, 3) := by decide +kernel
theorem dX2_get_22 : decode cX2_get 22 = .ok (.iload_n 2, 1) := by decide +kernel
theorem dX2_get_23 : decode cX2_get 23 = .ok (.ifCond .lt 17, 3) := by decide +kernel
theorem dX2_get_26 : decode cX2_get 26 = .ok (.iload_n 2, 1) := by decide +kernel
theorem dX2_get_27 : decode cX2_get 27 = .ok (.aload_n 0, 1) := by decide +kernel
theorem dX2_get_28 : decode cX2_get 28 = .ok (.getfield 21, 3) := by decide +kernel
theorem dX2_get_31 : decode cX2_get 31 = .ok (.iload_n 1, 1) := by decide +kernel
theorem dX2_get_32 : decode cX2_get 32 = .ok (.iaload, 1) := by decide +kernel
theorem dX2_get_33 : decode cX2_get 33 = .ok (.if_icmp .ge 7, 3) := by decide +kernel
theorem dX2_get_36 : decode cX2_get 36 = .ok (.iconst 1, 1) := by decide +kernel
theorem dX2_get_37 : decode cX2_get 37 = .ok (.goto 4, 3) := by decide +kernel
theorem dX2_get_40 : decode cX2_get 40 = .ok (.iconst 0, 1) := by decide +kernel
theorem dX2_get_41 : decode cX2_get 41 = .ok (.istore 4, 2) := by decide +kernel
theorem dX2_get_43 : decode cX2_get 43 = .ok (.iload 4, 2) := by decide +kernel
theorem dX2_get_45 : decode cX2_get 45 = .ok (.ifCond .eq 25, 3) := by decide +kernel
theorem dX2_get_48 : decode cX2_get 48 = .ok (.iload_n 3, 1) := by decide +kernel
theorem dX2_get_49 : decode cX2_get 49 = .ok (.ifCond .lt 21, 3) := by decide +kernel
theorem dX2_get_52 : decode cX2_get 52 = .ok (.iload_n 3, 1) := by decide +kernel
theorem dX2_get_53 : decode cX2_get 53 = .ok (.aload_n 0, 1) := by decide +kernel
theorem dX2_get_54 : decode cX2_get 54 = .ok (.getfield 25, 3) := by decide +kernel
theorem dX2_get_57 : decode cX2_get 57 = .ok (.arraylength, 1) := by decide +kernel
theorem dX2_get_58 : decode cX2_get 58 = .ok (.if_icmp .ge 12, 3) := by decide +kernel
theorem dX2_get_61 : decode cX2_get 61 = .ok (.aload_n 0, 1) := by decide +kernel
theorem dX2_get_62 : decode cX2_get 62 = .ok (.getfield 25, 3) := by decide +kernel
theorem dX2_get_65 : decode cX2_get 65 = .ok (.iload_n 3, 1) := by decide +kernel
theorem dX2_get_66 : decode cX2_get 66 = .ok (.iaload, 1) := by decide +kernel
theorem dX2_get_67 : decode cX2_get 67 = .ok (.goto 5, 3) := by decide +kernel
theorem dX2_get_70 : decode cX2_get 70 = .ok (.bipush (-9), 2) := by decide +kernel
theorem dX2_get_72 : decode cX2_get 72 = .ok (.ireturn, 1) := by decide +kernel
theorem dX2_put_0 : decode cX2_put 0 = .ok (.iload_n 1, 1) := by decide +kernel
theorem dX2_put_1 : decode cX2_put 1 = .ok (.aload_n 0, 1) := by decide +kernel
theorem dX2_put_2 : decode cX2_put 2 = .ok (.getfield 9, 3) := by decide +kernel
theorem dX2_put_5 : decode cX2_put 5 = .ok (.imul, 1) := by decide +kernel
theorem dX2_put_6 : decode cX2_put 6 = .ok (.iload_n 2, 1) := by decide +kernel
theorem dX2_put_7 : decode cX2_put 7 = .ok (.iadd, 1) := by decide +kernel
theorem dX2_put_8 : decode cX2_put 8 = .ok (.istore 4, 2) := by decide +kernel
theorem dX2_put_10 : decode cX2_put 10 = .ok (.iload_n 1, 1) := by decide +kernel
theorem dX2_put_11 : decode cX2_put 11 = .ok (.ifCond .lt 30, 3) := by decide +kernel
theorem dX2_put_14 : decode cX2_put 14 = .ok (.iload_n 1, 1) := by decide +kernel
theorem dX2_put_15 : decode cX2_put 15 = .ok (.aload_n 0, 1) := by decide +kernel
theorem dX2_put_16 : decode cX2_put 16 = .ok (.getfield 21, 3) := by decide +kernel
theorem dX2_put_19 : decode cX2_put 19 = .ok (.arraylength, 1) := by decide +kernel
theorem dX2_put_20 : decode cX2_put 20 = .ok (.if_icmp .ge 21, 3) := by decide +kernel
theorem dX2_put_23 : decode cX2_put 23 = .ok (.iload_n 2, 1) := by decide +kernel
theorem dX2_put_24 : decode cX2_put 24 = .ok (.ifCond .lt 17, 3) := by decide +kernel
theorem dX2_put_27 : decode cX2_put 27 = .ok (.iload_n 2, 1) := by decide +kernel
theorem dX2_put_28 : decode cX2_put 28 = .ok (.aload_n 0, 1) := by decide +kernel
theorem dX2_put_29 : decode cX2_put 29 = .ok (.getfield 21, 3) := by decide +kernel
theorem dX2_put_32 : decode cX2_put 32 = .ok (.iload_n 1, 1) := by decide +kernel
theorem dX2_put_33 : decode cX2_put 33 = .ok (.iaload, 1) := by decide +kernel
theorem dX2_put_34 : decode cX2_put 34 = .ok (.if_icmp .ge 7, 3) := by decide +kernel
theorem dX2_put_37 : decode cX2_put 37 = .ok (.iconst 1, 1) := by decide +kernel
theorem dX2_put_38 : decode cX2_put 38 = .ok (.goto 4, 3) := by decide +kernel
theorem dX2_put_41 : decode cX2_put 41 = .ok (.iconst 0, 1) := by decide +kernel
theorem dX2_put_42 : decode cX2_put 42 = .ok (.istore 5, 2) := by decide +kernel
theorem dX2_put_44 : decode cX2_put 44 = .ok (.iload 5, 2) := by decide +kernel
theorem dX2_put_46 : decode cX2_put 46 = .ok (.ifCond .eq 26, 3) := by decide +kernel
theorem dX2_put_49 : decode cX2_put 49 = .ok (.iload 4, 2) := by decide +kernel
theorem dX2_put_51 : decode cX2_put 51 = .ok (.ifCond .lt 21, 3) := by decide +kernel
theorem dX2_put_54 : decode cX2_put 54 = .ok (.iload 4, 2) := by decide +kernel
theorem dX2_put_56 : decode cX2_put 56 = .ok (.aload_n 0, 1) := by decide +kernel
theorem dX2_put_57 : decode cX2_put 57 = .ok (.getfield 25, 3) := by decide +kernel
theorem dX2_put_60 : decode cX2_put 60 = .ok (.arraylength, 1) := by decide +kernel
theorem dX2_put_61 : decode cX2_put 61 = .ok (.if_icmp .ge 11, 3) := by decide +kernel
theorem dX2_put_64 : decode cX2_put 64 = .ok (.aload_n 0, 1) := by decide +kernel
theorem dX2_put_65 : decode cX2_put 65 = .ok (.getfield 25, 3) := by decide +kernel
theorem dX2_put_68 : decode cX2_put 68 = .ok (.iload 4, 2) := by decide +kernel
theorem dX2_put_70 : decode cX2_put 70 = .ok (.iload_n 3, 1) := by decide +kernel
theorem dX2_put_71 : decode cX2_put 71 = .ok (.iastore, 1) := by decide +kernel
theorem dX2_put_72 : decode cX2_put 72 = .ok (.return_, 1) := by decide +kernel
theorem dX2_join_0 : decode cX2_join 0 = .ok (.iload_n 1, 1) := by decide +kernel
theorem dX2_join_1 : decode cX2_join 1 = .ok (.ifCond .lt 25, 3) := by decide +kernel
theorem dX2_join_4 : decode cX2_join 4 = .ok (.iload_n 1, 1) := by decide +kernel
theorem dX2_join_5 : decode cX2_join 5 = .ok (.aload_n 0, 1) := by decide +kernel
theorem dX2_join_6 : decode cX2_join 6 = .ok (.getfield 21, 3) := by decide +kernel
theorem dX2_join_9 : decode cX2_join 9 = .ok (.arraylength, 1) := by decide +kernel
theorem dX2_join_10 : decode cX2_join 10 = .ok (.if_icmp .ge 16, 3) := by decide +kernel
theorem dX2_join_13 : decode cX2_join 13 = .ok (.aload_n 0, 1) := by decide +kernel
theorem dX2_join_14 : decode cX2_join 14 = .ok (.getfield 21, 3) := by decide +kernel
theorem dX2_join_17 : decode cX2_join 17 = .ok (.iload_n 1, 1) := by decide +kernel
theorem dX2_join_18 : decode cX2_join 18 = .ok (.iaload, 1) := by decide +kernel
theorem dX2_join_19 : decode cX2_join 19 = .ok (.aload_n 0, 1) := by decide +kernel
theorem dX2_join_20 : decode cX2_join 20 = .ok (.getfield 9, 3) := by decide +kernel
theorem dX2_join_23 : decode cX2_join 23 = .ok (.if_icmp .lt 4, 3) := by decide +kernel
theorem dX2_join_26 : decode cX2_join 26 = .ok (.return_, 1) := by decide +kernel
theorem dX2_join_27 : decode cX2_join 27 = .ok (.aload_n 0, 1) := by decide +kernel
theorem dX2_join_28 : decode cX2_join 28 = .ok (.getfield 21, 3) := by decide +kernel
theorem dX2_join_31 : decode cX2_join 31 = .ok (.iload_n 1, 1) := by decide +kernel
theorem dX2_join_32 : decode cX2_join 32 = .ok (.dup2, 1) := by decide +kernel
theorem dX2_join_33 : decode cX2_join 33 = .ok (.iaload, 1) := by decide +kernel
theorem dX2_join_34 : decode cX2_join 34 = .ok (.iconst 1, 1) := by decide +kernel
theorem dX2_join_35 : decode cX2_join 35 = .ok (.iadd, 1) := by decide +kernel
theorem dX2_join_36 : decode cX2_join 36 = .ok (.iastore, 1) := by decide +kernel
theorem dX2_join_37 : decode cX2_join 37 = .ok (.aload_n 0, 1) := by decide +kernel
theorem dX2_join_38 : decode cX2_join 38 = .ok (.iload_n 1, 1) := by decide +kernel
theorem dX2_join_39 : decode cX2_join 39 = .ok (.aload_n 0, 1) := by decide +kernel
theorem dX2_join_40 : decode cX2_join 40 = .ok (.getfield 21, 3) := by decide +kernel
theorem dX2_join_43 : decode cX2_join 43 = .ok (.iload_n 1, 1) := by decide +kernel
theorem dX2_join_44 : decode cX2_join 44 = .ok (.iaload, 1) := by decide +kernel
theorem dX2_join_45 : decode cX2_join 45 = .ok (.iconst 1, 1) := by decide +kernel
theorem dX2_join_46 : decode cX2_join 46 = .ok (.isub, 1) := by decide +kernel
theorem dX2_join_47 : decode cX2_join 47 = .ok (.iload_n 2, 1) := by decide +kernel
theorem dX2_join_48 : decode cX2_join 48 = .ok (.invokevirtual 28, 3) := by decide +kernel
theorem dX2_join_51 : decode cX2_join 51 = .ok (.return_, 1) := by decide +kernel
theorem dX2_remove_0 : decode cX2_remove 0 = .ok (.iload_n 1, 1) := by decide +kernel
theorem dX2_remove_1 : decode cX2_remove 1 = .ok (.ifCond .lt 26, 3) := by decide +kernel
theorem dX2_remove_4 : decode cX2_remove 4 = .ok (.iload_n 1, 1) := by decide +kernel
theorem dX2_remove_5 : decode cX2_remove 5 = .ok (.aload_n 0, 1) := by decide +kernel
theorem dX2_remove_6 : decode cX2_remove 6 = .ok (.getfield 21, 3) := by decide +kernel
theorem dX2_remove_9 : decode cX2_remove 9 = .ok (.arraylength, 1) := by decide +kernel
theorem dX2_remove_10 : decode cX2_remove 10 = .ok (.if_icmp .ge 17, 3) := by decide +kernel
theorem dX2_remove_13 : decode cX2_remove 13 = .ok (.iload_n 2, 1) := by decide +kernel
theorem dX2_remove_14 : decode cX2_remove 14 = .ok (.ifCond .lt 13, 3) := by decide +kernel
theorem dX2_remove_17 : decode cX2_remove 17 = .ok (.iload_n 2, 1) := by decide +kernel
theorem dX2_remove_18 : decode cX2_remove 18 = .ok (.aload_n 0, 1) := by decide +kernel
theorem dX2_remove_19 : decode cX2_remove 19 = .ok (.getfield 21, 3) := by decide +kernel
theorem dX2_remove_22 : decode cX2_remove 22 = .ok (.iload_n 1, 1) := by decide +kernel
theorem dX2_remove_23 : decode cX2_remove 23 = .ok (.iaload, 1) := by decide +kernel
theorem dX2_remove_24 : decode cX2_remove 24 = .ok (.if_icmp .lt 4, 3) := by decide +kernel
theorem dX2_remove_27 : decode cX2_remove 27 = .ok (.return_, 1) := by decide +kernel
theorem dX2_remove_28 : decode cX2_remove 28 = .ok (.iload_n 2, 1) := by decide +kernel
theorem dX2_remove_29 : decode cX2_remove 29 = .ok (.istore_n 3, 1) := by decide +kernel
theorem dX2_remove_30 : decode cX2_remove 30 = .ok (.iload_n 3, 1) := by decide +kernel
theorem dX2_remove_31 : decode cX2_remove 31 = .ok (.aload_n 0, 1) := by decide +kernel
theorem dX2_remove_32 : decode cX2_remove 32 = .ok (.getfield 21, 3) := by decide +kernel
theorem dX2_remove_35 : decode cX2_remove 35 = .ok (.iload_n 1, 1) := by decide +kernel
theorem dX2_remove_36 : decode cX2_remove 36 = .ok (.iaload, 1) := by decide +kernel
theorem dX2_remove_37 : decode cX2_remove 37 = .ok (.iconst 1, 1) := by decide +kernel
theorem dX2_remove_38 : decode cX2_remove 38 = .ok (.isub, 1) := by decide +kernel
theorem dX2_remove_39 : decode cX2_remove 39 = .ok (.if_icmp .ge 23, 3) := by decide +kernel
theorem dX2_remove_42 : decode cX2_remove 42 = .ok (.aload_n 0, 1) := by decide +kernel
theorem dX2_remove_43 : decode cX2_remove 43 = .ok (.iload_n 1, 1) := by decide +kernel
theorem dX2_remove_44 : decode cX2_remove 44 = .ok (.iload_n 3, 1) := by decide +kernel
theorem dX2_remove_45 : decode cX2_remove 45 = .ok (.aload_n 0, 1) := by decide +kernel
theorem dX2_remove_46 : decode cX2_remove 46 = .ok (.iload_n 1, 1) := by decide +kernel
theorem dX2_remove_47 : decode cX2_remove 47 = .ok (.iload_n 3, 1) := by decide +kernel
theorem dX2_remove_48 : decode cX2_remove 48 = .ok (.iconst 1, 1) := by decide +kernel
theorem dX2_remove_49 : decode cX2_remove 49 = .ok (.iadd, 1) := by decide +kernel
theorem dX2_remove_50 : decode cX2_remove 50 = .ok (.invokevirtual 32, 3) := by decide +kernel
theorem dX2_remove_53 : decode cX2_remove 53 = .ok (.invokevirtual 28, 3) := by decide +kernel
theorem dX2_remove_56 : decode cX2_remove 56 = .ok (.iinc 3 1, 3) := by decide +kernel
theorem dX2_remove_59 : decode cX2_remove 59 = .ok (.goto (-29), 3) := by decide +kernel
theorem dX2_remove_62 : decode cX2_remove 62 = .ok (.aload_n 0, 1) := by decide +kernel
theorem dX2_remove_63 : decode cX2_remove 63 = .ok (.getfield 21, 3) := by decide +kernel
theorem dX2_remove_66 : decode cX2_remove 66 = .ok (.iload_n 1, 1) := by decide +kernel
theorem dX2_remove_67 : decode cX2_remove 67 = .ok (.dup2, 1) := by decide +kernel
theorem dX2_remove_68 : decode cX2_remove 68 = .ok (.iaload, 1) := by decide +kernel
theorem dX2_remove_69 : decode cX2_remove 69 = .ok (.iconst 1, 1) := by decide +kernel
theorem dX2_remove_70 : decode cX2_remove 70 = .ok (.isub, 1) := by decide +kernel
theorem dX2_remove_71 : decode cX2_remove 71 = .ok (.iastore, 1) := by decide +kernel
theorem dX2_remove_72 : decode cX2_remove 72 = .ok (.return_, 1) := by decide +kernel
theorem dX2_emptyLine_0 : decode cX2_emptyLine 0 = .ok (.iload_n 1, 1) := by decide +kernel
theorem dX2_emptyLine_1 : decode cX2_emptyLine 1 = .ok (.ifCond .lt 19, 3) := by decide +kernel
theorem dX2_emptyLine_4 : decode cX2_emptyLine 4 = .ok (.iload_n 1, 1) := by decide +kernel
theorem dX2_emptyLine_5 : decode cX2_emptyLine 5 = .ok (.aload_n 0, 1) := by decide +kernel
theorem dX2_emptyLine_6 : decode cX2_emptyLine 6 = .ok (.getfield 21, 3) := by decide +kernel
theorem dX2_emptyLine_9 : decode cX2_emptyLine 9 = .ok (.arraylength, 1) := by decide +kernel
theorem dX2_emptyLine_10 : decode cX2_emptyLine 10 = .ok (.if_icmp .ge 10, 3) := by decide +kernel
theorem dX2_emptyLine_13 : decode cX2_emptyLine 13 = .ok (.aload_n 0, 1) := by decide +kernel
theorem dX2_emptyLine_14 : decode cX2_emptyLine 14 = .ok (.getfield 21, 3) := by decide +kernel
theorem dX2_emptyLine_17 : decode cX2_emptyLine 17 = .ok (.iload_n 1, 1) := by decide +kernel
theorem dX2_emptyLine_18 : decode cX2_emptyLine 18 = .ok (.iconst 0, 1) := by decide +kernel
theorem dX2_emptyLine_19 : decode cX2_emptyLine 19 = .ok (.iastore, 1) := by decide +kernel
theorem dX2_emptyLine_20 : decode cX2_emptyLine 20 = .ok (.return_, 1) := by decide +kernel
theorem dX2_emptyOut_0 : decode cX2_emptyOut 0 = .ok (.iconst 0, 1) := by decide +kernel
theorem dX2_emptyOut_1 : decode cX2_emptyOut 1 = .ok (.istore_n 1, 1) := by decide +kernel
theorem dX2_emptyOut_2 : decode cX2_emptyOut 2 = .ok (.iload_n 1, 1) := by decide +kernel
theorem dX2_emptyOut_3 : decode cX2_emptyOut 3 = .ok (.aload_n 0, 1) := by decide +kernel
theorem dX2_emptyOut_4 : decode cX2_emptyOut 4 = .ok (.getfield 21, 3) := by decide +kernel
theorem dX2_emptyOut_7 : decode cX2_emptyOut 7 = .ok (.arraylength, 1) := by decide +kernel
theorem dX2_emptyOut_8 : decode cX2_emptyOut 8 = .ok (.if_icmp .ge 16, 3) := by decide +kernel
theorem dX2_emptyOut_11 : decode cX2_emptyOut 11 = .ok (.aload_n 0, 1) := by decide +kernel
theorem dX2_emptyOut_12 : decode cX2_emptyOut 12 = .ok (.getfield 21, 3) := by decide +kernel
theorem dX2_emptyOut_15 : decode cX2_emptyOut 15 = .ok (.iload_n 1, 1) := by decide +kernel
theorem dX2_emptyOut_16 : decode cX2_emptyOut 16 = .ok (.iconst 0, 1) := by decide +kernel
theorem dX2_emptyOut_17 : decode cX2_emptyOut 17 = .ok (.iastore, 1) := by decide +kernel
theorem dX2_emptyOut_18 : decode cX2_emptyOut 18 = .ok (.iinc 1 1, 3) := by decide +kernel
theorem dX2_emptyOut_21 : decode cX2_emptyOut 21 = .ok (.goto (-19), 3) := by decide +kernel
theorem dX2_emptyOut_24 : decode cX2_emptyOut 24 = .ok (.return_, 1) := by decide +kernel
theorem dX2_copyFrom_0 : decode cX2_copyFrom 0 = .ok (.aload_n 1, 1) := by decide +kernel
theorem dX2_copyFrom_1 : decode cX2_copyFrom 1 = .ok (.getfield 21, 3) := by decide +kernel
theorem dX2_copyFrom_4 : decode cX2_copyFrom 4 = .ok (.iconst 0, 1) := by decide +kernel
theorem dX2_copyFrom_5 : decode cX2_copyFrom 5 = .ok (.aload_n 0, 1) := by decide +kernel
theorem dX2_copyFrom_6 : decode cX2_copyFrom 6 = .ok (.getfield 21, 3) := by decide +kernel
theorem dX2_copyFrom_9 : decode cX2_copyFrom 9 = .ok (.iconst 0, 1) := by decide +kernel
theorem dX2_copyFrom_10 : decode cX2_copyFrom 10 = .ok (.aload_n 1, 1) := by decide +kernel
theorem dX2_copyFrom_11 : decode cX2_copyFrom 11 = .ok (.getfield 21, 3) := by decide +kernel
theorem dX2_copyFrom_14 : decode cX2_copyFrom 14 = .ok (.arraylength, 1) := by decide +kernel
theorem dX2_copyFrom_15 : decode cX2_copyFrom 15 = .ok (.aload_n 0, 1) := by decide +kernel
theorem dX2_copyFrom_16 : decode cX2_copyFrom 16 = .ok (.getfield 21, 3) := by decide +kernel
theorem dX2_copyFrom_19 : decode cX2_copyFrom 19 = .ok (.arraylength, 1) := by decide +kernel
theorem dX2_copyFrom_20 : decode cX2_copyFrom 20 = .ok (.invokestatic 35, 3) := by decide +kernel
theorem dX2_copyFrom_23 : decode cX2_copyFrom 23 = .ok (.invokestatic 38, 3) := by decide +kernel
theorem dX2_copyFrom_26 : decode cX2_copyFrom 26 = .ok (.aload_n 1, 1) := by decide +kernel
theorem dX2_copyFrom_27 : decode cX2_copyFrom 27 = .ok (.getfield 25, 3) := by decide +kernel
theorem dX2_copyFrom_30 : decode cX2_copyFrom 30 = .ok (.iconst 0, 1) := by decide +kernel
theorem dX2_copyFrom_31 : decode cX2_copyFrom 31 = .ok (.aload_n 0, 1) := by decide +kernel
theorem dX2_copyFrom_32 : decode cX2_copyFrom 32 = .ok (.getfield 25, 3) := by decide +kernel
theorem dX2_copyFrom_35 : decode cX2_copyFrom 35 = .ok (.iconst 0, 1) := by decide +kernel
theorem dX2_copyFrom_36 : decode cX2_copyFrom 36 = .ok (.aload_n 1, 1) := by decide +kernel
theorem dX2_copyFrom_37 : decode cX2_copyFrom 37 = .ok (.getfield 25, 3) := by decide +kernel
theorem dX2_copyFrom_40 : decode cX2_copyFrom 40 = .ok (.arraylength, 1) := by decide +kernel
theorem dX2_copyFrom_41 : decode cX2_copyFrom 41 = .ok (.aload_n 0, 1) := by decide +kernel
theorem dX2_copyFrom_42 : decode cX2_copyFrom 42 = .ok (.getfield 25, 3) := by decide +kernel
theorem dX2_copyFrom_45 : decode cX2_copyFrom 45 = .ok (.arraylength, 1) := by decide +kernel
theorem dX2_copyFrom_46 : decode cX2_copyFrom 46 = .ok (.invokestatic 35, 3) := by decide +kernel
theorem dX2_copyFrom_49 : decode cX2_copyFrom 49 = .ok (.invokestatic 38, 3) := by decide +kernel
theorem dX2_copyFrom_52 : decode cX2_copyFrom 52 = .ok (.return_, 1) := by decide +kernel
theorem dX3_init_0 : decode cX3_init 0 = .ok (.aload_n 0, 1) := by decide +kernel
theorem dX3_init_1 : decode cX3_init 1 = .ok (.invokespecial 1, 3) := by decide +kernel
theorem dX3_init_4 : decode cX3_init 4 = .ok (.aload_n 0, 1) := by decide +kernel
theorem dX3_init_5 : decode cX3_init 5 = .ok (.iconst 0, 1) := by decide +kernel
theorem dX3_init_6 : decode cX3_init 6 = .ok (.iload_n 1, 1) := by decide +kernel
theorem dX3_init_7 : decode cX3_init 7 = .ok (.invokestatic 7, 3) := by decide +kernel
theorem dX3_init_10 : decode cX3_init 10 = .ok (.anewarray 13, 3) := by decide +kernel
theorem dX3_init_13 : decode cX3_init 13 = .ok (.putfield 15, 3) := by decide +kernel
theorem dX3_init_16 : decode cX3_init 16 = .ok (.aload_n 0, 1) := by decide +kernel
theorem dX3_init_17 : decode cX3_init 17 = .ok (.iconst 0, 1) := by decide +kernel
theorem dX3_init_18 : decode cX3_init 18 = .ok (.iload_n 1, 1) := by decide +kernel
theorem dX3_init_19 : decode cX3_init 19 = .ok (.invokestatic 7, 3) := by decide +kernel
theorem dX3_init_22 : decode cX3_init 22 = .ok (.newarray .boolean, 2) := by decide +kernel
theorem dX3_init_24 : decode cX3_init 24 = .ok (.putfield 21, 3) := by decide +kernel
theorem dX3_init_27 : decode cX3_init 27 = .ok (.iconst 0, 1) := by decide +kernel
theorem dX3_init_28 : decode cX3_init 28 = .ok (.istore_n 2, 1) := by decide +kernel
theorem dX3_init_29 : decode cX3_init 29 = .ok (.iload_n 2, 1) := by decide +kernel
theorem dX3_init_30 : decode cX3_init 30 = .ok (.aload_n 0, 1) := by decide +kernel
theorem dX3_init_31 : decode cX3_init 31 = .ok (.getfield 15, 3) := by decide +kernel
theorem dX3_init_34 : decode cX3_init 34 = .ok (.arraylength, 1) := by decide +kernel
theorem dX3_init_35 : decode cX3_init 35 = .ok (.if_icmp .ge 22, 3) := by decide +kernel
theorem dX3_init_38 : decode cX3_init 38 = .ok (.aload_n 0, 1) := by decide +kernel
theorem dX3_init_39 : decode cX3_init 39 = .ok (.getfield 15, 3) := by decide +kernel
theorem dX3_init_42 : decode cX3_init 42 = .ok (.iload_n 2, 1) := by decide +kernel
theorem dX3_init_43 : decode cX3_init 43 = .ok (.new 13, 3) := by decide +kernel
theorem dX3_init_46 : decode cX3_init 46 = .ok (.dup, 1) := by decide +kernel
theorem dX3_init_47 : decode cX3_init 47 = .ok (.invokespecial 25, 3) := by decide +kernel
theorem dX3_init_50 : decode cX3_init 50 = .ok (.aastore, 1) := by decide +kernel
theorem dX3_init_51 : decode cX3_init 51 = .ok (.iinc 2 1, 3) := by decide +kernel
theorem dX3_init_54 : decode cX3_init 54 = .ok (.goto (-25), 3) := by decide +kernel
theorem dX3_init_57 : decode cX3_init 57 = .ok (.return_, 1) := by decide +kernel
theorem dX3_holds_0 : decode cX3_holds 0 = .ok (.iload_n 1, 1) := by decide +kernel
theorem dX3_holds_1 : decode cX3_holds 1 = .ok (.ifCond .lt 25, 3) := by decide +kernel
theorem dX3_holds_4 : decode cX3_holds 4 = .ok (.iload_n 1, 1) := by decide +kernel
theorem dX3_holds_5 : decode cX3_holds 5 = .ok (.aload_n 0, 1) := by decide +kernel
theorem dX3_holds_6 : decode cX3_holds 6 = .ok (.getfield 21, 3) := by decide +kernel
theorem dX3_holds_9 : decode cX3_holds 9 = .ok (.arraylength, 1) := by decide +kernel
theorem dX3_holds_10 : decode cX3_holds 10 = .ok (.if_icmp .ge 16, 3) := by decide +kernel
theorem dX3_holds_13 : decode cX3_holds 13 = .ok (.aload_n 0, 1) := by decide +kernel
theorem dX3_holds_14 : decode cX3_holds 14 = .ok (.getfield 21, 3) := by decide +kernel
theorem dX3_holds_17 : decode cX3_holds 17 = .ok (.iload_n 1, 1) := by decide +kernel
theorem dX3_holds_18 : decode cX3_holds 18 = .ok (.baload, 1) := by decide +kernel
theorem dX3_holds_19 : decode cX3_holds 19 = .ok (.ifCond .eq 7, 3) := by decide +kernel
theorem dX3_holds_22 : decode cX3_holds 22 = .ok (.iconst 1, 1) := by decide +kernel
theorem dX3_holds_23 : decode cX3_holds 23 = .ok (.goto 4, 3) := by decide +kernel
theorem dX3_holds_26 : decode cX3_holds 26 = .ok (.iconst 0, 1) := by decide +kernel
theorem dX3_holds_27 : decode cX3_holds 27 = .ok (.ireturn, 1) := by decide +kernel
theorem dX3_keep_0 : decode cX3_keep 0 = .ok (.aload_n 0, 1) := by decide +kernel
theorem dX3_keep_1 : decode cX3_keep 1 = .ok (.iload_n 1, 1) := by decide +kernel
theorem dX3_keep_2 : decode cX3_keep 2 = .ok (.invokevirtual 26, 3) := by decide +kernel
theorem dX3_keep_5 : decode cX3_keep 5 = .ok (.astore_n 3, 1) := by decide +kernel
theorem dX3_keep_6 : decode cX3_keep 6 = .ok (.aload_n 3, 1) := by decide +kernel
theorem dX3_keep_7 : decode cX3_keep 7 = .ok (.ifnull 28, 3) := by decide +kernel
theorem dX3_keep_10 : decode cX3_keep 10 = .ok (.iload_n 1, 1) := by decide +kernel
theorem dX3_keep_11 : decode cX3_keep 11 = .ok (.ifCond .lt 24, 3) := by decide +kernel
theorem dX3_keep_14 : decode cX3_keep 14 = .ok (.iload_n 1, 1) := by decide +kernel
theorem dX3_keep_15 : decode cX3_keep 15 = .ok (.aload_n 0, 1) := by decide +kernel
theorem dX3_keep_16 : decode cX3_keep 16 = .ok (.getfield 21, 3) := by decide +kernel
theorem dX3_keep_19 : decode cX3_keep 19 = .ok (.arraylength, 1) := by decide +kernel
theorem dX3_keep_20 : decode cX3_keep 20 = .ok (.if_icmp .ge 15, 3) := by decide +kernel
theorem dX3_keep_23 : decode cX3_keep 23 = .ok (.aload_n 3, 1) := by decide +kernel
theorem dX3_keep_24 : decode cX3_keep 24 = .ok (.aload_n 2, 1) := by decide +kernel
theorem dX3_keep_25 : decode cX3_keep 25 = .ok (.invokevirtual 30, 3) := by decide +kernel
theorem dX3_keep_28 : decode cX3_keep 28 = .ok (.aload_n 0, 1) := by decide +kernel
theorem dX3_keep_29 : decode cX3_keep 29 = .ok (.getfield 21, 3) := by decide +kernel
theorem dX3_keep_32 : decode cX3_keep 32 = .ok (.iload_n 1, 1) := by decide +kernel
theorem dX3_keep_33 : decode cX3_keep 33 = .ok (.iconst 1, 1) := by decide +kernel
theorem dX3_keep_34 : decode cX3_keep 34 = .ok (.bastore, 1) := by decide +kernel
theorem dX3_keep_35 : decode cX3_keep 35 = .ok (.return_, 1) := by decide +kernel
theorem dX3_giveBack_0 : decode cX3_giveBack 0 = .ok (.aload_n 0, 1) := by decide +kernel
theorem dX3_giveBack_1 : decode cX3_giveBack 1 = .ok (.iload_n 1, 1) := by decide +kernel
theorem dX3_giveBack_2 : decode cX3_giveBack 2 = .ok (.invokevirtual 26, 3) := by decide +kernel
theorem dX3_giveBack_5 : decode cX3_giveBack 5 = .ok (.astore_n 3, 1) := by decide +kernel
theorem dX3_giveBack_6 : decode cX3_giveBack 6 = .ok (.aload_n 3, 1) := by decide +kernel
theorem dX3_giveBack_7 : decode cX3_giveBack 7 = .ok (.ifnull 8, 3) := by decide +kernel
theorem dX3_giveBack_10 : decode cX3_giveBack 10 = .ok (.aload_n 2, 1) := by decide +kernel
theorem dX3_giveBack_11 : decode cX3_giveBack 11 = .ok (.aload_n 3, 1) := by decide +kernel
theorem dX3_giveBack_12 : decode cX3_giveBack 12 = .ok (.invokevirtual 30, 3) := by decide +kernel
theorem dX3_giveBack_15 : decode cX3_giveBack 15 = .ok (.return_, 1) := by decide +kernel
theorem dX3_emptyOut_0 : decode cX3_emptyOut 0 = .ok (.iconst 0, 1) := by decide +kernel
theorem dX3_emptyOut_1 : decode cX3_emptyOut 1 = .ok (.istore_n 1, 1) := by decide +kernel
theorem dX3_emptyOut_2 : decode cX3_emptyOut 2 = .ok (.iload_n 1, 1) := by decide +kernel
theorem dX3_emptyOut_3 : decode cX3_emptyOut 3 = .ok (.aload_n 0, 1) := by decide +kernel
theorem dX3_emptyOut_4 : decode cX3_emptyOut 4 = .ok (.getfield 21, 3) := by decide +kernel
theorem dX3_emptyOut_7 : decode cX3_emptyOut 7 = .ok (.arraylength, 1) := by decide +kernel
theorem dX3_emptyOut_8 : decode cX3_emptyOut 8 = .ok (.if_icmp .ge 16, 3) := by decide +kernel
theorem dX3_emptyOut_11 : decode cX3_emptyOut 11 = .ok (.aload_n 0, 1) := by decide +kernel
theorem dX3_emptyOut_12 : decode cX3_emptyOut 12 = .ok (.getfield 21, 3) := by decide +kernel
theorem dX3_emptyOut_15 : decode cX3_emptyOut 15 = .ok (.iload_n 1, 1) := by decide +kernel
theorem dX3_emptyOut_16 : decode cX3_emptyOut 16 = .ok (.iconst 0, 1) := by decide +kernel
theorem dX3_emptyOut_17 : decode cX3_emptyOut 17 = .ok (.bastore, 1) := by decide +kernel
theorem dX3_emptyOut_18 : decode cX3_emptyOut 18 = .ok (.iinc 1 1, 3) := by decide +kernel
theorem dX3_emptyOut_21 : decode cX3_emptyOut 21 = .ok (.goto (-19), 3) := by decide +kernel
theorem dX3_emptyOut_24 : decode cX3_emptyOut 24 = .ok (.return_, 1) := by decide +kernel
theorem dX3_copyAt_0 : decode cX3_copyAt 0 = .ok (.iload_n 1, 1) := by decide +kernel
theorem dX3_copyAt_1 : decode cX3_copyAt 1 = .ok (.ifCond .lt 21, 3) := by decide +kernel
theorem dX3_copyAt_4 : decode cX3_copyAt 4 = .ok (.iload_n 1, 1) := by decide +kernel
theorem dX3_copyAt_5 : decode cX3_copyAt 5 = .ok (.aload_n 0, 1) := by decide +kernel
theorem dX3_copyAt_6 : decode cX3_copyAt 6 = .ok (.getfield 15, 3) := by decide +kernel
theorem dX3_copyAt_9 : decode cX3_copyAt 9 = .ok (.arraylength, 1) := by decide +kernel
theorem dX3_copyAt_10 : decode cX3_copyAt 10 = .ok (.if_icmp .ge 12, 3) := by decide +kernel
theorem dX3_copyAt_13 : decode cX3_copyAt 13 = .ok (.aload_n 0, 1) := by decide +kernel
theorem dX3_copyAt_14 : decode cX3_copyAt 14 = .ok (.getfield 15, 3) := by decide +kernel
theorem dX3_copyAt_17 : decode cX3_copyAt 17 = .ok (.iload_n 1, 1) := by decide +kernel
theorem dX3_copyAt_18 : decode cX3_copyAt 18 = .ok (.aaload, 1) := by decide +kernel
theorem dX3_copyAt_19 : decode cX3_copyAt 19 = .ok (.goto 4, 3) := by decide +kernel
theorem dX3_copyAt_22 : decode cX3_copyAt 22 = .ok (.aconst_null, 1) := by decide +kernel
theorem dX3_copyAt_23 : decode cX3_copyAt 23 = .ok (.areturn, 1) := by decide +kernel
theorem dX4_init_0 : decode cX4_init 0 = .ok (.aload_n 0, 1) := by decide +kernel
theorem dX4_init_1 : decode cX4_init 1 = .ok (.invokespecial 3, 3) := by decide +kernel
theorem dX4_init_4 : decode cX4_init 4 = .ok (.aload_n 0, 1) := by decide +kernel
theorem dX4_init_5 : decode cX4_init 5 = .ok (.new 9, 3) := by decide +kernel
theorem dX4_init_8 : decode cX4_init 8 = .ok (.dup, 1) := by decide +kernel
theorem dX4_init_9 : decode cX4_init 9 = .ok (.iconst 4, 1) := by decide +kernel
theorem dX4_init_10 : decode cX4_init 10 = .ok (.iconst 4, 1) := by decide +kernel
theorem dX4_init_11 : decode cX4_init 11 = .ok (.invokespecial 11, 3) := by decide +kernel
theorem dX4_init_14 : decode cX4_init 14 = .ok (.putfield 14, 3) := by decide +kernel
theorem dX4_init_17 : decode cX4_init 17 = .ok (.aload_n 0, 1) := by decide +kernel
theorem dX4_init_18 : decode cX4_init 18 = .ok (.new 9, 3) := by decide +kernel
theorem dX4_init_21 : decode cX4_init 21 = .ok (.dup, 1) := by decide +kernel
theorem dX4_init_22 : decode cX4_init 22 = .ok (.bipush 6, 2) := by decide +kernel
theorem dX4_init_24 : decode cX4_init 24 = .ok (.iconst 2, 1) := by decide +kernel
theorem dX4_init_25 : decode cX4_init 25 = .ok (.invokespecial 11, 3) := by decide +kernel
theorem dX4_init_28 : decode cX4_init 28 = .ok (.putfield 20, 3) := by decide +kernel
theorem dX4_init_31 : decode cX4_init 31 = .ok (.aload_n 0, 1) := by decide +kernel
theorem dX4_init_32 : decode cX4_init 32 = .ok (.new 9, 3) := by decide +kernel
theorem dX4_init_35 : decode cX4_init 35 = .ok (.dup, 1) := by decide +kernel
theorem dX4_init_36 : decode cX4_init 36 = .ok (.iconst 4, 1) := by decide +kernel
theorem dX4_init_37 : decode cX4_init 37 = .ok (.iconst 2, 1) := by decide +kernel
theorem dX4_init_38 : decode cX4_init 38 = .ok (.invokespecial 11, 3) := by decide +kernel
theorem dX4_init_41 : decode cX4_init 41 = .ok (.putfield 23, 3) := by decide +kernel
theorem dX4_init_44 : decode cX4_init 44 = .ok (.aload_n 0, 1) := by decide +kernel
theorem dX4_init_45 : decode cX4_init 45 = .ok (.new 9, 3) := by decide +kernel
theorem dX4_init_48 : decode cX4_init 48 = .ok (.dup, 1) := by decide +kernel
theorem dX4_init_49 : decode cX4_init 49 = .ok (.iconst 4, 1) := by decide +kernel
theorem dX4_init_50 : decode cX4_init 50 = .ok (.iconst 4, 1) := by decide +kernel
theorem dX4_init_51 : decode cX4_init 51 = .ok (.invokespecial 11, 3) := by decide +kernel
theorem dX4_init_54 : decode cX4_init 54 = .ok (.putfield 26, 3) := by decide +kernel
theorem dX4_init_57 : decode cX4_init 57 = .ok (.aload_n 0, 1) := by decide +kernel
theorem dX4_init_58 : decode cX4_init 58 = .ok (.new 9, 3) := by decide +kernel
theorem dX4_init_61 : decode cX4_init 61 = .ok (.dup, 1) := by decide +kernel
theorem dX4_init_62 : decode cX4_init 62 = .ok (.bipush 16, 2) := by decide +kernel
theorem dX4_init_64 : decode cX4_init 64 = .ok (.bipush 7, 2) := by decide +kernel
theorem dX4_init_66 : decode cX4_init 66 = .ok (.invokespecial 11, 3) := by decide +kernel
theorem dX4_init_69 : decode cX4_init 69 = .ok (.putfield 29, 3) := by decide +kernel
theorem dX4_init_72 : decode cX4_init 72 = .ok (.aload_n 0, 1) := by decide +kernel
theorem dX4_init_73 : decode cX4_init 73 = .ok (.new 32, 3) := by decide +kernel
theorem dX4_init_76 : decode cX4_init 76 = .ok (.dup, 1) := by decide +kernel
theorem dX4_init_77 : decode cX4_init 77 = .ok (.iconst 4, 1) := by decide +kernel
theorem dX4_init_78 : decode cX4_init 78 = .ok (.bipush 8, 2) := by decide +kernel
theorem dX4_init_80 : decode cX4_init 80 = .ok (.invokespecial 34, 3) := by decide +kernel
theorem dX4_init_83 : decode cX4_init 83 = .ok (.putfield 35, 3) := by decide +kernel
theorem dX4_init_86 : decode cX4_init 86 = .ok (.aload_n 0, 1) := by decide +kernel
theorem dX4_init_87 : decode cX4_init 87 = .ok (.new 32, 3) := by decide +kernel
theorem dX4_init_90 : decode cX4_init 90 = .ok (.dup, 1) := by decide +kernel
theorem dX4_init_91 : decode cX4_init 91 = .ok (.bipush 6, 2) := by decide +kernel
theorem dX4_init_93 : decode cX4_init 93 = .ok (.bipush 6, 2) := by decide +kernel
theorem dX4_init_95 : decode cX4_init 95 = .ok (.invokespecial 34, 3) := by decide +kernel
theorem dX4_init_98 : decode cX4_init 98 = .ok (.putfield 39, 3) := by decide +kernel
theorem dX4_init_101 : decode cX4_init 101 = .ok (.aload_n 0, 1) := by decide +kernel
theorem dX4_init_102 : decode cX4_init 102 = .ok (.bipush (-9), 2) := by decide +kernel
theorem dX4_init_104 : decode cX4_init 104 = .ok (.putfield 42, 3) := by decide +kernel
theorem dX4_init_107 : decode cX4_init 107 = .ok (.aload_n 0, 1) := by decide +kernel
theorem dX4_init_108 : decode cX4_init 108 = .ok (.bipush (-9), 2) := by decide +kernel
theorem dX4_init_110 : decode cX4_init 110 = .ok (.putfield 46, 3) := by decide +kernel
theorem dX4_init_113 : decode cX4_init 113 = .ok (.return_, 1) := by decide +kernel
theorem dX4_length_0 : decode cX4_length 0 = .ok (.aload_n 0, 1) := by decide +kernel
theorem dX4_length_1 : decode cX4_length 1 = .ok (.getfield 49, 3) := by decide +kernel
theorem dX4_length_4 : decode cX4_length 4 = .ok (.ireturn, 1) := by decide +kernel
theorem dX4_hours_0 : decode cX4_hours 0 = .ok (.aload_n 0, 1) := by decide +kernel
theorem dX4_hours_1 : decode cX4_hours 1 = .ok (.getfield 52, 3) := by decide +kernel
theorem dX4_hours_4 : decode cX4_hours 4 = .ok (.ireturn, 1) := by decide +kernel
theorem dX4_begin_0 : decode cX4_begin 0 = .ok (.aload_n 0, 1) := by decide +kernel
theorem dX4_begin_1 : decode cX4_begin 1 = .ok (.iload_n 1, 1) := by decide +kernel
theorem dX4_begin_2 : decode cX4_begin 2 = .ok (.putfield 49, 3) := by decide +kernel
theorem dX4_begin_5 : decode cX4_begin 5 = .ok (.aload_n 0, 1) := by decide +kernel
theorem dX4_begin_6 : decode cX4_begin 6 = .ok (.iconst 0, 1) := by decide +kernel
theorem dX4_begin_7 : decode cX4_begin 7 = .ok (.putfield 52, 3) := by decide +kernel
theorem dX4_begin_10 : decode cX4_begin 10 = .ok (.aload_n 0, 1) := by decide +kernel
theorem dX4_begin_11 : decode cX4_begin 11 = .ok (.getfield 14, 3) := by decide +kernel
theorem dX4_begin_14 : decode cX4_begin 14 = .ok (.invokevirtual 55, 3) := by decide +kernel
theorem dX4_begin_17 : decode cX4_begin 17 = .ok (.aload_n 0, 1) := by decide +kernel
theorem dX4_begin_18 : decode cX4_begin 18 = .ok (.getfield 20, 3) := by decide +kernel
theorem dX4_begin_21 : decode cX4_begin 21 = .ok (.invokevirtual 55, 3) := by decide +kernel
theorem dX4_begin_24 : decode cX4_begin 24 = .ok (.aload_n 0, 1) := by decide +kernel
theorem dX4_begin_25 : decode cX4_begin 25 = .ok (.getfield 23, 3) := by decide +kernel
theorem dX4_begin_28 : decode cX4_begin 28 = .ok (.invokevirtual 55, 3) := by decide +kernel
theorem dX4_begin_31 : decode cX4_begin 31 = .ok (.aload_n 0, 1) := by decide +kernel
theorem dX4_begin_32 : decode cX4_begin 32 = .ok (.getfield 26, 3) := by decide +kernel
theorem dX4_begin_35 : decode cX4_begin 35 = .ok (.invokevirtual 55, 3) := by decide +kernel
theorem dX4_begin_38 : decode cX4_begin 38 = .ok (.aload_n 0, 1) := by decide +kernel
theorem dX4_begin_39 : decode cX4_begin 39 = .ok (.getfield 29, 3) := by decide +kernel
theorem dX4_begin_42 : decode cX4_begin 42 = .ok (.invokevirtual 55, 3) := by decide +kernel
theorem dX4_begin_45 : decode cX4_begin 45 = .ok (.aload_n 0, 1) := by decide +kernel
theorem dX4_begin_46 : decode cX4_begin 46 = .ok (.getfield 35, 3) := by decide +kernel
theorem dX4_begin_49 : decode cX4_begin 49 = .ok (.invokevirtual 58, 3) := by decide +kernel
theorem dX4_begin_52 : decode cX4_begin 52 = .ok (.aload_n 0, 1) := by decide +kernel
theorem dX4_begin_53 : decode cX4_begin 53 = .ok (.getfield 39, 3) := by decide +kernel
theorem dX4_begin_56 : decode cX4_begin 56 = .ok (.invokevirtual 58, 3) := by decide +kernel
theorem dX4_begin_59 : decode cX4_begin 59 = .ok (.return_, 1) := by decide +kernel
theorem dX4_copyFrom_0 : decode cX4_copyFrom 0 = .ok (.aload_n 0, 1) := by decide +kernel
theorem dX4_copyFrom_1 : decode cX4_copyFrom 1 = .ok (.aload_n 1, 1) := by decide +kernel
theorem dX4_copyFrom_2 : decode cX4_copyFrom 2 = .ok (.getfield 49, 3) := by decide +kernel
theorem dX4_copyFrom_5 : decode cX4_copyFrom 5 = .ok (.putfield 49, 3) := by decide +kernel
theorem dX4_copyFrom_8 : decode cX4_copyFrom 8 = .ok (.aload_n 0, 1) := by decide +kernel
theorem dX4_copyFrom_9 : decode cX4_copyFrom 9 = .ok (.aload_n 1, 1) := by decide +kernel
theorem dX4_copyFrom_10 : decode cX4_copyFrom 10 = .ok (.getfield 52, 3) := by decide +kernel
theorem dX4_copyFrom_13 : decode cX4_copyFrom 13 = .ok (.putfield 52, 3) := by decide +kernel
theorem dX4_copyFrom_16 : decode cX4_copyFrom 16 = .ok (.aload_n 0, 1) := by decide +kernel
theorem dX4_copyFrom_17 : decode cX4_copyFrom 17 = .ok (.getfield 14, 3) := by decide +kernel
theorem dX4_copyFrom_20 : decode cX4_copyFrom 20 = .ok (.aload_n 1, 1) := by decide +kernel
theorem dX4_copyFrom_21 : decode cX4_copyFrom 21 = .ok (.getfield 14, 3) := by decide +kernel
theorem dX4_copyFrom_24 : decode cX4_copyFrom 24 = .ok (.invokevirtual 59, 3) := by decide +kernel
theorem dX4_copyFrom_27 : decode cX4_copyFrom 27 = .ok (.aload_n 0, 1) := by decide +kernel
theorem dX4_copyFrom_28 : decode cX4_copyFrom 28 = .ok (.getfield 20, 3) := by decide +kernel
theorem dX4_copyFrom_31 : decode cX4_copyFrom 31 = .ok (.aload_n 1, 1) := by decide +kernel
theorem dX4_copyFrom_32 : decode cX4_copyFrom 32 = .ok (.getfield 20, 3) := by decide +kernel
theorem dX4_copyFrom_35 : decode cX4_copyFrom 35 = .ok (.invokevirtual 59, 3) := by decide +kernel
theorem dX4_copyFrom_38 : decode cX4_copyFrom 38 = .ok (.aload_n 0, 1) := by decide +kernel
theorem dX4_copyFrom_39 : decode cX4_copyFrom 39 = .ok (.getfield 23, 3) := by decide +kernel
theorem dX4_copyFrom_42 : decode cX4_copyFrom 42 = .ok (.aload_n 1, 1) := by decide +kernel
theorem dX4_copyFrom_43 : decode cX4_copyFrom 43 = .ok (.getfield 23, 3) := by decide +kernel
theorem dX4_copyFrom_46 : decode cX4_copyFrom 46 = .ok (.invokevirtual 59, 3) := by decide +kernel
theorem dX4_copyFrom_49 : decode cX4_copyFrom 49 = .ok (.aload_n 0, 1) := by decide +kernel
theorem dX4_copyFrom_50 : decode cX4_copyFrom 50 = .ok (.getfield 26, 3) := by decide +kernel
theorem dX4_copyFrom_53 : decode cX4_copyFrom 53 = .ok (.aload_n 1, 1) := by decide +kernel
theorem dX4_copyFrom_54 : decode cX4_copyFrom 54 = .ok (.getfield 26, 3) := by decide +kernel
theorem dX4_copyFrom_57 : decode cX4_copyFrom 57 = .ok (.invokevirtual 59, 3) := by decide +kernel
theorem dX4_copyFrom_60 : decode cX4_copyFrom 60 = .ok (.aload_n 0, 1) := by decide +kernel
theorem dX4_copyFrom_61 : decode cX4_copyFrom 61 = .ok (.getfield 29, 3) := by decide +kernel
theorem dX4_copyFrom_64 : decode cX4_copyFrom 64 = .ok (.aload_n 1, 1) := by decide +kernel
theorem dX4_copyFrom_65 : decode cX4_copyFrom 65 = .ok (.getfield 29, 3) := by decide +kernel
theorem dX4_copyFrom_68 : decode cX4_copyFrom 68 = .ok (.invokevirtual 59, 3) := by decide +kernel
theorem dX4_copyFrom_71 : decode cX4_copyFrom 71 = .ok (.aload_n 0, 1) := by decide +kernel
theorem dX4_copyFrom_72 : decode cX4_copyFrom 72 = .ok (.getfield 35, 3) := by decide +kernel
theorem dX4_copyFrom_75 : decode cX4_copyFrom 75 = .ok (.aload_n 1, 1) := by decide +kernel
theorem dX4_copyFrom_76 : decode cX4_copyFrom 76 = .ok (.getfield 35, 3) := by decide +kernel
theorem dX4_copyFrom_79 : decode cX4_copyFrom 79 = .ok (.invokevirtual 63, 3) := by decide +kernel
theorem dX4_copyFrom_82 : decode cX4_copyFrom 82 = .ok (.aload_n 0, 1) := by decide +kernel
theorem dX4_copyFrom_83 : decode cX4_copyFrom 83 = .ok (.getfield 39, 3) := by decide +kernel
theorem dX4_copyFrom_86 : decode cX4_copyFrom 86 = .ok (.aload_n 1, 1) := by decide +kernel
theorem dX4_copyFrom_87 : decode cX4_copyFrom 87 = .ok (.getfield 39, 3) := by decide +kernel
theorem dX4_copyFrom_90 : decode cX4_copyFrom 90 = .ok (.invokevirtual 63, 3) := by decide +kernel
theorem dX4_copyFrom_93 : decode cX4_copyFrom 93 = .ok (.aload_n 0, 1) := by decide +kernel
theorem dX4_copyFrom_94 : decode cX4_copyFrom 94 = .ok (.iconst 1, 1) := by decide +kernel
theorem dX4_copyFrom_95 : decode cX4_copyFrom 95 = .ok (.putfield 66, 3) := by decide +kernel
theorem dX4_copyFrom_98 : decode cX4_copyFrom 98 = .ok (.aload_n 0, 1) := by decide +kernel
theorem dX4_copyFrom_99 : decode cX4_copyFrom 99 = .ok (.bipush (-9), 2) := by decide +kernel
theorem dX4_copyFrom_101 : decode cX4_copyFrom 101 = .ok (.putfield 42, 3) := by decide +kernel
theorem dX4_copyFrom_104 : decode cX4_copyFrom 104 = .ok (.aload_n 0, 1) := by decide +kernel
theorem dX4_copyFrom_105 : decode cX4_copyFrom 105 = .ok (.bipush (-9), 2) := by decide +kernel
theorem dX4_copyFrom_107 : decode cX4_copyFrom 107 = .ok (.putfield 46, 3) := by decide +kernel
theorem dX4_copyFrom_110 : decode cX4_copyFrom 110 = .ok (.return_, 1) := by decide +kernel
theorem dX4_newGate_0 : decode cX4_newGate 0 = .ok (.aload_n 0, 1) := by decide +kernel
theorem dX4_newGate_1 : decode cX4_newGate 1 = .ok (.getfield 14, 3) := by decide +kernel
theorem dX4_newGate_4 : decode cX4_newGate 4 = .ok (.invokevirtual 70, 3) := by decide +kernel
theorem dX4_newGate_7 : decode cX4_newGate 7 = .ok (.istore 5, 2) := by decide +kernel
theorem dX4_newGate_9 : decode cX4_newGate 9 = .ok (.aload_n 0, 1) := by decide +kernel
theorem dX4_newGate_10 : decode cX4_newGate 10 = .ok (.getfield 14, 3) := by decide +kernel
theorem dX4_newGate_13 : decode cX4_newGate 13 = .ok (.iload 5, 2) := by decide +kernel
theorem dX4_newGate_15 : decode cX4_newGate 15 = .ok (.iconst 0, 1) := by decide +kernel
theorem dX4_newGate_16 : decode cX4_newGate 16 = .ok (.iload_n 1, 1) := by decide +kernel
theorem dX4_newGate_17 : decode cX4_newGate 17 = .ok (.invokevirtual 74, 3) := by decide +kernel
theorem dX4_newGate_20 : decode cX4_newGate 20 = .ok (.aload_n 0, 1) := by decide +kernel
theorem dX4_newGate_21 : decode cX4_newGate 21 = .ok (.getfield 14, 3) := by decide +kernel
theorem dX4_newGate_24 : decode cX4_newGate 24 = .ok (.iload 5, 2) := by decide +kernel
theorem dX4_newGate_26 : decode cX4_newGate 26 = .ok (.iconst 1, 1) := by decide +kernel
theorem dX4_newGate_27 : decode cX4_newGate 27 = .ok (.iload_n 2, 1) := by decide +kernel
theorem dX4_newGate_28 : decode cX4_newGate 28 = .ok (.invokevirtual 74, 3) := by decide +kernel
theorem dX4_newGate_31 : decode cX4_newGate 31 = .ok (.aload_n 0, 1) := by decide +kernel
theorem dX4_newGate_32 : decode cX4_newGate 32 = .ok (.getfield 14, 3) := by decide +kernel
theorem dX4_newGate_35 : decode cX4_newGate 35 = .ok (.iload 5, 2) := by decide +kernel
theorem dX4_newGate_37 : decode cX4_newGate 37 = .ok (.iconst 2, 1) := by decide +kernel
theorem dX4_newGate_38 : decode cX4_newGate 38 = .ok (.iload_n 3, 1) := by decide +kernel
theorem dX4_newGate_39 : decode cX4_newGate 39 = .ok (.invokevirtual 74, 3) := by decide +kernel
theorem dX4_newGate_42 : decode cX4_newGate 42 = .ok (.aload_n 0, 1) := by decide +kernel
theorem dX4_newGate_43 : decode cX4_newGate 43 = .ok (.getfield 14, 3) := by decide +kernel
theorem dX4_newGate_46 : decode cX4_newGate 46 = .ok (.iload 5, 2) := by decide +kernel
theorem dX4_newGate_48 : decode cX4_newGate 48 = .ok (.iconst 3, 1) := by decide +kernel
theorem dX4_newGate_49 : decode cX4_newGate 49 = .ok (.iload 4, 2) := by decide +kernel
theorem dX4_newGate_51 : decode cX4_newGate 51 = .ok (.invokevirtual 74, 3) := by decide +kernel
theorem dX4_newGate_54 : decode cX4_newGate 54 = .ok (.iload 5, 2) := by decide +kernel
theorem dX4_newGate_56 : decode cX4_newGate 56 = .ok (.ireturn, 1) := by decide +kernel
theorem dX4_newBay_0 : decode cX4_newBay 0 = .ok (.aload_n 0, 1) := by decide +kernel
theorem dX4_newBay_1 : decode cX4_newBay 1 = .ok (.getfield 20, 3) := by decide +kernel
theorem dX4_newBay_4 : decode cX4_newBay 4 = .ok (.invokevirtual 70, 3) := by decide +kernel
theorem dX4_newBay_7 : decode cX4_newBay 7 = .ok (.istore_n 3, 1) := by decide +kernel
theorem dX4_newBay_8 : decode cX4_newBay 8 = .ok (.aload_n 0, 1) := by decide +kernel
theorem dX4_newBay_9 : decode cX4_newBay 9 = .ok (.getfield 20, 3) := by decide +kernel
theorem dX4_newBay_12 : decode cX4_newBay 12 = .ok (.iload_n 3, 1) := by decide +kernel
theorem dX4_newBay_13 : decode cX4_newBay 13 = .ok (.iconst 0, 1) := by decide +kernel
theorem dX4_newBay_14 : decode cX4_newBay 14 = .ok (.iload_n 1, 1) := by decide +kernel
theorem dX4_newBay_15 : decode cX4_newBay 15 = .ok (.invokevirtual 74, 3) := by decide +kernel
theorem dX4_newBay_18 : decode cX4_newBay 18 = .ok (.aload_n 0, 1) := by decide +kernel
theorem dX4_newBay_19 : decode cX4_newBay 19 = .ok (.getfield 20, 3) := by decide +kernel
theorem dX4_newBay_22 : decode cX4_newBay 22 = .ok (.iload_n 3, 1) := by decide +kernel
theorem dX4_newBay_23 : decode cX4_newBay 23 = .ok (.iconst 1, 1) := by decide +kernel
theorem dX4_newBay_24 : decode cX4_newBay 24 = .ok (.iload_n 2, 1) := by decide +kernel
theorem dX4_newBay_25 : decode cX4_newBay 25 = .ok (.invokevirtual 74, 3) := by decide +kernel
theorem dX4_newBay_28 : decode cX4_newBay 28 = .ok (.iload_n 3, 1) := by decide +kernel
theorem dX4_newBay_29 : decode cX4_newBay 29 = .ok (.ireturn, 1) := by decide +kernel
theorem dX4_newDepot_0 : decode cX4_newDepot 0 = .ok (.aload_n 0, 1) := by decide +kernel
theorem dX4_newDepot_1 : decode cX4_newDepot 1 = .ok (.getfield 23, 3) := by decide +kernel
theorem dX4_newDepot_4 : decode cX4_newDepot 4 = .ok (.invokevirtual 70, 3) := by decide +kernel
theorem dX4_newDepot_7 : decode cX4_newDepot 7 = .ok (.istore_n 3, 1) := by decide +kernel
theorem dX4_newDepot_8 : decode cX4_newDepot 8 = .ok (.aload_n 0, 1) := by decide +kernel
theorem dX4_newDepot_9 : decode cX4_newDepot 9 = .ok (.getfield 23, 3) := by decide +kernel
theorem dX4_newDepot_12 : decode cX4_newDepot 12 = .ok (.iload_n 3, 1) := by decide +kernel
theorem dX4_newDepot_13 : decode cX4_newDepot 13 = .ok (.iconst 0, 1) := by decide +kernel
theorem dX4_newDepot_14 : decode cX4_newDepot 14 = .ok (.iload_n 1, 1) := by decide +kernel
theorem dX4_newDepot_15 : decode cX4_newDepot 15 = .ok (.invokevirtual 74, 3) := by decide +kernel
theorem dX4_newDepot_18 : decode cX4_newDepot 18 = .ok (.aload_n 0, 1) := by decide +kernel
theorem dX4_newDepot_19 : decode cX4_newDepot 19 = .ok (.getfield 23, 3) := by decide +kernel
theorem dX4_newDepot_22 : decode cX4_newDepot 22 = .ok (.iload_n 3, 1) := by decide +kernel
theorem dX4_newDepot_23 : decode cX4_newDepot 23 = .ok (.iconst 1, 1) := by decide +kernel
theorem dX4_newDepot_24 : decode cX4_newDepot 24 = .ok (.iload_n 2, 1) := by decide +kernel
theorem dX4_newDepot_25 : decode cX4_newDepot 25 = .ok (.invokevirtual 74, 3) := by decide +kernel
theorem dX4_newDepot_28 : decode cX4_newDepot 28 = .ok (.iload_n 3, 1) := by decide +kernel
theorem dX4_newDepot_29 : decode cX4_newDepot 29 = .ok (.ireturn, 1) := by decide +kernel
theorem dX4_newConvoy_0 : decode cX4_newConvoy 0 = .ok (.aload_n 0, 1) := by decide +kernel
theorem dX4_newConvoy_1 : decode cX4_newConvoy 1 = .ok (.getfield 26, 3) := by decide +kernel
theorem dX4_newConvoy_4 : decode cX4_newConvoy 4 = .ok (.invokevirtual 70, 3) := by decide +kernel
theorem dX4_newConvoy_7 : decode cX4_newConvoy 7 = .ok (.ireturn, 1) := by decide +kernel
theorem dX4_newVehicle_0 : decode cX4_newVehicle 0 = .ok (.aload_n 0, 1) := by decide +kernel
theorem dX4_newVehicle_1 : decode cX4_newVehicle 1 = .ok (.getfield 29, 3) := by decide +kernel
theorem dX4_newVehicle_4 : decode cX4_newVehicle 4 = .ok (.invokevirtual 70, 3) := by decide +kernel
theorem dX4_newVehicle_7 : decode cX4_newVehicle 7 = .ok (.istore 6, 2) := by decide +kernel
theorem dX4_newVehicle_9 : decode cX4_newVehicle 9 = .ok (.aload_n 0, 1) := by decide +kernel
theorem dX4_newVehicle_10 : decode cX4_newVehicle 10 = .ok (.getfield 29, 3) := by decide +kernel
theorem dX4_newVehicle_13 : decode cX4_newVehicle 13 = .ok (.iload 6, 2) := by decide +kernel
theorem dX4_newVehicle_15 : decode cX4_newVehicle 15 = .ok (.iconst 0, 1) := by decide +kernel
theorem dX4_newVehicle_16 : decode cX4_newVehicle 16 = .ok (.iload_n 2, 1) := by decide +kernel
theorem dX4_newVehicle_17 : decode cX4_newVehicle 17 = .ok (.invokevirtual 74, 3) := by decide +kernel
theorem dX4_newVehicle_20 : decode cX4_newVehicle 20 = .ok (.aload_n 0, 1) := by decide +kernel
theorem dX4_newVehicle_21 : decode cX4_newVehicle 21 = .ok (.getfield 29, 3) := by decide +kernel
theorem dX4_newVehicle_24 : decode cX4_newVehicle 24 = .ok (.iload 6, 2) := by decide +kernel
theorem dX4_newVehicle_26 : decode cX4_newVehicle 26 = .ok (.iconst 1, 1) := by decide +kernel
theorem dX4_newVehicle_27 : decode cX4_newVehicle 27 = .ok (.iload_n 3, 1) := by decide +kernel
theorem dX4_newVehicle_28 : decode cX4_newVehicle 28 = .ok (.invokevirtual 74, 3) := by decide +kernel
theorem dX4_newVehicle_31 : decode cX4_newVehicle 31 = .ok (.aload_n 0, 1) := by decide +kernel
theorem dX4_newVehicle_32 : decode cX4_newVehicle 32 = .ok (.getfield 29, 3) := by decide +kernel
theorem dX4_newVehicle_35 : decode cX4_newVehicle 35 = .ok (.iload 6, 2) := by decide +kernel
theorem dX4_newVehicle_37 : decode cX4_newVehicle 37 = .ok (.iconst 2, 1) := by decide +kernel
theorem dX4_newVehicle_38 : decode cX4_newVehicle 38 = .ok (.iload 4, 2) := by decide +kernel
theorem dX4_newVehicle_40 : decode cX4_newVehicle 40 = .ok (.invokevirtual 74, 3) := by decide +kernel
theorem dX4_newVehicle_43 : decode cX4_newVehicle 43 = .ok (.aload_n 0, 1) := by decide +kernel
theorem dX4_newVehicle_44 : decode cX4_newVehicle 44 = .ok (.getfield 29, 3) := by decide +kernel
theorem dX4_newVehicle_47 : decode cX4_newVehicle 47 = .ok (.iload 6, 2) := by decide +kernel
theorem dX4_newVehicle_49 : decode cX4_newVehicle 49 = .ok (.iconst 3, 1) := by decide +kernel
theorem dX4_newVehicle_50 : decode cX4_newVehicle 50 = .ok (.iload 5, 2) := by decide +kernel
theorem dX4_newVehicle_52 : decode cX4_newVehicle 52 = .ok (.invokevirtual 74, 3) := by decide +kernel
theorem dX4_newVehicle_55 : decode cX4_newVehicle 55 = .ok (.aload_n 0, 1) := by decide +kernel
theorem dX4_newVehicle_56 : decode cX4_newVehicle 56 = .ok (.iload 6, 2) := by decide +kernel
theorem dX4_newVehicle_58 : decode cX4_newVehicle 58 = .ok (.iconst 0, 1) := by decide +kernel
theorem dX4_newVehicle_59 : decode cX4_newVehicle 59 = .ok (.iload_n 1, 1) := by decide +kernel
theorem dX4_newVehicle_60 : decode cX4_newVehicle 60 = .ok (.invokevirtual 78, 3) := by decide +kernel
theorem dX4_newVehicle_63 : decode cX4_newVehicle 63 = .ok (.aload_n 0, 1) := by decide +kernel
theorem dX4_newVehicle_64 : decode cX4_newVehicle 64 = .ok (.getfield 35, 3) := by decide +kernel
theorem dX4_newVehicle_67 : decode cX4_newVehicle 67 = .ok (.iload_n 1, 1) := by decide +kernel
theorem dX4_newVehicle_68 : decode cX4_newVehicle 68 = .ok (.iload 6, 2) := by decide +kernel
theorem dX4_newVehicle_70 : decode cX4_newVehicle 70 = .ok (.invokevirtual 81, 3) := by decide +kernel
theorem dX4_newVehicle_73 : decode cX4_newVehicle 73 = .ok (.iload 6, 2) := by decide +kernel
theorem dX4_newVehicle_75 : decode cX4_newVehicle 75 = .ok (.ireturn, 1) := by decide +kernel
theorem dX4_hasRoomForVehicle_0 : decode cX4_hasRoomForVehicle 0 = .ok (.aload_n 0, 1) := by decide +kernel
theorem dX4_hasRoomForVehicle_1 : decode cX4_hasRoomForVehicle 1 = .ok (.getfield 29, 3) := by decide +kernel
theorem dX4_hasRoomForVehicle_4 : decode cX4_hasRoomForVehicle 4 = .ok (.invokevirtual 84, 3) := by decide +kernel
theorem dX4_hasRoomForVehicle_7 : decode cX4_hasRoomForVehicle 7 = .ok (.ifCond .ne 31, 3) := by decide +kernel
theorem dX4_hasRoomForVehicle_10 : decode cX4_hasRoomForVehicle 10 = .ok (.aload_n 0, 1) := by decide +kernel
theorem dX4_hasRoomForVehicle_11 : decode cX4_hasRoomForVehicle 11 = .ok (.getfield 26, 3) := by decide +kernel
theorem dX4_hasRoomForVehicle_14 : decode cX4_hasRoomForVehicle 14 = .ok (.iload_n 1, 1) := by decide +kernel
theorem dX4_hasRoomForVehicle_15 : decode cX4_hasRoomForVehicle 15 = .ok (.invokevirtual 88, 3) := by decide +kernel
theorem dX4_hasRoomForVehicle_18 : decode cX4_hasRoomForVehicle 18 = .ok (.ifCond .eq 20, 3) := by decide +kernel
theorem dX4_hasRoomForVehicle_21 : decode cX4_hasRoomForVehicle 21 = .ok (.aload_n 0, 1) := by decide +kernel
theorem dX4_hasRoomForVehicle_22 : decode cX4_hasRoomForVehicle 22 = .ok (.getfield 35, 3) := by decide +kernel
theorem dX4_hasRoomForVehicle_25 : decode cX4_hasRoomForVehicle 25 = .ok (.iload_n 1, 1) := by decide +kernel
theorem dX4_hasRoomForVehicle_26 : decode cX4_hasRoomForVehicle 26 = .ok (.invokevirtual 92, 3) := by decide +kernel
theorem dX4_hasRoomForVehicle_29 : decode cX4_hasRoomForVehicle 29 = .ok (.bipush 8, 2) := by decide +kernel
theorem dX4_hasRoomForVehicle_31 : decode cX4_hasRoomForVehicle 31 = .ok (.if_icmp .ge 7, 3) := by decide +kernel
theorem dX4_hasRoomForVehicle_34 : decode cX4_hasRoomForVehicle 34 = .ok (.iconst 1, 1) := by decide +kernel
theorem dX4_hasRoomForVehicle_35 : decode cX4_hasRoomForVehicle 35 = .ok (.goto 4, 3) := by decide +kernel
theorem dX4_hasRoomForVehicle_38 : decode cX4_hasRoomForVehicle 38 = .ok (.iconst 0, 1) := by decide +kernel
theorem dX4_hasRoomForVehicle_39 : decode cX4_hasRoomForVehicle 39 = .ok (.ireturn, 1) := by decide +kernel
theorem dX4_isAtEnd_0 : decode cX4_isAtEnd 0 = .ok (.aload_n 0, 1) := by decide +kernel
theorem dX4_isAtEnd_1 : decode cX4_isAtEnd 1 = .ok (.getfield 26, 3) := by decide +kernel
theorem dX4_isAtEnd_4 : decode cX4_isAtEnd 4 = .ok (.iload_n 1, 1) := by decide +kernel
theorem dX4_isAtEnd_5 : decode cX4_isAtEnd 5 = .ok (.iconst 0, 1) := by decide +kernel
theorem dX4_isAtEnd_6 : decode cX4_isAtEnd 6 = .ok (.invokevirtual 96, 3) := by decide +kernel
theorem dX4_isAtEnd_9 : decode cX4_isAtEnd 9 = .ok (.aload_n 0, 1) := by decide +kernel
theorem dX4_isAtEnd_10 : decode cX4_isAtEnd 10 = .ok (.getfield 49, 3) := by decide +kernel
theorem dX4_isAtEnd_13 : decode cX4_isAtEnd 13 = .ok (.if_icmp .ne 7, 3) := by decide +kernel
theorem dX4_isAtEnd_16 : decode cX4_isAtEnd 16 = .ok (.iconst 1, 1) := by decide +kernel
theorem dX4_isAtEnd_17 : decode cX4_isAtEnd 17 = .ok (.goto 4, 3) := by decide +kernel
theorem dX4_isAtEnd_20 : decode cX4_isAtEnd 20 = .ok (.iconst 0, 1) := by decide +kernel
theorem dX4_isAtEnd_21 : decode cX4_isAtEnd 21 = .ok (.ireturn, 1) := by decide +kernel
theorem dX4_closedFor_0 : decode cX4_closedFor 0 = .ok (.aload_n 0, 1) := by decide +kernel
theorem dX4_closedFor_1 : decode cX4_closedFor 1 = .ok (.getfield 14, 3) := by decide +kernel
theorem dX4_closedFor_4 : decode cX4_closedFor 4 = .ok (.iload_n 1, 1) := by decide +kernel
theorem dX4_closedFor_5 : decode cX4_closedFor 5 = .ok (.iconst 1, 1) := by decide +kernel
theorem dX4_closedFor_6 : decode cX4_closedFor 6 = .ok (.invokevirtual 96, 3) := by decide +kernel
theorem dX4_closedFor_9 : decode cX4_closedFor 9 = .ok (.istore_n 2, 1) := by decide +kernel
theorem dX4_closedFor_10 : decode cX4_closedFor 10 = .ok (.iload_n 2, 1) := by decide +kernel
theorem dX4_closedFor_11 : decode cX4_closedFor 11 = .ok (.ifCond .gt 5, 3) := by decide +kernel
theorem dX4_closedFor_14 : decode cX4_closedFor 14 = .ok (.iconst 0, 1) := by decide +kernel
theorem dX4_closedFor_15 : decode cX4_closedFor 15 = .ok (.ireturn, 1) := by decide +kernel
theorem dX4_closedFor_16 : decode cX4_closedFor 16 = .ok (.aload_n 0, 1) := by decide +kernel
theorem dX4_closedFor_17 : decode cX4_closedFor 17 = .ok (.getfield 52, 3) := by decide +kernel
theorem dX4_closedFor_20 : decode cX4_closedFor 20 = .ok (.aload_n 0, 1) := by decide +kernel
theorem dX4_closedFor_21 : decode cX4_closedFor 21 = .ok (.getfield 14, 3) := by decide +kernel
theorem dX4_closedFor_24 : decode cX4_closedFor 24 = .ok (.iload_n 1, 1) := by decide +kernel
theorem dX4_closedFor_25 : decode cX4_closedFor 25 = .ok (.iconst 3, 1) := by decide +kernel
theorem dX4_closedFor_26 : decode cX4_closedFor 26 = .ok (.invokevirtual 96, 3) := by decide +kernel
theorem dX4_closedFor_29 : decode cX4_closedFor 29 = .ok (.iadd, 1) := by decide +kernel
theorem dX4_closedFor_30 : decode cX4_closedFor 30 = .ok (.iload_n 2, 1) := by decide +kernel
theorem dX4_closedFor_31 : decode cX4_closedFor 31 = .ok (.irem, 1) := by decide +kernel
theorem dX4_closedFor_32 : decode cX4_closedFor 32 = .ok (.istore_n 3, 1) := by decide +kernel
theorem dX4_closedFor_33 : decode cX4_closedFor 33 = .ok (.iconst 0, 1) := by decide +kernel
theorem dX4_closedFor_34 : decode cX4_closedFor 34 = .ok (.aload_n 0, 1) := by decide +kernel
theorem dX4_closedFor_35 : decode cX4_closedFor 35 = .ok (.getfield 14, 3) := by decide +kernel
theorem dX4_closedFor_38 : decode cX4_closedFor 38 = .ok (.iload_n 1, 1) := by decide +kernel
theorem dX4_closedFor_39 : decode cX4_closedFor 39 = .ok (.iconst 2, 1) := by decide +kernel
theorem dX4_closedFor_40 : decode cX4_closedFor 40 = .ok (.invokevirtual 96, 3) := by decide +kernel
theorem dX4_closedFor_43 : decode cX4_closedFor 43 = .ok (.iload_n 3, 1) := by decide +kernel
theorem dX4_closedFor_44 : decode cX4_closedFor 44 = .ok (.isub, 1) := by decide +kernel
theorem dX4_closedFor_45 : decode cX4_closedFor 45 = .ok (.invokestatic 100, 3) := by decide +kernel
theorem dX4_closedFor_48 : decode cX4_closedFor 48 = .ok (.ireturn, 1) := by decide +kernel
theorem dX4_slowestSpeed_0 : decode cX4_slowestSpeed 0 = .ok (.iconst 0, 1) := by decide +kernel
theorem dX4_slowestSpeed_1 : decode cX4_slowestSpeed 1 = .ok (.istore_n 2, 1) := by decide +kernel
theorem dX4_slowestSpeed_2 : decode cX4_slowestSpeed 2 = .ok (.iconst 0, 1) := by decide +kernel
theorem dX4_slowestSpeed_3 : decode cX4_slowestSpeed 3 = .ok (.istore_n 3, 1) := by decide +kernel
theorem dX4_slowestSpeed_4 : decode cX4_slowestSpeed 4 = .ok (.iload_n 3, 1) := by decide +kernel
theorem dX4_slowestSpeed_5 : decode cX4_slowestSpeed 5 = .ok (.aload_n 0, 1) := by decide +kernel
theorem dX4_slowestSpeed_6 : decode cX4_slowestSpeed 6 = .ok (.getfield 35, 3) := by decide +kernel
theorem dX4_slowestSpeed_9 : decode cX4_slowestSpeed 9 = .ok (.iload_n 1, 1) := by decide +kernel
theorem dX4_slowestSpeed_10 : decode cX4_slowestSpeed 10 = .ok (.invokevirtual 92, 3) := by decide +kernel
theorem dX4_slowestSpeed_13 : decode cX4_slowestSpeed 13 = .ok (.if_icmp .ge 44, 3) := by decide +kernel
theorem dX4_slowestSpeed_16 : decode cX4_slowestSpeed 16 = .ok (.aload_n 0, 1) := by decide +kernel
theorem dX4_slowestSpeed_17 : decode cX4_slowestSpeed 17 = .ok (.getfield 29, 3) := by decide +kernel
theorem dX4_slowestSpeed_20 : decode cX4_slowestSpeed 20 = .ok (.aload_n 0, 1) := by decide +kernel
theorem dX4_slowestSpeed_21 : decode cX4_slowestSpeed 21 = .ok (.getfield 35, 3) := by decide +kernel
theorem dX4_slowestSpeed_24 : decode cX4_slowestSpeed 24 = .ok (.iload_n 1, 1) := by decide +kernel
theorem dX4_slowestSpeed_25 : decode cX4_slowestSpeed 25 = .ok (.iload_n 3, 1) := by decide +kernel
theorem dX4_slowestSpeed_26 : decode cX4_slowestSpeed 26 = .ok (.invokevirtual 105, 3) := by decide +kernel
theorem dX4_slowestSpeed_29 : decode cX4_slowestSpeed 29 = .ok (.iconst 0, 1) := by decide +kernel
theorem dX4_slowestSpeed_30 : decode cX4_slowestSpeed 30 = .ok (.invokevirtual 96, 3) := by decide +kernel
theorem dX4_slowestSpeed_33 : decode cX4_slowestSpeed 33 = .ok (.istore 4, 2) := by decide +kernel
theorem dX4_slowestSpeed_35 : decode cX4_slowestSpeed 35 = .ok (.iload_n 3, 1) := by decide +kernel
theorem dX4_slowestSpeed_36 : decode cX4_slowestSpeed 36 = .ok (.ifCond .ne 8, 3) := by decide +kernel
theorem dX4_slowestSpeed_39 : decode cX4_slowestSpeed 39 = .ok (.iload 4, 2) := by decide +kernel
theorem dX4_slowestSpeed_41 : decode cX4_slowestSpeed 41 = .ok (.goto 9, 3) := by decide +kernel
theorem dX4_slowestSpeed_44 : decode cX4_slowestSpeed 44 = .ok (.iload_n 2, 1) := by decide +kernel
theorem dX4_slowestSpeed_45 : decode cX4_slowestSpeed 45 = .ok (.iload 4, 2) := by decide +kernel
theorem dX4_slowestSpeed_47 : decode cX4_slowestSpeed 47 = .ok (.invokestatic 106, 3) := by decide +kernel
theorem dX4_slowestSpeed_50 : decode cX4_slowestSpeed 50 = .ok (.istore_n 2, 1) := by decide +kernel
theorem dX4_slowestSpeed_51 : decode cX4_slowestSpeed 51 = .ok (.iinc 3 1, 3) := by decide +kernel
theorem dX4_slowestSpeed_54 : decode cX4_slowestSpeed 54 = .ok (.goto (-50), 3) := by decide +kernel
theorem dX4_slowestSpeed_57 : decode cX4_slowestSpeed 57 = .ok (.iload_n 2, 1) := by decide +kernel
theorem dX4_slowestSpeed_58 : decode cX4_slowestSpeed 58 = .ok (.ireturn, 1) := by decide +kernel
theorem dX4_litersWith_0 : decode cX4_litersWith 0 = .ok (.iconst 0, 1) := by decide +kernel
theorem dX4_litersWith_1 : decode cX4_litersWith 1 = .ok (.istore_n 2, 1) := by decide +kernel
theorem dX4_litersWith_2 : decode cX4_litersWith 2 = .ok (.iconst 0, 1) := by decide +kernel
theorem dX4_litersWith_3 : decode cX4_litersWith 3 = .ok (.istore_n 3, 1) := by decide +kernel
theorem dX4_litersWith_4 : decode cX4_litersWith 4 = .ok (.iload_n 3, 1) := by decide +kernel
theorem dX4_litersWith_5 : decode cX4_litersWith 5 = .ok (.aload_n 0, 1) := by decide +kernel
theorem dX4_litersWith_6 : decode cX4_litersWith 6 = .ok (.getfield 35, 3) := by decide +kernel
theorem dX4_litersWith_9 : decode cX4_litersWith 9 = .ok (.iload_n 1, 1) := by decide +kernel
theorem dX4_litersWith_10 : decode cX4_litersWith 10 = .ok (.invokevirtual 92, 3) := by decide +kernel
theorem dX4_litersWith_13 : decode cX4_litersWith 13 = .ok (.if_icmp .ge 29, 3) := by decide +kernel
theorem dX4_litersWith_16 : decode cX4_litersWith 16 = .ok (.iload_n 2, 1) := by decide +kernel
theorem dX4_litersWith_17 : decode cX4_litersWith 17 = .ok (.aload_n 0, 1) := by decide +kernel
theorem dX4_litersWith_18 : decode cX4_litersWith 18 = .ok (.getfield 29, 3) := by decide +kernel
theorem dX4_litersWith_21 : decode cX4_litersWith 21 = .ok (.aload_n 0, 1) := by decide +kernel
theorem dX4_litersWith_22 : decode cX4_litersWith 22 = .ok (.getfield 35, 3) := by decide +kernel
theorem dX4_litersWith_25 : decode cX4_litersWith 25 = .ok (.iload_n 1, 1) := by decide +kernel
theorem dX4_litersWith_26 : decode cX4_litersWith 26 = .ok (.iload_n 3, 1) := by decide +kernel
theorem dX4_litersWith_27 : decode cX4_litersWith 27 = .ok (.invokevirtual 105, 3) := by decide +kernel
theorem dX4_litersWith_30 : decode cX4_litersWith 30 = .ok (.iconst 3, 1) := by decide +kernel
theorem dX4_litersWith_31 : decode cX4_litersWith 31 = .ok (.invokevirtual 96, 3) := by decide +kernel
theorem dX4_litersWith_34 : decode cX4_litersWith 34 = .ok (.iadd, 1) := by decide +kernel
theorem dX4_litersWith_35 : decode cX4_litersWith 35 = .ok (.istore_n 2, 1) := by decide +kernel
theorem dX4_litersWith_36 : decode cX4_litersWith 36 = .ok (.iinc 3 1, 3) := by decide +kernel
theorem dX4_litersWith_39 : decode cX4_litersWith 39 = .ok (.goto (-35), 3) := by decide +kernel
theorem dX4_litersWith_42 : decode cX4_litersWith 42 = .ok (.iload_n 2, 1) := by decide +kernel
theorem dX4_litersWith_43 : decode cX4_litersWith 43 = .ok (.ireturn, 1) := by decide +kernel
theorem dX4_howMany_0 : decode cX4_howMany 0 = .ok (.iconst 0, 1) := by decide +kernel
theorem dX4_howMany_1 : decode cX4_howMany 1 = .ok (.istore_n 2, 1) := by decide +kernel
theorem dX4_howMany_2 : decode cX4_howMany 2 = .ok (.iconst 0, 1) := by decide +kernel
theorem dX4_howMany_3 : decode cX4_howMany 3 = .ok (.istore_n 3, 1) := by decide +kernel
theorem dX4_howMany_4 : decode cX4_howMany 4 = .ok (.iload_n 3, 1) := by decide +kernel
theorem dX4_howMany_5 : decode cX4_howMany 5 = .ok (.aload_n 0, 1) := by decide +kernel
theorem dX4_howMany_6 : decode cX4_howMany 6 = .ok (.getfield 29, 3) := by decide +kernel
theorem dX4_howMany_9 : decode cX4_howMany 9 = .ok (.invokevirtual 109, 3) := by decide +kernel
theorem dX4_howMany_12 : decode cX4_howMany 12 = .ok (.if_icmp .ge 25, 3) := by decide +kernel
theorem dX4_howMany_15 : decode cX4_howMany 15 = .ok (.aload_n 0, 1) := by decide +kernel
theorem dX4_howMany_16 : decode cX4_howMany 16 = .ok (.getfield 29, 3) := by decide +kernel
theorem dX4_howMany_19 : decode cX4_howMany 19 = .ok (.iload_n 3, 1) := by decide +kernel
theorem dX4_howMany_20 : decode cX4_howMany 20 = .ok (.iconst 4, 1) := by decide +kernel
theorem dX4_howMany_21 : decode cX4_howMany 21 = .ok (.invokevirtual 96, 3) := by decide +kernel
theorem dX4_howMany_24 : decode cX4_howMany 24 = .ok (.iload_n 1, 1) := by decide +kernel
theorem dX4_howMany_25 : decode cX4_howMany 25 = .ok (.if_icmp .ne 6, 3) := by decide +kernel
theorem dX4_howMany_28 : decode cX4_howMany 28 = .ok (.iinc 2 1, 3) := by decide +kernel
theorem dX4_howMany_31 : decode cX4_howMany 31 = .ok (.iinc 3 1, 3) := by decide +kernel
theorem dX4_howMany_34 : decode cX4_howMany 34 = .ok (.goto (-30), 3) := by decide +kernel
theorem dX4_howMany_37 : decode cX4_howMany 37 = .ok (.iload_n 2, 1) := by decide +kernel
theorem dX4_howMany_38 : decode cX4_howMany 38 = .ok (.ireturn, 1) := by decide +kernel
theorem dX4_hasTooLittle_0 : decode cX4_hasTooLittle 0 = .ok (.aload_n 0, 1) := by decide +kernel
theorem dX4_hasTooLittle_1 : decode cX4_hasTooLittle 1 = .ok (.getfield 29, 3) := by decide +kernel
theorem dX4_hasTooLittle_4 : decode cX4_hasTooLittle 4 = .ok (.iload_n 1, 1) := by decide +kernel
theorem dX4_hasTooLittle_5 : decode cX4_hasTooLittle 5 = .ok (.iconst 3, 1) := by decide +kernel
theorem dX4_hasTooLittle_6 : decode cX4_hasTooLittle 6 = .ok (.invokevirtual 96, 3) := by decide +kernel
theorem dX4_hasTooLittle_9 : decode cX4_hasTooLittle 9 = .ok (.aload_n 0, 1) := by decide +kernel
theorem dX4_hasTooLittle_10 : decode cX4_hasTooLittle 10 = .ok (.getfield 29, 3) := by decide +kernel
theorem dX4_hasTooLittle_13 : decode cX4_hasTooLittle 13 = .ok (.iload_n 1, 1) := by decide +kernel
theorem dX4_hasTooLittle_14 : decode cX4_hasTooLittle 14 = .ok (.iconst 1, 1) := by decide +kernel
theorem dX4_hasTooLittle_15 : decode cX4_hasTooLittle 15 = .ok (.invokevirtual 96, 3) := by decide +kernel
theorem dX4_hasTooLittle_18 : decode cX4_hasTooLittle 18 = .ok (.if_icmp .ge 7, 3) := by decide +kernel
theorem dX4_hasTooLittle_21 : decode cX4_hasTooLittle 21 = .ok (.iconst 1, 1) := by decide +kernel
theorem dX4_hasTooLittle_22 : decode cX4_hasTooLittle 22 = .ok (.goto 4, 3) := by decide +kernel
theorem dX4_hasTooLittle_25 : decode cX4_hasTooLittle 25 = .ok (.iconst 0, 1) := by decide +kernel
theorem dX4_hasTooLittle_26 : decode cX4_hasTooLittle 26 = .ok (.ireturn, 1) := by decide +kernel
theorem dX4_moveTo_0 : decode cX4_moveTo 0 = .ok (.aload_n 0, 1) := by decide +kernel
theorem dX4_moveTo_1 : decode cX4_moveTo 1 = .ok (.getfield 29, 3) := by decide +kernel
theorem dX4_moveTo_4 : decode cX4_moveTo 4 = .ok (.iload_n 1, 1) := by decide +kernel
theorem dX4_moveTo_5 : decode cX4_moveTo 5 = .ok (.iconst 4, 1) := by decide +kernel
theorem dX4_moveTo_6 : decode cX4_moveTo 6 = .ok (.iload_n 2, 1) := by decide +kernel
theorem dX4_moveTo_7 : decode cX4_moveTo 7 = .ok (.invokevirtual 74, 3) := by decide +kernel
theorem dX4_moveTo_10 : decode cX4_moveTo 10 = .ok (.aload_n 0, 1) := by decide +kernel
theorem dX4_moveTo_11 : decode cX4_moveTo 11 = .ok (.getfield 29, 3) := by decide +kernel
theorem dX4_moveTo_14 : decode cX4_moveTo 14 = .ok (.iload_n 1, 1) := by decide +kernel
theorem dX4_moveTo_15 : decode cX4_moveTo 15 = .ok (.iconst 5, 1) := by decide +kernel
theorem dX4_moveTo_16 : decode cX4_moveTo 16 = .ok (.iload_n 3, 1) := by decide +kernel
theorem dX4_moveTo_17 : decode cX4_moveTo 17 = .ok (.invokevirtual 74, 3) := by decide +kernel
theorem dX4_moveTo_20 : decode cX4_moveTo 20 = .ok (.return_, 1) := by decide +kernel
theorem dX4_letGoBy_0 : decode cX4_letGoBy 0 = .ok (.iload_n 1, 1) := by decide +kernel
theorem dX4_letGoBy_1 : decode cX4_letGoBy 1 = .ok (.iconst 1, 1) := by decide +kernel
theorem dX4_letGoBy_2 : decode cX4_letGoBy 2 = .ok (.bipush 99, 2) := by decide +kernel
theorem dX4_letGoBy_4 : decode cX4_letGoBy 4 = .ok (.invokestatic 112, 3) := by decide +kernel
theorem dX4_letGoBy_7 : decode cX4_letGoBy 7 = .ok (.ifCond .ne 5, 3) := by decide +kernel
theorem dX4_letGoBy_10 : decode cX4_letGoBy 10 = .ok (.iconst 0, 1) := by decide +kernel
theorem dX4_letGoBy_11 : decode cX4_letGoBy 11 = .ok (.ireturn, 1) := by decide +kernel
theorem dX4_letGoBy_12 : decode cX4_letGoBy 12 = .ok (.iconst 0, 1) := by decide +kernel
theorem dX4_letGoBy_13 : decode cX4_letGoBy 13 = .ok (.istore_n 2, 1) := by decide +kernel
theorem dX4_letGoBy_14 : decode cX4_letGoBy 14 = .ok (.iload_n 2, 1) := by decide +kernel
theorem dX4_letGoBy_15 : decode cX4_letGoBy 15 = .ok (.iload_n 1, 1) := by decide +kernel
theorem dX4_letGoBy_16 : decode cX4_letGoBy 16 = .ok (.if_icmp .ge 13, 3) := by decide +kernel
theorem dX4_letGoBy_19 : decode cX4_letGoBy 19 = .ok (.aload_n 0, 1) := by decide +kernel
theorem dX4_letGoBy_20 : decode cX4_letGoBy 20 = .ok (.invokevirtual 116, 3) := by decide +kernel
theorem dX4_letGoBy_23 : decode cX4_letGoBy 23 = .ok (.iinc 2 1, 3) := by decide +kernel
theorem dX4_letGoBy_26 : decode cX4_letGoBy 26 = .ok (.goto (-12), 3) := by decide +kernel
theorem dX4_letGoBy_29 : decode cX4_letGoBy 29 = .ok (.iconst 1, 1) := by decide +kernel
theorem dX4_letGoBy_30 : decode cX4_letGoBy 30 = .ok (.ireturn, 1) := by decide +kernel
theorem dX4_letHourGoBy_0 : decode cX4_letHourGoBy 0 = .ok (.aload_n 0, 1) := by decide +kernel
theorem dX4_letHourGoBy_1 : decode cX4_letHourGoBy 1 = .ok (.iconst 0, 1) := by decide +kernel
theorem dX4_letHourGoBy_2 : decode cX4_letHourGoBy 2 = .ok (.putfield 66, 3) := by decide +kernel
theorem dX4_letHourGoBy_5 : decode cX4_letHourGoBy 5 = .ok (.iconst 0, 1) := by decide +kernel
theorem dX4_letHourGoBy_6 : decode cX4_letHourGoBy 6 = .ok (.istore_n 1, 1) := by decide +kernel
theorem dX4_letHourGoBy_7 : decode cX4_letHourGoBy 7 = .ok (.iload_n 1, 1) := by decide +kernel
theorem dX4_letHourGoBy_8 : decode cX4_letHourGoBy 8 = .ok (.aload_n 0, 1) := by decide +kernel
theorem dX4_letHourGoBy_9 : decode cX4_letHourGoBy 9 = .ok (.getfield 26, 3) := by decide +kernel
theorem dX4_letHourGoBy_12 : decode cX4_letHourGoBy 12 = .ok (.invokevirtual 109, 3) := by decide +kernel
theorem dX4_letHourGoBy_15 : decode cX4_letHourGoBy 15 = .ok (.if_icmp .ge 33, 3) := by decide +kernel
theorem dX4_letHourGoBy_18 : decode cX4_letHourGoBy 18 = .ok (.aload_n 0, 1) := by decide +kernel
theorem dX4_letHourGoBy_19 : decode cX4_letHourGoBy 19 = .ok (.getfield 35, 3) := by decide +kernel
theorem dX4_letHourGoBy_22 : decode cX4_letHourGoBy 22 = .ok (.iload_n 1, 1) := by decide +kernel
theorem dX4_letHourGoBy_23 : decode cX4_letHourGoBy 23 = .ok (.invokevirtual 92, 3) := by decide +kernel
theorem dX4_letHourGoBy_26 : decode cX4_letHourGoBy 26 = .ok (.ifCond .le 16, 3) := by decide +kernel
theorem dX4_letHourGoBy_29 : decode cX4_letHourGoBy 29 = .ok (.aload_n 0, 1) := by decide +kernel
theorem dX4_letHourGoBy_30 : decode cX4_letHourGoBy 30 = .ok (.iload_n 1, 1) := by decide +kernel
theorem dX4_letHourGoBy_31 : decode cX4_letHourGoBy 31 = .ok (.invokevirtual 119, 3) := by decide +kernel
theorem dX4_letHourGoBy_34 : decode cX4_letHourGoBy 34 = .ok (.ifCond .ne 8, 3) := by decide +kernel
theorem dX4_letHourGoBy_37 : decode cX4_letHourGoBy 37 = .ok (.aload_n 0, 1) := by decide +kernel
theorem dX4_letHourGoBy_38 : decode cX4_letHourGoBy 38 = .ok (.iload_n 1, 1) := by decide +kernel
theorem dX4_letHourGoBy_39 : decode cX4_letHourGoBy 39 = .ok (.invokevirtual 122, 3) := by decide +kernel
theorem dX4_letHourGoBy_42 : decode cX4_letHourGoBy 42 = .ok (.iinc 1 1, 3) := by decide +kernel
theorem dX4_letHourGoBy_45 : decode cX4_letHourGoBy 45 = .ok (.goto (-38), 3) := by decide +kernel
theorem dX4_letHourGoBy_48 : decode cX4_letHourGoBy 48 = .ok (.aload_n 0, 1) := by decide +kernel
theorem dX4_letHourGoBy_49 : decode cX4_letHourGoBy 49 = .ok (.dup, 1) := by decide +kernel
theorem dX4_letHourGoBy_50 : decode cX4_letHourGoBy 50 = .ok (.getfield 52, 3) := by decide +kernel
theorem dX4_letHourGoBy_53 : decode cX4_letHourGoBy 53 = .ok (.iconst 1, 1) := by decide +kernel
theorem dX4_letHourGoBy_54 : decode cX4_letHourGoBy 54 = .ok (.iadd, 1) := by decide +kernel
theorem dX4_letHourGoBy_55 : decode cX4_letHourGoBy 55 = .ok (.putfield 52, 3) := by decide +kernel
theorem dX4_letHourGoBy_58 : decode cX4_letHourGoBy 58 = .ok (.return_, 1) := by decide +kernel
theorem dX4_drive_0 : decode cX4_drive 0 = .ok (.aload_n 0, 1) := by decide +kernel
theorem dX4_drive_1 : decode cX4_drive 1 = .ok (.getfield 26, 3) := by decide +kernel
theorem dX4_drive_4 : decode cX4_drive 4 = .ok (.iload_n 1, 1) := by decide +kernel
theorem dX4_drive_5 : decode cX4_drive 5 = .ok (.iconst 1, 1) := by decide +kernel
theorem dX4_drive_6 : decode cX4_drive 6 = .ok (.invokevirtual 96, 3) := by decide +kernel
theorem dX4_drive_9 : decode cX4_drive 9 = .ok (.ifCond .le 19, 3) := by decide +kernel
theorem dX4_drive_12 : decode cX4_drive 12 = .ok (.aload_n 0, 1) := by decide +kernel
theorem dX4_drive_13 : decode cX4_drive 13 = .ok (.getfield 26, 3) := by decide +kernel
theorem dX4_drive_16 : decode cX4_drive 16 = .ok (.iload_n 1, 1) := by decide +kernel
theorem dX4_drive_17 : decode cX4_drive 17 = .ok (.iconst 1, 1) := by decide +kernel
theorem dX4_drive_18 : decode cX4_drive 18 = .ok (.iconst (-1), 1) := by decide +kernel
theorem dX4_drive_19 : decode cX4_drive 19 = .ok (.invokevirtual 126, 3) := by decide +kernel
theorem dX4_drive_22 : decode cX4_drive 22 = .ok (.aload_n 0, 1) := by decide +kernel
theorem dX4_drive_23 : decode cX4_drive 23 = .ok (.iconst 1, 1) := by decide +kernel
theorem dX4_drive_24 : decode cX4_drive 24 = .ok (.putfield 66, 3) := by decide +kernel
theorem dX4_drive_27 : decode cX4_drive 27 = .ok (.return_, 1) := by decide +kernel
theorem dX4_drive_28 : decode cX4_drive 28 = .ok (.aload_n 0, 1) := by decide +kernel
theorem dX4_drive_29 : decode cX4_drive 29 = .ok (.iload_n 1, 1) := by decide +kernel
theorem dX4_drive_30 : decode cX4_drive 30 = .ok (.invokevirtual 129, 3) := by decide +kernel
theorem dX4_drive_33 : decode cX4_drive 33 = .ok (.aload_n 0, 1) := by decide +kernel
theorem dX4_drive_34 : decode cX4_drive 34 = .ok (.iload_n 1, 1) := by decide +kernel
theorem dX4_drive_35 : decode cX4_drive 35 = .ok (.invokevirtual 132, 3) := by decide +kernel
theorem dX4_drive_38 : decode cX4_drive 38 = .ok (.istore_n 2, 1) := by decide +kernel
theorem dX4_drive_39 : decode cX4_drive 39 = .ok (.iconst 0, 1) := by decide +kernel
theorem dX4_drive_40 : decode cX4_drive 40 = .ok (.istore_n 3, 1) := by decide +kernel
theorem dX4_drive_41 : decode cX4_drive 41 = .ok (.iload_n 3, 1) := by decide +kernel
theorem dX4_drive_42 : decode cX4_drive 42 = .ok (.iload_n 2, 1) := by decide +kernel
theorem dX4_drive_43 : decode cX4_drive 43 = .ok (.if_icmp .ge 57, 3) := by decide +kernel
theorem dX4_drive_46 : decode cX4_drive 46 = .ok (.aload_n 0, 1) := by decide +kernel
theorem dX4_drive_47 : decode cX4_drive 47 = .ok (.iload_n 1, 1) := by decide +kernel
theorem dX4_drive_48 : decode cX4_drive 48 = .ok (.invokevirtual 119, 3) := by decide +kernel
theorem dX4_drive_51 : decode cX4_drive 51 = .ok (.ifCond .ne 49, 3) := by decide +kernel
theorem dX4_drive_54 : decode cX4_drive 54 = .ok (.aload_n 0, 1) := by decide +kernel
theorem dX4_drive_55 : decode cX4_drive 55 = .ok (.iload_n 1, 1) := by decide +kernel
theorem dX4_drive_56 : decode cX4_drive 56 = .ok (.invokevirtual 135, 3) := by decide +kernel
theorem dX4_drive_59 : decode cX4_drive 59 = .ok (.ifCond .ne 41, 3) := by decide +kernel
theorem dX4_drive_62 : decode cX4_drive 62 = .ok (.aload_n 0, 1) := by decide +kernel
theorem dX4_drive_63 : decode cX4_drive 63 = .ok (.iload_n 1, 1) := by decide +kernel
theorem dX4_drive_64 : decode cX4_drive 64 = .ok (.invokevirtual 138, 3) := by decide +kernel
theorem dX4_drive_67 : decode cX4_drive 67 = .ok (.aload_n 0, 1) := by decide +kernel
theorem dX4_drive_68 : decode cX4_drive 68 = .ok (.iload_n 1, 1) := by decide +kernel
theorem dX4_drive_69 : decode cX4_drive 69 = .ok (.invokevirtual 141, 3) := by decide +kernel
theorem dX4_drive_72 : decode cX4_drive 72 = .ok (.ifCond .eq 4, 3) := by decide +kernel
theorem dX4_drive_75 : decode cX4_drive 75 = .ok (.return_, 1) := by decide +kernel
theorem dX4_drive_76 : decode cX4_drive 76 = .ok (.aload_n 0, 1) := by decide +kernel
theorem dX4_drive_77 : decode cX4_drive 77 = .ok (.iload_n 1, 1) := by decide +kernel
theorem dX4_drive_78 : decode cX4_drive 78 = .ok (.invokevirtual 144, 3) := by decide +kernel
theorem dX4_drive_81 : decode cX4_drive 81 = .ok (.aload_n 0, 1) := by decide +kernel
theorem dX4_drive_82 : decode cX4_drive 82 = .ok (.iload_n 1, 1) := by decide +kernel
theorem dX4_drive_83 : decode cX4_drive 83 = .ok (.invokevirtual 147, 3) := by decide +kernel
theorem dX4_drive_86 : decode cX4_drive 86 = .ok (.ifCond .eq 8, 3) := by decide +kernel
theorem dX4_drive_89 : decode cX4_drive 89 = .ok (.aload_n 0, 1) := by decide +kernel
theorem dX4_drive_90 : decode cX4_drive 90 = .ok (.iload_n 1, 1) := by decide +kernel
theorem dX4_drive_91 : decode cX4_drive 91 = .ok (.invokevirtual 150, 3) := by decide +kernel
theorem dX4_drive_94 : decode cX4_drive 94 = .ok (.iinc 3 1, 3) := by decide +kernel
theorem dX4_drive_97 : decode cX4_drive 97 = .ok (.goto (-56), 3) := by decide +kernel
theorem dX4_drive_100 : decode cX4_drive 100 = .ok (.return_, 1) := by decide +kernel
theorem dX4_fillUp_0 : decode cX4_fillUp 0 = .ok (.aload_n 0, 1) := by decide +kernel
theorem dX4_fillUp_1 : decode cX4_fillUp 1 = .ok (.getfield 23, 3) := by decide +kernel
theorem dX4_fillUp_4 : decode cX4_fillUp 4 = .ok (.aload_n 0, 1) := by decide +kernel
theorem dX4_fillUp_5 : decode cX4_fillUp 5 = .ok (.getfield 26, 3) := by decide +kernel
theorem dX4_fillUp_8 : decode cX4_fillUp 8 = .ok (.iload_n 1, 1) := by decide +kernel
theorem dX4_fillUp_9 : decode cX4_fillUp 9 = .ok (.iconst 0, 1) := by decide +kernel
theorem dX4_fillUp_10 : decode cX4_fillUp 10 = .ok (.invokevirtual 96, 3) := by decide +kernel
theorem dX4_fillUp_13 : decode cX4_fillUp 13 = .ok (.invokevirtual 153, 3) := by decide +kernel
theorem dX4_fillUp_16 : decode cX4_fillUp 16 = .ok (.istore_n 2, 1) := by decide +kernel
theorem dX4_fillUp_17 : decode cX4_fillUp 17 = .ok (.iload_n 2, 1) := by decide +kernel
theorem dX4_fillUp_18 : decode cX4_fillUp 18 = .ok (.bipush (-9), 2) := by decide +kernel
theorem dX4_fillUp_20 : decode cX4_fillUp 20 = .ok (.if_icmp .ne 4, 3) := by decide +kernel
theorem dX4_fillUp_23 : decode cX4_fillUp 23 = .ok (.return_, 1) := by decide +kernel
theorem dX4_fillUp_24 : decode cX4_fillUp 24 = .ok (.iconst 0, 1) := by decide +kernel
theorem dX4_fillUp_25 : decode cX4_fillUp 25 = .ok (.istore_n 3, 1) := by decide +kernel
theorem dX4_fillUp_26 : decode cX4_fillUp 26 = .ok (.iload_n 3, 1) := by decide +kernel
theorem dX4_fillUp_27 : decode cX4_fillUp 27 = .ok (.aload_n 0, 1) := by decide +kernel
theorem dX4_fillUp_28 : decode cX4_fillUp 28 = .ok (.getfield 35, 3) := by decide +kernel
theorem dX4_fillUp_31 : decode cX4_fillUp 31 = .ok (.iload_n 1, 1) := by decide +kernel
theorem dX4_fillUp_32 : decode cX4_fillUp 32 = .ok (.invokevirtual 92, 3) := by decide +kernel
theorem dX4_fillUp_35 : decode cX4_fillUp 35 = .ok (.if_icmp .ge 104, 3) := by decide +kernel
theorem dX4_fillUp_38 : decode cX4_fillUp 38 = .ok (.aload_n 0, 1) := by decide +kernel
theorem dX4_fillUp_39 : decode cX4_fillUp 39 = .ok (.getfield 35, 3) := by decide +kernel
theorem dX4_fillUp_42 : decode cX4_fillUp 42 = .ok (.iload_n 1, 1) := by decide +kernel
theorem dX4_fillUp_43 : decode cX4_fillUp 43 = .ok (.iload_n 3, 1) := by decide +kernel
theorem dX4_fillUp_44 : decode cX4_fillUp 44 = .ok (.invokevirtual 105, 3) := by decide +kernel
theorem dX4_fillUp_47 : decode cX4_fillUp 47 = .ok (.istore 4, 2) := by decide +kernel
theorem dX4_fillUp_49 : decode cX4_fillUp 49 = .ok (.aload_n 0, 1) := by decide +kernel
theorem dX4_fillUp_50 : decode cX4_fillUp 50 = .ok (.getfield 29, 3) := by decide +kernel
theorem dX4_fillUp_53 : decode cX4_fillUp 53 = .ok (.iload 4, 2) := by decide +kernel
theorem dX4_fillUp_55 : decode cX4_fillUp 55 = .ok (.iconst 2, 1) := by decide +kernel
theorem dX4_fillUp_56 : decode cX4_fillUp 56 = .ok (.invokevirtual 96, 3) := by decide +kernel
theorem dX4_fillUp_59 : decode cX4_fillUp 59 = .ok (.aload_n 0, 1) := by decide +kernel
theorem dX4_fillUp_60 : decode cX4_fillUp 60 = .ok (.getfield 29, 3) := by decide +kernel
theorem dX4_fillUp_63 : decode cX4_fillUp 63 = .ok (.iload 4, 2) := by decide +kernel
theorem dX4_fillUp_65 : decode cX4_fillUp 65 = .ok (.iconst 3, 1) := by decide +kernel
theorem dX4_fillUp_66 : decode cX4_fillUp 66 = .ok (.invokevirtual 96, 3) := by decide +kernel
theorem dX4_fillUp_69 : decode cX4_fillUp 69 = .ok (.isub, 1) := by decide +kernel
theorem dX4_fillUp_70 : decode cX4_fillUp 70 = .ok (.istore 5, 2) := by decide +kernel
theorem dX4_fillUp_72 : decode cX4_fillUp 72 = .ok (.iload 5, 2) := by decide +kernel
theorem dX4_fillUp_74 : decode cX4_fillUp 74 = .ok (.aload_n 0, 1) := by decide +kernel
theorem dX4_fillUp_75 : decode cX4_fillUp 75 = .ok (.getfield 23, 3) := by decide +kernel
theorem dX4_fillUp_78 : decode cX4_fillUp 78 = .ok (.iload_n 2, 1) := by decide +kernel
theorem dX4_fillUp_79 : decode cX4_fillUp 79 = .ok (.iconst 1, 1) := by decide +kernel
theorem dX4_fillUp_80 : decode cX4_fillUp 80 = .ok (.invokevirtual 96, 3) := by decide +kernel
theorem dX4_fillUp_83 : decode cX4_fillUp 83 = .ok (.invokestatic 106, 3) := by decide +kernel
theorem dX4_fillUp_86 : decode cX4_fillUp 86 = .ok (.istore 6, 2) := by decide +kernel
theorem dX4_fillUp_88 : decode cX4_fillUp 88 = .ok (.aload_n 0, 1) := by decide +kernel
theorem dX4_fillUp_89 : decode cX4_fillUp 89 = .ok (.getfield 29, 3) := by decide +kernel
theorem dX4_fillUp_92 : decode cX4_fillUp 92 = .ok (.iload 4, 2) := by decide +kernel
theorem dX4_fillUp_94 : decode cX4_fillUp 94 = .ok (.iconst 3, 1) := by decide +kernel
theorem dX4_fillUp_95 : decode cX4_fillUp 95 = .ok (.iload 6, 2) := by decide +kernel
theorem dX4_fillUp_97 : decode cX4_fillUp 97 = .ok (.invokevirtual 126, 3) := by decide +kernel
theorem dX4_fillUp_100 : decode cX4_fillUp 100 = .ok (.aload_n 0, 1) := by decide +kernel
theorem dX4_fillUp_101 : decode cX4_fillUp 101 = .ok (.getfield 23, 3) := by decide +kernel
theorem dX4_fillUp_104 : decode cX4_fillUp 104 = .ok (.iload_n 2, 1) := by decide +kernel
theorem dX4_fillUp_105 : decode cX4_fillUp 105 = .ok (.iconst 1, 1) := by decide +kernel
theorem dX4_fillUp_106 : decode cX4_fillUp 106 = .ok (.iload 6, 2) := by decide +kernel
theorem dX4_fillUp_108 : decode cX4_fillUp 108 = .ok (.ineg, 1) := by decide +kernel
theorem dX4_fillUp_109 : decode cX4_fillUp 109 = .ok (.invokevirtual 126, 3) := by decide +kernel
theorem dX4_fillUp_112 : decode cX4_fillUp 112 = .ok (.aload_n 0, 1) := by decide +kernel
theorem dX4_fillUp_113 : decode cX4_fillUp 113 = .ok (.aload_n 0, 1) := by decide +kernel
theorem dX4_fillUp_114 : decode cX4_fillUp 114 = .ok (.getfield 66, 3) := by decide +kernel
theorem dX4_fillUp_117 : decode cX4_fillUp 117 = .ok (.ifCond .ne 8, 3) := by decide +kernel
theorem dX4_fillUp_120 : decode cX4_fillUp 120 = .ok (.iload 6, 2) := by decide +kernel
theorem dX4_fillUp_122 : decode cX4_fillUp 122 = .ok (.ifCond .le 7, 3) := by decide +kernel
theorem dX4_fillUp_125 : decode cX4_fillUp 125 = .ok (.iconst 1, 1) := by decide +kernel
theorem dX4_fillUp_126 : decode cX4_fillUp 126 = .ok (.goto 4, 3) := by decide +kernel
theorem dX4_fillUp_129 : decode cX4_fillUp 129 = .ok (.iconst 0, 1) := by decide +kernel
theorem dX4_fillUp_130 : decode cX4_fillUp 130 = .ok (.putfield 66, 3) := by decide +kernel
theorem dX4_fillUp_133 : decode cX4_fillUp 133 = .ok (.iinc 3 1, 3) := by decide +kernel
theorem dX4_fillUp_136 : decode cX4_fillUp 136 = .ok (.goto (-110), 3) := by decide +kernel
theorem dX4_fillUp_139 : decode cX4_fillUp 139 = .ok (.return_, 1) := by decide +kernel
theorem dX4_waitsAtGate_0 : decode cX4_waitsAtGate 0 = .ok (.aload_n 0, 1) := by decide +kernel
theorem dX4_waitsAtGate_1 : decode cX4_waitsAtGate 1 = .ok (.getfield 14, 3) := by decide +kernel
theorem dX4_waitsAtGate_4 : decode cX4_waitsAtGate 4 = .ok (.aload_n 0, 1) := by decide +kernel
theorem dX4_waitsAtGate_5 : decode cX4_waitsAtGate 5 = .ok (.getfield 26, 3) := by decide +kernel
theorem dX4_waitsAtGate_8 : decode cX4_waitsAtGate 8 = .ok (.iload_n 1, 1) := by decide +kernel
theorem dX4_waitsAtGate_9 : decode cX4_waitsAtGate 9 = .ok (.iconst 0, 1) := by decide +kernel
theorem dX4_waitsAtGate_10 : decode cX4_waitsAtGate 10 = .ok (.invokevirtual 96, 3) := by decide +kernel
theorem dX4_waitsAtGate_13 : decode cX4_waitsAtGate 13 = .ok (.iconst 1, 1) := by decide +kernel
theorem dX4_waitsAtGate_14 : decode cX4_waitsAtGate 14 = .ok (.iadd, 1) := by decide +kernel
theorem dX4_waitsAtGate_15 : decode cX4_waitsAtGate 15 = .ok (.invokevirtual 153, 3) := by decide +kernel
theorem dX4_waitsAtGate_18 : decode cX4_waitsAtGate 18 = .ok (.istore_n 2, 1) := by decide +kernel
theorem dX4_waitsAtGate_19 : decode cX4_waitsAtGate 19 = .ok (.aload_n 0, 1) := by decide +kernel
theorem dX4_waitsAtGate_20 : decode cX4_waitsAtGate 20 = .ok (.iload_n 2, 1) := by decide +kernel
theorem dX4_waitsAtGate_21 : decode cX4_waitsAtGate 21 = .ok (.invokevirtual 156, 3) := by decide +kernel
theorem dX4_waitsAtGate_24 : decode cX4_waitsAtGate 24 = .ok (.ifCond .ne 5, 3) := by decide +kernel
theorem dX4_waitsAtGate_27 : decode cX4_waitsAtGate 27 = .ok (.iconst 0, 1) := by decide +kernel
theorem dX4_waitsAtGate_28 : decode cX4_waitsAtGate 28 = .ok (.ireturn, 1) := by decide +kernel
theorem dX4_waitsAtGate_29 : decode cX4_waitsAtGate 29 = .ok (.aload_n 0, 1) := by decide +kernel
theorem dX4_waitsAtGate_30 : decode cX4_waitsAtGate 30 = .ok (.getfield 26, 3) := by decide +kernel
theorem dX4_waitsAtGate_33 : decode cX4_waitsAtGate 33 = .ok (.iload_n 1, 1) := by decide +kernel
theorem dX4_waitsAtGate_34 : decode cX4_waitsAtGate 34 = .ok (.iconst 2, 1) := by decide +kernel
theorem dX4_waitsAtGate_35 : decode cX4_waitsAtGate 35 = .ok (.iconst 1, 1) := by decide +kernel
theorem dX4_waitsAtGate_36 : decode cX4_waitsAtGate 36 = .ok (.invokevirtual 126, 3) := by decide +kernel
theorem dX4_waitsAtGate_39 : decode cX4_waitsAtGate 39 = .ok (.aload_n 0, 1) := by decide +kernel
theorem dX4_waitsAtGate_40 : decode cX4_waitsAtGate 40 = .ok (.iconst 1, 1) := by decide +kernel
theorem dX4_waitsAtGate_41 : decode cX4_waitsAtGate 41 = .ok (.putfield 66, 3) := by decide +kernel
theorem dX4_waitsAtGate_44 : decode cX4_waitsAtGate 44 = .ok (.iconst 1, 1) := by decide +kernel
theorem dX4_waitsAtGate_45 : decode cX4_waitsAtGate 45 = .ok (.ireturn, 1) := by decide +kernel
theorem dX4_leaveStragglers_0 : decode cX4_leaveStragglers 0 = .ok (.aload_n 0, 1) := by decide +kernel
theorem dX4_leaveStragglers_1 : decode cX4_leaveStragglers 1 = .ok (.getfield 20, 3) := by decide +kernel
theorem dX4_leaveStragglers_4 : decode cX4_leaveStragglers 4 = .ok (.aload_n 0, 1) := by decide +kernel
theorem dX4_leaveStragglers_5 : decode cX4_leaveStragglers 5 = .ok (.getfield 26, 3) := by decide +kernel
theorem dX4_leaveStragglers_8 : decode cX4_leaveStragglers 8 = .ok (.iload_n 1, 1) := by decide +kernel
theorem dX4_leaveStragglers_9 : decode cX4_leaveStragglers 9 = .ok (.iconst 0, 1) := by decide +kernel
theorem dX4_leaveStragglers_10 : decode cX4_leaveStragglers 10 = .ok (.invokevirtual 96, 3) := by decide +kernel
theorem dX4_leaveStragglers_13 : decode cX4_leaveStragglers 13 = .ok (.invokevirtual 153, 3) := by decide +kernel
theorem dX4_leaveStragglers_16 : decode cX4_leaveStragglers 16 = .ok (.istore_n 2, 1) := by decide +kernel
theorem dX4_leaveStragglers_17 : decode cX4_leaveStragglers 17 = .ok (.iload_n 2, 1) := by decide +kernel
theorem dX4_leaveStragglers_18 : decode cX4_leaveStragglers 18 = .ok (.bipush (-9), 2) := by decide +kernel
theorem dX4_leaveStragglers_20 : decode cX4_leaveStragglers 20 = .ok (.if_icmp .ne 7, 3) := by decide +kernel
theorem dX4_leaveStragglers_23 : decode cX4_leaveStragglers 23 = .ok (.iconst 0, 1) := by decide +kernel
theorem dX4_leaveStragglers_24 : decode cX4_leaveStragglers 24 = .ok (.goto 21, 3) := by decide +kernel
theorem dX4_leaveStragglers_27 : decode cX4_leaveStragglers 27 = .ok (.aload_n 0, 1) := by decide +kernel
theorem dX4_leaveStragglers_28 : decode cX4_leaveStragglers 28 = .ok (.getfield 20, 3) := by decide +kernel
theorem dX4_leaveStragglers_31 : decode cX4_leaveStragglers 31 = .ok (.iload_n 2, 1) := by decide +kernel
theorem dX4_leaveStragglers_32 : decode cX4_leaveStragglers 32 = .ok (.iconst 1, 1) := by decide +kernel
theorem dX4_leaveStragglers_33 : decode cX4_leaveStragglers 33 = .ok (.invokevirtual 96, 3) := by decide +kernel
theorem dX4_leaveStragglers_36 : decode cX4_leaveStragglers 36 = .ok (.aload_n 0, 1) := by decide +kernel
theorem dX4_leaveStragglers_37 : decode cX4_leaveStragglers 37 = .ok (.getfield 39, 3) := by decide +kernel
theorem dX4_leaveStragglers_40 : decode cX4_leaveStragglers 40 = .ok (.iload_n 2, 1) := by decide +kernel
theorem dX4_leaveStragglers_41 : decode cX4_leaveStragglers 41 = .ok (.invokevirtual 92, 3) := by decide +kernel
theorem dX4_leaveStragglers_44 : decode cX4_leaveStragglers 44 = .ok (.isub, 1) := by decide +kernel
theorem dX4_leaveStragglers_45 : decode cX4_leaveStragglers 45 = .ok (.istore_n 3, 1) := by decide +kernel
theorem dX4_leaveStragglers_46 : decode cX4_leaveStragglers 46 = .ok (.aload_n 0, 1) := by decide +kernel
theorem dX4_leaveStragglers_47 : decode cX4_leaveStragglers 47 = .ok (.getfield 35, 3) := by decide +kernel
theorem dX4_leaveStragglers_50 : decode cX4_leaveStragglers 50 = .ok (.iload_n 1, 1) := by decide +kernel
theorem dX4_leaveStragglers_51 : decode cX4_leaveStragglers 51 = .ok (.invokevirtual 92, 3) := by decide +kernel
theorem dX4_leaveStragglers_54 : decode cX4_leaveStragglers 54 = .ok (.istore 4, 2) := by decide +kernel
theorem dX4_leaveStragglers_56 : decode cX4_leaveStragglers 56 = .ok (.iconst 0, 1) := by decide +kernel
theorem dX4_leaveStragglers_57 : decode cX4_leaveStragglers 57 = .ok (.istore 5, 2) := by decide +kernel
theorem dX4_leaveStragglers_59 : decode cX4_leaveStragglers 59 = .ok (.iconst 0, 1) := by decide +kernel
theorem dX4_leaveStragglers_60 : decode cX4_leaveStragglers 60 = .ok (.istore 6, 2) := by decide +kernel
theorem dX4_leaveStragglers_62 : decode cX4_leaveStragglers 62 = .ok (.iload 6, 2) := by decide +kernel
theorem dX4_leaveStragglers_64 : decode cX4_leaveStragglers 64 = .ok (.iload 4, 2) := by decide +kernel
theorem dX4_leaveStragglers_66 : decode cX4_leaveStragglers 66 = .ok (.if_icmp .ge 79, 3) := by decide +kernel
theorem dX4_leaveStragglers_69 : decode cX4_leaveStragglers 69 = .ok (.iload_n 3, 1) := by decide +kernel
theorem dX4_leaveStragglers_70 : decode cX4_leaveStragglers 70 = .ok (.ifCond .le 75, 3) := by decide +kernel
theorem dX4_leaveStragglers_73 : decode cX4_leaveStragglers 73 = .ok (.aload_n 0, 1) := by decide +kernel
theorem dX4_leaveStragglers_74 : decode cX4_leaveStragglers 74 = .ok (.getfield 35, 3) := by decide +kernel
theorem dX4_leaveStragglers_77 : decode cX4_leaveStragglers 77 = .ok (.iload_n 1, 1) := by decide +kernel
theorem dX4_leaveStragglers_78 : decode cX4_leaveStragglers 78 = .ok (.iload 5, 2) := by decide +kernel
theorem dX4_leaveStragglers_80 : decode cX4_leaveStragglers 80 = .ok (.invokevirtual 105, 3) := by decide +kernel
theorem dX4_leaveStragglers_83 : decode cX4_leaveStragglers 83 = .ok (.istore 7, 2) := by decide +kernel
theorem dX4_leaveStragglers_85 : decode cX4_leaveStragglers 85 = .ok (.aload_n 0, 1) := by decide +kernel
theorem dX4_leaveStragglers_86 : decode cX4_leaveStragglers 86 = .ok (.iload 7, 2) := by decide +kernel
theorem dX4_leaveStragglers_88 : decode cX4_leaveStragglers 88 = .ok (.invokevirtual 159, 3) := by decide +kernel
theorem dX4_leaveStragglers_91 : decode cX4_leaveStragglers 91 = .ok (.ifCond .eq 45, 3) := by decide +kernel
theorem dX4_leaveStragglers_94 : decode cX4_leaveStragglers 94 = .ok (.aload_n 0, 1) := by decide +kernel
theorem dX4_leaveStragglers_95 : decode cX4_leaveStragglers 95 = .ok (.getfield 35, 3) := by decide +kernel
theorem dX4_leaveStragglers_98 : decode cX4_leaveStragglers 98 = .ok (.iload_n 1, 1) := by decide +kernel
theorem dX4_leaveStragglers_99 : decode cX4_leaveStragglers 99 = .ok (.iload 5, 2) := by decide +kernel
theorem dX4_leaveStragglers_101 : decode cX4_leaveStragglers 101 = .ok (.invokevirtual 162, 3) := by decide +kernel
theorem dX4_leaveStragglers_104 : decode cX4_leaveStragglers 104 = .ok (.aload_n 0, 1) := by decide +kernel
theorem dX4_leaveStragglers_105 : decode cX4_leaveStragglers 105 = .ok (.getfield 39, 3) := by decide +kernel
theorem dX4_leaveStragglers_108 : decode cX4_leaveStragglers 108 = .ok (.iload_n 2, 1) := by decide +kernel
theorem dX4_leaveStragglers_109 : decode cX4_leaveStragglers 109 = .ok (.iload 7, 2) := by decide +kernel
theorem dX4_leaveStragglers_111 : decode cX4_leaveStragglers 111 = .ok (.invokevirtual 81, 3) := by decide +kernel
theorem dX4_leaveStragglers_114 : decode cX4_leaveStragglers 114 = .ok (.aload_n 0, 1) := by decide +kernel
theorem dX4_leaveStragglers_115 : decode cX4_leaveStragglers 115 = .ok (.iload 7, 2) := by decide +kernel
theorem dX4_leaveStragglers_117 : decode cX4_leaveStragglers 117 = .ok (.iconst 1, 1) := by decide +kernel
theorem dX4_leaveStragglers_118 : decode cX4_leaveStragglers 118 = .ok (.iload_n 2, 1) := by decide +kernel
theorem dX4_leaveStragglers_119 : decode cX4_leaveStragglers 119 = .ok (.invokevirtual 78, 3) := by decide +kernel
theorem dX4_leaveStragglers_122 : decode cX4_leaveStragglers 122 = .ok (.aload_n 0, 1) := by decide +kernel
theorem dX4_leaveStragglers_123 : decode cX4_leaveStragglers 123 = .ok (.iload_n 1, 1) := by decide +kernel
theorem dX4_leaveStragglers_124 : decode cX4_leaveStragglers 124 = .ok (.iload_n 2, 1) := by decide +kernel
theorem dX4_leaveStragglers_125 : decode cX4_leaveStragglers 125 = .ok (.iload 7, 2) := by decide +kernel
theorem dX4_leaveStragglers_127 : decode cX4_leaveStragglers 127 = .ok (.invokevirtual 165, 3) := by decide +kernel
theorem dX4_leaveStragglers_130 : decode cX4_leaveStragglers 130 = .ok (.iinc 3 (-1), 3) := by decide +kernel
theorem dX4_leaveStragglers_133 : decode cX4_leaveStragglers 133 = .ok (.goto 6, 3) := by decide +kernel
theorem dX4_leaveStragglers_136 : decode cX4_leaveStragglers 136 = .ok (.iinc 5 1, 3) := by decide +kernel
theorem dX4_leaveStragglers_139 : decode cX4_leaveStragglers 139 = .ok (.iinc 6 1, 3) := by decide +kernel
theorem dX4_leaveStragglers_142 : decode cX4_leaveStragglers 142 = .ok (.goto (-80), 3) := by decide +kernel
theorem dX4_leaveStragglers_145 : decode cX4_leaveStragglers 145 = .ok (.return_, 1) := by decide +kernel
theorem dX4_stands_0 : decode cX4_stands 0 = .ok (.aload_n 0, 1) := by decide +kernel
theorem dX4_stands_1 : decode cX4_stands 1 = .ok (.getfield 35, 3) := by decide +kernel
theorem dX4_stands_4 : decode cX4_stands 4 = .ok (.iload_n 1, 1) := by decide +kernel
theorem dX4_stands_5 : decode cX4_stands 5 = .ok (.invokevirtual 92, 3) := by decide +kernel
theorem dX4_stands_8 : decode cX4_stands 8 = .ok (.ifCond .ne 7, 3) := by decide +kernel
theorem dX4_stands_11 : decode cX4_stands 11 = .ok (.iconst 1, 1) := by decide +kernel
theorem dX4_stands_12 : decode cX4_stands 12 = .ok (.goto 4, 3) := by decide +kernel
theorem dX4_stands_15 : decode cX4_stands 15 = .ok (.iconst 0, 1) := by decide +kernel
theorem dX4_stands_16 : decode cX4_stands 16 = .ok (.istore_n 2, 1) := by decide +kernel
theorem dX4_stands_17 : decode cX4_stands 17 = .ok (.iconst 0, 1) := by decide +kernel
theorem dX4_stands_18 : decode cX4_stands 18 = .ok (.istore_n 3, 1) := by decide +kernel
theorem dX4_stands_19 : decode cX4_stands 19 = .ok (.iload_n 3, 1) := by decide +kernel
theorem dX4_stands_20 : decode cX4_stands 20 = .ok (.aload_n 0, 1) := by decide +kernel
theorem dX4_stands_21 : decode cX4_stands 21 = .ok (.getfield 35, 3) := by decide +kernel
theorem dX4_stands_24 : decode cX4_stands 24 = .ok (.iload_n 1, 1) := by decide +kernel
theorem dX4_stands_25 : decode cX4_stands 25 = .ok (.invokevirtual 92, 3) := by decide +kernel
theorem dX4_stands_28 : decode cX4_stands 28 = .ok (.if_icmp .ge 35, 3) := by decide +kernel
theorem dX4_stands_31 : decode cX4_stands 31 = .ok (.iload_n 2, 1) := by decide +kernel
theorem dX4_stands_32 : decode cX4_stands 32 = .ok (.ifCond .ne 19, 3) := by decide +kernel
theorem dX4_stands_35 : decode cX4_stands 35 = .ok (.aload_n 0, 1) := by decide +kernel
theorem dX4_stands_36 : decode cX4_stands 36 = .ok (.aload_n 0, 1) := by decide +kernel
theorem dX4_stands_37 : decode cX4_stands 37 = .ok (.getfield 35, 3) := by decide +kernel
theorem dX4_stands_40 : decode cX4_stands 40 = .ok (.iload_n 1, 1) := by decide +kernel
theorem dX4_stands_41 : decode cX4_stands 41 = .ok (.iload_n 3, 1) := by decide +kernel
theorem dX4_stands_42 : decode cX4_stands 42 = .ok (.invokevirtual 105, 3) := by decide +kernel
theorem dX4_stands_45 : decode cX4_stands 45 = .ok (.invokevirtual 159, 3) := by decide +kernel
theorem dX4_stands_48 : decode cX4_stands 48 = .ok (.ifCond .eq 7, 3) := by decide +kernel
theorem dX4_stands_51 : decode cX4_stands 51 = .ok (.iconst 1, 1) := by decide +kernel
theorem dX4_stands_52 : decode cX4_stands 52 = .ok (.goto 4, 3) := by decide +kernel
theorem dX4_stands_55 : decode cX4_stands 55 = .ok (.iconst 0, 1) := by decide +kernel
theorem dX4_stands_56 : decode cX4_stands 56 = .ok (.istore_n 2, 1) := by decide +kernel
theorem dX4_stands_57 : decode cX4_stands 57 = .ok (.iinc 3 1, 3) := by decide +kernel
theorem dX4_stands_60 : decode cX4_stands 60 = .ok (.goto (-41), 3) := by decide +kernel
theorem dX4_stands_63 : decode cX4_stands 63 = .ok (.iload_n 2, 1) := by decide +kernel
theorem dX4_stands_64 : decode cX4_stands 64 = .ok (.ifCond .eq 13, 3) := by decide +kernel
theorem dX4_stands_67 : decode cX4_stands 67 = .ok (.aload_n 0, 1) := by decide +kernel
theorem dX4_stands_68 : decode cX4_stands 68 = .ok (.getfield 26, 3) := by decide +kernel
theorem dX4_stands_71 : decode cX4_stands 71 = .ok (.iload_n 1, 1) := by decide +kernel
theorem dX4_stands_72 : decode cX4_stands 72 = .ok (.iconst 3, 1) := by decide +kernel
theorem dX4_stands_73 : decode cX4_stands 73 = .ok (.iconst 1, 1) := by decide +kernel
theorem dX4_stands_74 : decode cX4_stands 74 = .ok (.invokevirtual 126, 3) := by decide +kernel
theorem dX4_stands_77 : decode cX4_stands 77 = .ok (.iload_n 2, 1) := by decide +kernel
theorem dX4_stands_78 : decode cX4_stands 78 = .ok (.ireturn, 1) := by decide +kernel
theorem dX4_noteLeft_0 : decode cX4_noteLeft 0 = .ok (.aload_n 0, 1) := by decide +kernel
theorem dX4_noteLeft_1 : decode cX4_noteLeft 1 = .ok (.iconst 1, 1) := by decide +kernel
theorem dX4_noteLeft_2 : decode cX4_noteLeft 2 = .ok (.putfield 66, 3) := by decide +kernel
theorem dX4_noteLeft_5 : decode cX4_noteLeft 5 = .ok (.iload_n 1, 1) := by decide +kernel
theorem dX4_noteLeft_6 : decode cX4_noteLeft 6 = .ok (.aload_n 0, 1) := by decide +kernel
theorem dX4_noteLeft_7 : decode cX4_noteLeft 7 = .ok (.getfield 42, 3) := by decide +kernel
theorem dX4_noteLeft_10 : decode cX4_noteLeft 10 = .ok (.if_icmp .ne 22, 3) := by decide +kernel
theorem dX4_noteLeft_13 : decode cX4_noteLeft 13 = .ok (.aload_n 0, 1) := by decide +kernel
theorem dX4_noteLeft_14 : decode cX4_noteLeft 14 = .ok (.getfield 46, 3) := by decide +kernel
theorem dX4_noteLeft_17 : decode cX4_noteLeft 17 = .ok (.bipush (-9), 2) := by decide +kernel
theorem dX4_noteLeft_19 : decode cX4_noteLeft 19 = .ok (.if_icmp .ne 13, 3) := by decide +kernel
theorem dX4_noteLeft_22 : decode cX4_noteLeft 22 = .ok (.aload_n 0, 1) := by decide +kernel
theorem dX4_noteLeft_23 : decode cX4_noteLeft 23 = .ok (.bipush 100, 2) := by decide +kernel
theorem dX4_noteLeft_25 : decode cX4_noteLeft 25 = .ok (.iload_n 2, 1) := by decide +kernel
theorem dX4_noteLeft_26 : decode cX4_noteLeft 26 = .ok (.imul, 1) := by decide +kernel
theorem dX4_noteLeft_27 : decode cX4_noteLeft 27 = .ok (.iload_n 3, 1) := by decide +kernel
theorem dX4_noteLeft_28 : decode cX4_noteLeft 28 = .ok (.iadd, 1) := by decide +kernel
theorem dX4_noteLeft_29 : decode cX4_noteLeft 29 = .ok (.putfield 46, 3) := by decide +kernel
theorem dX4_noteLeft_32 : decode cX4_noteLeft 32 = .ok (.return_, 1) := by decide +kernel
theorem dX4_goOn_0 : decode cX4_goOn 0 = .ok (.aload_n 0, 1) := by decide +kernel
theorem dX4_goOn_1 : decode cX4_goOn 1 = .ok (.iconst 1, 1) := by decide +kernel
theorem dX4_goOn_2 : decode cX4_goOn 2 = .ok (.putfield 66, 3) := by decide +kernel
theorem dX4_goOn_5 : decode cX4_goOn 5 = .ok (.aload_n 0, 1) := by decide +kernel
theorem dX4_goOn_6 : decode cX4_goOn 6 = .ok (.getfield 26, 3) := by decide +kernel
theorem dX4_goOn_9 : decode cX4_goOn 9 = .ok (.iload_n 1, 1) := by decide +kernel
theorem dX4_goOn_10 : decode cX4_goOn 10 = .ok (.iconst 0, 1) := by decide +kernel
theorem dX4_goOn_11 : decode cX4_goOn 11 = .ok (.iconst 1, 1) := by decide +kernel
theorem dX4_goOn_12 : decode cX4_goOn 12 = .ok (.invokevirtual 126, 3) := by decide +kernel
theorem dX4_goOn_15 : decode cX4_goOn 15 = .ok (.aload_n 0, 1) := by decide +kernel
theorem dX4_goOn_16 : decode cX4_goOn 16 = .ok (.iload_n 1, 1) := by decide +kernel
theorem dX4_goOn_17 : decode cX4_goOn 17 = .ok (.invokevirtual 119, 3) := by decide +kernel
theorem dX4_goOn_20 : decode cX4_goOn 20 = .ok (.istore_n 2, 1) := by decide +kernel
theorem dX4_goOn_21 : decode cX4_goOn 21 = .ok (.iconst 0, 1) := by decide +kernel
theorem dX4_goOn_22 : decode cX4_goOn 22 = .ok (.istore_n 3, 1) := by decide +kernel
theorem dX4_goOn_23 : decode cX4_goOn 23 = .ok (.iload_n 3, 1) := by decide +kernel
theorem dX4_goOn_24 : decode cX4_goOn 24 = .ok (.aload_n 0, 1) := by decide +kernel
theorem dX4_goOn_25 : decode cX4_goOn 25 = .ok (.getfield 35, 3) := by decide +kernel
theorem dX4_goOn_28 : decode cX4_goOn 28 = .ok (.iload_n 1, 1) := by decide +kernel
theorem dX4_goOn_29 : decode cX4_goOn 29 = .ok (.invokevirtual 92, 3) := by decide +kernel
theorem dX4_goOn_32 : decode cX4_goOn 32 = .ok (.if_icmp .ge 71, 3) := by decide +kernel
theorem dX4_goOn_35 : decode cX4_goOn 35 = .ok (.aload_n 0, 1) := by decide +kernel
theorem dX4_goOn_36 : decode cX4_goOn 36 = .ok (.getfield 35, 3) := by decide +kernel
theorem dX4_goOn_39 : decode cX4_goOn 39 = .ok (.iload_n 1, 1) := by decide +kernel
theorem dX4_goOn_40 : decode cX4_goOn 40 = .ok (.iload_n 3, 1) := by decide +kernel
theorem dX4_goOn_41 : decode cX4_goOn 41 = .ok (.invokevirtual 105, 3) := by decide +kernel
theorem dX4_goOn_44 : decode cX4_goOn 44 = .ok (.istore 4, 2) := by decide +kernel
theorem dX4_goOn_46 : decode cX4_goOn 46 = .ok (.aload_n 0, 1) := by decide +kernel
theorem dX4_goOn_47 : decode cX4_goOn 47 = .ok (.getfield 29, 3) := by decide +kernel
theorem dX4_goOn_50 : decode cX4_goOn 50 = .ok (.iload 4, 2) := by decide +kernel
theorem dX4_goOn_52 : decode cX4_goOn 52 = .ok (.iconst 1, 1) := by decide +kernel
theorem dX4_goOn_53 : decode cX4_goOn 53 = .ok (.invokevirtual 96, 3) := by decide +kernel
theorem dX4_goOn_56 : decode cX4_goOn 56 = .ok (.istore 5, 2) := by decide +kernel
theorem dX4_goOn_58 : decode cX4_goOn 58 = .ok (.aload_n 0, 1) := by decide +kernel
theorem dX4_goOn_59 : decode cX4_goOn 59 = .ok (.getfield 29, 3) := by decide +kernel
theorem dX4_goOn_62 : decode cX4_goOn 62 = .ok (.iload 4, 2) := by decide +kernel
theorem dX4_goOn_64 : decode cX4_goOn 64 = .ok (.iconst 3, 1) := by decide +kernel
theorem dX4_goOn_65 : decode cX4_goOn 65 = .ok (.iload 5, 2) := by decide +kernel
theorem dX4_goOn_67 : decode cX4_goOn 67 = .ok (.ineg, 1) := by decide +kernel
theorem dX4_goOn_68 : decode cX4_goOn 68 = .ok (.invokevirtual 126, 3) := by decide +kernel
theorem dX4_goOn_71 : decode cX4_goOn 71 = .ok (.aload_n 0, 1) := by decide +kernel
theorem dX4_goOn_72 : decode cX4_goOn 72 = .ok (.getfield 29, 3) := by decide +kernel
theorem dX4_goOn_75 : decode cX4_goOn 75 = .ok (.iload 4, 2) := by decide +kernel
theorem dX4_goOn_77 : decode cX4_goOn 77 = .ok (.bipush 6, 2) := by decide +kernel
theorem dX4_goOn_79 : decode cX4_goOn 79 = .ok (.iload 5, 2) := by decide +kernel
theorem dX4_goOn_81 : decode cX4_goOn 81 = .ok (.invokevirtual 126, 3) := by decide +kernel
theorem dX4_goOn_84 : decode cX4_goOn 84 = .ok (.iload_n 2, 1) := by decide +kernel
theorem dX4_goOn_85 : decode cX4_goOn 85 = .ok (.ifCond .eq 12, 3) := by decide +kernel
theorem dX4_goOn_88 : decode cX4_goOn 88 = .ok (.aload_n 0, 1) := by decide +kernel
theorem dX4_goOn_89 : decode cX4_goOn 89 = .ok (.iload 4, 2) := by decide +kernel
theorem dX4_goOn_91 : decode cX4_goOn 91 = .ok (.iconst 2, 1) := by decide +kernel
theorem dX4_goOn_92 : decode cX4_goOn 92 = .ok (.bipush (-9), 2) := by decide +kernel
theorem dX4_goOn_94 : decode cX4_goOn 94 = .ok (.invokevirtual 78, 3) := by decide +kernel
theorem dX4_goOn_97 : decode cX4_goOn 97 = .ok (.iinc 3 1, 3) := by decide +kernel
theorem dX4_goOn_100 : decode cX4_goOn 100 = .ok (.goto (-77), 3) := by decide +kernel
theorem dX4_goOn_103 : decode cX4_goOn 103 = .ok (.iload_n 2, 1) := by decide +kernel
theorem dX4_goOn_104 : decode cX4_goOn 104 = .ok (.ifCond .eq 11, 3) := by decide +kernel
theorem dX4_goOn_107 : decode cX4_goOn 107 = .ok (.aload_n 0, 1) := by decide +kernel
theorem dX4_goOn_108 : decode cX4_goOn 108 = .ok (.getfield 35, 3) := by decide +kernel
theorem dX4_goOn_111 : decode cX4_goOn 111 = .ok (.iload_n 1, 1) := by decide +kernel
theorem dX4_goOn_112 : decode cX4_goOn 112 = .ok (.invokevirtual 168, 3) := by decide +kernel
theorem dX4_goOn_115 : decode cX4_goOn 115 = .ok (.return_, 1) := by decide +kernel
theorem dX4_rescues_0 : decode cX4_rescues 0 = .ok (.aload_n 0, 1) := by decide +kernel
theorem dX4_rescues_1 : decode cX4_rescues 1 = .ok (.getfield 20, 3) := by decide +kernel
theorem dX4_rescues_4 : decode cX4_rescues 4 = .ok (.aload_n 0, 1) := by decide +kernel
theorem dX4_rescues_5 : decode cX4_rescues 5 = .ok (.getfield 26, 3) := by decide +kernel
theorem dX4_rescues_8 : decode cX4_rescues 8 = .ok (.iload_n 1, 1) := by decide +kernel
theorem dX4_rescues_9 : decode cX4_rescues 9 = .ok (.iconst 0, 1) := by decide +kernel
theorem dX4_rescues_10 : decode cX4_rescues 10 = .ok (.invokevirtual 96, 3) := by decide +kernel
theorem dX4_rescues_13 : decode cX4_rescues 13 = .ok (.invokevirtual 153, 3) := by decide +kernel
theorem dX4_rescues_16 : decode cX4_rescues 16 = .ok (.istore_n 2, 1) := by decide +kernel
theorem dX4_rescues_17 : decode cX4_rescues 17 = .ok (.aload_n 0, 1) := by decide +kernel
theorem dX4_rescues_18 : decode cX4_rescues 18 = .ok (.getfield 39, 3) := by decide +kernel
theorem dX4_rescues_21 : decode cX4_rescues 21 = .ok (.iload_n 2, 1) := by decide +kernel
theorem dX4_rescues_22 : decode cX4_rescues 22 = .ok (.invokevirtual 92, 3) := by decide +kernel
theorem dX4_rescues_25 : decode cX4_rescues 25 = .ok (.istore_n 3, 1) := by decide +kernel
theorem dX4_rescues_26 : decode cX4_rescues 26 = .ok (.aload_n 0, 1) := by decide +kernel
theorem dX4_rescues_27 : decode cX4_rescues 27 = .ok (.getfield 35, 3) := by decide +kernel
theorem dX4_rescues_30 : decode cX4_rescues 30 = .ok (.iload_n 1, 1) := by decide +kernel
theorem dX4_rescues_31 : decode cX4_rescues 31 = .ok (.invokevirtual 92, 3) := by decide +kernel
theorem dX4_rescues_34 : decode cX4_rescues 34 = .ok (.istore 4, 2) := by decide +kernel
theorem dX4_rescues_36 : decode cX4_rescues 36 = .ok (.iconst 1, 1) := by decide +kernel
theorem dX4_rescues_37 : decode cX4_rescues 37 = .ok (.istore 5, 2) := by decide +kernel
theorem dX4_rescues_39 : decode cX4_rescues 39 = .ok (.iconst 0, 1) := by decide +kernel
theorem dX4_rescues_40 : decode cX4_rescues 40 = .ok (.istore 6, 2) := by decide +kernel
theorem dX4_rescues_42 : decode cX4_rescues 42 = .ok (.iload 6, 2) := by decide +kernel
theorem dX4_rescues_44 : decode cX4_rescues 44 = .ok (.iload_n 3, 1) := by decide +kernel
theorem dX4_rescues_45 : decode cX4_rescues 45 = .ok (.if_icmp .ge 97, 3) := by decide +kernel
theorem dX4_rescues_48 : decode cX4_rescues 48 = .ok (.iload 5, 2) := by decide +kernel
theorem dX4_rescues_50 : decode cX4_rescues 50 = .ok (.ifCond .eq 92, 3) := by decide +kernel
theorem dX4_rescues_53 : decode cX4_rescues 53 = .ok (.aload_n 0, 1) := by decide +kernel
theorem dX4_rescues_54 : decode cX4_rescues 54 = .ok (.getfield 35, 3) := by decide +kernel
theorem dX4_rescues_57 : decode cX4_rescues 57 = .ok (.iload_n 1, 1) := by decide +kernel
theorem dX4_rescues_58 : decode cX4_rescues 58 = .ok (.invokevirtual 92, 3) := by decide +kernel
theorem dX4_rescues_61 : decode cX4_rescues 61 = .ok (.bipush 8, 2) := by decide +kernel
theorem dX4_rescues_63 : decode cX4_rescues 63 = .ok (.if_icmp .ge 79, 3) := by decide +kernel
theorem dX4_rescues_66 : decode cX4_rescues 66 = .ok (.aload_n 0, 1) := by decide +kernel
theorem dX4_rescues_67 : decode cX4_rescues 67 = .ok (.getfield 39, 3) := by decide +kernel
theorem dX4_rescues_70 : decode cX4_rescues 70 = .ok (.iload_n 2, 1) := by decide +kernel
theorem dX4_rescues_71 : decode cX4_rescues 71 = .ok (.iconst 0, 1) := by decide +kernel
theorem dX4_rescues_72 : decode cX4_rescues 72 = .ok (.invokevirtual 105, 3) := by decide +kernel
theorem dX4_rescues_75 : decode cX4_rescues 75 = .ok (.istore 7, 2) := by decide +kernel
theorem dX4_rescues_77 : decode cX4_rescues 77 = .ok (.aload_n 0, 1) := by decide +kernel
theorem dX4_rescues_78 : decode cX4_rescues 78 = .ok (.aload_n 0, 1) := by decide +kernel
theorem dX4_rescues_79 : decode cX4_rescues 79 = .ok (.iload_n 1, 1) := by decide +kernel
theorem dX4_rescues_80 : decode cX4_rescues 80 = .ok (.invokevirtual 171, 3) := by decide +kernel
theorem dX4_rescues_83 : decode cX4_rescues 83 = .ok (.iload 7, 2) := by decide +kernel
theorem dX4_rescues_85 : decode cX4_rescues 85 = .ok (.invokevirtual 174, 3) := by decide +kernel
theorem dX4_rescues_88 : decode cX4_rescues 88 = .ok (.aload_n 0, 1) := by decide +kernel
theorem dX4_rescues_89 : decode cX4_rescues 89 = .ok (.iload 7, 2) := by decide +kernel
theorem dX4_rescues_91 : decode cX4_rescues 91 = .ok (.invokevirtual 159, 3) := by decide +kernel
theorem dX4_rescues_94 : decode cX4_rescues 94 = .ok (.ifCond .ne 7, 3) := by decide +kernel
theorem dX4_rescues_97 : decode cX4_rescues 97 = .ok (.iconst 1, 1) := by decide +kernel
theorem dX4_rescues_98 : decode cX4_rescues 98 = .ok (.goto 4, 3) := by decide +kernel
theorem dX4_rescues_101 : decode cX4_rescues 101 = .ok (.iconst 0, 1) := by decide +kernel
theorem dX4_rescues_102 : decode cX4_rescues 102 = .ok (.istore 5, 2) := by decide +kernel
theorem dX4_rescues_104 : decode cX4_rescues 104 = .ok (.iload 5, 2) := by decide +kernel
theorem dX4_rescues_106 : decode cX4_rescues 106 = .ok (.ifCond .eq 30, 3) := by decide +kernel
theorem dX4_rescues_109 : decode cX4_rescues 109 = .ok (.aload_n 0, 1) := by decide +kernel
theorem dX4_rescues_110 : decode cX4_rescues 110 = .ok (.getfield 39, 3) := by decide +kernel
theorem dX4_rescues_113 : decode cX4_rescues 113 = .ok (.iload_n 2, 1) := by decide +kernel
theorem dX4_rescues_114 : decode cX4_rescues 114 = .ok (.iconst 0, 1) := by decide +kernel
theorem dX4_rescues_115 : decode cX4_rescues 115 = .ok (.invokevirtual 162, 3) := by decide +kernel
theorem dX4_rescues_118 : decode cX4_rescues 118 = .ok (.aload_n 0, 1) := by decide +kernel
theorem dX4_rescues_119 : decode cX4_rescues 119 = .ok (.getfield 35, 3) := by decide +kernel
theorem dX4_rescues_122 : decode cX4_rescues 122 = .ok (.iload_n 1, 1) := by decide +kernel
theorem dX4_rescues_123 : decode cX4_rescues 123 = .ok (.iload 7, 2) := by decide +kernel
theorem dX4_rescues_125 : decode cX4_rescues 125 = .ok (.invokevirtual 81, 3) := by decide +kernel
theorem dX4_rescues_128 : decode cX4_rescues 128 = .ok (.aload_n 0, 1) := by decide +kernel
theorem dX4_rescues_129 : decode cX4_rescues 129 = .ok (.iload 7, 2) := by decide +kernel
theorem dX4_rescues_131 : decode cX4_rescues 131 = .ok (.iconst 0, 1) := by decide +kernel
theorem dX4_rescues_132 : decode cX4_rescues 132 = .ok (.iload_n 1, 1) := by decide +kernel
theorem dX4_rescues_133 : decode cX4_rescues 133 = .ok (.invokevirtual 78, 3) := by decide +kernel
theorem dX4_rescues_136 : decode cX4_rescues 136 = .ok (.iinc 6 1, 3) := by decide +kernel
theorem dX4_rescues_139 : decode cX4_rescues 139 = .ok (.goto (-97), 3) := by decide +kernel
theorem dX4_rescues_142 : decode cX4_rescues 142 = .ok (.aload_n 0, 1) := by decide +kernel
theorem dX4_rescues_143 : decode cX4_rescues 143 = .ok (.getfield 35, 3) := by decide +kernel
theorem dX4_rescues_146 : decode cX4_rescues 146 = .ok (.iload_n 1, 1) := by decide +kernel
theorem dX4_rescues_147 : decode cX4_rescues 147 = .ok (.invokevirtual 92, 3) := by decide +kernel
theorem dX4_rescues_150 : decode cX4_rescues 150 = .ok (.iload 4, 2) := by decide +kernel
theorem dX4_rescues_152 : decode cX4_rescues 152 = .ok (.if_icmp .le 7, 3) := by decide +kernel
theorem dX4_rescues_155 : decode cX4_rescues 155 = .ok (.iconst 1, 1) := by decide +kernel
theorem dX4_rescues_156 : decode cX4_rescues 156 = .ok (.goto 4, 3) := by decide +kernel
theorem dX4_rescues_159 : decode cX4_rescues 159 = .ok (.iconst 0, 1) := by decide +kernel
theorem dX4_rescues_160 : decode cX4_rescues 160 = .ok (.ireturn, 1) := by decide +kernel
theorem dX4_richest_0 : decode cX4_richest 0 = .ok (.aload_n 0, 1) := by decide +kernel
theorem dX4_richest_1 : decode cX4_richest 1 = .ok (.getfield 35, 3) := by decide +kernel
theorem dX4_richest_4 : decode cX4_richest 4 = .ok (.iload_n 1, 1) := by decide +kernel
theorem dX4_richest_5 : decode cX4_richest 5 = .ok (.iconst 0, 1) := by decide +kernel
theorem dX4_richest_6 : decode cX4_richest 6 = .ok (.invokevirtual 105, 3) := by decide +kernel
theorem dX4_richest_9 : decode cX4_richest 9 = .ok (.istore_n 2, 1) := by decide +kernel
theorem dX4_richest_10 : decode cX4_richest 10 = .ok (.iconst 1, 1) := by decide +kernel
theorem dX4_richest_11 : decode cX4_richest 11 = .ok (.istore_n 3, 1) := by decide +kernel
theorem dX4_richest_12 : decode cX4_richest 12 = .ok (.iload_n 3, 1) := by decide +kernel
theorem dX4_richest_13 : decode cX4_richest 13 = .ok (.aload_n 0, 1) := by decide +kernel
theorem dX4_richest_14 : decode cX4_richest 14 = .ok (.getfield 35, 3) := by decide +kernel
theorem dX4_richest_17 : decode cX4_richest 17 = .ok (.iload_n 1, 1) := by decide +kernel
theorem dX4_richest_18 : decode cX4_richest 18 = .ok (.invokevirtual 92, 3) := by decide +kernel
theorem dX4_richest_21 : decode cX4_richest 21 = .ok (.if_icmp .ge 45, 3) := by decide +kernel
theorem dX4_richest_24 : decode cX4_richest 24 = .ok (.aload_n 0, 1) := by decide +kernel
theorem dX4_richest_25 : decode cX4_richest 25 = .ok (.getfield 35, 3) := by decide +kernel
theorem dX4_richest_28 : decode cX4_richest 28 = .ok (.iload_n 1, 1) := by decide +kernel
theorem dX4_richest_29 : decode cX4_richest 29 = .ok (.iload_n 3, 1) := by decide +kernel
theorem dX4_richest_30 : decode cX4_richest 30 = .ok (.invokevirtual 105, 3) := by decide +kernel
theorem dX4_richest_33 : decode cX4_richest 33 = .ok (.istore 4, 2) := by decide +kernel
theorem dX4_richest_35 : decode cX4_richest 35 = .ok (.aload_n 0, 1) := by decide +kernel
theorem dX4_richest_36 : decode cX4_richest 36 = .ok (.getfield 29, 3) := by decide +kernel
theorem dX4_richest_39 : decode cX4_richest 39 = .ok (.iload 4, 2) := by decide +kernel
theorem dX4_richest_41 : decode cX4_richest 41 = .ok (.iconst 3, 1) := by decide +kernel
theorem dX4_richest_42 : decode cX4_richest 42 = .ok (.invokevirtual 96, 3) := by decide +kernel
theorem dX4_richest_45 : decode cX4_richest 45 = .ok (.aload_n 0, 1) := by decide +kernel
theorem dX4_richest_46 : decode cX4_richest 46 = .ok (.getfield 29, 3) := by decide +kernel
theorem dX4_richest_49 : decode cX4_richest 49 = .ok (.iload_n 2, 1) := by decide +kernel
theorem dX4_richest_50 : decode cX4_richest 50 = .ok (.iconst 3, 1) := by decide +kernel
theorem dX4_richest_51 : decode cX4_richest 51 = .ok (.invokevirtual 96, 3) := by decide +kernel
theorem dX4_richest_54 : decode cX4_richest 54 = .ok (.if_icmp .le 6, 3) := by decide +kernel
theorem dX4_richest_57 : decode cX4_richest 57 = .ok (.iload 4, 2) := by decide +kernel
theorem dX4_richest_59 : decode cX4_richest 59 = .ok (.istore_n 2, 1) := by decide +kernel
theorem dX4_richest_60 : decode cX4_richest 60 = .ok (.iinc 3 1, 3) := by decide +kernel
theorem dX4_richest_63 : decode cX4_richest 63 = .ok (.goto (-51), 3) := by decide +kernel
theorem dX4_richest_66 : decode cX4_richest 66 = .ok (.iload_n 2, 1) := by decide +kernel
theorem dX4_richest_67 : decode cX4_richest 67 = .ok (.ireturn, 1) := by decide +kernel
theorem dX4_giveFuel_0 : decode cX4_giveFuel 0 = .ok (.aload_n 0, 1) := by decide +kernel
theorem dX4_giveFuel_1 : decode cX4_giveFuel 1 = .ok (.getfield 29, 3) := by decide +kernel
theorem dX4_giveFuel_4 : decode cX4_giveFuel 4 = .ok (.iload_n 2, 1) := by decide +kernel
theorem dX4_giveFuel_5 : decode cX4_giveFuel 5 = .ok (.iconst 2, 1) := by decide +kernel
theorem dX4_giveFuel_6 : decode cX4_giveFuel 6 = .ok (.invokevirtual 96, 3) := by decide +kernel
theorem dX4_giveFuel_9 : decode cX4_giveFuel 9 = .ok (.aload_n 0, 1) := by decide +kernel
theorem dX4_giveFuel_10 : decode cX4_giveFuel 10 = .ok (.getfield 29, 3) := by decide +kernel
theorem dX4_giveFuel_13 : decode cX4_giveFuel 13 = .ok (.iload_n 2, 1) := by decide +kernel
theorem dX4_giveFuel_14 : decode cX4_giveFuel 14 = .ok (.iconst 3, 1) := by decide +kernel
theorem dX4_giveFuel_15 : decode cX4_giveFuel 15 = .ok (.invokevirtual 96, 3) := by decide +kernel
theorem dX4_giveFuel_18 : decode cX4_giveFuel 18 = .ok (.isub, 1) := by decide +kernel
theorem dX4_giveFuel_19 : decode cX4_giveFuel 19 = .ok (.istore_n 3, 1) := by decide +kernel
theorem dX4_giveFuel_20 : decode cX4_giveFuel 20 = .ok (.aload_n 0, 1) := by decide +kernel
theorem dX4_giveFuel_21 : decode cX4_giveFuel 21 = .ok (.getfield 29, 3) := by decide +kernel
theorem dX4_giveFuel_24 : decode cX4_giveFuel 24 = .ok (.iload_n 1, 1) := by decide +kernel
theorem dX4_giveFuel_25 : decode cX4_giveFuel 25 = .ok (.iconst 3, 1) := by decide +kernel
theorem dX4_giveFuel_26 : decode cX4_giveFuel 26 = .ok (.invokevirtual 96, 3) := by decide +kernel
theorem dX4_giveFuel_29 : decode cX4_giveFuel 29 = .ok (.iconst 2, 1) := by decide +kernel
theorem dX4_giveFuel_30 : decode cX4_giveFuel 30 = .ok (.idiv, 1) := by decide +kernel
theorem dX4_giveFuel_31 : decode cX4_giveFuel 31 = .ok (.bipush 10, 2) := by decide +kernel
theorem dX4_giveFuel_33 : decode cX4_giveFuel 33 = .ok (.invokestatic 106, 3) := by decide +kernel
theorem dX4_giveFuel_36 : decode cX4_giveFuel 36 = .ok (.istore 4, 2) := by decide +kernel
theorem dX4_giveFuel_38 : decode cX4_giveFuel 38 = .ok (.iload 4, 2) := by decide +kernel
theorem dX4_giveFuel_40 : decode cX4_giveFuel 40 = .ok (.iload_n 3, 1) := by decide +kernel
theorem dX4_giveFuel_41 : decode cX4_giveFuel 41 = .ok (.invokestatic 106, 3) := by decide +kernel
theorem dX4_giveFuel_44 : decode cX4_giveFuel 44 = .ok (.istore 5, 2) := by decide +kernel
theorem dX4_giveFuel_46 : decode cX4_giveFuel 46 = .ok (.aload_n 0, 1) := by decide +kernel
theorem dX4_giveFuel_47 : decode cX4_giveFuel 47 = .ok (.getfield 29, 3) := by decide +kernel
theorem dX4_giveFuel_50 : decode cX4_giveFuel 50 = .ok (.iload_n 1, 1) := by decide +kernel
theorem dX4_giveFuel_51 : decode cX4_giveFuel 51 = .ok (.iconst 3, 1) := by decide +kernel
theorem dX4_giveFuel_52 : decode cX4_giveFuel 52 = .ok (.iload 5, 2) := by decide +kernel
theorem dX4_giveFuel_54 : decode cX4_giveFuel 54 = .ok (.ineg, 1) := by decide +kernel
theorem dX4_giveFuel_55 : decode cX4_giveFuel 55 = .ok (.invokevirtual 126, 3) := by decide +kernel
theorem dX4_giveFuel_58 : decode cX4_giveFuel 58 = .ok (.aload_n 0, 1) := by decide +kernel
theorem dX4_giveFuel_59 : decode cX4_giveFuel 59 = .ok (.getfield 29, 3) := by decide +kernel
theorem dX4_giveFuel_62 : decode cX4_giveFuel 62 = .ok (.iload_n 2, 1) := by decide +kernel
theorem dX4_giveFuel_63 : decode cX4_giveFuel 63 = .ok (.iconst 3, 1) := by decide +kernel
theorem dX4_giveFuel_64 : decode cX4_giveFuel 64 = .ok (.iload 5, 2) := by decide +kernel
theorem dX4_giveFuel_66 : decode cX4_giveFuel 66 = .ok (.invokevirtual 126, 3) := by decide +kernel
theorem dX4_giveFuel_69 : decode cX4_giveFuel 69 = .ok (.return_, 1) := by decide +kernel
theorem dX4_putInOrder_0 : decode cX4_putInOrder 0 = .ok (.iconst 1, 1) := by decide +kernel
theorem dX4_putInOrder_1 : decode cX4_putInOrder 1 = .ok (.istore_n 2, 1) := by decide +kernel
theorem dX4_putInOrder_2 : decode cX4_putInOrder 2 = .ok (.iload_n 2, 1) := by decide +kernel
theorem dX4_putInOrder_3 : decode cX4_putInOrder 3 = .ok (.aload_n 0, 1) := by decide +kernel
theorem dX4_putInOrder_4 : decode cX4_putInOrder 4 = .ok (.getfield 35, 3) := by decide +kernel
theorem dX4_putInOrder_7 : decode cX4_putInOrder 7 = .ok (.iload_n 1, 1) := by decide +kernel
theorem dX4_putInOrder_8 : decode cX4_putInOrder 8 = .ok (.invokevirtual 92, 3) := by decide +kernel
theorem dX4_putInOrder_11 : decode cX4_putInOrder 11 = .ok (.if_icmp .ge 86, 3) := by decide +kernel
theorem dX4_putInOrder_14 : decode cX4_putInOrder 14 = .ok (.aload_n 0, 1) := by decide +kernel
theorem dX4_putInOrder_15 : decode cX4_putInOrder 15 = .ok (.getfield 35, 3) := by decide +kernel
theorem dX4_putInOrder_18 : decode cX4_putInOrder 18 = .ok (.iload_n 1, 1) := by decide +kernel
theorem dX4_putInOrder_19 : decode cX4_putInOrder 19 = .ok (.iload_n 2, 1) := by decide +kernel
theorem dX4_putInOrder_20 : decode cX4_putInOrder 20 = .ok (.invokevirtual 105, 3) := by decide +kernel
theorem dX4_putInOrder_23 : decode cX4_putInOrder 23 = .ok (.istore_n 3, 1) := by decide +kernel
theorem dX4_putInOrder_24 : decode cX4_putInOrder 24 = .ok (.iload_n 2, 1) := by decide +kernel
theorem dX4_putInOrder_25 : decode cX4_putInOrder 25 = .ok (.istore 4, 2) := by decide +kernel
theorem dX4_putInOrder_27 : decode cX4_putInOrder 27 = .ok (.iload 4, 2) := by decide +kernel
theorem dX4_putInOrder_29 : decode cX4_putInOrder 29 = .ok (.ifCond .le 51, 3) := by decide +kernel
theorem dX4_putInOrder_32 : decode cX4_putInOrder 32 = .ok (.aload_n 0, 1) := by decide +kernel
theorem dX4_putInOrder_33 : decode cX4_putInOrder 33 = .ok (.iload_n 3, 1) := by decide +kernel
theorem dX4_putInOrder_34 : decode cX4_putInOrder 34 = .ok (.aload_n 0, 1) := by decide +kernel
theorem dX4_putInOrder_35 : decode cX4_putInOrder 35 = .ok (.getfield 35, 3) := by decide +kernel
theorem dX4_putInOrder_38 : decode cX4_putInOrder 38 = .ok (.iload_n 1, 1) := by decide +kernel
theorem dX4_putInOrder_39 : decode cX4_putInOrder 39 = .ok (.iload 4, 2) := by decide +kernel
theorem dX4_putInOrder_41 : decode cX4_putInOrder 41 = .ok (.iconst 1, 1) := by decide +kernel
theorem dX4_putInOrder_42 : decode cX4_putInOrder 42 = .ok (.isub, 1) := by decide +kernel
theorem dX4_putInOrder_43 : decode cX4_putInOrder 43 = .ok (.invokevirtual 105, 3) := by decide +kernel
theorem dX4_putInOrder_46 : decode cX4_putInOrder 46 = .ok (.invokevirtual 177, 3) := by decide +kernel
theorem dX4_putInOrder_49 : decode cX4_putInOrder 49 = .ok (.ifCond .eq 31, 3) := by decide +kernel
theorem dX4_putInOrder_52 : decode cX4_putInOrder 52 = .ok (.aload_n 0, 1) := by decide +kernel
theorem dX4_putInOrder_53 : decode cX4_putInOrder 53 = .ok (.getfield 35, 3) := by decide +kernel
theorem dX4_putInOrder_56 : decode cX4_putInOrder 56 = .ok (.iload_n 1, 1) := by decide +kernel
theorem dX4_putInOrder_57 : decode cX4_putInOrder 57 = .ok (.iload 4, 2) := by decide +kernel
theorem dX4_putInOrder_59 : decode cX4_putInOrder 59 = .ok (.aload_n 0, 1) := by decide +kernel
theorem dX4_putInOrder_60 : decode cX4_putInOrder 60 = .ok (.getfield 35, 3) := by decide +kernel
theorem dX4_putInOrder_63 : decode cX4_putInOrder 63 = .ok (.iload_n 1, 1) := by decide +kernel
theorem dX4_putInOrder_64 : decode cX4_putInOrder 64 = .ok (.iload 4, 2) := by decide +kernel
theorem dX4_putInOrder_66 : decode cX4_putInOrder 66 = .ok (.iconst 1, 1) := by decide +kernel
theorem dX4_putInOrder_67 : decode cX4_putInOrder 67 = .ok (.isub, 1) := by decide +kernel
theorem dX4_putInOrder_68 : decode cX4_putInOrder 68 = .ok (.invokevirtual 105, 3) := by decide +kernel
theorem dX4_putInOrder_71 : decode cX4_putInOrder 71 = .ok (.invokevirtual 181, 3) := by decide +kernel
theorem dX4_putInOrder_74 : decode cX4_putInOrder 74 = .ok (.iinc 4 (-1), 3) := by decide +kernel
theorem dX4_putInOrder_77 : decode cX4_putInOrder 77 = .ok (.goto (-50), 3) := by decide +kernel
theorem dX4_putInOrder_80 : decode cX4_putInOrder 80 = .ok (.aload_n 0, 1) := by decide +kernel
theorem dX4_putInOrder_81 : decode cX4_putInOrder 81 = .ok (.getfield 35, 3) := by decide +kernel
theorem dX4_putInOrder_84 : decode cX4_putInOrder 84 = .ok (.iload_n 1, 1) := by decide +kernel
theorem dX4_putInOrder_85 : decode cX4_putInOrder 85 = .ok (.iload 4, 2) := by decide +kernel
theorem dX4_putInOrder_87 : decode cX4_putInOrder 87 = .ok (.iload_n 3, 1) := by decide +kernel
theorem dX4_putInOrder_88 : decode cX4_putInOrder 88 = .ok (.invokevirtual 181, 3) := by decide +kernel
theorem dX4_putInOrder_91 : decode cX4_putInOrder 91 = .ok (.iinc 2 1, 3) := by decide +kernel
theorem dX4_putInOrder_94 : decode cX4_putInOrder 94 = .ok (.goto (-92), 3) := by decide +kernel
theorem dX4_putInOrder_97 : decode cX4_putInOrder 97 = .ok (.return_, 1) := by decide +kernel
theorem dX4_comesAhead_0 : decode cX4_comesAhead 0 = .ok (.aload_n 0, 1) := by decide +kernel
theorem dX4_comesAhead_1 : decode cX4_comesAhead 1 = .ok (.getfield 29, 3) := by decide +kernel
theorem dX4_comesAhead_4 : decode cX4_comesAhead 4 = .ok (.iload_n 1, 1) := by decide +kernel
theorem dX4_comesAhead_5 : decode cX4_comesAhead 5 = .ok (.iconst 0, 1) := by decide +kernel
theorem dX4_comesAhead_6 : decode cX4_comesAhead 6 = .ok (.invokevirtual 96, 3) := by decide +kernel
theorem dX4_comesAhead_9 : decode cX4_comesAhead 9 = .ok (.istore_n 3, 1) := by decide +kernel
theorem dX4_comesAhead_10 : decode cX4_comesAhead 10 = .ok (.aload_n 0, 1) := by decide +kernel
theorem dX4_comesAhead_11 : decode cX4_comesAhead 11 = .ok (.getfield 29, 3) := by decide +kernel
theorem dX4_comesAhead_14 : decode cX4_comesAhead 14 = .ok (.iload_n 2, 1) := by decide +kernel
theorem dX4_comesAhead_15 : decode cX4_comesAhead 15 = .ok (.iconst 0, 1) := by decide +kernel
theorem dX4_comesAhead_16 : decode cX4_comesAhead 16 = .ok (.invokevirtual 96, 3) := by decide +kernel
theorem dX4_comesAhead_19 : decode cX4_comesAhead 19 = .ok (.istore 4, 2) := by decide +kernel
theorem dX4_comesAhead_21 : decode cX4_comesAhead 21 = .ok (.iload_n 3, 1) := by decide +kernel
theorem dX4_comesAhead_22 : decode cX4_comesAhead 22 = .ok (.iload 4, 2) := by decide +kernel
theorem dX4_comesAhead_24 : decode cX4_comesAhead 24 = .ok (.if_icmp .lt 14, 3) := by decide +kernel
theorem dX4_comesAhead_27 : decode cX4_comesAhead 27 = .ok (.iload_n 3, 1) := by decide +kernel
theorem dX4_comesAhead_28 : decode cX4_comesAhead 28 = .ok (.iload 4, 2) := by decide +kernel
theorem dX4_comesAhead_30 : decode cX4_comesAhead 30 = .ok (.if_icmp .ne 12, 3) := by decide +kernel
theorem dX4_comesAhead_33 : decode cX4_comesAhead 33 = .ok (.iload_n 1, 1) := by decide +kernel
theorem dX4_comesAhead_34 : decode cX4_comesAhead 34 = .ok (.iload_n 2, 1) := by decide +kernel
theorem dX4_comesAhead_35 : decode cX4_comesAhead 35 = .ok (.if_icmp .ge 7, 3) := by decide +kernel
theorem dX4_comesAhead_38 : decode cX4_comesAhead 38 = .ok (.iconst 1, 1) := by decide +kernel
theorem dX4_comesAhead_39 : decode cX4_comesAhead 39 = .ok (.goto 4, 3) := by decide +kernel
theorem dX4_comesAhead_42 : decode cX4_comesAhead 42 = .ok (.iconst 0, 1) := by decide +kernel
theorem dX4_comesAhead_43 : decode cX4_comesAhead 43 = .ok (.ireturn, 1) := by decide +kernel
theorem dX4_hoursToEnd_0 : decode cX4_hoursToEnd 0 = .ok (.iconst 0, 1) := by decide +kernel
theorem dX4_hoursToEnd_1 : decode cX4_hoursToEnd 1 = .ok (.istore_n 2, 1) := by decide +kernel
theorem dX4_hoursToEnd_2 : decode cX4_hoursToEnd 2 = .ok (.iload_n 2, 1) := by decide +kernel
theorem dX4_hoursToEnd_3 : decode cX4_hoursToEnd 3 = .ok (.sipush 300, 3) := by decide +kernel
theorem dX4_hoursToEnd_6 : decode cX4_hoursToEnd 6 = .ok (.if_icmp .gt 30, 3) := by decide +kernel
theorem dX4_hoursToEnd_9 : decode cX4_hoursToEnd 9 = .ok (.aload_n 0, 1) := by decide +kernel
theorem dX4_hoursToEnd_10 : decode cX4_hoursToEnd 10 = .ok (.getfield 66, 3) := by decide +kernel
theorem dX4_hoursToEnd_13 : decode cX4_hoursToEnd 13 = .ok (.ifCond .eq 23, 3) := by decide +kernel
theorem dX4_hoursToEnd_16 : decode cX4_hoursToEnd 16 = .ok (.aload_n 0, 1) := by decide +kernel
theorem dX4_hoursToEnd_17 : decode cX4_hoursToEnd 17 = .ok (.iload_n 1, 1) := by decide +kernel
theorem dX4_hoursToEnd_18 : decode cX4_hoursToEnd 18 = .ok (.invokevirtual 119, 3) := by decide +kernel
theorem dX4_hoursToEnd_21 : decode cX4_hoursToEnd 21 = .ok (.ifCond .eq 5, 3) := by decide +kernel
theorem dX4_hoursToEnd_24 : decode cX4_hoursToEnd 24 = .ok (.iload_n 2, 1) := by decide +kernel
theorem dX4_hoursToEnd_25 : decode cX4_hoursToEnd 25 = .ok (.ireturn, 1) := by decide +kernel
theorem dX4_hoursToEnd_26 : decode cX4_hoursToEnd 26 = .ok (.aload_n 0, 1) := by decide +kernel
theorem dX4_hoursToEnd_27 : decode cX4_hoursToEnd 27 = .ok (.invokevirtual 116, 3) := by decide +kernel
theorem dX4_hoursToEnd_30 : decode cX4_hoursToEnd 30 = .ok (.iinc 2 1, 3) := by decide +kernel
theorem dX4_hoursToEnd_33 : decode cX4_hoursToEnd 33 = .ok (.goto (-31), 3) := by decide +kernel
theorem dX4_hoursToEnd_36 : decode cX4_hoursToEnd 36 = .ok (.bipush (-9), 2) := by decide +kernel
theorem dX4_hoursToEnd_38 : decode cX4_hoursToEnd 38 = .ok (.ireturn, 1) := by decide +kernel
theorem dX4_firstLeftBy_0 : decode cX4_firstLeftBy 0 = .ok (.aload_n 0, 1) := by decide +kernel
theorem dX4_firstLeftBy_1 : decode cX4_firstLeftBy 1 = .ok (.iload_n 1, 1) := by decide +kernel
theorem dX4_firstLeftBy_2 : decode cX4_firstLeftBy 2 = .ok (.putfield 42, 3) := by decide +kernel
theorem dX4_firstLeftBy_5 : decode cX4_firstLeftBy 5 = .ok (.iconst 0, 1) := by decide +kernel
theorem dX4_firstLeftBy_6 : decode cX4_firstLeftBy 6 = .ok (.istore_n 2, 1) := by decide +kernel
theorem dX4_firstLeftBy_7 : decode cX4_firstLeftBy 7 = .ok (.iload_n 2, 1) := by decide +kernel
theorem dX4_firstLeftBy_8 : decode cX4_firstLeftBy 8 = .ok (.sipush 300, 3) := by decide +kernel
theorem dX4_firstLeftBy_11 : decode cX4_firstLeftBy 11 = .ok (.if_icmp .ge 29, 3) := by decide +kernel
theorem dX4_firstLeftBy_14 : decode cX4_firstLeftBy 14 = .ok (.aload_n 0, 1) := by decide +kernel
theorem dX4_firstLeftBy_15 : decode cX4_firstLeftBy 15 = .ok (.getfield 66, 3) := by decide +kernel
theorem dX4_firstLeftBy_18 : decode cX4_firstLeftBy 18 = .ok (.ifCond .eq 22, 3) := by decide +kernel
theorem dX4_firstLeftBy_21 : decode cX4_firstLeftBy 21 = .ok (.aload_n 0, 1) := by decide +kernel
theorem dX4_firstLeftBy_22 : decode cX4_firstLeftBy 22 = .ok (.getfield 46, 3) := by decide +kernel
theorem dX4_firstLeftBy_25 : decode cX4_firstLeftBy 25 = .ok (.bipush (-9), 2) := by decide +kernel
theorem dX4_firstLeftBy_27 : decode cX4_firstLeftBy 27 = .ok (.if_icmp .ne 13, 3) := by decide +kernel
theorem dX4_firstLeftBy_30 : decode cX4_firstLeftBy 30 = .ok (.aload_n 0, 1) := by decide +kernel
theorem dX4_firstLeftBy_31 : decode cX4_firstLeftBy 31 = .ok (.invokevirtual 116, 3) := by decide +kernel
theorem dX4_firstLeftBy_34 : decode cX4_firstLeftBy 34 = .ok (.iinc 2 1, 3) := by decide +kernel
theorem dX4_firstLeftBy_37 : decode cX4_firstLeftBy 37 = .ok (.goto (-30), 3) := by decide +kernel
theorem dX4_firstLeftBy_40 : decode cX4_firstLeftBy 40 = .ok (.aload_n 0, 1) := by decide +kernel
theorem dX4_firstLeftBy_41 : decode cX4_firstLeftBy 41 = .ok (.getfield 46, 3) := by decide +kernel
theorem dX4_firstLeftBy_44 : decode cX4_firstLeftBy 44 = .ok (.ireturn, 1) := by decide +kernel
theorem dX4_allArrive_0 : decode cX4_allArrive 0 = .ok (.iconst 0, 1) := by decide +kernel
theorem dX4_allArrive_1 : decode cX4_allArrive 1 = .ok (.istore_n 1, 1) := by decide +kernel
theorem dX4_allArrive_2 : decode cX4_allArrive 2 = .ok (.iload_n 1, 1) := by decide +kernel
theorem dX4_allArrive_3 : decode cX4_allArrive 3 = .ok (.sipush 300, 3) := by decide +kernel
theorem dX4_allArrive_6 : decode cX4_allArrive 6 = .ok (.if_icmp .ge 20, 3) := by decide +kernel
theorem dX4_allArrive_9 : decode cX4_allArrive 9 = .ok (.aload_n 0, 1) := by decide +kernel
theorem dX4_allArrive_10 : decode cX4_allArrive 10 = .ok (.getfield 66, 3) := by decide +kernel
theorem dX4_allArrive_13 : decode cX4_allArrive 13 = .ok (.ifCond .eq 13, 3) := by decide +kernel
theorem dX4_allArrive_16 : decode cX4_allArrive 16 = .ok (.aload_n 0, 1) := by decide +kernel
theorem dX4_allArrive_17 : decode cX4_allArrive 17 = .ok (.invokevirtual 116, 3) := by decide +kernel
theorem dX4_allArrive_20 : decode cX4_allArrive 20 = .ok (.iinc 1 1, 3) := by decide +kernel
theorem dX4_allArrive_23 : decode cX4_allArrive 23 = .ok (.goto (-21), 3) := by decide +kernel
theorem dX4_allArrive_26 : decode cX4_allArrive 26 = .ok (.aload_n 0, 1) := by decide +kernel
theorem dX4_allArrive_27 : decode cX4_allArrive 27 = .ok (.iconst 2, 1) := by decide +kernel
theorem dX4_allArrive_28 : decode cX4_allArrive 28 = .ok (.invokevirtual 182, 3) := by decide +kernel
theorem dX4_allArrive_31 : decode cX4_allArrive 31 = .ok (.aload_n 0, 1) := by decide +kernel
theorem dX4_allArrive_32 : decode cX4_allArrive 32 = .ok (.getfield 29, 3) := by decide +kernel
theorem dX4_allArrive_35 : decode cX4_allArrive 35 = .ok (.invokevirtual 109, 3) := by decide +kernel
theorem dX4_allArrive_38 : decode cX4_allArrive 38 = .ok (.if_icmp .ne 7, 3) := by decide +kernel
theorem dX4_allArrive_41 : decode cX4_allArrive 41 = .ok (.iconst 1, 1) := by decide +kernel
theorem dX4_allArrive_42 : decode cX4_allArrive 42 = .ok (.goto 4, 3) := by decide +kernel
theorem dX4_allArrive_45 : decode cX4_allArrive 45 = .ok (.iconst 0, 1) := by decide +kernel
theorem dX4_allArrive_46 : decode cX4_allArrive 46 = .ok (.ireturn, 1) := by decide +kernel
theorem dX4_obeys_0 : decode cX4_obeys 0 = .ok (.iload_n 1, 1) := by decide +kernel
theorem dX4_obeys_1 : decode cX4_obeys 1 = .ok (.sipush 1000, 3) := by decide +kernel
theorem dX4_obeys_4 : decode cX4_obeys 4 = .ok (.idiv, 1) := by decide +kernel
theorem dX4_obeys_5 : decode cX4_obeys 5 = .ok (.bipush 10, 2) := by decide +kernel
theorem dX4_obeys_7 : decode cX4_obeys 7 = .ok (.irem, 1) := by decide +kernel
theorem dX4_obeys_8 : decode cX4_obeys 8 = .ok (.istore_n 2, 1) := by decide +kernel
theorem dX4_obeys_9 : decode cX4_obeys 9 = .ok (.iload_n 1, 1) := by decide +kernel
theorem dX4_obeys_10 : decode cX4_obeys 10 = .ok (.bipush 100, 2) := by decide +kernel
theorem dX4_obeys_12 : decode cX4_obeys 12 = .ok (.idiv, 1) := by decide +kernel
theorem dX4_obeys_13 : decode cX4_obeys 13 = .ok (.bipush 10, 2) := by decide +kernel
theorem dX4_obeys_15 : decode cX4_obeys 15 = .ok (.irem, 1) := by decide +kernel
theorem dX4_obeys_16 : decode cX4_obeys 16 = .ok (.istore_n 3, 1) := by decide +kernel
theorem dX4_obeys_17 : decode cX4_obeys 17 = .ok (.iload_n 1, 1) := by decide +kernel
theorem dX4_obeys_18 : decode cX4_obeys 18 = .ok (.bipush 10, 2) := by decide +kernel
theorem dX4_obeys_20 : decode cX4_obeys 20 = .ok (.idiv, 1) := by decide +kernel
theorem dX4_obeys_21 : decode cX4_obeys 21 = .ok (.bipush 10, 2) := by decide +kernel
theorem dX4_obeys_23 : decode cX4_obeys 23 = .ok (.irem, 1) := by decide +kernel
theorem dX4_obeys_24 : decode cX4_obeys 24 = .ok (.istore 4, 2) := by decide +kernel
theorem dX4_obeys_26 : decode cX4_obeys 26 = .ok (.iload_n 1, 1) := by decide +kernel
theorem dX4_obeys_27 : decode cX4_obeys 27 = .ok (.bipush 10, 2) := by decide +kernel
theorem dX4_obeys_29 : decode cX4_obeys 29 = .ok (.irem, 1) := by decide +kernel
theorem dX4_obeys_30 : decode cX4_obeys 30 = .ok (.istore 5, 2) := by decide +kernel
theorem dX4_obeys_32 : decode cX4_obeys 32 = .ok (.iload_n 1, 1) := by decide +kernel
theorem dX4_obeys_33 : decode cX4_obeys 33 = .ok (.bipush 100, 2) := by decide +kernel
theorem dX4_obeys_35 : decode cX4_obeys 35 = .ok (.irem, 1) := by decide +kernel
theorem dX4_obeys_36 : decode cX4_obeys 36 = .ok (.istore 6, 2) := by decide +kernel
theorem dX4_obeys_38 : decode cX4_obeys 38 = .ok (.iload_n 1, 1) := by decide +kernel
theorem dX4_obeys_39 : decode cX4_obeys 39 = .ok (.sipush 1000, 3) := by decide +kernel
theorem dX4_obeys_42 : decode cX4_obeys 42 = .ok (.irem, 1) := by decide +kernel
theorem dX4_obeys_43 : decode cX4_obeys 43 = .ok (.istore 7, 2) := by decide +kernel
theorem dX4_obeys_45 : decode cX4_obeys 45 = .ok (.iload_n 1, 1) := by decide +kernel
theorem dX4_obeys_46 : decode cX4_obeys 46 = .ok (.bipush 100, 2) := by decide +kernel
theorem dX4_obeys_48 : decode cX4_obeys 48 = .ok (.idiv, 1) := by decide +kernel
theorem dX4_obeys_49 : decode cX4_obeys 49 = .ok (.bipush 100, 2) := by decide +kernel
theorem dX4_obeys_51 : decode cX4_obeys 51 = .ok (.irem, 1) := by decide +kernel
theorem dX4_obeys_52 : decode cX4_obeys 52 = .ok (.istore 8, 2) := by decide +kernel
theorem dX4_obeys_54 : decode cX4_obeys 54 = .ok (.iload_n 1, 1) := by decide +kernel
theorem dX4_obeys_55 : decode cX4_obeys 55 = .ok (.sipush 10000, 3) := by decide +kernel
theorem dX4_obeys_58 : decode cX4_obeys 58 = .ok (.idiv, 1) := by decide +kernel
theorem dX4_obeys_59 : decode cX4_obeys 59 = .ok (.tableswitch 323 1 9 #[49, 72, 92, 100, 135, 168, 206, 260, 299], 49) := by decide +kernel
theorem dX4_obeys_108 : decode cX4_obeys 108 = .ok (.iload_n 2, 1) := by decide +kernel
theorem dX4_obeys_109 : decode cX4_obeys 109 = .ok (.ifCond .ne 20, 3) := by decide +kernel
theorem dX4_obeys_112 : decode cX4_obeys 112 = .ok (.iload_n 3, 1) := by decide +kernel
theorem dX4_obeys_113 : decode cX4_obeys 113 = .ok (.ifCond .ne 16, 3) := by decide +kernel
theorem dX4_obeys_116 : decode cX4_obeys 116 = .ok (.aload_n 0, 1) := by decide +kernel
theorem dX4_obeys_117 : decode cX4_obeys 117 = .ok (.iload 6, 2) := by decide +kernel
theorem dX4_obeys_119 : decode cX4_obeys 119 = .ok (.invokevirtual 185, 3) := by decide +kernel
theorem dX4_obeys_122 : decode cX4_obeys 122 = .ok (.ifCond .eq 7, 3) := by decide +kernel
theorem dX4_obeys_125 : decode cX4_obeys 125 = .ok (.iconst 1, 1) := by decide +kernel
theorem dX4_obeys_126 : decode cX4_obeys 126 = .ok (.goto 4, 3) := by decide +kernel
theorem dX4_obeys_129 : decode cX4_obeys 129 = .ok (.iconst 0, 1) := by decide +kernel
theorem dX4_obeys_130 : decode cX4_obeys 130 = .ok (.ireturn, 1) := by decide +kernel
theorem dX4_obeys_131 : decode cX4_obeys 131 = .ok (.iload_n 3, 1) := by decide +kernel
theorem dX4_obeys_132 : decode cX4_obeys 132 = .ok (.ifCond .ne 17, 3) := by decide +kernel
theorem dX4_obeys_135 : decode cX4_obeys 135 = .ok (.aload_n 0, 1) := by decide +kernel
theorem dX4_obeys_136 : decode cX4_obeys 136 = .ok (.iload_n 2, 1) := by decide +kernel
theorem dX4_obeys_137 : decode cX4_obeys 137 = .ok (.iload 6, 2) := by decide +kernel
theorem dX4_obeys_139 : decode cX4_obeys 139 = .ok (.invokevirtual 188, 3) := by decide +kernel
theorem dX4_obeys_142 : decode cX4_obeys 142 = .ok (.ifCond .eq 7, 3) := by decide +kernel
theorem dX4_obeys_145 : decode cX4_obeys 145 = .ok (.iconst 1, 1) := by decide +kernel
theorem dX4_obeys_146 : decode cX4_obeys 146 = .ok (.goto 4, 3) := by decide +kernel
theorem dX4_obeys_149 : decode cX4_obeys 149 = .ok (.iconst 0, 1) := by decide +kernel
theorem dX4_obeys_150 : decode cX4_obeys 150 = .ok (.ireturn, 1) := by decide +kernel
theorem dX4_obeys_151 : decode cX4_obeys 151 = .ok (.aload_n 0, 1) := by decide +kernel
theorem dX4_obeys_152 : decode cX4_obeys 152 = .ok (.iload_n 2, 1) := by decide +kernel
theorem dX4_obeys_153 : decode cX4_obeys 153 = .ok (.iload 7, 2) := by decide +kernel
theorem dX4_obeys_155 : decode cX4_obeys 155 = .ok (.invokevirtual 191, 3) := by decide +kernel
theorem dX4_obeys_158 : decode cX4_obeys 158 = .ok (.ireturn, 1) := by decide +kernel
theorem dX4_obeys_159 : decode cX4_obeys 159 = .ok (.iload_n 3, 1) := by decide +kernel
theorem dX4_obeys_160 : decode cX4_obeys 160 = .ok (.ifCond .ne 32, 3) := by decide +kernel
theorem dX4_obeys_163 : decode cX4_obeys 163 = .ok (.aload_n 0, 1) := by decide +kernel
theorem dX4_obeys_164 : decode cX4_obeys 164 = .ok (.getfield 26, 3) := by decide +kernel
theorem dX4_obeys_167 : decode cX4_obeys 167 = .ok (.iload_n 2, 1) := by decide +kernel
theorem dX4_obeys_168 : decode cX4_obeys 168 = .ok (.invokevirtual 88, 3) := by decide +kernel
theorem dX4_obeys_171 : decode cX4_obeys 171 = .ok (.ifCond .eq 21, 3) := by decide +kernel
theorem dX4_obeys_174 : decode cX4_obeys 174 = .ok (.aload_n 0, 1) := by decide +kernel
theorem dX4_obeys_175 : decode cX4_obeys 175 = .ok (.getfield 26, 3) := by decide +kernel
theorem dX4_obeys_178 : decode cX4_obeys 178 = .ok (.iload_n 2, 1) := by decide +kernel
theorem dX4_obeys_179 : decode cX4_obeys 179 = .ok (.iconst 0, 1) := by decide +kernel
theorem dX4_obeys_180 : decode cX4_obeys 180 = .ok (.invokevirtual 96, 3) := by decide +kernel
theorem dX4_obeys_183 : decode cX4_obeys 183 = .ok (.iload 6, 2) := by decide +kernel
theorem dX4_obeys_185 : decode cX4_obeys 185 = .ok (.if_icmp .lt 7, 3) := by decide +kernel
theorem dX4_obeys_188 : decode cX4_obeys 188 = .ok (.iconst 1, 1) := by decide +kernel
theorem dX4_obeys_189 : decode cX4_obeys 189 = .ok (.goto 4, 3) := by decide +kernel
theorem dX4_obeys_192 : decode cX4_obeys 192 = .ok (.iconst 0, 1) := by decide +kernel
theorem dX4_obeys_193 : decode cX4_obeys 193 = .ok (.ireturn, 1) := by decide +kernel
theorem dX4_obeys_194 : decode cX4_obeys 194 = .ok (.aload_n 0, 1) := by decide +kernel
theorem dX4_obeys_195 : decode cX4_obeys 195 = .ok (.getfield 29, 3) := by decide +kernel
theorem dX4_obeys_198 : decode cX4_obeys 198 = .ok (.iload 8, 2) := by decide +kernel
theorem dX4_obeys_200 : decode cX4_obeys 200 = .ok (.invokevirtual 88, 3) := by decide +kernel
theorem dX4_obeys_203 : decode cX4_obeys 203 = .ok (.ifCond .eq 22, 3) := by decide +kernel
theorem dX4_obeys_206 : decode cX4_obeys 206 = .ok (.aload_n 0, 1) := by decide +kernel
theorem dX4_obeys_207 : decode cX4_obeys 207 = .ok (.getfield 29, 3) := by decide +kernel
theorem dX4_obeys_210 : decode cX4_obeys 210 = .ok (.iload 8, 2) := by decide +kernel
theorem dX4_obeys_212 : decode cX4_obeys 212 = .ok (.iconst 3, 1) := by decide +kernel
theorem dX4_obeys_213 : decode cX4_obeys 213 = .ok (.invokevirtual 96, 3) := by decide +kernel
theorem dX4_obeys_216 : decode cX4_obeys 216 = .ok (.iload 6, 2) := by decide +kernel
theorem dX4_obeys_218 : decode cX4_obeys 218 = .ok (.if_icmp .lt 7, 3) := by decide +kernel
theorem dX4_obeys_221 : decode cX4_obeys 221 = .ok (.iconst 1, 1) := by decide +kernel
theorem dX4_obeys_222 : decode cX4_obeys 222 = .ok (.goto 4, 3) := by decide +kernel
theorem dX4_obeys_225 : decode cX4_obeys 225 = .ok (.iconst 0, 1) := by decide +kernel
theorem dX4_obeys_226 : decode cX4_obeys 226 = .ok (.ireturn, 1) := by decide +kernel
theorem dX4_obeys_227 : decode cX4_obeys 227 = .ok (.iload 4, 2) := by decide +kernel
theorem dX4_obeys_229 : decode cX4_obeys 229 = .ok (.ifCond .ne 34, 3) := by decide +kernel
theorem dX4_obeys_232 : decode cX4_obeys 232 = .ok (.aload_n 0, 1) := by decide +kernel
theorem dX4_obeys_233 : decode cX4_obeys 233 = .ok (.getfield 29, 3) := by decide +kernel
theorem dX4_obeys_236 : decode cX4_obeys 236 = .ok (.iload 8, 2) := by decide +kernel
theorem dX4_obeys_238 : decode cX4_obeys 238 = .ok (.invokevirtual 88, 3) := by decide +kernel
theorem dX4_obeys_241 : decode cX4_obeys 241 = .ok (.ifCond .eq 22, 3) := by decide +kernel
theorem dX4_obeys_244 : decode cX4_obeys 244 = .ok (.aload_n 0, 1) := by decide +kernel
theorem dX4_obeys_245 : decode cX4_obeys 245 = .ok (.getfield 29, 3) := by decide +kernel
theorem dX4_obeys_248 : decode cX4_obeys 248 = .ok (.iload 8, 2) := by decide +kernel
theorem dX4_obeys_250 : decode cX4_obeys 250 = .ok (.iconst 4, 1) := by decide +kernel
theorem dX4_obeys_251 : decode cX4_obeys 251 = .ok (.invokevirtual 96, 3) := by decide +kernel
theorem dX4_obeys_254 : decode cX4_obeys 254 = .ok (.iload 5, 2) := by decide +kernel
theorem dX4_obeys_256 : decode cX4_obeys 256 = .ok (.if_icmp .ne 7, 3) := by decide +kernel
theorem dX4_obeys_259 : decode cX4_obeys 259 = .ok (.iconst 1, 1) := by decide +kernel
theorem dX4_obeys_260 : decode cX4_obeys 260 = .ok (.goto 4, 3) := by decide +kernel
theorem dX4_obeys_263 : decode cX4_obeys 263 = .ok (.iconst 0, 1) := by decide +kernel
theorem dX4_obeys_264 : decode cX4_obeys 264 = .ok (.ireturn, 1) := by decide +kernel
theorem dX4_obeys_265 : decode cX4_obeys 265 = .ok (.iload 6, 2) := by decide +kernel
theorem dX4_obeys_267 : decode cX4_obeys 267 = .ok (.iconst 1, 1) := by decide +kernel
theorem dX4_obeys_268 : decode cX4_obeys 268 = .ok (.if_icmp .gt 49, 3) := by decide +kernel
theorem dX4_obeys_271 : decode cX4_obeys 271 = .ok (.iload_n 3, 1) := by decide +kernel
theorem dX4_obeys_272 : decode cX4_obeys 272 = .ok (.ifCond .ne 45, 3) := by decide +kernel
theorem dX4_obeys_275 : decode cX4_obeys 275 = .ok (.aload_n 0, 1) := by decide +kernel
