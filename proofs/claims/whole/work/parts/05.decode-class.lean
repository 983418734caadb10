theorem dX0_init_0 : decode cX0_init 0 = .ok (.aload_n 0, 1) := by decide +kernel
theorem dX0_init_1 : decode cX0_init 1 = .ok (.invokespecial 3, 3) := by decide +kernel
theorem dX0_init_4 : decode cX0_init 4 = .ok (.aload_n 0, 1) := by decide +kernel
theorem dX0_init_5 : decode cX0_init 5 = .ok (.bipush 8, 2) := by decide +kernel
theorem dX0_init_7 : decode cX0_init 7 = .ok (.newarray .int, 2) := by decide +kernel
theorem dX0_init_9 : decode cX0_init 9 = .ok (.putfield 9, 3) := by decide +kernel
theorem dX0_init_12 : decode cX0_init 12 = .ok (.aload_n 0, 1) := by decide +kernel
theorem dX0_init_13 : decode cX0_init 13 = .ok (.bipush 8, 2) := by decide +kernel
theorem dX0_init_15 : decode cX0_init 15 = .ok (.newarray .int, 2) := by decide +kernel
theorem dX0_init_17 : decode cX0_init 17 = .ok (.putfield 15, 3) := by decide +kernel
theorem dX0_init_20 : decode cX0_init 20 = .ok (.aload_n 0, 1) := by decide +kernel
theorem dX0_init_21 : decode cX0_init 21 = .ok (.bipush 8, 2) := by decide +kernel
theorem dX0_init_23 : decode cX0_init 23 = .ok (.newarray .int, 2) := by decide +kernel
theorem dX0_init_25 : decode cX0_init 25 = .ok (.putfield 18, 3) := by decide +kernel
theorem dX0_init_28 : decode cX0_init 28 = .ok (.aload_n 0, 1) := by decide +kernel
theorem dX0_init_29 : decode cX0_init 29 = .ok (.new 21, 3) := by decide +kernel
theorem dX0_init_32 : decode cX0_init 32 = .ok (.dup, 1) := by decide +kernel
theorem dX0_init_33 : decode cX0_init 33 = .ok (.invokespecial 23, 3) := by decide +kernel
theorem dX0_init_36 : decode cX0_init 36 = .ok (.putfield 24, 3) := by decide +kernel
theorem dX0_init_39 : decode cX0_init 39 = .ok (.aload_n 0, 1) := by decide +kernel
theorem dX0_init_40 : decode cX0_init 40 = .ok (.iconst 2, 1) := by decide +kernel
theorem dX0_init_41 : decode cX0_init 41 = .ok (.putfield 28, 3) := by decide +kernel
theorem dX0_init_44 : decode cX0_init 44 = .ok (.aload_n 0, 1) := by decide +kernel
theorem dX0_init_45 : decode cX0_init 45 = .ok (.bipush 6, 2) := by decide +kernel
theorem dX0_init_47 : decode cX0_init 47 = .ok (.putfield 32, 3) := by decide +kernel
theorem dX0_init_50 : decode cX0_init 50 = .ok (.aload_n 0, 1) := by decide +kernel
theorem dX0_init_51 : decode cX0_init 51 = .ok (.iload_n 1, 1) := by decide +kernel
theorem dX0_init_52 : decode cX0_init 52 = .ok (.putfield 35, 3) := by decide +kernel
theorem dX0_init_55 : decode cX0_init 55 = .ok (.aload_n 0, 1) := by decide +kernel
theorem dX0_init_56 : decode cX0_init 56 = .ok (.iload_n 2, 1) := by decide +kernel
theorem dX0_init_57 : decode cX0_init 57 = .ok (.putfield 38, 3) := by decide +kernel
theorem dX0_init_60 : decode cX0_init 60 = .ok (.aload_n 0, 1) := by decide +kernel
theorem dX0_init_61 : decode cX0_init 61 = .ok (.iload_n 3, 1) := by decide +kernel
theorem dX0_init_62 : decode cX0_init 62 = .ok (.putfield 41, 3) := by decide +kernel
theorem dX0_init_65 : decode cX0_init 65 = .ok (.return_, 1) := by decide +kernel
theorem dX0_isFull_0 : decode cX0_isFull 0 = .ok (.aload_n 0, 1) := by decide +kernel
theorem dX0_isFull_1 : decode cX0_isFull 1 = .ok (.getfield 45, 3) := by decide +kernel
theorem dX0_isFull_4 : decode cX0_isFull 4 = .ok (.aload_n 0, 1) := by decide +kernel
theorem dX0_isFull_5 : decode cX0_isFull 5 = .ok (.getfield 41, 3) := by decide +kernel
theorem dX0_isFull_8 : decode cX0_isFull 8 = .ok (.ifCond .eq 7, 3) := by decide +kernel
theorem dX0_isFull_11 : decode cX0_isFull 11 = .ok (.iconst 4, 1) := by decide +kernel
theorem dX0_isFull_12 : decode cX0_isFull 12 = .ok (.goto 5, 3) := by decide +kernel
theorem dX0_isFull_15 : decode cX0_isFull 15 = .ok (.bipush 8, 2) := by decide +kernel
theorem dX0_isFull_17 : decode cX0_isFull 17 = .ok (.if_icmp .lt 7, 3) := by decide +kernel
theorem dX0_isFull_20 : decode cX0_isFull 20 = .ok (.iconst 1, 1) := by decide +kernel
theorem dX0_isFull_21 : decode cX0_isFull 21 = .ok (.goto 4, 3) := by decide +kernel
theorem dX0_isFull_24 : decode cX0_isFull 24 = .ok (.iconst 0, 1) := by decide +kernel
theorem dX0_isFull_25 : decode cX0_isFull 25 = .ok (.ireturn, 1) := by decide +kernel
theorem dX0_putCorner_0 : decode cX0_putCorner 0 = .ok (.aload_n 0, 1) := by decide +kernel
theorem dX0_putCorner_1 : decode cX0_putCorner 1 = .ok (.getfield 45, 3) := by decide +kernel
theorem dX0_putCorner_4 : decode cX0_putCorner 4 = .ok (.istore_n 3, 1) := by decide +kernel
theorem dX0_putCorner_5 : decode cX0_putCorner 5 = .ok (.iload_n 3, 1) := by decide +kernel
theorem dX0_putCorner_6 : decode cX0_putCorner 6 = .ok (.aload_n 0, 1) := by decide +kernel
theorem dX0_putCorner_7 : decode cX0_putCorner 7 = .ok (.getfield 9, 3) := by decide +kernel
theorem dX0_putCorner_10 : decode cX0_putCorner 10 = .ok (.arraylength, 1) := by decide +kernel
theorem dX0_putCorner_11 : decode cX0_putCorner 11 = .ok (.if_icmp .ge 33, 3) := by decide +kernel
theorem dX0_putCorner_14 : decode cX0_putCorner 14 = .ok (.iload_n 3, 1) := by decide +kernel
theorem dX0_putCorner_15 : decode cX0_putCorner 15 = .ok (.aload_n 0, 1) := by decide +kernel
theorem dX0_putCorner_16 : decode cX0_putCorner 16 = .ok (.getfield 15, 3) := by decide +kernel
theorem dX0_putCorner_19 : decode cX0_putCorner 19 = .ok (.arraylength, 1) := by decide +kernel
theorem dX0_putCorner_20 : decode cX0_putCorner 20 = .ok (.if_icmp .ge 24, 3) := by decide +kernel
theorem dX0_putCorner_23 : decode cX0_putCorner 23 = .ok (.aload_n 0, 1) := by decide +kernel
theorem dX0_putCorner_24 : decode cX0_putCorner 24 = .ok (.getfield 9, 3) := by decide +kernel
theorem dX0_putCorner_27 : decode cX0_putCorner 27 = .ok (.iload_n 3, 1) := by decide +kernel
theorem dX0_putCorner_28 : decode cX0_putCorner 28 = .ok (.iload_n 1, 1) := by decide +kernel
theorem dX0_putCorner_29 : decode cX0_putCorner 29 = .ok (.iastore, 1) := by decide +kernel
theorem dX0_putCorner_30 : decode cX0_putCorner 30 = .ok (.aload_n 0, 1) := by decide +kernel
theorem dX0_putCorner_31 : decode cX0_putCorner 31 = .ok (.getfield 15, 3) := by decide +kernel
theorem dX0_putCorner_34 : decode cX0_putCorner 34 = .ok (.iload_n 3, 1) := by decide +kernel
theorem dX0_putCorner_35 : decode cX0_putCorner 35 = .ok (.iload_n 2, 1) := by decide +kernel
theorem dX0_putCorner_36 : decode cX0_putCorner 36 = .ok (.iastore, 1) := by decide +kernel
theorem dX0_putCorner_37 : decode cX0_putCorner 37 = .ok (.aload_n 0, 1) := by decide +kernel
theorem dX0_putCorner_38 : decode cX0_putCorner 38 = .ok (.iload_n 3, 1) := by decide +kernel
theorem dX0_putCorner_39 : decode cX0_putCorner 39 = .ok (.iconst 1, 1) := by decide +kernel
theorem dX0_putCorner_40 : decode cX0_putCorner 40 = .ok (.iadd, 1) := by decide +kernel
theorem dX0_putCorner_41 : decode cX0_putCorner 41 = .ok (.putfield 45, 3) := by decide +kernel
theorem dX0_putCorner_44 : decode cX0_putCorner 44 = .ok (.aload_n 0, 1) := by decide +kernel
theorem dX0_putCorner_45 : decode cX0_putCorner 45 = .ok (.iconst 0, 1) := by decide +kernel
theorem dX0_putCorner_46 : decode cX0_putCorner 46 = .ok (.putfield 48, 3) := by decide +kernel
theorem dX0_putCorner_49 : decode cX0_putCorner 49 = .ok (.return_, 1) := by decide +kernel
theorem dX0_settle_0 : decode cX0_settle 0 = .ok (.aload_n 0, 1) := by decide +kernel
theorem dX0_settle_1 : decode cX0_settle 1 = .ok (.iload_n 1, 1) := by decide +kernel
theorem dX0_settle_2 : decode cX0_settle 2 = .ok (.putfield 28, 3) := by decide +kernel
theorem dX0_settle_5 : decode cX0_settle 5 = .ok (.aload_n 0, 1) := by decide +kernel
theorem dX0_settle_6 : decode cX0_settle 6 = .ok (.iload_n 2, 1) := by decide +kernel
theorem dX0_settle_7 : decode cX0_settle 7 = .ok (.putfield 32, 3) := by decide +kernel
theorem dX0_settle_10 : decode cX0_settle 10 = .ok (.aload_n 0, 1) := by decide +kernel
theorem dX0_settle_11 : decode cX0_settle 11 = .ok (.iload_n 3, 1) := by decide +kernel
theorem dX0_settle_12 : decode cX0_settle 12 = .ok (.putfield 51, 3) := by decide +kernel
theorem dX0_settle_15 : decode cX0_settle 15 = .ok (.aload_n 0, 1) := by decide +kernel
theorem dX0_settle_16 : decode cX0_settle 16 = .ok (.iload 4, 2) := by decide +kernel
theorem dX0_settle_18 : decode cX0_settle 18 = .ok (.putfield 54, 3) := by decide +kernel
theorem dX0_settle_21 : decode cX0_settle 21 = .ok (.aload_n 0, 1) := by decide +kernel
theorem dX0_settle_22 : decode cX0_settle 22 = .ok (.iload 5, 2) := by decide +kernel
theorem dX0_settle_24 : decode cX0_settle 24 = .ok (.putfield 57, 3) := by decide +kernel
theorem dX0_settle_27 : decode cX0_settle 27 = .ok (.aload_n 0, 1) := by decide +kernel
theorem dX0_settle_28 : decode cX0_settle 28 = .ok (.iconst 0, 1) := by decide +kernel
theorem dX0_settle_29 : decode cX0_settle 29 = .ok (.putfield 48, 3) := by decide +kernel
theorem dX0_settle_32 : decode cX0_settle 32 = .ok (.return_, 1) := by decide +kernel
theorem dX0_canResize_0 : decode cX0_canResize 0 = .ok (.iconst 0, 1) := by decide +kernel
theorem dX0_canResize_1 : decode cX0_canResize 1 = .ok (.istore_n 2, 1) := by decide +kernel
theorem dX0_canResize_2 : decode cX0_canResize 2 = .ok (.iload_n 2, 1) := by decide +kernel
theorem dX0_canResize_3 : decode cX0_canResize 3 = .ok (.aload_n 0, 1) := by decide +kernel
theorem dX0_canResize_4 : decode cX0_canResize 4 = .ok (.getfield 45, 3) := by decide +kernel
theorem dX0_canResize_7 : decode cX0_canResize 7 = .ok (.if_icmp .ge 56, 3) := by decide +kernel
theorem dX0_canResize_10 : decode cX0_canResize 10 = .ok (.iload_n 2, 1) := by decide +kernel
theorem dX0_canResize_11 : decode cX0_canResize 11 = .ok (.aload_n 0, 1) := by decide +kernel
theorem dX0_canResize_12 : decode cX0_canResize 12 = .ok (.getfield 9, 3) := by decide +kernel
theorem dX0_canResize_15 : decode cX0_canResize 15 = .ok (.arraylength, 1) := by decide +kernel
theorem dX0_canResize_16 : decode cX0_canResize 16 = .ok (.if_icmp .ge 47, 3) := by decide +kernel
theorem dX0_canResize_19 : decode cX0_canResize 19 = .ok (.iload_n 2, 1) := by decide +kernel
theorem dX0_canResize_20 : decode cX0_canResize 20 = .ok (.aload_n 0, 1) := by decide +kernel
theorem dX0_canResize_21 : decode cX0_canResize 21 = .ok (.getfield 15, 3) := by decide +kernel
theorem dX0_canResize_24 : decode cX0_canResize 24 = .ok (.arraylength, 1) := by decide +kernel
theorem dX0_canResize_25 : decode cX0_canResize 25 = .ok (.if_icmp .ge 38, 3) := by decide +kernel
theorem dX0_canResize_28 : decode cX0_canResize 28 = .ok (.aload_n 0, 1) := by decide +kernel
theorem dX0_canResize_29 : decode cX0_canResize 29 = .ok (.getfield 9, 3) := by decide +kernel
theorem dX0_canResize_32 : decode cX0_canResize 32 = .ok (.iload_n 2, 1) := by decide +kernel
theorem dX0_canResize_33 : decode cX0_canResize 33 = .ok (.iaload, 1) := by decide +kernel
theorem dX0_canResize_34 : decode cX0_canResize 34 = .ok (.aload_n 0, 1) := by decide +kernel
theorem dX0_canResize_35 : decode cX0_canResize 35 = .ok (.getfield 15, 3) := by decide +kernel
theorem dX0_canResize_38 : decode cX0_canResize 38 = .ok (.iload_n 2, 1) := by decide +kernel
theorem dX0_canResize_39 : decode cX0_canResize 39 = .ok (.iaload, 1) := by decide +kernel
theorem dX0_canResize_40 : decode cX0_canResize 40 = .ok (.invokestatic 60, 3) := by decide +kernel
theorem dX0_canResize_43 : decode cX0_canResize 43 = .ok (.istore_n 3, 1) := by decide +kernel
theorem dX0_canResize_44 : decode cX0_canResize 44 = .ok (.iload_n 3, 1) := by decide +kernel
theorem dX0_canResize_45 : decode cX0_canResize 45 = .ok (.iload_n 1, 1) := by decide +kernel
theorem dX0_canResize_46 : decode cX0_canResize 46 = .ok (.imul, 1) := by decide +kernel
theorem dX0_canResize_47 : decode cX0_canResize 47 = .ok (.bipush 100, 2) := by decide +kernel
theorem dX0_canResize_49 : decode cX0_canResize 49 = .ok (.idiv, 1) := by decide +kernel
theorem dX0_canResize_50 : decode cX0_canResize 50 = .ok (.bipush 32, 2) := by decide +kernel
theorem dX0_canResize_52 : decode cX0_canResize 52 = .ok (.if_icmp .lt 5, 3) := by decide +kernel
theorem dX0_canResize_55 : decode cX0_canResize 55 = .ok (.iconst 0, 1) := by decide +kernel
theorem dX0_canResize_56 : decode cX0_canResize 56 = .ok (.ireturn, 1) := by decide +kernel
theorem dX0_canResize_57 : decode cX0_canResize 57 = .ok (.iinc 2 1, 3) := by decide +kernel
theorem dX0_canResize_60 : decode cX0_canResize 60 = .ok (.goto (-58), 3) := by decide +kernel
theorem dX0_canResize_63 : decode cX0_canResize 63 = .ok (.iconst 1, 1) := by decide +kernel
theorem dX0_canResize_64 : decode cX0_canResize 64 = .ok (.ireturn, 1) := by decide +kernel
theorem dX0_resize_0 : decode cX0_resize 0 = .ok (.iconst 0, 1) := by decide +kernel
theorem dX0_resize_1 : decode cX0_resize 1 = .ok (.istore_n 2, 1) := by decide +kernel
theorem dX0_resize_2 : decode cX0_resize 2 = .ok (.iload_n 2, 1) := by decide +kernel
theorem dX0_resize_3 : decode cX0_resize 3 = .ok (.aload_n 0, 1) := by decide +kernel
theorem dX0_resize_4 : decode cX0_resize 4 = .ok (.getfield 45, 3) := by decide +kernel
theorem dX0_resize_7 : decode cX0_resize 7 = .ok (.if_icmp .ge 61, 3) := by decide +kernel
theorem dX0_resize_10 : decode cX0_resize 10 = .ok (.iload_n 2, 1) := by decide +kernel
theorem dX0_resize_11 : decode cX0_resize 11 = .ok (.aload_n 0, 1) := by decide +kernel
theorem dX0_resize_12 : decode cX0_resize 12 = .ok (.getfield 9, 3) := by decide +kernel
theorem dX0_resize_15 : decode cX0_resize 15 = .ok (.arraylength, 1) := by decide +kernel
theorem dX0_resize_16 : decode cX0_resize 16 = .ok (.if_icmp .ge 52, 3) := by decide +kernel
theorem dX0_resize_19 : decode cX0_resize 19 = .ok (.iload_n 2, 1) := by decide +kernel
theorem dX0_resize_20 : decode cX0_resize 20 = .ok (.aload_n 0, 1) := by decide +kernel
theorem dX0_resize_21 : decode cX0_resize 21 = .ok (.getfield 15, 3) := by decide +kernel
theorem dX0_resize_24 : decode cX0_resize 24 = .ok (.arraylength, 1) := by decide +kernel
theorem dX0_resize_25 : decode cX0_resize 25 = .ok (.if_icmp .ge 43, 3) := by decide +kernel
theorem dX0_resize_28 : decode cX0_resize 28 = .ok (.aload_n 0, 1) := by decide +kernel
theorem dX0_resize_29 : decode cX0_resize 29 = .ok (.getfield 9, 3) := by decide +kernel
theorem dX0_resize_32 : decode cX0_resize 32 = .ok (.iload_n 2, 1) := by decide +kernel
theorem dX0_resize_33 : decode cX0_resize 33 = .ok (.aload_n 0, 1) := by decide +kernel
theorem dX0_resize_34 : decode cX0_resize 34 = .ok (.getfield 9, 3) := by decide +kernel
theorem dX0_resize_37 : decode cX0_resize 37 = .ok (.iload_n 2, 1) := by decide +kernel
theorem dX0_resize_38 : decode cX0_resize 38 = .ok (.iaload, 1) := by decide +kernel
theorem dX0_resize_39 : decode cX0_resize 39 = .ok (.iload_n 1, 1) := by decide +kernel
theorem dX0_resize_40 : decode cX0_resize 40 = .ok (.imul, 1) := by decide +kernel
theorem dX0_resize_41 : decode cX0_resize 41 = .ok (.bipush 100, 2) := by decide +kernel
theorem dX0_resize_43 : decode cX0_resize 43 = .ok (.idiv, 1) := by decide +kernel
theorem dX0_resize_44 : decode cX0_resize 44 = .ok (.iastore, 1) := by decide +kernel
theorem dX0_resize_45 : decode cX0_resize 45 = .ok (.aload_n 0, 1) := by decide +kernel
theorem dX0_resize_46 : decode cX0_resize 46 = .ok (.getfield 15, 3) := by decide +kernel
theorem dX0_resize_49 : decode cX0_resize 49 = .ok (.iload_n 2, 1) := by decide +kernel
theorem dX0_resize_50 : decode cX0_resize 50 = .ok (.aload_n 0, 1) := by decide +kernel
theorem dX0_resize_51 : decode cX0_resize 51 = .ok (.getfield 15, 3) := by decide +kernel
theorem dX0_resize_54 : decode cX0_resize 54 = .ok (.iload_n 2, 1) := by decide +kernel
theorem dX0_resize_55 : decode cX0_resize 55 = .ok (.iaload, 1) := by decide +kernel
theorem dX0_resize_56 : decode cX0_resize 56 = .ok (.iload_n 1, 1) := by decide +kernel
theorem dX0_resize_57 : decode cX0_resize 57 = .ok (.imul, 1) := by decide +kernel
theorem dX0_resize_58 : decode cX0_resize 58 = .ok (.bipush 100, 2) := by decide +kernel
theorem dX0_resize_60 : decode cX0_resize 60 = .ok (.idiv, 1) := by decide +kernel
theorem dX0_resize_61 : decode cX0_resize 61 = .ok (.iastore, 1) := by decide +kernel
theorem dX0_resize_62 : decode cX0_resize 62 = .ok (.iinc 2 1, 3) := by decide +kernel
theorem dX0_resize_65 : decode cX0_resize 65 = .ok (.goto (-63), 3) := by decide +kernel
theorem dX0_resize_68 : decode cX0_resize 68 = .ok (.aload_n 0, 1) := by decide +kernel
theorem dX0_resize_69 : decode cX0_resize 69 = .ok (.iconst 0, 1) := by decide +kernel
theorem dX0_resize_70 : decode cX0_resize 70 = .ok (.putfield 48, 3) := by decide +kernel
theorem dX0_resize_73 : decode cX0_resize 73 = .ok (.return_, 1) := by decide +kernel
theorem dX0_needlePoints_0 : decode cX0_needlePoints 0 = .ok (.aload_n 0, 1) := by decide +kernel
theorem dX0_needlePoints_1 : decode cX0_needlePoints 1 = .ok (.getfield 48, 3) := by decide +kernel
theorem dX0_needlePoints_4 : decode cX0_needlePoints 4 = .ok (.ifCond .eq 8, 3) := by decide +kernel
theorem dX0_needlePoints_7 : decode cX0_needlePoints 7 = .ok (.aload_n 0, 1) := by decide +kernel
theorem dX0_needlePoints_8 : decode cX0_needlePoints 8 = .ok (.getfield 24, 3) := by decide +kernel
theorem dX0_needlePoints_11 : decode cX0_needlePoints 11 = .ok (.areturn, 1) := by decide +kernel
theorem dX0_needlePoints_12 : decode cX0_needlePoints 12 = .ok (.aload_n 0, 1) := by decide +kernel
theorem dX0_needlePoints_13 : decode cX0_needlePoints 13 = .ok (.getfield 24, 3) := by decide +kernel
theorem dX0_needlePoints_16 : decode cX0_needlePoints 16 = .ok (.iconst 0, 1) := by decide +kernel
theorem dX0_needlePoints_17 : decode cX0_needlePoints 17 = .ok (.putfield 66, 3) := by decide +kernel
theorem dX0_needlePoints_20 : decode cX0_needlePoints 20 = .ok (.aload_n 0, 1) := by decide +kernel
theorem dX0_needlePoints_21 : decode cX0_needlePoints 21 = .ok (.getfield 41, 3) := by decide +kernel
theorem dX0_needlePoints_24 : decode cX0_needlePoints 24 = .ok (.ifCond .eq 10, 3) := by decide +kernel
theorem dX0_needlePoints_27 : decode cX0_needlePoints 27 = .ok (.aload_n 0, 1) := by decide +kernel
theorem dX0_needlePoints_28 : decode cX0_needlePoints 28 = .ok (.invokevirtual 69, 3) := by decide +kernel
theorem dX0_needlePoints_31 : decode cX0_needlePoints 31 = .ok (.goto 26, 3) := by decide +kernel
theorem dX0_needlePoints_34 : decode cX0_needlePoints 34 = .ok (.aload_n 0, 1) := by decide +kernel
theorem dX0_needlePoints_35 : decode cX0_needlePoints 35 = .ok (.getfield 45, 3) := by decide +kernel
theorem dX0_needlePoints_38 : decode cX0_needlePoints 38 = .ok (.iconst 3, 1) := by decide +kernel
theorem dX0_needlePoints_39 : decode cX0_needlePoints 39 = .ok (.if_icmp .lt 18, 3) := by decide +kernel
theorem dX0_needlePoints_42 : decode cX0_needlePoints 42 = .ok (.aload_n 0, 1) := by decide +kernel
theorem dX0_needlePoints_43 : decode cX0_needlePoints 43 = .ok (.getfield 57, 3) := by decide +kernel
theorem dX0_needlePoints_46 : decode cX0_needlePoints 46 = .ok (.ifCond .eq 7, 3) := by decide +kernel
theorem dX0_needlePoints_49 : decode cX0_needlePoints 49 = .ok (.aload_n 0, 1) := by decide +kernel
theorem dX0_needlePoints_50 : decode cX0_needlePoints 50 = .ok (.invokevirtual 72, 3) := by decide +kernel
theorem dX0_needlePoints_53 : decode cX0_needlePoints 53 = .ok (.aload_n 0, 1) := by decide +kernel
theorem dX0_needlePoints_54 : decode cX0_needlePoints 54 = .ok (.invokevirtual 75, 3) := by decide +kernel
theorem dX0_needlePoints_57 : decode cX0_needlePoints 57 = .ok (.aload_n 0, 1) := by decide +kernel
theorem dX0_needlePoints_58 : decode cX0_needlePoints 58 = .ok (.iconst 1, 1) := by decide +kernel
theorem dX0_needlePoints_59 : decode cX0_needlePoints 59 = .ok (.putfield 48, 3) := by decide +kernel
theorem dX0_needlePoints_62 : decode cX0_needlePoints 62 = .ok (.aload_n 0, 1) := by decide +kernel
theorem dX0_needlePoints_63 : decode cX0_needlePoints 63 = .ok (.getfield 24, 3) := by decide +kernel
theorem dX0_needlePoints_66 : decode cX0_needlePoints 66 = .ok (.areturn, 1) := by decide +kernel
theorem dX0_drawColumn_0 : decode cX0_drawColumn 0 = .ok (.aload_n 0, 1) := by decide +kernel
theorem dX0_drawColumn_1 : decode cX0_drawColumn 1 = .ok (.getfield 45, 3) := by decide +kernel
theorem dX0_drawColumn_4 : decode cX0_drawColumn 4 = .ok (.iconst 4, 1) := by decide +kernel
theorem dX0_drawColumn_5 : decode cX0_drawColumn 5 = .ok (.if_icmp .lt 34, 3) := by decide +kernel
theorem dX0_drawColumn_8 : decode cX0_drawColumn 8 = .ok (.aload_n 0, 1) := by decide +kernel
theorem dX0_drawColumn_9 : decode cX0_drawColumn 9 = .ok (.getfield 45, 3) := by decide +kernel
theorem dX0_drawColumn_12 : decode cX0_drawColumn 12 = .ok (.aload_n 0, 1) := by decide +kernel
theorem dX0_drawColumn_13 : decode cX0_drawColumn 13 = .ok (.getfield 9, 3) := by decide +kernel
theorem dX0_drawColumn_16 : decode cX0_drawColumn 16 = .ok (.arraylength, 1) := by decide +kernel
theorem dX0_drawColumn_17 : decode cX0_drawColumn 17 = .ok (.if_icmp .gt 22, 3) := by decide +kernel
theorem dX0_drawColumn_20 : decode cX0_drawColumn 20 = .ok (.aload_n 0, 1) := by decide +kernel
theorem dX0_drawColumn_21 : decode cX0_drawColumn 21 = .ok (.getfield 45, 3) := by decide +kernel
theorem dX0_drawColumn_24 : decode cX0_drawColumn 24 = .ok (.aload_n 0, 1) := by decide +kernel
theorem dX0_drawColumn_25 : decode cX0_drawColumn 25 = .ok (.getfield 15, 3) := by decide +kernel
theorem dX0_drawColumn_28 : decode cX0_drawColumn 28 = .ok (.arraylength, 1) := by decide +kernel
theorem dX0_drawColumn_29 : decode cX0_drawColumn 29 = .ok (.if_icmp .gt 10, 3) := by decide +kernel
theorem dX0_drawColumn_32 : decode cX0_drawColumn 32 = .ok (.aload_n 0, 1) := by decide +kernel
theorem dX0_drawColumn_33 : decode cX0_drawColumn 33 = .ok (.getfield 28, 3) := by decide +kernel
theorem dX0_drawColumn_36 : decode cX0_drawColumn 36 = .ok (.ifCond .gt 4, 3) := by decide +kernel
theorem dX0_drawColumn_39 : decode cX0_drawColumn 39 = .ok (.return_, 1) := by decide +kernel
theorem dX0_drawColumn_40 : decode cX0_drawColumn 40 = .ok (.aload_n 0, 1) := by decide +kernel
theorem dX0_drawColumn_41 : decode cX0_drawColumn 41 = .ok (.getfield 9, 3) := by decide +kernel
theorem dX0_drawColumn_44 : decode cX0_drawColumn 44 = .ok (.astore_n 1, 1) := by decide +kernel
theorem dX0_drawColumn_45 : decode cX0_drawColumn 45 = .ok (.aload_n 0, 1) := by decide +kernel
theorem dX0_drawColumn_46 : decode cX0_drawColumn 46 = .ok (.getfield 15, 3) := by decide +kernel
theorem dX0_drawColumn_49 : decode cX0_drawColumn 49 = .ok (.astore_n 2, 1) := by decide +kernel
theorem dX0_drawColumn_50 : decode cX0_drawColumn 50 = .ok (.aload_n 1, 1) := by decide +kernel
theorem dX0_drawColumn_51 : decode cX0_drawColumn 51 = .ok (.iconst 1, 1) := by decide +kernel
theorem dX0_drawColumn_52 : decode cX0_drawColumn 52 = .ok (.iaload, 1) := by decide +kernel
theorem dX0_drawColumn_53 : decode cX0_drawColumn 53 = .ok (.aload_n 1, 1) := by decide +kernel
theorem dX0_drawColumn_54 : decode cX0_drawColumn 54 = .ok (.iconst 0, 1) := by decide +kernel
theorem dX0_drawColumn_55 : decode cX0_drawColumn 55 = .ok (.iaload, 1) := by decide +kernel
theorem dX0_drawColumn_56 : decode cX0_drawColumn 56 = .ok (.isub, 1) := by decide +kernel
theorem dX0_drawColumn_57 : decode cX0_drawColumn 57 = .ok (.aload_n 2, 1) := by decide +kernel
theorem dX0_drawColumn_58 : decode cX0_drawColumn 58 = .ok (.iconst 1, 1) := by decide +kernel
theorem dX0_drawColumn_59 : decode cX0_drawColumn 59 = .ok (.iaload, 1) := by decide +kernel
theorem dX0_drawColumn_60 : decode cX0_drawColumn 60 = .ok (.aload_n 2, 1) := by decide +kernel
theorem dX0_drawColumn_61 : decode cX0_drawColumn 61 = .ok (.iconst 0, 1) := by decide +kernel
theorem dX0_drawColumn_62 : decode cX0_drawColumn 62 = .ok (.iaload, 1) := by decide +kernel
theorem dX0_drawColumn_63 : decode cX0_drawColumn 63 = .ok (.isub, 1) := by decide +kernel
theorem dX0_drawColumn_64 : decode cX0_drawColumn 64 = .ok (.invokestatic 78, 3) := by decide +kernel
theorem dX0_drawColumn_67 : decode cX0_drawColumn 67 = .ok (.istore_n 3, 1) := by decide +kernel
theorem dX0_drawColumn_68 : decode cX0_drawColumn 68 = .ok (.aload_n 1, 1) := by decide +kernel
theorem dX0_drawColumn_69 : decode cX0_drawColumn 69 = .ok (.iconst 2, 1) := by decide +kernel
theorem dX0_drawColumn_70 : decode cX0_drawColumn 70 = .ok (.iaload, 1) := by decide +kernel
theorem dX0_drawColumn_71 : decode cX0_drawColumn 71 = .ok (.aload_n 1, 1) := by decide +kernel
theorem dX0_drawColumn_72 : decode cX0_drawColumn 72 = .ok (.iconst 3, 1) := by decide +kernel
theorem dX0_drawColumn_73 : decode cX0_drawColumn 73 = .ok (.iaload, 1) := by decide +kernel
theorem dX0_drawColumn_74 : decode cX0_drawColumn 74 = .ok (.isub, 1) := by decide +kernel
theorem dX0_drawColumn_75 : decode cX0_drawColumn 75 = .ok (.aload_n 2, 1) := by decide +kernel
theorem dX0_drawColumn_76 : decode cX0_drawColumn 76 = .ok (.iconst 2, 1) := by decide +kernel
theorem dX0_drawColumn_77 : decode cX0_drawColumn 77 = .ok (.iaload, 1) := by decide +kernel
theorem dX0_drawColumn_78 : decode cX0_drawColumn 78 = .ok (.aload_n 2, 1) := by decide +kernel
theorem dX0_drawColumn_79 : decode cX0_drawColumn 79 = .ok (.iconst 3, 1) := by decide +kernel
theorem dX0_drawColumn_80 : decode cX0_drawColumn 80 = .ok (.iaload, 1) := by decide +kernel
theorem dX0_drawColumn_81 : decode cX0_drawColumn 81 = .ok (.isub, 1) := by decide +kernel
theorem dX0_drawColumn_82 : decode cX0_drawColumn 82 = .ok (.invokestatic 78, 3) := by decide +kernel
theorem dX0_drawColumn_85 : decode cX0_drawColumn 85 = .ok (.istore 4, 2) := by decide +kernel
theorem dX0_drawColumn_87 : decode cX0_drawColumn 87 = .ok (.iload_n 3, 1) := by decide +kernel
theorem dX0_drawColumn_88 : decode cX0_drawColumn 88 = .ok (.iload 4, 2) := by decide +kernel
theorem dX0_drawColumn_90 : decode cX0_drawColumn 90 = .ok (.invokestatic 60, 3) := by decide +kernel
theorem dX0_drawColumn_93 : decode cX0_drawColumn 93 = .ok (.aload_n 0, 1) := by decide +kernel
theorem dX0_drawColumn_94 : decode cX0_drawColumn 94 = .ok (.getfield 28, 3) := by decide +kernel
theorem dX0_drawColumn_97 : decode cX0_drawColumn 97 = .ok (.idiv, 1) := by decide +kernel
theorem dX0_drawColumn_98 : decode cX0_drawColumn 98 = .ok (.iconst 1, 1) := by decide +kernel
theorem dX0_drawColumn_99 : decode cX0_drawColumn 99 = .ok (.iadd, 1) := by decide +kernel
theorem dX0_drawColumn_100 : decode cX0_drawColumn 100 = .ok (.istore 5, 2) := by decide +kernel
theorem dX0_drawColumn_102 : decode cX0_drawColumn 102 = .ok (.iconst 0, 1) := by decide +kernel
theorem dX0_drawColumn_103 : decode cX0_drawColumn 103 = .ok (.istore 6, 2) := by decide +kernel
theorem dX0_drawColumn_105 : decode cX0_drawColumn 105 = .ok (.iload 6, 2) := by decide +kernel
theorem dX0_drawColumn_107 : decode cX0_drawColumn 107 = .ok (.iload 5, 2) := by decide +kernel
theorem dX0_drawColumn_109 : decode cX0_drawColumn 109 = .ok (.if_icmp .gt 75, 3) := by decide +kernel
theorem dX0_drawColumn_112 : decode cX0_drawColumn 112 = .ok (.aload_n 0, 1) := by decide +kernel
theorem dX0_drawColumn_113 : decode cX0_drawColumn 113 = .ok (.getfield 24, 3) := by decide +kernel
theorem dX0_drawColumn_116 : decode cX0_drawColumn 116 = .ok (.aload_n 1, 1) := by decide +kernel
theorem dX0_drawColumn_117 : decode cX0_drawColumn 117 = .ok (.iconst 0, 1) := by decide +kernel
theorem dX0_drawColumn_118 : decode cX0_drawColumn 118 = .ok (.iaload, 1) := by decide +kernel
theorem dX0_drawColumn_119 : decode cX0_drawColumn 119 = .ok (.aload_n 1, 1) := by decide +kernel
theorem dX0_drawColumn_120 : decode cX0_drawColumn 120 = .ok (.iconst 1, 1) := by decide +kernel
theorem dX0_drawColumn_121 : decode cX0_drawColumn 121 = .ok (.iaload, 1) := by decide +kernel
theorem dX0_drawColumn_122 : decode cX0_drawColumn 122 = .ok (.iload 6, 2) := by decide +kernel
theorem dX0_drawColumn_124 : decode cX0_drawColumn 124 = .ok (.iload 5, 2) := by decide +kernel
theorem dX0_drawColumn_126 : decode cX0_drawColumn 126 = .ok (.invokestatic 81, 3) := by decide +kernel
theorem dX0_drawColumn_129 : decode cX0_drawColumn 129 = .ok (.aload_n 2, 1) := by decide +kernel
theorem dX0_drawColumn_130 : decode cX0_drawColumn 130 = .ok (.iconst 0, 1) := by decide +kernel
theorem dX0_drawColumn_131 : decode cX0_drawColumn 131 = .ok (.iaload, 1) := by decide +kernel
theorem dX0_drawColumn_132 : decode cX0_drawColumn 132 = .ok (.aload_n 2, 1) := by decide +kernel
theorem dX0_drawColumn_133 : decode cX0_drawColumn 133 = .ok (.iconst 1, 1) := by decide +kernel
theorem dX0_drawColumn_134 : decode cX0_drawColumn 134 = .ok (.iaload, 1) := by decide +kernel
theorem dX0_drawColumn_135 : decode cX0_drawColumn 135 = .ok (.iload 6, 2) := by decide +kernel
theorem dX0_drawColumn_137 : decode cX0_drawColumn 137 = .ok (.iload 5, 2) := by decide +kernel
theorem dX0_drawColumn_139 : decode cX0_drawColumn 139 = .ok (.invokestatic 81, 3) := by decide +kernel
theorem dX0_drawColumn_142 : decode cX0_drawColumn 142 = .ok (.invokevirtual 85, 3) := by decide +kernel
theorem dX0_drawColumn_145 : decode cX0_drawColumn 145 = .ok (.aload_n 0, 1) := by decide +kernel
theorem dX0_drawColumn_146 : decode cX0_drawColumn 146 = .ok (.getfield 24, 3) := by decide +kernel
theorem dX0_drawColumn_149 : decode cX0_drawColumn 149 = .ok (.aload_n 1, 1) := by decide +kernel
theorem dX0_drawColumn_150 : decode cX0_drawColumn 150 = .ok (.iconst 3, 1) := by decide +kernel
theorem dX0_drawColumn_151 : decode cX0_drawColumn 151 = .ok (.iaload, 1) := by decide +kernel
theorem dX0_drawColumn_152 : decode cX0_drawColumn 152 = .ok (.aload_n 1, 1) := by decide +kernel
theorem dX0_drawColumn_153 : decode cX0_drawColumn 153 = .ok (.iconst 2, 1) := by decide +kernel
theorem dX0_drawColumn_154 : decode cX0_drawColumn 154 = .ok (.iaload, 1) := by decide +kernel
theorem dX0_drawColumn_155 : decode cX0_drawColumn 155 = .ok (.iload 6, 2) := by decide +kernel
theorem dX0_drawColumn_157 : decode cX0_drawColumn 157 = .ok (.iload 5, 2) := by decide +kernel
theorem dX0_drawColumn_159 : decode cX0_drawColumn 159 = .ok (.invokestatic 81, 3) := by decide +kernel
theorem dX0_drawColumn_162 : decode cX0_drawColumn 162 = .ok (.aload_n 2, 1) := by decide +kernel
theorem dX0_drawColumn_163 : decode cX0_drawColumn 163 = .ok (.iconst 3, 1) := by decide +kernel
theorem dX0_drawColumn_164 : decode cX0_drawColumn 164 = .ok (.iaload, 1) := by decide +kernel
theorem dX0_drawColumn_165 : decode cX0_drawColumn 165 = .ok (.aload_n 2, 1) := by decide +kernel
theorem dX0_drawColumn_166 : decode cX0_drawColumn 166 = .ok (.iconst 2, 1) := by decide +kernel
theorem dX0_drawColumn_167 : decode cX0_drawColumn 167 = .ok (.iaload, 1) := by decide +kernel
theorem dX0_drawColumn_168 : decode cX0_drawColumn 168 = .ok (.iload 6, 2) := by decide +kernel
theorem dX0_drawColumn_170 : decode cX0_drawColumn 170 = .ok (.iload 5, 2) := by decide +kernel
theorem dX0_drawColumn_172 : decode cX0_drawColumn 172 = .ok (.invokestatic 81, 3) := by decide +kernel
theorem dX0_drawColumn_175 : decode cX0_drawColumn 175 = .ok (.invokevirtual 85, 3) := by decide +kernel
theorem dX0_drawColumn_178 : decode cX0_drawColumn 178 = .ok (.iinc 6 1, 3) := by decide +kernel
theorem dX0_drawColumn_181 : decode cX0_drawColumn 181 = .ok (.goto (-76), 3) := by decide +kernel
theorem dX0_drawColumn_184 : decode cX0_drawColumn 184 = .ok (.return_, 1) := by decide +kernel
theorem dX0_cornerBehind_0 : decode cX0_cornerBehind 0 = .ok (.iload_n 1, 1) := by decide +kernel
theorem dX0_cornerBehind_1 : decode cX0_cornerBehind 1 = .ok (.iconst 1, 1) := by decide +kernel
theorem dX0_cornerBehind_2 : decode cX0_cornerBehind 2 = .ok (.iadd, 1) := by decide +kernel
theorem dX0_cornerBehind_3 : decode cX0_cornerBehind 3 = .ok (.aload_n 0, 1) := by decide +kernel
theorem dX0_cornerBehind_4 : decode cX0_cornerBehind 4 = .ok (.getfield 45, 3) := by decide +kernel
theorem dX0_cornerBehind_7 : decode cX0_cornerBehind 7 = .ok (.if_icmp .ge 9, 3) := by decide +kernel
theorem dX0_cornerBehind_10 : decode cX0_cornerBehind 10 = .ok (.iload_n 1, 1) := by decide +kernel
theorem dX0_cornerBehind_11 : decode cX0_cornerBehind 11 = .ok (.iconst 1, 1) := by decide +kernel
theorem dX0_cornerBehind_12 : decode cX0_cornerBehind 12 = .ok (.iadd, 1) := by decide +kernel
theorem dX0_cornerBehind_13 : decode cX0_cornerBehind 13 = .ok (.goto 4, 3) := by decide +kernel
theorem dX0_cornerBehind_16 : decode cX0_cornerBehind 16 = .ok (.iconst 0, 1) := by decide +kernel
theorem dX0_cornerBehind_17 : decode cX0_cornerBehind 17 = .ok (.ireturn, 1) := by decide +kernel
theorem dX0_drawUnderlay_0 : decode cX0_drawUnderlay 0 = .ok (.aload_n 0, 1) := by decide +kernel
theorem dX0_drawUnderlay_1 : decode cX0_drawUnderlay 1 = .ok (.getfield 24, 3) := by decide +kernel
theorem dX0_drawUnderlay_4 : decode cX0_drawUnderlay 4 = .ok (.aload_n 0, 1) := by decide +kernel
theorem dX0_drawUnderlay_5 : decode cX0_drawUnderlay 5 = .ok (.getfield 9, 3) := by decide +kernel
theorem dX0_drawUnderlay_8 : decode cX0_drawUnderlay 8 = .ok (.iconst 0, 1) := by decide +kernel
theorem dX0_drawUnderlay_9 : decode cX0_drawUnderlay 9 = .ok (.iaload, 1) := by decide +kernel
theorem dX0_drawUnderlay_10 : decode cX0_drawUnderlay 10 = .ok (.aload_n 0, 1) := by decide +kernel
theorem dX0_drawUnderlay_11 : decode cX0_drawUnderlay 11 = .ok (.getfield 15, 3) := by decide +kernel
theorem dX0_drawUnderlay_14 : decode cX0_drawUnderlay 14 = .ok (.iconst 0, 1) := by decide +kernel
theorem dX0_drawUnderlay_15 : decode cX0_drawUnderlay 15 = .ok (.iaload, 1) := by decide +kernel
theorem dX0_drawUnderlay_16 : decode cX0_drawUnderlay 16 = .ok (.invokevirtual 85, 3) := by decide +kernel
theorem dX0_drawUnderlay_19 : decode cX0_drawUnderlay 19 = .ok (.iconst 0, 1) := by decide +kernel
theorem dX0_drawUnderlay_20 : decode cX0_drawUnderlay 20 = .ok (.istore_n 1, 1) := by decide +kernel
theorem dX0_drawUnderlay_21 : decode cX0_drawUnderlay 21 = .ok (.iload_n 1, 1) := by decide +kernel
theorem dX0_drawUnderlay_22 : decode cX0_drawUnderlay 22 = .ok (.aload_n 0, 1) := by decide +kernel
theorem dX0_drawUnderlay_23 : decode cX0_drawUnderlay 23 = .ok (.getfield 45, 3) := by decide +kernel
theorem dX0_drawUnderlay_26 : decode cX0_drawUnderlay 26 = .ok (.if_icmp .ge 79, 3) := by decide +kernel
theorem dX0_drawUnderlay_29 : decode cX0_drawUnderlay 29 = .ok (.iload_n 1, 1) := by decide +kernel
theorem dX0_drawUnderlay_30 : decode cX0_drawUnderlay 30 = .ok (.aload_n 0, 1) := by decide +kernel
theorem dX0_drawUnderlay_31 : decode cX0_drawUnderlay 31 = .ok (.getfield 9, 3) := by decide +kernel
theorem dX0_drawUnderlay_34 : decode cX0_drawUnderlay 34 = .ok (.arraylength, 1) := by decide +kernel
theorem dX0_drawUnderlay_35 : decode cX0_drawUnderlay 35 = .ok (.if_icmp .ge 70, 3) := by decide +kernel
theorem dX0_drawUnderlay_38 : decode cX0_drawUnderlay 38 = .ok (.iload_n 1, 1) := by decide +kernel
theorem dX0_drawUnderlay_39 : decode cX0_drawUnderlay 39 = .ok (.aload_n 0, 1) := by decide +kernel
theorem dX0_drawUnderlay_40 : decode cX0_drawUnderlay 40 = .ok (.getfield 15, 3) := by decide +kernel
theorem dX0_drawUnderlay_43 : decode cX0_drawUnderlay 43 = .ok (.arraylength, 1) := by decide +kernel
theorem dX0_drawUnderlay_44 : decode cX0_drawUnderlay 44 = .ok (.if_icmp .ge 61, 3) := by decide +kernel
theorem dX0_drawUnderlay_47 : decode cX0_drawUnderlay 47 = .ok (.aload_n 0, 1) := by decide +kernel
theorem dX0_drawUnderlay_48 : decode cX0_drawUnderlay 48 = .ok (.iload_n 1, 1) := by decide +kernel
theorem dX0_drawUnderlay_49 : decode cX0_drawUnderlay 49 = .ok (.invokevirtual 89, 3) := by decide +kernel
theorem dX0_drawUnderlay_52 : decode cX0_drawUnderlay 52 = .ok (.istore_n 2, 1) := by decide +kernel
theorem dX0_drawUnderlay_53 : decode cX0_drawUnderlay 53 = .ok (.iload_n 2, 1) := by decide +kernel
theorem dX0_drawUnderlay_54 : decode cX0_drawUnderlay 54 = .ok (.aload_n 0, 1) := by decide +kernel
theorem dX0_drawUnderlay_55 : decode cX0_drawUnderlay 55 = .ok (.getfield 9, 3) := by decide +kernel
theorem dX0_drawUnderlay_58 : decode cX0_drawUnderlay 58 = .ok (.arraylength, 1) := by decide +kernel
theorem dX0_drawUnderlay_59 : decode cX0_drawUnderlay 59 = .ok (.if_icmp .ge 40, 3) := by decide +kernel
theorem dX0_drawUnderlay_62 : decode cX0_drawUnderlay 62 = .ok (.iload_n 2, 1) := by decide +kernel
theorem dX0_drawUnderlay_63 : decode cX0_drawUnderlay 63 = .ok (.aload_n 0, 1) := by decide +kernel
theorem dX0_drawUnderlay_64 : decode cX0_drawUnderlay 64 = .ok (.getfield 15, 3) := by decide +kernel
theorem dX0_drawUnderlay_67 : decode cX0_drawUnderlay 67 = .ok (.arraylength, 1) := by decide +kernel
theorem dX0_drawUnderlay_68 : decode cX0_drawUnderlay 68 = .ok (.if_icmp .ge 31, 3) := by decide +kernel
theorem dX0_drawUnderlay_71 : decode cX0_drawUnderlay 71 = .ok (.aload_n 0, 1) := by decide +kernel
theorem dX0_drawUnderlay_72 : decode cX0_drawUnderlay 72 = .ok (.aload_n 0, 1) := by decide +kernel
theorem dX0_drawUnderlay_73 : decode cX0_drawUnderlay 73 = .ok (.getfield 9, 3) := by decide +kernel
theorem dX0_drawUnderlay_76 : decode cX0_drawUnderlay 76 = .ok (.iload_n 1, 1) := by decide +kernel
theorem dX0_drawUnderlay_77 : decode cX0_drawUnderlay 77 = .ok (.iaload, 1) := by decide +kernel
theorem dX0_drawUnderlay_78 : decode cX0_drawUnderlay 78 = .ok (.aload_n 0, 1) := by decide +kernel
theorem dX0_drawUnderlay_79 : decode cX0_drawUnderlay 79 = .ok (.getfield 15, 3) := by decide +kernel
theorem dX0_drawUnderlay_82 : decode cX0_drawUnderlay 82 = .ok (.iload_n 1, 1) := by decide +kernel
theorem dX0_drawUnderlay_83 : decode cX0_drawUnderlay 83 = .ok (.iaload, 1) := by decide +kernel
theorem dX0_drawUnderlay_84 : decode cX0_drawUnderlay 84 = .ok (.aload_n 0, 1) := by decide +kernel
theorem dX0_drawUnderlay_85 : decode cX0_drawUnderlay 85 = .ok (.getfield 9, 3) := by decide +kernel
theorem dX0_drawUnderlay_88 : decode cX0_drawUnderlay 88 = .ok (.iload_n 2, 1) := by decide +kernel
theorem dX0_drawUnderlay_89 : decode cX0_drawUnderlay 89 = .ok (.iaload, 1) := by decide +kernel
theorem dX0_drawUnderlay_90 : decode cX0_drawUnderlay 90 = .ok (.aload_n 0, 1) := by decide +kernel
theorem dX0_drawUnderlay_91 : decode cX0_drawUnderlay 91 = .ok (.getfield 15, 3) := by decide +kernel
theorem dX0_drawUnderlay_94 : decode cX0_drawUnderlay 94 = .ok (.iload_n 2, 1) := by decide +kernel
theorem dX0_drawUnderlay_95 : decode cX0_drawUnderlay 95 = .ok (.iaload, 1) := by decide +kernel
theorem dX0_drawUnderlay_96 : decode cX0_drawUnderlay 96 = .ok (.invokevirtual 93, 3) := by decide +kernel
theorem dX0_drawUnderlay_99 : decode cX0_drawUnderlay 99 = .ok (.iinc 1 1, 3) := by decide +kernel
theorem dX0_drawUnderlay_102 : decode cX0_drawUnderlay 102 = .ok (.goto (-81), 3) := by decide +kernel
theorem dX0_drawUnderlay_105 : decode cX0_drawUnderlay 105 = .ok (.return_, 1) := by decide +kernel
theorem dX0_drawEdge_0 : decode cX0_drawEdge 0 = .ok (.iload_n 3, 1) := by decide +kernel
theorem dX0_drawEdge_1 : decode cX0_drawEdge 1 = .ok (.iload_n 1, 1) := by decide +kernel
theorem dX0_drawEdge_2 : decode cX0_drawEdge 2 = .ok (.isub, 1) := by decide +kernel
theorem dX0_drawEdge_3 : decode cX0_drawEdge 3 = .ok (.iload 4, 2) := by decide +kernel
theorem dX0_drawEdge_5 : decode cX0_drawEdge 5 = .ok (.iload_n 2, 1) := by decide +kernel
theorem dX0_drawEdge_6 : decode cX0_drawEdge 6 = .ok (.isub, 1) := by decide +kernel
theorem dX0_drawEdge_7 : decode cX0_drawEdge 7 = .ok (.invokestatic 78, 3) := by decide +kernel
theorem dX0_drawEdge_10 : decode cX0_drawEdge 10 = .ok (.aload_n 0, 1) := by decide +kernel
theorem dX0_drawEdge_11 : decode cX0_drawEdge 11 = .ok (.getfield 32, 3) := by decide +kernel
theorem dX0_drawEdge_14 : decode cX0_drawEdge 14 = .ok (.invokestatic 97, 3) := by decide +kernel
theorem dX0_drawEdge_17 : decode cX0_drawEdge 17 = .ok (.istore 5, 2) := by decide +kernel
theorem dX0_drawEdge_19 : decode cX0_drawEdge 19 = .ok (.iconst 1, 1) := by decide +kernel
theorem dX0_drawEdge_20 : decode cX0_drawEdge 20 = .ok (.istore 6, 2) := by decide +kernel
theorem dX0_drawEdge_22 : decode cX0_drawEdge 22 = .ok (.iload 6, 2) := by decide +kernel
theorem dX0_drawEdge_24 : decode cX0_drawEdge 24 = .ok (.iload 5, 2) := by decide +kernel
theorem dX0_drawEdge_26 : decode cX0_drawEdge 26 = .ok (.if_icmp .gt 35, 3) := by decide +kernel
theorem dX0_drawEdge_29 : decode cX0_drawEdge 29 = .ok (.aload_n 0, 1) := by decide +kernel
theorem dX0_drawEdge_30 : decode cX0_drawEdge 30 = .ok (.getfield 24, 3) := by decide +kernel
theorem dX0_drawEdge_33 : decode cX0_drawEdge 33 = .ok (.iload_n 1, 1) := by decide +kernel
theorem dX0_drawEdge_34 : decode cX0_drawEdge 34 = .ok (.iload_n 3, 1) := by decide +kernel
theorem dX0_drawEdge_35 : decode cX0_drawEdge 35 = .ok (.iload 6, 2) := by decide +kernel
theorem dX0_drawEdge_37 : decode cX0_drawEdge 37 = .ok (.iload 5, 2) := by decide +kernel
theorem dX0_drawEdge_39 : decode cX0_drawEdge 39 = .ok (.invokestatic 81, 3) := by decide +kernel
theorem dX0_drawEdge_42 : decode cX0_drawEdge 42 = .ok (.iload_n 2, 1) := by decide +kernel
theorem dX0_drawEdge_43 : decode cX0_drawEdge 43 = .ok (.iload 4, 2) := by decide +kernel
theorem dX0_drawEdge_45 : decode cX0_drawEdge 45 = .ok (.iload 6, 2) := by decide +kernel
theorem dX0_drawEdge_47 : decode cX0_drawEdge 47 = .ok (.iload 5, 2) := by decide +kernel
theorem dX0_drawEdge_49 : decode cX0_drawEdge 49 = .ok (.invokestatic 81, 3) := by decide +kernel
theorem dX0_drawEdge_52 : decode cX0_drawEdge 52 = .ok (.invokevirtual 85, 3) := by decide +kernel
theorem dX0_drawEdge_55 : decode cX0_drawEdge 55 = .ok (.iinc 6 1, 3) := by decide +kernel
theorem dX0_drawEdge_58 : decode cX0_drawEdge 58 = .ok (.goto (-36), 3) := by decide +kernel
theorem dX0_drawEdge_61 : decode cX0_drawEdge 61 = .ok (.return_, 1) := by decide +kernel
theorem dX0_drawRows_0 : decode cX0_drawRows 0 = .ok (.aload_n 0, 1) := by decide +kernel
theorem dX0_drawRows_1 : decode cX0_drawRows 1 = .ok (.invokevirtual 100, 3) := by decide +kernel
theorem dX0_drawRows_4 : decode cX0_drawRows 4 = .ok (.istore_n 1, 1) := by decide +kernel
theorem dX0_drawRows_5 : decode cX0_drawRows 5 = .ok (.aload_n 0, 1) := by decide +kernel
theorem dX0_drawRows_6 : decode cX0_drawRows 6 = .ok (.invokevirtual 104, 3) := by decide +kernel
theorem dX0_drawRows_9 : decode cX0_drawRows 9 = .ok (.iload_n 1, 1) := by decide +kernel
theorem dX0_drawRows_10 : decode cX0_drawRows 10 = .ok (.isub, 1) := by decide +kernel
theorem dX0_drawRows_11 : decode cX0_drawRows 11 = .ok (.aload_n 0, 1) := by decide +kernel
theorem dX0_drawRows_12 : decode cX0_drawRows 12 = .ok (.getfield 28, 3) := by decide +kernel
theorem dX0_drawRows_15 : decode cX0_drawRows 15 = .ok (.invokestatic 97, 3) := by decide +kernel
theorem dX0_drawRows_18 : decode cX0_drawRows 18 = .ok (.istore_n 2, 1) := by decide +kernel
theorem dX0_drawRows_19 : decode cX0_drawRows 19 = .ok (.iconst 0, 1) := by decide +kernel
theorem dX0_drawRows_20 : decode cX0_drawRows 20 = .ok (.istore_n 3, 1) := by decide +kernel
theorem dX0_drawRows_21 : decode cX0_drawRows 21 = .ok (.iload_n 3, 1) := by decide +kernel
theorem dX0_drawRows_22 : decode cX0_drawRows 22 = .ok (.iload_n 2, 1) := by decide +kernel
theorem dX0_drawRows_23 : decode cX0_drawRows 23 = .ok (.if_icmp .ge 89, 3) := by decide +kernel
theorem dX0_drawRows_26 : decode cX0_drawRows 26 = .ok (.iload_n 1, 1) := by decide +kernel
theorem dX0_drawRows_27 : decode cX0_drawRows 27 = .ok (.iload_n 3, 1) := by decide +kernel
theorem dX0_drawRows_28 : decode cX0_drawRows 28 = .ok (.aload_n 0, 1) := by decide +kernel
theorem dX0_drawRows_29 : decode cX0_drawRows 29 = .ok (.getfield 28, 3) := by decide +kernel
theorem dX0_drawRows_32 : decode cX0_drawRows 32 = .ok (.imul, 1) := by decide +kernel
theorem dX0_drawRows_33 : decode cX0_drawRows 33 = .ok (.iadd, 1) := by decide +kernel
theorem dX0_drawRows_34 : decode cX0_drawRows 34 = .ok (.istore 4, 2) := by decide +kernel
theorem dX0_drawRows_36 : decode cX0_drawRows 36 = .ok (.aload_n 0, 1) := by decide +kernel
theorem dX0_drawRows_37 : decode cX0_drawRows 37 = .ok (.iload 4, 2) := by decide +kernel
theorem dX0_drawRows_39 : decode cX0_drawRows 39 = .ok (.invokevirtual 107, 3) := by decide +kernel
theorem dX0_drawRows_42 : decode cX0_drawRows 42 = .ok (.aload_n 0, 1) := by decide +kernel
theorem dX0_drawRows_43 : decode cX0_drawRows 43 = .ok (.getfield 111, 3) := by decide +kernel
theorem dX0_drawRows_46 : decode cX0_drawRows 46 = .ok (.iconst 2, 1) := by decide +kernel
theorem dX0_drawRows_47 : decode cX0_drawRows 47 = .ok (.idiv, 1) := by decide +kernel
theorem dX0_drawRows_48 : decode cX0_drawRows 48 = .ok (.istore 5, 2) := by decide +kernel
theorem dX0_drawRows_50 : decode cX0_drawRows 50 = .ok (.iload_n 3, 1) := by decide +kernel
theorem dX0_drawRows_51 : decode cX0_drawRows 51 = .ok (.iconst 2, 1) := by decide +kernel
theorem dX0_drawRows_52 : decode cX0_drawRows 52 = .ok (.irem, 1) := by decide +kernel
theorem dX0_drawRows_53 : decode cX0_drawRows 53 = .ok (.iconst 1, 1) := by decide +kernel
theorem dX0_drawRows_54 : decode cX0_drawRows 54 = .ok (.if_icmp .ne 7, 3) := by decide +kernel
theorem dX0_drawRows_57 : decode cX0_drawRows 57 = .ok (.iconst 1, 1) := by decide +kernel
theorem dX0_drawRows_58 : decode cX0_drawRows 58 = .ok (.goto 4, 3) := by decide +kernel
theorem dX0_drawRows_61 : decode cX0_drawRows 61 = .ok (.iconst 0, 1) := by decide +kernel
theorem dX0_drawRows_62 : decode cX0_drawRows 62 = .ok (.istore 6, 2) := by decide +kernel
theorem dX0_drawRows_64 : decode cX0_drawRows 64 = .ok (.iconst 0, 1) := by decide +kernel
theorem dX0_drawRows_65 : decode cX0_drawRows 65 = .ok (.istore 7, 2) := by decide +kernel
theorem dX0_drawRows_67 : decode cX0_drawRows 67 = .ok (.iload 7, 2) := by decide +kernel
theorem dX0_drawRows_69 : decode cX0_drawRows 69 = .ok (.iload 5, 2) := by decide +kernel
theorem dX0_drawRows_71 : decode cX0_drawRows 71 = .ok (.if_icmp .ge 35, 3) := by decide +kernel
theorem dX0_drawRows_74 : decode cX0_drawRows 74 = .ok (.aload_n 0, 1) := by decide +kernel
theorem dX0_drawRows_75 : decode cX0_drawRows 75 = .ok (.iload 6, 2) := by decide +kernel
theorem dX0_drawRows_77 : decode cX0_drawRows 77 = .ok (.ifCond .eq 13, 3) := by decide +kernel
theorem dX0_drawRows_80 : decode cX0_drawRows 80 = .ok (.iload 5, 2) := by decide +kernel
theorem dX0_drawRows_82 : decode cX0_drawRows 82 = .ok (.iconst 1, 1) := by decide +kernel
theorem dX0_drawRows_83 : decode cX0_drawRows 83 = .ok (.isub, 1) := by decide +kernel
theorem dX0_drawRows_84 : decode cX0_drawRows 84 = .ok (.iload 7, 2) := by decide +kernel
theorem dX0_drawRows_86 : decode cX0_drawRows 86 = .ok (.isub, 1) := by decide +kernel
theorem dX0_drawRows_87 : decode cX0_drawRows 87 = .ok (.goto 5, 3) := by decide +kernel
theorem dX0_drawRows_90 : decode cX0_drawRows 90 = .ok (.iload 7, 2) := by decide +kernel
theorem dX0_drawRows_92 : decode cX0_drawRows 92 = .ok (.iload_n 3, 1) := by decide +kernel
theorem dX0_drawRows_93 : decode cX0_drawRows 93 = .ok (.iload 4, 2) := by decide +kernel
theorem dX0_drawRows_95 : decode cX0_drawRows 95 = .ok (.iload 6, 2) := by decide +kernel
theorem dX0_drawRows_97 : decode cX0_drawRows 97 = .ok (.invokevirtual 114, 3) := by decide +kernel
theorem dX0_drawRows_100 : decode cX0_drawRows 100 = .ok (.iinc 7 1, 3) := by decide +kernel
theorem dX0_drawRows_103 : decode cX0_drawRows 103 = .ok (.goto (-36), 3) := by decide +kernel
theorem dX0_drawRows_106 : decode cX0_drawRows 106 = .ok (.iinc 3 1, 3) := by decide +kernel
theorem dX0_drawRows_109 : decode cX0_drawRows 109 = .ok (.goto (-88), 3) := by decide +kernel
theorem dX0_drawRows_112 : decode cX0_drawRows 112 = .ok (.return_, 1) := by decide +kernel
theorem dX0_drawSpan_0 : decode cX0_drawSpan 0 = .ok (.iconst 2, 1) := by decide +kernel
theorem dX0_drawSpan_1 : decode cX0_drawSpan 1 = .ok (.iload_n 1, 1) := by decide +kernel
theorem dX0_drawSpan_2 : decode cX0_drawSpan 2 = .ok (.imul, 1) := by decide +kernel
theorem dX0_drawSpan_3 : decode cX0_drawSpan 3 = .ok (.istore 5, 2) := by decide +kernel
theorem dX0_drawSpan_5 : decode cX0_drawSpan 5 = .ok (.iload 5, 2) := by decide +kernel
theorem dX0_drawSpan_7 : decode cX0_drawSpan 7 = .ok (.ifCond .lt 15, 3) := by decide +kernel
theorem dX0_drawSpan_10 : decode cX0_drawSpan 10 = .ok (.iload 5, 2) := by decide +kernel
theorem dX0_drawSpan_12 : decode cX0_drawSpan 12 = .ok (.iconst 1, 1) := by decide +kernel
theorem dX0_drawSpan_13 : decode cX0_drawSpan 13 = .ok (.iadd, 1) := by decide +kernel
theorem dX0_drawSpan_14 : decode cX0_drawSpan 14 = .ok (.aload_n 0, 1) := by decide +kernel
theorem dX0_drawSpan_15 : decode cX0_drawSpan 15 = .ok (.getfield 18, 3) := by decide +kernel
theorem dX0_drawSpan_18 : decode cX0_drawSpan 18 = .ok (.arraylength, 1) := by decide +kernel
theorem dX0_drawSpan_19 : decode cX0_drawSpan 19 = .ok (.if_icmp .lt 4, 3) := by decide +kernel
theorem dX0_drawSpan_22 : decode cX0_drawSpan 22 = .ok (.return_, 1) := by decide +kernel
theorem dX0_drawSpan_23 : decode cX0_drawSpan 23 = .ok (.aload_n 0, 1) := by decide +kernel
theorem dX0_drawSpan_24 : decode cX0_drawSpan 24 = .ok (.getfield 18, 3) := by decide +kernel
theorem dX0_drawSpan_27 : decode cX0_drawSpan 27 = .ok (.iload 5, 2) := by decide +kernel
theorem dX0_drawSpan_29 : decode cX0_drawSpan 29 = .ok (.iaload, 1) := by decide +kernel
theorem dX0_drawSpan_30 : decode cX0_drawSpan 30 = .ok (.aload_n 0, 1) := by decide +kernel
theorem dX0_drawSpan_31 : decode cX0_drawSpan 31 = .ok (.getfield 54, 3) := by decide +kernel
theorem dX0_drawSpan_34 : decode cX0_drawSpan 34 = .ok (.isub, 1) := by decide +kernel
theorem dX0_drawSpan_35 : decode cX0_drawSpan 35 = .ok (.istore 6, 2) := by decide +kernel
theorem dX0_drawSpan_37 : decode cX0_drawSpan 37 = .ok (.aload_n 0, 1) := by decide +kernel
theorem dX0_drawSpan_38 : decode cX0_drawSpan 38 = .ok (.getfield 18, 3) := by decide +kernel
theorem dX0_drawSpan_41 : decode cX0_drawSpan 41 = .ok (.iload 5, 2) := by decide +kernel
theorem dX0_drawSpan_43 : decode cX0_drawSpan 43 = .ok (.iconst 1, 1) := by decide +kernel
theorem dX0_drawSpan_44 : decode cX0_drawSpan 44 = .ok (.iadd, 1) := by decide +kernel
theorem dX0_drawSpan_45 : decode cX0_drawSpan 45 = .ok (.iaload, 1) := by decide +kernel
theorem dX0_drawSpan_46 : decode cX0_drawSpan 46 = .ok (.aload_n 0, 1) := by decide +kernel
theorem dX0_drawSpan_47 : decode cX0_drawSpan 47 = .ok (.getfield 54, 3) := by decide +kernel
theorem dX0_drawSpan_50 : decode cX0_drawSpan 50 = .ok (.iadd, 1) := by decide +kernel
theorem dX0_drawSpan_51 : decode cX0_drawSpan 51 = .ok (.istore 7, 2) := by decide +kernel
theorem dX0_drawSpan_53 : decode cX0_drawSpan 53 = .ok (.iload 4, 2) := by decide +kernel
theorem dX0_drawSpan_55 : decode cX0_drawSpan 55 = .ok (.ifCond .eq 8, 3) := by decide +kernel
theorem dX0_drawSpan_58 : decode cX0_drawSpan 58 = .ok (.iload 7, 2) := by decide +kernel
theorem dX0_drawSpan_60 : decode cX0_drawSpan 60 = .ok (.goto 5, 3) := by decide +kernel
theorem dX0_drawSpan_63 : decode cX0_drawSpan 63 = .ok (.iload 6, 2) := by decide +kernel
theorem dX0_drawSpan_65 : decode cX0_drawSpan 65 = .ok (.istore 8, 2) := by decide +kernel
theorem dX0_drawSpan_67 : decode cX0_drawSpan 67 = .ok (.iload 4, 2) := by decide +kernel
theorem dX0_drawSpan_69 : decode cX0_drawSpan 69 = .ok (.ifCond .eq 7, 3) := by decide +kernel
theorem dX0_drawSpan_72 : decode cX0_drawSpan 72 = .ok (.iconst (-1), 1) := by decide +kernel
theorem dX0_drawSpan_73 : decode cX0_drawSpan 73 = .ok (.goto 4, 3) := by decide +kernel
theorem dX0_drawSpan_76 : decode cX0_drawSpan 76 = .ok (.iconst 1, 1) := by decide +kernel
theorem dX0_drawSpan_77 : decode cX0_drawSpan 77 = .ok (.istore 9, 2) := by decide +kernel
theorem dX0_drawSpan_79 : decode cX0_drawSpan 79 = .ok (.aload_n 0, 1) := by decide +kernel
theorem dX0_drawSpan_80 : decode cX0_drawSpan 80 = .ok (.getfield 24, 3) := by decide +kernel
theorem dX0_drawSpan_83 : decode cX0_drawSpan 83 = .ok (.iload 8, 2) := by decide +kernel
theorem dX0_drawSpan_85 : decode cX0_drawSpan 85 = .ok (.iload_n 3, 1) := by decide +kernel
theorem dX0_drawSpan_86 : decode cX0_drawSpan 86 = .ok (.invokevirtual 85, 3) := by decide +kernel
theorem dX0_drawSpan_89 : decode cX0_drawSpan 89 = .ok (.iconst 1, 1) := by decide +kernel
theorem dX0_drawSpan_90 : decode cX0_drawSpan 90 = .ok (.istore 10, 2) := by decide +kernel
theorem dX0_drawSpan_92 : decode cX0_drawSpan 92 = .ok (.iload 10, 2) := by decide +kernel
theorem dX0_drawSpan_94 : decode cX0_drawSpan 94 = .ok (.iload 7, 2) := by decide +kernel
theorem dX0_drawSpan_96 : decode cX0_drawSpan 96 = .ok (.iload 6, 2) := by decide +kernel
theorem dX0_drawSpan_98 : decode cX0_drawSpan 98 = .ok (.isub, 1) := by decide +kernel
theorem dX0_drawSpan_99 : decode cX0_drawSpan 99 = .ok (.if_icmp .ge 55, 3) := by decide +kernel
theorem dX0_drawSpan_102 : decode cX0_drawSpan 102 = .ok (.iload 8, 2) := by decide +kernel
theorem dX0_drawSpan_104 : decode cX0_drawSpan 104 = .ok (.iload 9, 2) := by decide +kernel
theorem dX0_drawSpan_106 : decode cX0_drawSpan 106 = .ok (.iload 10, 2) := by decide +kernel
theorem dX0_drawSpan_108 : decode cX0_drawSpan 108 = .ok (.imul, 1) := by decide +kernel
theorem dX0_drawSpan_109 : decode cX0_drawSpan 109 = .ok (.iadd, 1) := by decide +kernel
theorem dX0_drawSpan_110 : decode cX0_drawSpan 110 = .ok (.istore 11, 2) := by decide +kernel
theorem dX0_drawSpan_112 : decode cX0_drawSpan 112 = .ok (.aload_n 0, 1) := by decide +kernel
theorem dX0_drawSpan_113 : decode cX0_drawSpan 113 = .ok (.getfield 32, 3) := by decide +kernel
theorem dX0_drawSpan_116 : decode cX0_drawSpan 116 = .ok (.ifCond .le 32, 3) := by decide +kernel
theorem dX0_drawSpan_119 : decode cX0_drawSpan 119 = .ok (.iload 11, 2) := by decide +kernel
theorem dX0_drawSpan_121 : decode cX0_drawSpan 121 = .ok (.iload_n 2, 1) := by decide +kernel
theorem dX0_drawSpan_122 : decode cX0_drawSpan 122 = .ok (.aload_n 0, 1) := by decide +kernel
theorem dX0_drawSpan_123 : decode cX0_drawSpan 123 = .ok (.getfield 51, 3) := by decide +kernel
theorem dX0_drawSpan_126 : decode cX0_drawSpan 126 = .ok (.imul, 1) := by decide +kernel
theorem dX0_drawSpan_127 : decode cX0_drawSpan 127 = .ok (.isub, 1) := by decide +kernel
theorem dX0_drawSpan_128 : decode cX0_drawSpan 128 = .ok (.aload_n 0, 1) := by decide +kernel
theorem dX0_drawSpan_129 : decode cX0_drawSpan 129 = .ok (.getfield 32, 3) := by decide +kernel
theorem dX0_drawSpan_132 : decode cX0_drawSpan 132 = .ok (.invokestatic 118, 3) := by decide +kernel
theorem dX0_drawSpan_135 : decode cX0_drawSpan 135 = .ok (.ifCond .ne 13, 3) := by decide +kernel
theorem dX0_drawSpan_138 : decode cX0_drawSpan 138 = .ok (.aload_n 0, 1) := by decide +kernel
theorem dX0_drawSpan_139 : decode cX0_drawSpan 139 = .ok (.getfield 24, 3) := by decide +kernel
theorem dX0_drawSpan_142 : decode cX0_drawSpan 142 = .ok (.iload 11, 2) := by decide +kernel
theorem dX0_drawSpan_144 : decode cX0_drawSpan 144 = .ok (.iload_n 3, 1) := by decide +kernel
theorem dX0_drawSpan_145 : decode cX0_drawSpan 145 = .ok (.invokevirtual 85, 3) := by decide +kernel
theorem dX0_drawSpan_148 : decode cX0_drawSpan 148 = .ok (.iinc 10 1, 3) := by decide +kernel
theorem dX0_drawSpan_151 : decode cX0_drawSpan 151 = .ok (.goto (-59), 3) := by decide +kernel
theorem dX0_drawSpan_154 : decode cX0_drawSpan 154 = .ok (.iload 6, 2) := by decide +kernel
theorem dX0_drawSpan_156 : decode cX0_drawSpan 156 = .ok (.iload 7, 2) := by decide +kernel
theorem dX0_drawSpan_158 : decode cX0_drawSpan 158 = .ok (.if_icmp .eq 23, 3) := by decide +kernel
theorem dX0_drawSpan_161 : decode cX0_drawSpan 161 = .ok (.aload_n 0, 1) := by decide +kernel
theorem dX0_drawSpan_162 : decode cX0_drawSpan 162 = .ok (.getfield 24, 3) := by decide +kernel
theorem dX0_drawSpan_165 : decode cX0_drawSpan 165 = .ok (.iload 4, 2) := by decide +kernel
theorem dX0_drawSpan_167 : decode cX0_drawSpan 167 = .ok (.ifCond .eq 8, 3) := by decide +kernel
theorem dX0_drawSpan_170 : decode cX0_drawSpan 170 = .ok (.iload 6, 2) := by decide +kernel
theorem dX0_drawSpan_172 : decode cX0_drawSpan 172 = .ok (.goto 5, 3) := by decide +kernel
theorem dX0_drawSpan_175 : decode cX0_drawSpan 175 = .ok (.iload 7, 2) := by decide +kernel
theorem dX0_drawSpan_177 : decode cX0_drawSpan 177 = .ok (.iload_n 3, 1) := by decide +kernel
theorem dX0_drawSpan_178 : decode cX0_drawSpan 178 = .ok (.invokevirtual 85, 3) := by decide +kernel
theorem dX0_drawSpan_181 : decode cX0_drawSpan 181 = .ok (.return_, 1) := by decide +kernel
theorem dX0_leastY_0 : decode cX0_leastY 0 = .ok (.bipush 32, 2) := by decide +kernel
theorem dX0_leastY_2 : decode cX0_leastY 2 = .ok (.istore_n 1, 1) := by decide +kernel
theorem dX0_leastY_3 : decode cX0_leastY 3 = .ok (.iconst 0, 1) := by decide +kernel
theorem dX0_leastY_4 : decode cX0_leastY 4 = .ok (.istore_n 2, 1) := by decide +kernel
theorem dX0_leastY_5 : decode cX0_leastY 5 = .ok (.iload_n 2, 1) := by decide +kernel
theorem dX0_leastY_6 : decode cX0_leastY 6 = .ok (.aload_n 0, 1) := by decide +kernel
theorem dX0_leastY_7 : decode cX0_leastY 7 = .ok (.getfield 45, 3) := by decide +kernel
theorem dX0_leastY_10 : decode cX0_leastY 10 = .ok (.if_icmp .ge 29, 3) := by decide +kernel
theorem dX0_leastY_13 : decode cX0_leastY 13 = .ok (.iload_n 2, 1) := by decide +kernel
theorem dX0_leastY_14 : decode cX0_leastY 14 = .ok (.aload_n 0, 1) := by decide +kernel
theorem dX0_leastY_15 : decode cX0_leastY 15 = .ok (.getfield 15, 3) := by decide +kernel
theorem dX0_leastY_18 : decode cX0_leastY 18 = .ok (.arraylength, 1) := by decide +kernel
theorem dX0_leastY_19 : decode cX0_leastY 19 = .ok (.if_icmp .ge 20, 3) := by decide +kernel
theorem dX0_leastY_22 : decode cX0_leastY 22 = .ok (.iload_n 1, 1) := by decide +kernel
theorem dX0_leastY_23 : decode cX0_leastY 23 = .ok (.aload_n 0, 1) := by decide +kernel
theorem dX0_leastY_24 : decode cX0_leastY 24 = .ok (.getfield 15, 3) := by decide +kernel
theorem dX0_leastY_27 : decode cX0_leastY 27 = .ok (.iload_n 2, 1) := by decide +kernel
theorem dX0_leastY_28 : decode cX0_leastY 28 = .ok (.iaload, 1) := by decide +kernel
theorem dX0_leastY_29 : decode cX0_leastY 29 = .ok (.invokestatic 121, 3) := by decide +kernel
theorem dX0_leastY_32 : decode cX0_leastY 32 = .ok (.istore_n 1, 1) := by decide +kernel
theorem dX0_leastY_33 : decode cX0_leastY 33 = .ok (.iinc 2 1, 3) := by decide +kernel
theorem dX0_leastY_36 : decode cX0_leastY 36 = .ok (.goto (-31), 3) := by decide +kernel
theorem dX0_leastY_39 : decode cX0_leastY 39 = .ok (.iload_n 1, 1) := by decide +kernel
theorem dX0_leastY_40 : decode cX0_leastY 40 = .ok (.ireturn, 1) := by decide +kernel
theorem dX0_greatestY_0 : decode cX0_greatestY 0 = .ok (.iconst 0, 1) := by decide +kernel
theorem dX0_greatestY_1 : decode cX0_greatestY 1 = .ok (.istore_n 1, 1) := by decide +kernel
theorem dX0_greatestY_2 : decode cX0_greatestY 2 = .ok (.iconst 0, 1) := by decide +kernel
theorem dX0_greatestY_3 : decode cX0_greatestY 3 = .ok (.istore_n 2, 1) := by decide +kernel
theorem dX0_greatestY_4 : decode cX0_greatestY 4 = .ok (.iload_n 2, 1) := by decide +kernel
theorem dX0_greatestY_5 : decode cX0_greatestY 5 = .ok (.aload_n 0, 1) := by decide +kernel
theorem dX0_greatestY_6 : decode cX0_greatestY 6 = .ok (.getfield 45, 3) := by decide +kernel
theorem dX0_greatestY_9 : decode cX0_greatestY 9 = .ok (.if_icmp .ge 29, 3) := by decide +kernel
theorem dX0_greatestY_12 : decode cX0_greatestY 12 = .ok (.iload_n 2, 1) := by decide +kernel
theorem dX0_greatestY_13 : decode cX0_greatestY 13 = .ok (.aload_n 0, 1) := by decide +kernel
theorem dX0_greatestY_14 : decode cX0_greatestY 14 = .ok (.getfield 15, 3) := by decide +kernel
theorem dX0_greatestY_17 : decode cX0_greatestY 17 = .ok (.arraylength, 1) := by decide +kernel
theorem dX0_greatestY_18 : decode cX0_greatestY 18 = .ok (.if_icmp .ge 20, 3) := by decide +kernel
theorem dX0_greatestY_21 : decode cX0_greatestY 21 = .ok (.iload_n 1, 1) := by decide +kernel
theorem dX0_greatestY_22 : decode cX0_greatestY 22 = .ok (.aload_n 0, 1) := by decide +kernel
theorem dX0_greatestY_23 : decode cX0_greatestY 23 = .ok (.getfield 15, 3) := by decide +kernel
theorem dX0_greatestY_26 : decode cX0_greatestY 26 = .ok (.iload_n 2, 1) := by decide +kernel
theorem dX0_greatestY_27 : decode cX0_greatestY 27 = .ok (.iaload, 1) := by decide +kernel
theorem dX0_greatestY_28 : decode cX0_greatestY 28 = .ok (.invokestatic 60, 3) := by decide +kernel
theorem dX0_greatestY_31 : decode cX0_greatestY 31 = .ok (.istore_n 1, 1) := by decide +kernel
theorem dX0_greatestY_32 : decode cX0_greatestY 32 = .ok (.iinc 2 1, 3) := by decide +kernel
theorem dX0_greatestY_35 : decode cX0_greatestY 35 = .ok (.goto (-31), 3) := by decide +kernel
theorem dX0_greatestY_38 : decode cX0_greatestY 38 = .ok (.iload_n 1, 1) := by decide +kernel
theorem dX0_greatestY_39 : decode cX0_greatestY 39 = .ok (.ireturn, 1) := by decide +kernel
theorem dX0_cross_0 : decode cX0_cross 0 = .ok (.aload_n 0, 1) := by decide +kernel
theorem dX0_cross_1 : decode cX0_cross 1 = .ok (.iconst 0, 1) := by decide +kernel
theorem dX0_cross_2 : decode cX0_cross 2 = .ok (.putfield 111, 3) := by decide +kernel
theorem dX0_cross_5 : decode cX0_cross 5 = .ok (.iconst 0, 1) := by decide +kernel
theorem dX0_cross_6 : decode cX0_cross 6 = .ok (.istore_n 2, 1) := by decide +kernel
theorem dX0_cross_7 : decode cX0_cross 7 = .ok (.iload_n 2, 1) := by decide +kernel
theorem dX0_cross_8 : decode cX0_cross 8 = .ok (.aload_n 0, 1) := by decide +kernel
theorem dX0_cross_9 : decode cX0_cross 9 = .ok (.getfield 45, 3) := by decide +kernel
theorem dX0_cross_12 : decode cX0_cross 12 = .ok (.if_icmp .ge 138, 3) := by decide +kernel
theorem dX0_cross_15 : decode cX0_cross 15 = .ok (.iload_n 2, 1) := by decide +kernel
theorem dX0_cross_16 : decode cX0_cross 16 = .ok (.aload_n 0, 1) := by decide +kernel
theorem dX0_cross_17 : decode cX0_cross 17 = .ok (.getfield 9, 3) := by decide +kernel
theorem dX0_cross_20 : decode cX0_cross 20 = .ok (.arraylength, 1) := by decide +kernel
theorem dX0_cross_21 : decode cX0_cross 21 = .ok (.if_icmp .ge 129, 3) := by decide +kernel
theorem dX0_cross_24 : decode cX0_cross 24 = .ok (.iload_n 2, 1) := by decide +kernel
theorem dX0_cross_25 : decode cX0_cross 25 = .ok (.aload_n 0, 1) := by decide +kernel
theorem dX0_cross_26 : decode cX0_cross 26 = .ok (.getfield 15, 3) := by decide +kernel
theorem dX0_cross_29 : decode cX0_cross 29 = .ok (.arraylength, 1) := by decide +kernel
theorem dX0_cross_30 : decode cX0_cross 30 = .ok (.if_icmp .ge 120, 3) := by decide +kernel
theorem dX0_cross_33 : decode cX0_cross 33 = .ok (.aload_n 0, 1) := by decide +kernel
theorem dX0_cross_34 : decode cX0_cross 34 = .ok (.iload_n 2, 1) := by decide +kernel
theorem dX0_cross_35 : decode cX0_cross 35 = .ok (.invokevirtual 89, 3) := by decide +kernel
theorem dX0_cross_38 : decode cX0_cross 38 = .ok (.istore_n 3, 1) := by decide +kernel
theorem dX0_cross_39 : decode cX0_cross 39 = .ok (.iload_n 3, 1) := by decide +kernel
theorem dX0_cross_40 : decode cX0_cross 40 = .ok (.aload_n 0, 1) := by decide +kernel
theorem dX0_cross_41 : decode cX0_cross 41 = .ok (.getfield 9, 3) := by decide +kernel
theorem dX0_cross_44 : decode cX0_cross 44 = .ok (.arraylength, 1) := by decide +kernel
theorem dX0_cross_45 : decode cX0_cross 45 = .ok (.if_icmp .ge 12, 3) := by decide +kernel
theorem dX0_cross_48 : decode cX0_cross 48 = .ok (.iload_n 3, 1) := by decide +kernel
theorem dX0_cross_49 : decode cX0_cross 49 = .ok (.aload_n 0, 1) := by decide +kernel
theorem dX0_cross_50 : decode cX0_cross 50 = .ok (.getfield 15, 3) := by decide +kernel
theorem dX0_cross_53 : decode cX0_cross 53 = .ok (.arraylength, 1) := by decide +kernel
theorem dX0_cross_54 : decode cX0_cross 54 = .ok (.if_icmp .lt 4, 3) := by decide +kernel
theorem dX0_cross_57 : decode cX0_cross 57 = .ok (.return_, 1) := by decide +kernel
theorem dX0_cross_58 : decode cX0_cross 58 = .ok (.aload_n 0, 1) := by decide +kernel
theorem dX0_cross_59 : decode cX0_cross 59 = .ok (.getfield 15, 3) := by decide +kernel
theorem dX0_cross_62 : decode cX0_cross 62 = .ok (.iload_n 2, 1) := by decide +kernel
theorem dX0_cross_63 : decode cX0_cross 63 = .ok (.iaload, 1) := by decide +kernel
theorem dX0_cross_64 : decode cX0_cross 64 = .ok (.istore 4, 2) := by decide +kernel
theorem dX0_cross_66 : decode cX0_cross 66 = .ok (.aload_n 0, 1) := by decide +kernel
theorem dX0_cross_67 : decode cX0_cross 67 = .ok (.getfield 15, 3) := by decide +kernel
theorem dX0_cross_70 : decode cX0_cross 70 = .ok (.iload_n 3, 1) := by decide +kernel
theorem dX0_cross_71 : decode cX0_cross 71 = .ok (.iaload, 1) := by decide +kernel
theorem dX0_cross_72 : decode cX0_cross 72 = .ok (.istore 5, 2) := by decide +kernel
theorem dX0_cross_74 : decode cX0_cross 74 = .ok (.iload 4, 2) := by decide +kernel
theorem dX0_cross_76 : decode cX0_cross 76 = .ok (.iload 5, 2) := by decide +kernel
theorem dX0_cross_78 : decode cX0_cross 78 = .ok (.if_icmp .eq 66, 3) := by decide +kernel
theorem dX0_cross_81 : decode cX0_cross 81 = .ok (.iload 4, 2) := by decide +kernel
theorem dX0_cross_83 : decode cX0_cross 83 = .ok (.iload 5, 2) := by decide +kernel
theorem dX0_cross_85 : decode cX0_cross 85 = .ok (.invokestatic 121, 3) := by decide +kernel
theorem dX0_cross_88 : decode cX0_cross 88 = .ok (.iload_n 1, 1) := by decide +kernel
theorem dX0_cross_89 : decode cX0_cross 89 = .ok (.if_icmp .gt 55, 3) := by decide +kernel
theorem dX0_cross_92 : decode cX0_cross 92 = .ok (.iload_n 1, 1) := by decide +kernel
theorem dX0_cross_93 : decode cX0_cross 93 = .ok (.iload 4, 2) := by decide +kernel
theorem dX0_cross_95 : decode cX0_cross 95 = .ok (.iload 5, 2) := by decide +kernel
theorem dX0_cross_97 : decode cX0_cross 97 = .ok (.invokestatic 60, 3) := by decide +kernel
theorem dX0_cross_100 : decode cX0_cross 100 = .ok (.if_icmp .ge 44, 3) := by decide +kernel
theorem dX0_cross_103 : decode cX0_cross 103 = .ok (.iload_n 1, 1) := by decide +kernel
theorem dX0_cross_104 : decode cX0_cross 104 = .ok (.iload 4, 2) := by decide +kernel
theorem dX0_cross_106 : decode cX0_cross 106 = .ok (.isub, 1) := by decide +kernel
theorem dX0_cross_107 : decode cX0_cross 107 = .ok (.aload_n 0, 1) := by decide +kernel
theorem dX0_cross_108 : decode cX0_cross 108 = .ok (.getfield 9, 3) := by decide +kernel
theorem dX0_cross_111 : decode cX0_cross 111 = .ok (.iload_n 3, 1) := by decide +kernel
theorem dX0_cross_112 : decode cX0_cross 112 = .ok (.iaload, 1) := by decide +kernel
theorem dX0_cross_113 : decode cX0_cross 113 = .ok (.aload_n 0, 1) := by decide +kernel
theorem dX0_cross_114 : decode cX0_cross 114 = .ok (.getfield 9, 3) := by decide +kernel
theorem dX0_cross_117 : decode cX0_cross 117 = .ok (.iload_n 2, 1) := by decide +kernel
theorem dX0_cross_118 : decode cX0_cross 118 = .ok (.iaload, 1) := by decide +kernel
theorem dX0_cross_119 : decode cX0_cross 119 = .ok (.isub, 1) := by decide +kernel
theorem dX0_cross_120 : decode cX0_cross 120 = .ok (.imul, 1) := by decide +kernel
theorem dX0_cross_121 : decode cX0_cross 121 = .ok (.istore 6, 2) := by decide +kernel
theorem dX0_cross_123 : decode cX0_cross 123 = .ok (.aload_n 0, 1) := by decide +kernel
theorem dX0_cross_124 : decode cX0_cross 124 = .ok (.aload_n 0, 1) := by decide +kernel
theorem dX0_cross_125 : decode cX0_cross 125 = .ok (.getfield 9, 3) := by decide +kernel
theorem dX0_cross_128 : decode cX0_cross 128 = .ok (.iload_n 2, 1) := by decide +kernel
theorem dX0_cross_129 : decode cX0_cross 129 = .ok (.iaload, 1) := by decide +kernel
theorem dX0_cross_130 : decode cX0_cross 130 = .ok (.iload 6, 2) := by decide +kernel
theorem dX0_cross_132 : decode cX0_cross 132 = .ok (.iload 5, 2) := by decide +kernel
theorem dX0_cross_134 : decode cX0_cross 134 = .ok (.iload 4, 2) := by decide +kernel
theorem dX0_cross_136 : decode cX0_cross 136 = .ok (.isub, 1) := by decide +kernel
theorem dX0_cross_137 : decode cX0_cross 137 = .ok (.invokestatic 124, 3) := by decide +kernel
theorem dX0_cross_140 : decode cX0_cross 140 = .ok (.iadd, 1) := by decide +kernel
theorem dX0_cross_141 : decode cX0_cross 141 = .ok (.invokevirtual 127, 3) := by decide +kernel
theorem dX0_cross_144 : decode cX0_cross 144 = .ok (.iinc 2 1, 3) := by decide +kernel
theorem dX0_cross_147 : decode cX0_cross 147 = .ok (.goto (-140), 3) := by decide +kernel
theorem dX0_cross_150 : decode cX0_cross 150 = .ok (.return_, 1) := by decide +kernel
theorem dX0_putCrossing_0 : decode cX0_putCrossing 0 = .ok (.aload_n 0, 1) := by decide +kernel
theorem dX0_putCrossing_1 : decode cX0_putCrossing 1 = .ok (.getfield 111, 3) := by decide +kernel
theorem dX0_putCrossing_4 : decode cX0_putCrossing 4 = .ok (.istore_n 2, 1) := by decide +kernel
theorem dX0_putCrossing_5 : decode cX0_putCrossing 5 = .ok (.iload_n 2, 1) := by decide +kernel
theorem dX0_putCrossing_6 : decode cX0_putCrossing 6 = .ok (.aload_n 0, 1) := by decide +kernel
theorem dX0_putCrossing_7 : decode cX0_putCrossing 7 = .ok (.getfield 18, 3) := by decide +kernel
theorem dX0_putCrossing_10 : decode cX0_putCrossing 10 = .ok (.arraylength, 1) := by decide +kernel
theorem dX0_putCrossing_11 : decode cX0_putCrossing 11 = .ok (.if_icmp .lt 4, 3) := by decide +kernel
theorem dX0_putCrossing_14 : decode cX0_putCrossing 14 = .ok (.return_, 1) := by decide +kernel
theorem dX0_putCrossing_15 : decode cX0_putCrossing 15 = .ok (.iload_n 2, 1) := by decide +kernel
theorem dX0_putCrossing_16 : decode cX0_putCrossing 16 = .ok (.ifCond .le 35, 3) := by decide +kernel
theorem dX0_putCrossing_19 : decode cX0_putCrossing 19 = .ok (.aload_n 0, 1) := by decide +kernel
theorem dX0_putCrossing_20 : decode cX0_putCrossing 20 = .ok (.getfield 18, 3) := by decide +kernel
theorem dX0_putCrossing_23 : decode cX0_putCrossing 23 = .ok (.iload_n 2, 1) := by decide +kernel
theorem dX0_putCrossing_24 : decode cX0_putCrossing 24 = .ok (.iconst 1, 1) := by decide +kernel
theorem dX0_putCrossing_25 : decode cX0_putCrossing 25 = .ok (.isub, 1) := by decide +kernel
theorem dX0_putCrossing_26 : decode cX0_putCrossing 26 = .ok (.iaload, 1) := by decide +kernel
theorem dX0_putCrossing_27 : decode cX0_putCrossing 27 = .ok (.iload_n 1, 1) := by decide +kernel
theorem dX0_putCrossing_28 : decode cX0_putCrossing 28 = .ok (.if_icmp .le 23, 3) := by decide +kernel
theorem dX0_putCrossing_31 : decode cX0_putCrossing 31 = .ok (.aload_n 0, 1) := by decide +kernel
theorem dX0_putCrossing_32 : decode cX0_putCrossing 32 = .ok (.getfield 18, 3) := by decide +kernel
theorem dX0_putCrossing_35 : decode cX0_putCrossing 35 = .ok (.iload_n 2, 1) := by decide +kernel
theorem dX0_putCrossing_36 : decode cX0_putCrossing 36 = .ok (.aload_n 0, 1) := by decide +kernel
theorem dX0_putCrossing_37 : decode cX0_putCrossing 37 = .ok (.getfield 18, 3) := by decide +kernel
theorem dX0_putCrossing_40 : decode cX0_putCrossing 40 = .ok (.iload_n 2, 1) := by decide +kernel
theorem dX0_putCrossing_41 : decode cX0_putCrossing 41 = .ok (.iconst 1, 1) := by decide +kernel
theorem dX0_putCrossing_42 : decode cX0_putCrossing 42 = .ok (.isub, 1) := by decide +kernel
theorem dX0_putCrossing_43 : decode cX0_putCrossing 43 = .ok (.iaload, 1) := by decide +kernel
theorem dX0_putCrossing_44 : decode cX0_putCrossing 44 = .ok (.iastore, 1) := by decide +kernel
theorem dX0_putCrossing_45 : decode cX0_putCrossing 45 = .ok (.iinc 2 (-1), 3) := by decide +kernel
theorem dX0_putCrossing_48 : decode cX0_putCrossing 48 = .ok (.goto (-33), 3) := by decide +kernel
theorem dX0_putCrossing_51 : decode cX0_putCrossing 51 = .ok (.aload_n 0, 1) := by decide +kernel
theorem dX0_putCrossing_52 : decode cX0_putCrossing 52 = .ok (.getfield 18, 3) := by decide +kernel
theorem dX0_putCrossing_55 : decode cX0_putCrossing 55 = .ok (.iload_n 2, 1) := by decide +kernel
theorem dX0_putCrossing_56 : decode cX0_putCrossing 56 = .ok (.iload_n 1, 1) := by decide +kernel
theorem dX0_putCrossing_57 : decode cX0_putCrossing 57 = .ok (.iastore, 1) := by decide +kernel
theorem dX0_putCrossing_58 : decode cX0_putCrossing 58 = .ok (.aload_n 0, 1) := by decide +kernel
theorem dX0_putCrossing_59 : decode cX0_putCrossing 59 = .ok (.dup, 1) := by decide +kernel
theorem dX0_putCrossing_60 : decode cX0_putCrossing 60 = .ok (.getfield 111, 3) := by decide +kernel
theorem dX0_putCrossing_63 : decode cX0_putCrossing 63 = .ok (.iconst 1, 1) := by decide +kernel
theorem dX0_putCrossing_64 : decode cX0_putCrossing 64 = .ok (.iadd, 1) := by decide +kernel
theorem dX0_putCrossing_65 : decode cX0_putCrossing 65 = .ok (.putfield 111, 3) := by decide +kernel
theorem dX0_putCrossing_68 : decode cX0_putCrossing 68 = .ok (.return_, 1) := by decide +kernel
theorem dX0_spans_0 : decode cX0_spans 0 = .ok (.iconst 0, 1) := by decide +kernel
theorem dX0_spans_1 : decode cX0_spans 1 = .ok (.istore_n 2, 1) := by decide +kernel
theorem dX0_spans_2 : decode cX0_spans 2 = .ok (.iload_n 2, 1) := by decide +kernel
theorem dX0_spans_3 : decode cX0_spans 3 = .ok (.iconst 1, 1) := by decide +kernel
theorem dX0_spans_4 : decode cX0_spans 4 = .ok (.iadd, 1) := by decide +kernel
theorem dX0_spans_5 : decode cX0_spans 5 = .ok (.aload_n 0, 1) := by decide +kernel
theorem dX0_spans_6 : decode cX0_spans 6 = .ok (.getfield 111, 3) := by decide +kernel
theorem dX0_spans_9 : decode cX0_spans 9 = .ok (.if_icmp .ge 44, 3) := by decide +kernel
theorem dX0_spans_12 : decode cX0_spans 12 = .ok (.iload_n 2, 1) := by decide +kernel
theorem dX0_spans_13 : decode cX0_spans 13 = .ok (.iconst 1, 1) := by decide +kernel
theorem dX0_spans_14 : decode cX0_spans 14 = .ok (.iadd, 1) := by decide +kernel
theorem dX0_spans_15 : decode cX0_spans 15 = .ok (.aload_n 0, 1) := by decide +kernel
theorem dX0_spans_16 : decode cX0_spans 16 = .ok (.getfield 18, 3) := by decide +kernel
theorem dX0_spans_19 : decode cX0_spans 19 = .ok (.arraylength, 1) := by decide +kernel
theorem dX0_spans_20 : decode cX0_spans 20 = .ok (.if_icmp .ge 33, 3) := by decide +kernel
theorem dX0_spans_23 : decode cX0_spans 23 = .ok (.aload_n 0, 1) := by decide +kernel
theorem dX0_spans_24 : decode cX0_spans 24 = .ok (.getfield 18, 3) := by decide +kernel
theorem dX0_spans_27 : decode cX0_spans 27 = .ok (.iload_n 2, 1) := by decide +kernel
theorem dX0_spans_28 : decode cX0_spans 28 = .ok (.iaload, 1) := by decide +kernel
theorem dX0_spans_29 : decode cX0_spans 29 = .ok (.iload_n 1, 1) := by decide +kernel
theorem dX0_spans_30 : decode cX0_spans 30 = .ok (.if_icmp .gt 17, 3) := by decide +kernel
theorem dX0_spans_33 : decode cX0_spans 33 = .ok (.iload_n 1, 1) := by decide +kernel
theorem dX0_spans_34 : decode cX0_spans 34 = .ok (.aload_n 0, 1) := by decide +kernel
theorem dX0_spans_35 : decode cX0_spans 35 = .ok (.getfield 18, 3) := by decide +kernel
theorem dX0_spans_38 : decode cX0_spans 38 = .ok (.iload_n 2, 1) := by decide +kernel
theorem dX0_spans_39 : decode cX0_spans 39 = .ok (.iconst 1, 1) := by decide +kernel
theorem dX0_spans_40 : decode cX0_spans 40 = .ok (.iadd, 1) := by decide +kernel
theorem dX0_spans_41 : decode cX0_spans 41 = .ok (.iaload, 1) := by decide +kernel
theorem dX0_spans_42 : decode cX0_spans 42 = .ok (.if_icmp .gt 5, 3) := by decide +kernel
theorem dX0_spans_45 : decode cX0_spans 45 = .ok (.iconst 1, 1) := by decide +kernel
theorem dX0_spans_46 : decode cX0_spans 46 = .ok (.ireturn, 1) := by decide +kernel
theorem dX0_spans_47 : decode cX0_spans 47 = .ok (.iinc 2 2, 3) := by decide +kernel
theorem dX0_spans_50 : decode cX0_spans 50 = .ok (.goto (-48), 3) := by decide +kernel
theorem dX0_spans_53 : decode cX0_spans 53 = .ok (.iconst 0, 1) := by decide +kernel
theorem dX0_spans_54 : decode cX0_spans 54 = .ok (.ireturn, 1) := by decide +kernel
theorem dX1_init_0 : decode cX1_init 0 = .ok (.aload_n 0, 1) := by decide +kernel
theorem dX1_init_1 : decode cX1_init 1 = .ok (.invokespecial 3, 3) := by decide +kernel
theorem dX1_init_4 : decode cX1_init 4 = .ok (.aload_n 0, 1) := by decide +kernel
theorem dX1_init_5 : decode cX1_init 5 = .ok (.sipush 16642, 3) := by decide +kernel
theorem dX1_init_8 : decode cX1_init 8 = .ok (.newarray .int, 2) := by decide +kernel
theorem dX1_init_10 : decode cX1_init 10 = .ok (.putfield 9, 3) := by decide +kernel
theorem dX1_init_13 : decode cX1_init 13 = .ok (.aload_n 0, 1) := by decide +kernel
theorem dX1_init_14 : decode cX1_init 14 = .ok (.iconst 4, 1) := by decide +kernel
theorem dX1_init_15 : decode cX1_init 15 = .ok (.newarray .boolean, 2) := by decide +kernel
theorem dX1_init_17 : decode cX1_init 17 = .ok (.putfield 15, 3) := by decide +kernel
theorem dX1_init_20 : decode cX1_init 20 = .ok (.aload_n 0, 1) := by decide +kernel
theorem dX1_init_21 : decode cX1_init 21 = .ok (.iconst 4, 1) := by decide +kernel
theorem dX1_init_22 : decode cX1_init 22 = .ok (.newarray .int, 2) := by decide +kernel
theorem dX1_init_24 : decode cX1_init 24 = .ok (.putfield 19, 3) := by decide +kernel
theorem dX1_init_27 : decode cX1_init 27 = .ok (.aload_n 0, 1) := by decide +kernel
theorem dX1_init_28 : decode cX1_init 28 = .ok (.iconst 4, 1) := by decide +kernel
theorem dX1_init_29 : decode cX1_init 29 = .ok (.newarray .int, 2) := by decide +kernel
theorem dX1_init_31 : decode cX1_init 31 = .ok (.putfield 22, 3) := by decide +kernel
theorem dX1_init_34 : decode cX1_init 34 = .ok (.return_, 1) := by decide +kernel
theorem dX1_has_0 : decode cX1_has 0 = .ok (.iload_n 1, 1) := by decide +kernel
theorem dX1_has_1 : decode cX1_has 1 = .ok (.ifCond .lt 42, 3) := by decide +kernel
theorem dX1_has_4 : decode cX1_has 4 = .ok (.iload_n 1, 1) := by decide +kernel
theorem dX1_has_5 : decode cX1_has 5 = .ok (.aload_n 0, 1) := by decide +kernel
theorem dX1_has_6 : decode cX1_has 6 = .ok (.getfield 25, 3) := by decide +kernel
theorem dX1_has_9 : decode cX1_has 9 = .ok (.if_icmp .ge 34, 3) := by decide +kernel
theorem dX1_has_12 : decode cX1_has 12 = .ok (.iload_n 1, 1) := by decide +kernel
theorem dX1_has_13 : decode cX1_has 13 = .ok (.aload_n 0, 1) := by decide +kernel
theorem dX1_has_14 : decode cX1_has 14 = .ok (.getfield 15, 3) := by decide +kernel
theorem dX1_has_17 : decode cX1_has 17 = .ok (.arraylength, 1) := by decide +kernel
theorem dX1_has_18 : decode cX1_has 18 = .ok (.if_icmp .ge 25, 3) := by decide +kernel
theorem dX1_has_21 : decode cX1_has 21 = .ok (.iload_n 1, 1) := by decide +kernel
theorem dX1_has_22 : decode cX1_has 22 = .ok (.aload_n 0, 1) := by decide +kernel
theorem dX1_has_23 : decode cX1_has 23 = .ok (.getfield 19, 3) := by decide +kernel
theorem dX1_has_26 : decode cX1_has 26 = .ok (.arraylength, 1) := by decide +kernel
theorem dX1_has_27 : decode cX1_has 27 = .ok (.if_icmp .ge 16, 3) := by decide +kernel
theorem dX1_has_30 : decode cX1_has 30 = .ok (.iload_n 1, 1) := by decide +kernel
theorem dX1_has_31 : decode cX1_has 31 = .ok (.aload_n 0, 1) := by decide +kernel
theorem dX1_has_32 : decode cX1_has 32 = .ok (.getfield 22, 3) := by decide +kernel
theorem dX1_has_35 : decode cX1_has 35 = .ok (.arraylength, 1) := by decide +kernel
theorem dX1_has_36 : decode cX1_has 36 = .ok (.if_icmp .ge 7, 3) := by decide +kernel
theorem dX1_has_39 : decode cX1_has 39 = .ok (.iconst 1, 1) := by decide +kernel
theorem dX1_has_40 : decode cX1_has 40 = .ok (.goto 4, 3) := by decide +kernel
theorem dX1_has_43 : decode cX1_has 43 = .ok (.iconst 0, 1) := by decide +kernel
theorem dX1_has_44 : decode cX1_has 44 = .ok (.ireturn, 1) := by decide +kernel
theorem dX1_begin_0 : decode cX1_begin 0 = .ok (.aload_n 0, 1) := by decide +kernel
theorem dX1_begin_1 : decode cX1_begin 1 = .ok (.iload_n 2, 1) := by decide +kernel
theorem dX1_begin_2 : decode cX1_begin 2 = .ok (.putfield 25, 3) := by decide +kernel
theorem dX1_begin_5 : decode cX1_begin 5 = .ok (.aload_n 0, 1) := by decide +kernel
theorem dX1_begin_6 : decode cX1_begin 6 = .ok (.iload_n 3, 1) := by decide +kernel
theorem dX1_begin_7 : decode cX1_begin 7 = .ok (.putfield 29, 3) := by decide +kernel
theorem dX1_begin_10 : decode cX1_begin 10 = .ok (.aload_n 0, 1) := by decide +kernel
theorem dX1_begin_11 : decode cX1_begin 11 = .ok (.iconst 0, 1) := by decide +kernel
theorem dX1_begin_12 : decode cX1_begin 12 = .ok (.putfield 32, 3) := by decide +kernel
theorem dX1_begin_15 : decode cX1_begin 15 = .ok (.aload_n 0, 1) := by decide +kernel
theorem dX1_begin_16 : decode cX1_begin 16 = .ok (.iconst 0, 1) := by decide +kernel
theorem dX1_begin_17 : decode cX1_begin 17 = .ok (.putfield 35, 3) := by decide +kernel
theorem dX1_begin_20 : decode cX1_begin 20 = .ok (.iconst 0, 1) := by decide +kernel
theorem dX1_begin_21 : decode cX1_begin 21 = .ok (.istore 4, 2) := by decide +kernel
theorem dX1_begin_23 : decode cX1_begin 23 = .ok (.iload 4, 2) := by decide +kernel
theorem dX1_begin_25 : decode cX1_begin 25 = .ok (.aload_n 1, 1) := by decide +kernel
theorem dX1_begin_26 : decode cX1_begin 26 = .ok (.getfield 38, 3) := by decide +kernel
theorem dX1_begin_29 : decode cX1_begin 29 = .ok (.if_icmp .ge 65, 3) := by decide +kernel
theorem dX1_begin_32 : decode cX1_begin 32 = .ok (.iload 4, 2) := by decide +kernel
theorem dX1_begin_34 : decode cX1_begin 34 = .ok (.iconst 1, 1) := by decide +kernel
theorem dX1_begin_35 : decode cX1_begin 35 = .ok (.iadd, 1) := by decide +kernel
theorem dX1_begin_36 : decode cX1_begin 36 = .ok (.aload_n 0, 1) := by decide +kernel
theorem dX1_begin_37 : decode cX1_begin 37 = .ok (.getfield 9, 3) := by decide +kernel
theorem dX1_begin_40 : decode cX1_begin 40 = .ok (.arraylength, 1) := by decide +kernel
theorem dX1_begin_41 : decode cX1_begin 41 = .ok (.if_icmp .ge 53, 3) := by decide +kernel
theorem dX1_begin_44 : decode cX1_begin 44 = .ok (.aload_n 1, 1) := by decide +kernel
theorem dX1_begin_45 : decode cX1_begin 45 = .ok (.iload 4, 2) := by decide +kernel
theorem dX1_begin_47 : decode cX1_begin 47 = .ok (.iconst 0, 1) := by decide +kernel
theorem dX1_begin_48 : decode cX1_begin 48 = .ok (.invokevirtual 43, 3) := by decide +kernel
theorem dX1_begin_51 : decode cX1_begin 51 = .ok (.ifCond .ne 7, 3) := by decide +kernel
theorem dX1_begin_54 : decode cX1_begin 54 = .ok (.iconst 1, 1) := by decide +kernel
theorem dX1_begin_55 : decode cX1_begin 55 = .ok (.goto 4, 3) := by decide +kernel
theorem dX1_begin_58 : decode cX1_begin 58 = .ok (.iconst 0, 1) := by decide +kernel
theorem dX1_begin_59 : decode cX1_begin 59 = .ok (.istore 5, 2) := by decide +kernel
theorem dX1_begin_61 : decode cX1_begin 61 = .ok (.aload_n 0, 1) := by decide +kernel
theorem dX1_begin_62 : decode cX1_begin 62 = .ok (.getfield 9, 3) := by decide +kernel
theorem dX1_begin_65 : decode cX1_begin 65 = .ok (.iload 4, 2) := by decide +kernel
theorem dX1_begin_67 : decode cX1_begin 67 = .ok (.iconst 1, 1) := by decide +kernel
theorem dX1_begin_68 : decode cX1_begin 68 = .ok (.iadd, 1) := by decide +kernel
theorem dX1_begin_69 : decode cX1_begin 69 = .ok (.aload_n 0, 1) := by decide +kernel
theorem dX1_begin_70 : decode cX1_begin 70 = .ok (.getfield 9, 3) := by decide +kernel
theorem dX1_begin_73 : decode cX1_begin 73 = .ok (.iload 4, 2) := by decide +kernel
theorem dX1_begin_75 : decode cX1_begin 75 = .ok (.iaload, 1) := by decide +kernel
theorem dX1_begin_76 : decode cX1_begin 76 = .ok (.iload 5, 2) := by decide +kernel
theorem dX1_begin_78 : decode cX1_begin 78 = .ok (.iadd, 1) := by decide +kernel
theorem dX1_begin_79 : decode cX1_begin 79 = .ok (.iastore, 1) := by decide +kernel
theorem dX1_begin_80 : decode cX1_begin 80 = .ok (.aload_n 0, 1) := by decide +kernel
theorem dX1_begin_81 : decode cX1_begin 81 = .ok (.iload 4, 2) := by decide +kernel
theorem dX1_begin_83 : decode cX1_begin 83 = .ok (.iconst 1, 1) := by decide +kernel
theorem dX1_begin_84 : decode cX1_begin 84 = .ok (.iadd, 1) := by decide +kernel
theorem dX1_begin_85 : decode cX1_begin 85 = .ok (.putfield 35, 3) := by decide +kernel
theorem dX1_begin_88 : decode cX1_begin 88 = .ok (.iinc 4 1, 3) := by decide +kernel
theorem dX1_begin_91 : decode cX1_begin 91 = .ok (.goto (-68), 3) := by decide +kernel
theorem dX1_begin_94 : decode cX1_begin 94 = .ok (.iconst 0, 1) := by decide +kernel
theorem dX1_begin_95 : decode cX1_begin 95 = .ok (.istore 4, 2) := by decide +kernel
theorem dX1_begin_97 : decode cX1_begin 97 = .ok (.iload 4, 2) := by decide +kernel
theorem dX1_begin_99 : decode cX1_begin 99 = .ok (.iconst 4, 1) := by decide +kernel
theorem dX1_begin_100 : decode cX1_begin 100 = .ok (.if_icmp .ge 33, 3) := by decide +kernel
theorem dX1_begin_103 : decode cX1_begin 103 = .ok (.aload_n 0, 1) := by decide +kernel
theorem dX1_begin_104 : decode cX1_begin 104 = .ok (.getfield 15, 3) := by decide +kernel
theorem dX1_begin_107 : decode cX1_begin 107 = .ok (.iload 4, 2) := by decide +kernel
theorem dX1_begin_109 : decode cX1_begin 109 = .ok (.iconst 0, 1) := by decide +kernel
theorem dX1_begin_110 : decode cX1_begin 110 = .ok (.bastore, 1) := by decide +kernel
theorem dX1_begin_111 : decode cX1_begin 111 = .ok (.aload_n 0, 1) := by decide +kernel
theorem dX1_begin_112 : decode cX1_begin 112 = .ok (.getfield 19, 3) := by decide +kernel
theorem dX1_begin_115 : decode cX1_begin 115 = .ok (.iload 4, 2) := by decide +kernel
theorem dX1_begin_117 : decode cX1_begin 117 = .ok (.iconst 0, 1) := by decide +kernel
theorem dX1_begin_118 : decode cX1_begin 118 = .ok (.iastore, 1) := by decide +kernel
theorem dX1_begin_119 : decode cX1_begin 119 = .ok (.aload_n 0, 1) := by decide +kernel
theorem dX1_begin_120 : decode cX1_begin 120 = .ok (.getfield 22, 3) := by decide +kernel
theorem dX1_begin_123 : decode cX1_begin 123 = .ok (.iload 4, 2) := by decide +kernel
theorem dX1_begin_125 : decode cX1_begin 125 = .ok (.iconst 0, 1) := by decide +kernel
theorem dX1_begin_126 : decode cX1_begin 126 = .ok (.iastore, 1) := by decide +kernel
theorem dX1_begin_127 : decode cX1_begin 127 = .ok (.iinc 4 1, 3) := by decide +kernel
theorem dX1_begin_130 : decode cX1_begin 130 = .ok (.goto (-33), 3) := by decide +kernel
theorem dX1_begin_133 : decode cX1_begin 133 = .ok (.return_, 1) := by decide +kernel
theorem dX1_stitchesBetween_0 : decode cX1_stitchesBetween 0 = .ok (.iload_n 1, 1) := by decide +kernel
theorem dX1_stitchesBetween_1 : decode cX1_stitchesBetween 1 = .ok (.ifCond .lt 17, 3) := by decide +kernel
theorem dX1_stitchesBetween_4 : decode cX1_stitchesBetween 4 = .ok (.iload_n 2, 1) := by decide +kernel
theorem dX1_stitchesBetween_5 : decode cX1_stitchesBetween 5 = .ok (.iload_n 1, 1) := by decide +kernel
theorem dX1_stitchesBetween_6 : decode cX1_stitchesBetween 6 = .ok (.if_icmp .lt 12, 3) := by decide +kernel
theorem dX1_stitchesBetween_9 : decode cX1_stitchesBetween 9 = .ok (.iload_n 2, 1) := by decide +kernel
theorem dX1_stitchesBetween_10 : decode cX1_stitchesBetween 10 = .ok (.aload_n 0, 1) := by decide +kernel
theorem dX1_stitchesBetween_11 : decode cX1_stitchesBetween 11 = .ok (.getfield 9, 3) := by decide +kernel
theorem dX1_stitchesBetween_14 : decode cX1_stitchesBetween 14 = .ok (.arraylength, 1) := by decide +kernel
theorem dX1_stitchesBetween_15 : decode cX1_stitchesBetween 15 = .ok (.if_icmp .lt 5, 3) := by decide +kernel
theorem dX1_stitchesBetween_18 : decode cX1_stitchesBetween 18 = .ok (.iconst 0, 1) := by decide +kernel
theorem dX1_stitchesBetween_19 : decode cX1_stitchesBetween 19 = .ok (.ireturn, 1) := by decide +kernel
theorem dX1_stitchesBetween_20 : decode cX1_stitchesBetween 20 = .ok (.aload_n 0, 1) := by decide +kernel
theorem dX1_stitchesBetween_21 : decode cX1_stitchesBetween 21 = .ok (.getfield 9, 3) := by decide +kernel
theorem dX1_stitchesBetween_24 : decode cX1_stitchesBetween 24 = .ok (.iload_n 2, 1) := by decide +kernel
theorem dX1_stitchesBetween_25 : decode cX1_stitchesBetween 25 = .ok (.iaload, 1) := by decide +kernel
theorem dX1_stitchesBetween_26 : decode cX1_stitchesBetween 26 = .ok (.aload_n 0, 1) := by decide +kernel
theorem dX1_stitchesBetween_27 : decode cX1_stitchesBetween 27 = .ok (.getfield 9, 3) := by decide +kernel
theorem dX1_stitchesBetween_30 : decode cX1_stitchesBetween 30 = .ok (.iload_n 1, 1) := by decide +kernel
theorem dX1_stitchesBetween_31 : decode cX1_stitchesBetween 31 = .ok (.iaload, 1) := by decide +kernel
theorem dX1_stitchesBetween_32 : decode cX1_stitchesBetween 32 = .ok (.isub, 1) := by decide +kernel
theorem dX1_stitchesBetween_33 : decode cX1_stitchesBetween 33 = .ok (.ireturn, 1) := by decide +kernel
theorem dX1_isSeen_0 : decode cX1_isSeen 0 = .ok (.aload_n 0, 1) := by decide +kernel
theorem dX1_isSeen_1 : decode cX1_isSeen 1 = .ok (.iload_n 1, 1) := by decide +kernel
theorem dX1_isSeen_2 : decode cX1_isSeen 2 = .ok (.invokevirtual 47, 3) := by decide +kernel
theorem dX1_isSeen_5 : decode cX1_isSeen 5 = .ok (.ifCond .eq 45, 3) := by decide +kernel
theorem dX1_isSeen_8 : decode cX1_isSeen 8 = .ok (.aload_n 0, 1) := by decide +kernel
theorem dX1_isSeen_9 : decode cX1_isSeen 9 = .ok (.getfield 15, 3) := by decide +kernel
theorem dX1_isSeen_12 : decode cX1_isSeen 12 = .ok (.iload_n 1, 1) := by decide +kernel
theorem dX1_isSeen_13 : decode cX1_isSeen 13 = .ok (.baload, 1) := by decide +kernel
theorem dX1_isSeen_14 : decode cX1_isSeen 14 = .ok (.ifCond .eq 36, 3) := by decide +kernel
theorem dX1_isSeen_17 : decode cX1_isSeen 17 = .ok (.aload_n 0, 1) := by decide +kernel
theorem dX1_isSeen_18 : decode cX1_isSeen 18 = .ok (.getfield 32, 3) := by decide +kernel
theorem dX1_isSeen_21 : decode cX1_isSeen 21 = .ok (.aload_n 0, 1) := by decide +kernel
theorem dX1_isSeen_22 : decode cX1_isSeen 22 = .ok (.getfield 19, 3) := by decide +kernel
theorem dX1_isSeen_25 : decode cX1_isSeen 25 = .ok (.iload_n 1, 1) := by decide +kernel
theorem dX1_isSeen_26 : decode cX1_isSeen 26 = .ok (.iaload, 1) := by decide +kernel
theorem dX1_isSeen_27 : decode cX1_isSeen 27 = .ok (.isub, 1) := by decide +kernel
theorem dX1_isSeen_28 : decode cX1_isSeen 28 = .ok (.aload_n 0, 1) := by decide +kernel
theorem dX1_isSeen_29 : decode cX1_isSeen 29 = .ok (.getfield 29, 3) := by decide +kernel
theorem dX1_isSeen_32 : decode cX1_isSeen 32 = .ok (.if_icmp .ge 14, 3) := by decide +kernel
theorem dX1_isSeen_35 : decode cX1_isSeen 35 = .ok (.aload_n 0, 1) := by decide +kernel
theorem dX1_isSeen_36 : decode cX1_isSeen 36 = .ok (.getfield 32, 3) := by decide +kernel
theorem dX1_isSeen_39 : decode cX1_isSeen 39 = .ok (.aload_n 0, 1) := by decide +kernel
theorem dX1_isSeen_40 : decode cX1_isSeen 40 = .ok (.getfield 35, 3) := by decide +kernel
theorem dX1_isSeen_43 : decode cX1_isSeen 43 = .ok (.if_icmp .lt 7, 3) := by decide +kernel
theorem dX1_isSeen_46 : decode cX1_isSeen 46 = .ok (.iconst 1, 1) := by decide +kernel
theorem dX1_isSeen_47 : decode cX1_isSeen 47 = .ok (.goto 4, 3) := by decide +kernel
theorem dX1_isSeen_50 : decode cX1_isSeen 50 = .ok (.iconst 0, 1) := by decide +kernel
theorem dX1_isSeen_51 : decode cX1_isSeen 51 = .ok (.ireturn, 1) := by decide +kernel
theorem dX1_stands_0 : decode cX1_stands 0 = .ok (.iconst 0, 1) := by decide +kernel
theorem dX1_stands_1 : decode cX1_stands 1 = .ok (.istore_n 1, 1) := by decide +kernel
theorem dX1_stands_2 : decode cX1_stands 2 = .ok (.iload_n 1, 1) := by decide +kernel
theorem dX1_stands_3 : decode cX1_stands 3 = .ok (.aload_n 0, 1) := by decide +kernel
theorem dX1_stands_4 : decode cX1_stands 4 = .ok (.getfield 25, 3) := by decide +kernel
theorem dX1_stands_7 : decode cX1_stands 7 = .ok (.if_icmp .ge 19, 3) := by decide +kernel
theorem dX1_stands_10 : decode cX1_stands 10 = .ok (.aload_n 0, 1) := by decide +kernel
theorem dX1_stands_11 : decode cX1_stands 11 = .ok (.iload_n 1, 1) := by decide +kernel
theorem dX1_stands_12 : decode cX1_stands 12 = .ok (.invokevirtual 51, 3) := by decide +kernel
theorem dX1_stands_15 : decode cX1_stands 15 = .ok (.ifCond .eq 5, 3) := by decide +kernel
theorem dX1_stands_18 : decode cX1_stands 18 = .ok (.iconst 1, 1) := by decide +kernel
theorem dX1_stands_19 : decode cX1_stands 19 = .ok (.ireturn, 1) := by decide +kernel
theorem dX1_stands_20 : decode cX1_stands 20 = .ok (.iinc 1 1, 3) := by decide +kernel
theorem dX1_stands_23 : decode cX1_stands 23 = .ok (.goto (-21), 3) := by decide +kernel
theorem dX1_stands_26 : decode cX1_stands 26 = .ok (.iconst 0, 1) := by decide +kernel
theorem dX1_stands_27 : decode cX1_stands 27 = .ok (.ireturn, 1) := by decide +kernel
theorem dX1_advance_0 : decode cX1_advance 0 = .ok (.iconst 0, 1) := by decide +kernel
theorem dX1_advance_1 : decode cX1_advance 1 = .ok (.istore_n 2, 1) := by decide +kernel
theorem dX1_advance_2 : decode cX1_advance 2 = .ok (.iload_n 2, 1) := by decide +kernel
theorem dX1_advance_3 : decode cX1_advance 3 = .ok (.iload_n 1, 1) := by decide +kernel
theorem dX1_advance_4 : decode cX1_advance 4 = .ok (.if_icmp .ge 31, 3) := by decide +kernel
theorem dX1_advance_7 : decode cX1_advance 7 = .ok (.aload_n 0, 1) := by decide +kernel
theorem dX1_advance_8 : decode cX1_advance 8 = .ok (.getfield 32, 3) := by decide +kernel
theorem dX1_advance_11 : decode cX1_advance 11 = .ok (.aload_n 0, 1) := by decide +kernel
theorem dX1_advance_12 : decode cX1_advance 12 = .ok (.getfield 35, 3) := by decide +kernel
theorem dX1_advance_15 : decode cX1_advance 15 = .ok (.if_icmp .ge 20, 3) := by decide +kernel
theorem dX1_advance_18 : decode cX1_advance 18 = .ok (.aload_n 0, 1) := by decide +kernel
theorem dX1_advance_19 : decode cX1_advance 19 = .ok (.invokevirtual 54, 3) := by decide +kernel
theorem dX1_advance_22 : decode cX1_advance 22 = .ok (.ifCond .ne 13, 3) := by decide +kernel
theorem dX1_advance_25 : decode cX1_advance 25 = .ok (.aload_n 0, 1) := by decide +kernel
theorem dX1_advance_26 : decode cX1_advance 26 = .ok (.invokevirtual 58, 3) := by decide +kernel
theorem dX1_advance_29 : decode cX1_advance 29 = .ok (.iinc 2 1, 3) := by decide +kernel
theorem dX1_advance_32 : decode cX1_advance 32 = .ok (.goto (-30), 3) := by decide +kernel
theorem dX1_advance_35 : decode cX1_advance 35 = .ok (.iload_n 2, 1) := by decide +kernel
theorem dX1_advance_36 : decode cX1_advance 36 = .ok (.ireturn, 1) := by decide +kernel
theorem dX1_step_0 : decode cX1_step 0 = .ok (.aload_n 0, 1) := by decide +kernel
theorem dX1_step_1 : decode cX1_step 1 = .ok (.aload_n 0, 1) := by decide +kernel
theorem dX1_step_2 : decode cX1_step 2 = .ok (.getfield 32, 3) := by decide +kernel
theorem dX1_step_5 : decode cX1_step 5 = .ok (.aload_n 0, 1) := by decide +kernel
theorem dX1_step_6 : decode cX1_step 6 = .ok (.getfield 32, 3) := by decide +kernel
theorem dX1_step_9 : decode cX1_step 9 = .ok (.iconst 1, 1) := by decide +kernel
theorem dX1_step_10 : decode cX1_step 10 = .ok (.iadd, 1) := by decide +kernel
theorem dX1_step_11 : decode cX1_step 11 = .ok (.invokevirtual 61, 3) := by decide +kernel
theorem dX1_step_14 : decode cX1_step 14 = .ok (.istore_n 1, 1) := by decide +kernel
theorem dX1_step_15 : decode cX1_step 15 = .ok (.iconst 0, 1) := by decide +kernel
theorem dX1_step_16 : decode cX1_step 16 = .ok (.istore_n 2, 1) := by decide +kernel
theorem dX1_step_17 : decode cX1_step 17 = .ok (.iload_n 2, 1) := by decide +kernel
theorem dX1_step_18 : decode cX1_step 18 = .ok (.aload_n 0, 1) := by decide +kernel
theorem dX1_step_19 : decode cX1_step 19 = .ok (.getfield 25, 3) := by decide +kernel
theorem dX1_step_22 : decode cX1_step 22 = .ok (.if_icmp .ge 46, 3) := by decide +kernel
theorem dX1_step_25 : decode cX1_step 25 = .ok (.iload_n 2, 1) := by decide +kernel
theorem dX1_step_26 : decode cX1_step 26 = .ok (.aload_n 0, 1) := by decide +kernel
theorem dX1_step_27 : decode cX1_step 27 = .ok (.getfield 15, 3) := by decide +kernel
theorem dX1_step_30 : decode cX1_step 30 = .ok (.arraylength, 1) := by decide +kernel
theorem dX1_step_31 : decode cX1_step 31 = .ok (.if_icmp .ge 37, 3) := by decide +kernel
theorem dX1_step_34 : decode cX1_step 34 = .ok (.iload_n 2, 1) := by decide +kernel
theorem dX1_step_35 : decode cX1_step 35 = .ok (.aload_n 0, 1) := by decide +kernel
theorem dX1_step_36 : decode cX1_step 36 = .ok (.getfield 22, 3) := by decide +kernel
theorem dX1_step_39 : decode cX1_step 39 = .ok (.arraylength, 1) := by decide +kernel
theorem dX1_step_40 : decode cX1_step 40 = .ok (.if_icmp .ge 28, 3) := by decide +kernel
theorem dX1_step_43 : decode cX1_step 43 = .ok (.aload_n 0, 1) := by decide +kernel
theorem dX1_step_44 : decode cX1_step 44 = .ok (.getfield 15, 3) := by decide +kernel
theorem dX1_step_47 : decode cX1_step 47 = .ok (.iload_n 2, 1) := by decide +kernel
theorem dX1_step_48 : decode cX1_step 48 = .ok (.baload, 1) := by decide +kernel
theorem dX1_step_49 : decode cX1_step 49 = .ok (.ifCond .ne 13, 3) := by decide +kernel
theorem dX1_step_52 : decode cX1_step 52 = .ok (.aload_n 0, 1) := by decide +kernel
theorem dX1_step_53 : decode cX1_step 53 = .ok (.getfield 22, 3) := by decide +kernel
theorem dX1_step_56 : decode cX1_step 56 = .ok (.iload_n 2, 1) := by decide +kernel
theorem dX1_step_57 : decode cX1_step 57 = .ok (.dup2, 1) := by decide +kernel
theorem dX1_step_58 : decode cX1_step 58 = .ok (.iaload, 1) := by decide +kernel
theorem dX1_step_59 : decode cX1_step 59 = .ok (.iload_n 1, 1) := by decide +kernel
theorem dX1_step_60 : decode cX1_step 60 = .ok (.iadd, 1) := by decide +kernel
theorem dX1_step_61 : decode cX1_step 61 = .ok (.iastore, 1) := by decide +kernel
theorem dX1_step_62 : decode cX1_step 62 = .ok (.iinc 2 1, 3) := by decide +kernel
theorem dX1_step_65 : decode cX1_step 65 = .ok (.goto (-48), 3) := by decide +kernel
theorem dX1_step_68 : decode cX1_step 68 = .ok (.aload_n 0, 1) := by decide +kernel
theorem dX1_step_69 : decode cX1_step 69 = .ok (.dup, 1) := by decide +kernel
theorem dX1_step_70 : decode cX1_step 70 = .ok (.getfield 32, 3) := by decide +kernel
theorem dX1_step_73 : decode cX1_step 73 = .ok (.iconst 1, 1) := by decide +kernel
theorem dX1_step_74 : decode cX1_step 74 = .ok (.iadd, 1) := by decide +kernel
theorem dX1_step_75 : decode cX1_step 75 = .ok (.putfield 32, 3) := by decide +kernel
theorem dX1_step_78 : decode cX1_step 78 = .ok (.return_, 1) := by decide +kernel
theorem dX1_tear_0 : decode cX1_tear 0 = .ok (.aload_n 0, 1) := by decide +kernel
theorem dX1_tear_1 : decode cX1_tear 1 = .ok (.iload_n 1, 1) := by decide +kernel
theorem dX1_tear_2 : decode cX1_tear 2 = .ok (.invokevirtual 47, 3) := by decide +kernel
theorem dX1_tear_5 : decode cX1_tear 5 = .ok (.ifCond .eq 20, 3) := by decide +kernel
theorem dX1_tear_8 : decode cX1_tear 8 = .ok (.aload_n 0, 1) := by decide +kernel
theorem dX1_tear_9 : decode cX1_tear 9 = .ok (.getfield 15, 3) := by decide +kernel
theorem dX1_tear_12 : decode cX1_tear 12 = .ok (.iload_n 1, 1) := by decide +kernel
theorem dX1_tear_13 : decode cX1_tear 13 = .ok (.iconst 1, 1) := by decide +kernel
theorem dX1_tear_14 : decode cX1_tear 14 = .ok (.bastore, 1) := by decide +kernel
theorem dX1_tear_15 : decode cX1_tear 15 = .ok (.aload_n 0, 1) := by decide +kernel
theorem dX1_tear_16 : decode cX1_tear 16 = .ok (.getfield 19, 3) := by decide +kernel
theorem dX1_tear_19 : decode cX1_tear 19 = .ok (.iload_n 1, 1) := by decide +kernel
theorem dX1_tear_20 : decode cX1_tear 20 = .ok (.aload_n 0, 1) := by decide +kernel
theorem dX1_tear_21 : decode cX1_tear 21 = .ok (.getfield 32, 3) := by decide +kernel
theorem dX1_tear_24 : decode cX1_tear 24 = .ok (.iastore, 1) := by decide +kernel
theorem dX1_tear_25 : decode cX1_tear 25 = .ok (.return_, 1) := by decide +kernel
theorem dX1_repair_0 : decode cX1_repair 0 = .ok (.aload_n 0, 1) := by decide +kernel
theorem dX1_repair_1 : decode cX1_repair 1 = .ok (.iload_n 1, 1) := by decide +kernel
theorem dX1_repair_2 : decode cX1_repair 2 = .ok (.invokevirtual 47, 3) := by decide +kernel
theorem dX1_repair_5 : decode cX1_repair 5 = .ok (.ifCond .ne 5, 3) := by decide +kernel
theorem dX1_repair_8 : decode cX1_repair 8 = .ok (.iconst 0, 1) := by decide +kernel
theorem dX1_repair_9 : decode cX1_repair 9 = .ok (.ireturn, 1) := by decide +kernel
theorem dX1_repair_10 : decode cX1_repair 10 = .ok (.aload_n 0, 1) := by decide +kernel
theorem dX1_repair_11 : decode cX1_repair 11 = .ok (.iconst 0, 1) := by decide +kernel
theorem dX1_repair_12 : decode cX1_repair 12 = .ok (.aload_n 0, 1) := by decide +kernel
theorem dX1_repair_13 : decode cX1_repair 13 = .ok (.getfield 19, 3) := by decide +kernel
theorem dX1_repair_16 : decode cX1_repair 16 = .ok (.iload_n 1, 1) := by decide +kernel
theorem dX1_repair_17 : decode cX1_repair 17 = .ok (.iaload, 1) := by decide +kernel
theorem dX1_repair_18 : decode cX1_repair 18 = .ok (.iconst 3, 1) := by decide +kernel
theorem dX1_repair_19 : decode cX1_repair 19 = .ok (.isub, 1) := by decide +kernel
theorem dX1_repair_20 : decode cX1_repair 20 = .ok (.invokestatic 64, 3) := by decide +kernel
theorem dX1_repair_23 : decode cX1_repair 23 = .ok (.aload_n 0, 1) := by decide +kernel
theorem dX1_repair_24 : decode cX1_repair 24 = .ok (.getfield 32, 3) := by decide +kernel
theorem dX1_repair_27 : decode cX1_repair 27 = .ok (.invokevirtual 61, 3) := by decide +kernel
theorem dX1_repair_30 : decode cX1_repair 30 = .ok (.istore_n 2, 1) := by decide +kernel
theorem dX1_repair_31 : decode cX1_repair 31 = .ok (.aload_n 0, 1) := by decide +kernel
theorem dX1_repair_32 : decode cX1_repair 32 = .ok (.getfield 15, 3) := by decide +kernel
theorem dX1_repair_35 : decode cX1_repair 35 = .ok (.iload_n 1, 1) := by decide +kernel
theorem dX1_repair_36 : decode cX1_repair 36 = .ok (.iconst 0, 1) := by decide +kernel
theorem dX1_repair_37 : decode cX1_repair 37 = .ok (.bastore, 1) := by decide +kernel
theorem dX1_repair_38 : decode cX1_repair 38 = .ok (.aload_n 0, 1) := by decide +kernel
theorem dX1_repair_39 : decode cX1_repair 39 = .ok (.getfield 22, 3) := by decide +kernel
theorem dX1_repair_42 : decode cX1_repair 42 = .ok (.iload_n 1, 1) := by decide +kernel
theorem dX1_repair_43 : decode cX1_repair 43 = .ok (.dup2, 1) := by decide +kernel
theorem dX1_repair_44 : decode cX1_repair 44 = .ok (.iaload, 1) := by decide +kernel
theorem dX1_repair_45 : decode cX1_repair 45 = .ok (.iload_n 2, 1) := by decide +kernel
theorem dX1_repair_46 : decode cX1_repair 46 = .ok (.iadd, 1) := by decide +kernel
theorem dX1_repair_47 : decode cX1_repair 47 = .ok (.iastore, 1) := by decide +kernel
theorem dX1_repair_48 : decode cX1_repair 48 = .ok (.iload_n 2, 1) := by decide +kernel
theorem dX1_repair_49 : decode cX1_repair 49 = .ok (.ireturn, 1) := by decide +kernel
theorem dX2_init_0 : decode cX2_init 0 = .ok (.aload_n 0, 1) := by decide +kernel
theorem dX2_init_1 : decode cX2_init 1 = .ok (.invokespecial 3, 3) := by decide +kernel
theorem dX2_init_4 : decode cX2_init 4 = .ok (.aload_n 0, 1) := by decide +kernel
theorem dX2_init_5 : decode cX2_init 5 = .ok (.ldc 9, 2) := by decide +kernel
theorem dX2_init_7 : decode cX2_init 7 = .ok (.newarray .int, 2) := by decide +kernel
theorem dX2_init_9 : decode cX2_init 9 = .ok (.putfield 10, 3) := by decide +kernel
theorem dX2_init_12 : decode cX2_init 12 = .ok (.aload_n 0, 1) := by decide +kernel
theorem dX2_init_13 : decode cX2_init 13 = .ok (.iconst 0, 1) := by decide +kernel
theorem dX2_init_14 : decode cX2_init 14 = .ok (.putfield 16, 3) := by decide +kernel
theorem dX2_init_17 : decode cX2_init 17 = .ok (.return_, 1) := by decide +kernel
theorem dX2_has_0 : decode cX2_has 0 = .ok (.iload_n 1, 1) := by decide +kernel
theorem dX2_has_1 : decode cX2_has 1 = .ok (.ifCond .lt 24, 3) := by decide +kernel
theorem dX2_has_4 : decode cX2_has 4 = .ok (.iload_n 1, 1) := by decide +kernel
theorem dX2_has_5 : decode cX2_has 5 = .ok (.aload_n 0, 1) := by decide +kernel
theorem dX2_has_6 : decode cX2_has 6 = .ok (.getfield 20, 3) := by decide +kernel
theorem dX2_has_9 : decode cX2_has 9 = .ok (.if_icmp .ge 16, 3) := by decide +kernel
theorem dX2_has_12 : decode cX2_has 12 = .ok (.iload_n 1, 1) := by decide +kernel
theorem dX2_has_13 : decode cX2_has 13 = .ok (.aload_n 0, 1) := by decide +kernel
theorem dX2_has_14 : decode cX2_has 14 = .ok (.getfield 10, 3) := by decide +kernel
theorem dX2_has_17 : decode cX2_has 17 = .ok (.arraylength, 1) := by decide +kernel
theorem dX2_has_18 : decode cX2_has 18 = .ok (.if_icmp .ge 7, 3) := by decide +kernel
theorem dX2_has_21 : decode cX2_has 21 = .ok (.iconst 1, 1) := by decide +kernel
theorem dX2_has_22 : decode cX2_has 22 = .ok (.goto 4, 3) := by decide +kernel
theorem dX2_has_25 : decode cX2_has 25 = .ok (.iconst 0, 1) := by decide +kernel
theorem dX2_has_26 : decode cX2_has 26 = .ok (.ireturn, 1) := by decide +kernel
theorem dX2_limit_0 : decode cX2_limit 0 = .ok (.aload_n 0, 1) := by decide +kernel
theorem dX2_limit_1 : decode cX2_limit 1 = .ok (.getfield 16, 3) := by decide +kernel
theorem dX2_limit_4 : decode cX2_limit 4 = .ok (.ifCond .ne 8, 3) := by decide +kernel
theorem dX2_limit_7 : decode cX2_limit 7 = .ok (.bipush 12, 2) := by decide +kernel
theorem dX2_limit_9 : decode cX2_limit 9 = .ok (.goto 5, 3) := by decide +kernel
theorem dX2_limit_12 : decode cX2_limit 12 = .ok (.bipush 121, 2) := by decide +kernel
theorem dX2_limit_14 : decode cX2_limit 14 = .ok (.ireturn, 1) := by decide +kernel
theorem dX2_bytesOfCommand_0 : decode cX2_bytesOfCommand 0 = .ok (.aload_n 0, 1) := by decide +kernel
theorem dX2_bytesOfCommand_1 : decode cX2_bytesOfCommand 1 = .ok (.getfield 16, 3) := by decide +kernel
theorem dX2_bytesOfCommand_4 : decode cX2_bytesOfCommand 4 = .ok (.ifCond .ne 7, 3) := by decide +kernel
theorem dX2_bytesOfCommand_7 : decode cX2_bytesOfCommand 7 = .ok (.iconst 2, 1) := by decide +kernel
theorem dX2_bytesOfCommand_8 : decode cX2_bytesOfCommand 8 = .ok (.goto 4, 3) := by decide +kernel
theorem dX2_bytesOfCommand_11 : decode cX2_bytesOfCommand 11 = .ok (.iconst 3, 1) := by decide +kernel
theorem dX2_bytesOfCommand_12 : decode cX2_bytesOfCommand 12 = .ok (.ireturn, 1) := by decide +kernel
theorem dX2_take_0 : decode cX2_take 0 = .ok (.aload_n 0, 1) := by decide +kernel
theorem dX2_take_1 : decode cX2_take 1 = .ok (.iload_n 2, 1) := by decide +kernel
theorem dX2_take_2 : decode cX2_take 2 = .ok (.putfield 16, 3) := by decide +kernel
theorem dX2_take_5 : decode cX2_take 5 = .ok (.aload_n 0, 1) := by decide +kernel
theorem dX2_take_6 : decode cX2_take 6 = .ok (.iconst 0, 1) := by decide +kernel
theorem dX2_take_7 : decode cX2_take 7 = .ok (.putfield 20, 3) := by decide +kernel
theorem dX2_take_10 : decode cX2_take 10 = .ok (.iconst 0, 1) := by decide +kernel
theorem dX2_take_11 : decode cX2_take 11 = .ok (.istore_n 3, 1) := by decide +kernel
theorem dX2_take_12 : decode cX2_take 12 = .ok (.iload_n 3, 1) := by decide +kernel
theorem dX2_take_13 : decode cX2_take 13 = .ok (.aload_n 1, 1) := by decide +kernel
theorem dX2_take_14 : decode cX2_take 14 = .ok (.getfield 23, 3) := by decide +kernel
theorem dX2_take_17 : decode cX2_take 17 = .ok (.if_icmp .ge 31, 3) := by decide +kernel
theorem dX2_take_20 : decode cX2_take 20 = .ok (.aload_n 0, 1) := by decide +kernel
theorem dX2_take_21 : decode cX2_take 21 = .ok (.aload_n 1, 1) := by decide +kernel
theorem dX2_take_22 : decode cX2_take 22 = .ok (.iload_n 3, 1) := by decide +kernel
theorem dX2_take_23 : decode cX2_take 23 = .ok (.iconst 0, 1) := by decide +kernel
theorem dX2_take_24 : decode cX2_take 24 = .ok (.invokevirtual 26, 3) := by decide +kernel
theorem dX2_take_27 : decode cX2_take 27 = .ok (.aload_n 1, 1) := by decide +kernel
theorem dX2_take_28 : decode cX2_take 28 = .ok (.iload_n 3, 1) := by decide +kernel
theorem dX2_take_29 : decode cX2_take 29 = .ok (.iconst 1, 1) := by decide +kernel
theorem dX2_take_30 : decode cX2_take 30 = .ok (.invokevirtual 26, 3) := by decide +kernel
theorem dX2_take_33 : decode cX2_take 33 = .ok (.aload_n 1, 1) := by decide +kernel
theorem dX2_take_34 : decode cX2_take 34 = .ok (.iload_n 3, 1) := by decide +kernel
theorem dX2_take_35 : decode cX2_take 35 = .ok (.iconst 2, 1) := by decide +kernel
theorem dX2_take_36 : decode cX2_take 36 = .ok (.invokevirtual 26, 3) := by decide +kernel
theorem dX2_take_39 : decode cX2_take 39 = .ok (.invokevirtual 30, 3) := by decide +kernel
theorem dX2_take_42 : decode cX2_take 42 = .ok (.iinc 3 1, 3) := by decide +kernel
theorem dX2_take_45 : decode cX2_take 45 = .ok (.goto (-33), 3) := by decide +kernel
theorem dX2_take_48 : decode cX2_take 48 = .ok (.aload_n 0, 1) := by decide +kernel
theorem dX2_take_49 : decode cX2_take 49 = .ok (.aload_n 0, 1) := by decide +kernel
theorem dX2_take_50 : decode cX2_take 50 = .ok (.aload_n 0, 1) := by decide +kernel
theorem dX2_take_51 : decode cX2_take 51 = .ok (.getfield 20, 3) := by decide +kernel
theorem dX2_take_54 : decode cX2_take 54 = .ok (.invokevirtual 34, 3) := by decide +kernel
theorem dX2_take_57 : decode cX2_take 57 = .ok (.invokevirtual 38, 3) := by decide +kernel
theorem dX2_take_60 : decode cX2_take 60 = .ok (.return_, 1) := by decide +kernel
theorem dX2_putWhole_0 : decode cX2_putWhole 0 = .ok (.iload_n 1, 1) := by decide +kernel
theorem dX2_putWhole_1 : decode cX2_putWhole 1 = .ok (.iconst 1, 1) := by decide +kernel
theorem dX2_putWhole_2 : decode cX2_putWhole 2 = .ok (.if_icmp .eq 11, 3) := by decide +kernel
theorem dX2_putWhole_5 : decode cX2_putWhole 5 = .ok (.aload_n 0, 1) := by decide +kernel
theorem dX2_putWhole_6 : decode cX2_putWhole 6 = .ok (.iload_n 1, 1) := by decide +kernel
theorem dX2_putWhole_7 : decode cX2_putWhole 7 = .ok (.iload_n 2, 1) := by decide +kernel
theorem dX2_putWhole_8 : decode cX2_putWhole 8 = .ok (.iload_n 3, 1) := by decide +kernel
theorem dX2_putWhole_9 : decode cX2_putWhole 9 = .ok (.invokevirtual 42, 3) := by decide +kernel
theorem dX2_putWhole_12 : decode cX2_putWhole 12 = .ok (.return_, 1) := by decide +kernel
theorem dX2_putWhole_13 : decode cX2_putWhole 13 = .ok (.iload_n 2, 1) := by decide +kernel
theorem dX2_putWhole_14 : decode cX2_putWhole 14 = .ok (.iload_n 3, 1) := by decide +kernel
theorem dX2_putWhole_15 : decode cX2_putWhole 15 = .ok (.invokestatic 45, 3) := by decide +kernel
theorem dX2_putWhole_18 : decode cX2_putWhole 18 = .ok (.aload_n 0, 1) := by decide +kernel
theorem dX2_putWhole_19 : decode cX2_putWhole 19 = .ok (.invokevirtual 48, 3) := by decide +kernel
theorem dX2_putWhole_22 : decode cX2_putWhole 22 = .ok (.invokestatic 52, 3) := by decide +kernel
theorem dX2_putWhole_25 : decode cX2_putWhole 25 = .ok (.istore 4, 2) := by decide +kernel
theorem dX2_putWhole_27 : decode cX2_putWhole 27 = .ok (.iconst 0, 1) := by decide +kernel
theorem dX2_putWhole_28 : decode cX2_putWhole 28 = .ok (.istore 5, 2) := by decide +kernel
theorem dX2_putWhole_30 : decode cX2_putWhole 30 = .ok (.iconst 0, 1) := by decide +kernel
theorem dX2_putWhole_31 : decode cX2_putWhole 31 = .ok (.istore 6, 2) := by decide +kernel
theorem dX2_putWhole_33 : decode cX2_putWhole 33 = .ok (.iconst 1, 1) := by decide +kernel
theorem dX2_putWhole_34 : decode cX2_putWhole 34 = .ok (.istore 7, 2) := by decide +kernel
theorem dX2_putWhole_36 : decode cX2_putWhole 36 = .ok (.iload 7, 2) := by decide +kernel
theorem dX2_putWhole_38 : decode cX2_putWhole 38 = .ok (.iload 4, 2) := by decide +kernel
theorem dX2_putWhole_40 : decode cX2_putWhole 40 = .ok (.if_icmp .gt 54, 3) := by decide +kernel
theorem dX2_putWhole_43 : decode cX2_putWhole 43 = .ok (.iconst 0, 1) := by decide +kernel
theorem dX2_putWhole_44 : decode cX2_putWhole 44 = .ok (.iload_n 2, 1) := by decide +kernel
theorem dX2_putWhole_45 : decode cX2_putWhole 45 = .ok (.iload 7, 2) := by decide +kernel
theorem dX2_putWhole_47 : decode cX2_putWhole 47 = .ok (.iload 4, 2) := by decide +kernel
theorem dX2_putWhole_49 : decode cX2_putWhole 49 = .ok (.invokestatic 55, 3) := by decide +kernel
theorem dX2_putWhole_52 : decode cX2_putWhole 52 = .ok (.istore 8, 2) := by decide +kernel
theorem dX2_putWhole_54 : decode cX2_putWhole 54 = .ok (.iconst 0, 1) := by decide +kernel
theorem dX2_putWhole_55 : decode cX2_putWhole 55 = .ok (.iload_n 3, 1) := by decide +kernel
theorem dX2_putWhole_56 : decode cX2_putWhole 56 = .ok (.iload 7, 2) := by decide +kernel
theorem dX2_putWhole_58 : decode cX2_putWhole 58 = .ok (.iload 4, 2) := by decide +kernel
theorem dX2_putWhole_60 : decode cX2_putWhole 60 = .ok (.invokestatic 55, 3) := by decide +kernel
theorem dX2_putWhole_63 : decode cX2_putWhole 63 = .ok (.istore 9, 2) := by decide +kernel
theorem dX2_putWhole_65 : decode cX2_putWhole 65 = .ok (.aload_n 0, 1) := by decide +kernel
theorem dX2_putWhole_66 : decode cX2_putWhole 66 = .ok (.iconst 1, 1) := by decide +kernel
theorem dX2_putWhole_67 : decode cX2_putWhole 67 = .ok (.iload 8, 2) := by decide +kernel
theorem dX2_putWhole_69 : decode cX2_putWhole 69 = .ok (.iload 5, 2) := by decide +kernel
theorem dX2_putWhole_71 : decode cX2_putWhole 71 = .ok (.isub, 1) := by decide +kernel
theorem dX2_putWhole_72 : decode cX2_putWhole 72 = .ok (.iload 9, 2) := by decide +kernel
theorem dX2_putWhole_74 : decode cX2_putWhole 74 = .ok (.iload 6, 2) := by decide +kernel
theorem dX2_putWhole_76 : decode cX2_putWhole 76 = .ok (.isub, 1) := by decide +kernel
theorem dX2_putWhole_77 : decode cX2_putWhole 77 = .ok (.invokevirtual 42, 3) := by decide +kernel
theorem dX2_putWhole_80 : decode cX2_putWhole 80 = .ok (.iload 8, 2) := by decide +kernel
theorem dX2_putWhole_82 : decode cX2_putWhole 82 = .ok (.istore 5, 2) := by decide +kernel
theorem dX2_putWhole_84 : decode cX2_putWhole 84 = .ok (.iload 9, 2) := by decide +kernel
theorem dX2_putWhole_86 : decode cX2_putWhole 86 = .ok (.istore 6, 2) := by decide +kernel
theorem dX2_putWhole_88 : decode cX2_putWhole 88 = .ok (.iinc 7 1, 3) := by decide +kernel
theorem dX2_putWhole_91 : decode cX2_putWhole 91 = .ok (.goto (-55), 3) := by decide +kernel
theorem dX2_putWhole_94 : decode cX2_putWhole 94 = .ok (.return_, 1) := by decide +kernel
theorem dX2_putCommand_0 : decode cX2_putCommand 0 = .ok (.aload_n 0, 1) := by decide +kernel
theorem dX2_putCommand_1 : decode cX2_putCommand 1 = .ok (.getfield 16, 3) := by decide +kernel
theorem dX2_putCommand_4 : decode cX2_putCommand 4 = .ok (.ifCond .ne 27, 3) := by decide +kernel
theorem dX2_putCommand_7 : decode cX2_putCommand 7 = .ok (.aload_n 0, 1) := by decide +kernel
theorem dX2_putCommand_8 : decode cX2_putCommand 8 = .ok (.bipush 32, 2) := by decide +kernel
theorem dX2_putCommand_10 : decode cX2_putCommand 10 = .ok (.iload_n 1, 1) := by decide +kernel
theorem dX2_putCommand_11 : decode cX2_putCommand 11 = .ok (.imul, 1) := by decide +kernel
theorem dX2_putCommand_12 : decode cX2_putCommand 12 = .ok (.iload_n 2, 1) := by decide +kernel
theorem dX2_putCommand_13 : decode cX2_putCommand 13 = .ok (.iadd, 1) := by decide +kernel
theorem dX2_putCommand_14 : decode cX2_putCommand 14 = .ok (.bipush 16, 2) := by decide +kernel
theorem dX2_putCommand_16 : decode cX2_putCommand 16 = .ok (.iadd, 1) := by decide +kernel
theorem dX2_putCommand_17 : decode cX2_putCommand 17 = .ok (.invokevirtual 38, 3) := by decide +kernel
theorem dX2_putCommand_20 : decode cX2_putCommand 20 = .ok (.aload_n 0, 1) := by decide +kernel
theorem dX2_putCommand_21 : decode cX2_putCommand 21 = .ok (.iload_n 3, 1) := by decide +kernel
theorem dX2_putCommand_22 : decode cX2_putCommand 22 = .ok (.bipush 16, 2) := by decide +kernel
theorem dX2_putCommand_24 : decode cX2_putCommand 24 = .ok (.iadd, 1) := by decide +kernel
theorem dX2_putCommand_25 : decode cX2_putCommand 25 = .ok (.invokevirtual 38, 3) := by decide +kernel
theorem dX2_putCommand_28 : decode cX2_putCommand 28 = .ok (.goto 26, 3) := by decide +kernel
theorem dX2_putCommand_31 : decode cX2_putCommand 31 = .ok (.aload_n 0, 1) := by decide +kernel
theorem dX2_putCommand_32 : decode cX2_putCommand 32 = .ok (.iload_n 1, 1) := by decide +kernel
theorem dX2_putCommand_33 : decode cX2_putCommand 33 = .ok (.invokevirtual 38, 3) := by decide +kernel
theorem dX2_putCommand_36 : decode cX2_putCommand 36 = .ok (.aload_n 0, 1) := by decide +kernel
theorem dX2_putCommand_37 : decode cX2_putCommand 37 = .ok (.iload_n 2, 1) := by decide +kernel
theorem dX2_putCommand_38 : decode cX2_putCommand 38 = .ok (.sipush 128, 3) := by decide +kernel
theorem dX2_putCommand_41 : decode cX2_putCommand 41 = .ok (.iadd, 1) := by decide +kernel
theorem dX2_putCommand_42 : decode cX2_putCommand 42 = .ok (.invokevirtual 38, 3) := by decide +kernel
theorem dX2_putCommand_45 : decode cX2_putCommand 45 = .ok (.aload_n 0, 1) := by decide +kernel
theorem dX2_putCommand_46 : decode cX2_putCommand 46 = .ok (.iload_n 3, 1) := by decide +kernel
theorem dX2_putCommand_47 : decode cX2_putCommand 47 = .ok (.sipush 128, 3) := by decide +kernel
theorem dX2_putCommand_50 : decode cX2_putCommand 50 = .ok (.iadd, 1) := by decide +kernel
theorem dX2_putCommand_51 : decode cX2_putCommand 51 = .ok (.invokevirtual 38, 3) := by decide +kernel
theorem dX2_putCommand_54 : decode cX2_putCommand 54 = .ok (.return_, 1) := by decide +kernel
theorem dX2_putByte_0 : decode cX2_putByte 0 = .ok (.aload_n 0, 1) := by decide +kernel
theorem dX2_putByte_1 : decode cX2_putByte 1 = .ok (.getfield 20, 3) := by decide +kernel
theorem dX2_putByte_4 : decode cX2_putByte 4 = .ok (.istore_n 2, 1) := by decide +kernel
theorem dX2_putByte_5 : decode cX2_putByte 5 = .ok (.iload_n 2, 1) := by decide +kernel
theorem dX2_putByte_6 : decode cX2_putByte 6 = .ok (.aload_n 0, 1) := by decide +kernel
theorem dX2_putByte_7 : decode cX2_putByte 7 = .ok (.getfield 10, 3) := by decide +kernel
theorem dX2_putByte_10 : decode cX2_putByte 10 = .ok (.arraylength, 1) := by decide +kernel
theorem dX2_putByte_11 : decode cX2_putByte 11 = .ok (.if_icmp .ge 17, 3) := by decide +kernel
theorem dX2_putByte_14 : decode cX2_putByte 14 = .ok (.aload_n 0, 1) := by decide +kernel
theorem dX2_putByte_15 : decode cX2_putByte 15 = .ok (.getfield 10, 3) := by decide +kernel
theorem dX2_putByte_18 : decode cX2_putByte 18 = .ok (.iload_n 2, 1) := by decide +kernel
theorem dX2_putByte_19 : decode cX2_putByte 19 = .ok (.iload_n 1, 1) := by decide +kernel
theorem dX2_putByte_20 : decode cX2_putByte 20 = .ok (.iastore, 1) := by decide +kernel
theorem dX2_putByte_21 : decode cX2_putByte 21 = .ok (.aload_n 0, 1) := by decide +kernel
theorem dX2_putByte_22 : decode cX2_putByte 22 = .ok (.iload_n 2, 1) := by decide +kernel
theorem dX2_putByte_23 : decode cX2_putByte 23 = .ok (.iconst 1, 1) := by decide +kernel
theorem dX2_putByte_24 : decode cX2_putByte 24 = .ok (.iadd, 1) := by decide +kernel
theorem dX2_putByte_25 : decode cX2_putByte 25 = .ok (.putfield 20, 3) := by decide +kernel
theorem dX2_putByte_28 : decode cX2_putByte 28 = .ok (.return_, 1) := by decide +kernel
theorem dX2_sumAhead_0 : decode cX2_sumAhead 0 = .ok (.iconst 0, 1) := by decide +kernel
theorem dX2_sumAhead_1 : decode cX2_sumAhead 1 = .ok (.istore_n 2, 1) := by decide +kernel
theorem dX2_sumAhead_2 : decode cX2_sumAhead 2 = .ok (.iconst 0, 1) := by decide +kernel
theorem dX2_sumAhead_3 : decode cX2_sumAhead 3 = .ok (.istore_n 3, 1) := by decide +kernel
theorem dX2_sumAhead_4 : decode cX2_sumAhead 4 = .ok (.iload_n 3, 1) := by decide +kernel
theorem dX2_sumAhead_5 : decode cX2_sumAhead 5 = .ok (.iload_n 1, 1) := by decide +kernel
theorem dX2_sumAhead_6 : decode cX2_sumAhead 6 = .ok (.if_icmp .ge 27, 3) := by decide +kernel
theorem dX2_sumAhead_9 : decode cX2_sumAhead 9 = .ok (.iload_n 3, 1) := by decide +kernel
theorem dX2_sumAhead_10 : decode cX2_sumAhead 10 = .ok (.aload_n 0, 1) := by decide +kernel
theorem dX2_sumAhead_11 : decode cX2_sumAhead 11 = .ok (.getfield 10, 3) := by decide +kernel
theorem dX2_sumAhead_14 : decode cX2_sumAhead 14 = .ok (.arraylength, 1) := by decide +kernel
theorem dX2_sumAhead_15 : decode cX2_sumAhead 15 = .ok (.if_icmp .ge 18, 3) := by decide +kernel
theorem dX2_sumAhead_18 : decode cX2_sumAhead 18 = .ok (.iload_n 2, 1) := by decide +kernel
theorem dX2_sumAhead_19 : decode cX2_sumAhead 19 = .ok (.aload_n 0, 1) := by decide +kernel
theorem dX2_sumAhead_20 : decode cX2_sumAhead 20 = .ok (.getfield 10, 3) := by decide +kernel
theorem dX2_sumAhead_23 : decode cX2_sumAhead 23 = .ok (.iload_n 3, 1) := by decide +kernel
theorem dX2_sumAhead_24 : decode cX2_sumAhead 24 = .ok (.iaload, 1) := by decide +kernel
theorem dX2_sumAhead_25 : decode cX2_sumAhead 25 = .ok (.iadd, 1) := by decide +kernel
theorem dX2_sumAhead_26 : decode cX2_sumAhead 26 = .ok (.istore_n 2, 1) := by decide +kernel
theorem dX2_sumAhead_27 : decode cX2_sumAhead 27 = .ok (.iinc 3 1, 3) := by decide +kernel
theorem dX2_sumAhead_30 : decode cX2_sumAhead 30 = .ok (.goto (-26), 3) := by decide +kernel
theorem dX2_sumAhead_33 : decode cX2_sumAhead 33 = .ok (.iload_n 2, 1) := by decide +kernel
theorem dX2_sumAhead_34 : decode cX2_sumAhead 34 = .ok (.sipush 256, 3) := by decide +kernel
theorem dX2_sumAhead_37 : decode cX2_sumAhead 37 = .ok (.irem, 1) := by decide +kernel
theorem dX2_sumAhead_38 : decode cX2_sumAhead 38 = .ok (.ireturn, 1) := by decide +kernel
theorem dX2_inspect_0 : decode cX2_inspect 0 = .ok (.aload_n 0, 1) := by decide +kernel
theorem dX2_inspect_1 : decode cX2_inspect 1 = .ok (.invokevirtual 59, 3) := by decide +kernel
theorem dX2_inspect_4 : decode cX2_inspect 4 = .ok (.istore_n 1, 1) := by decide +kernel
theorem dX2_inspect_5 : decode cX2_inspect 5 = .ok (.aload_n 0, 1) := by decide +kernel
theorem dX2_inspect_6 : decode cX2_inspect 6 = .ok (.iconst 0, 1) := by decide +kernel
theorem dX2_inspect_7 : decode cX2_inspect 7 = .ok (.putfield 62, 3) := by decide +kernel
theorem dX2_inspect_10 : decode cX2_inspect 10 = .ok (.aload_n 0, 1) := by decide +kernel
theorem dX2_inspect_11 : decode cX2_inspect 11 = .ok (.aload_n 0, 1) := by decide +kernel
theorem dX2_inspect_12 : decode cX2_inspect 12 = .ok (.getfield 20, 3) := by decide +kernel
theorem dX2_inspect_15 : decode cX2_inspect 15 = .ok (.putfield 65, 3) := by decide +kernel
theorem dX2_inspect_18 : decode cX2_inspect 18 = .ok (.iconst 0, 1) := by decide +kernel
theorem dX2_inspect_19 : decode cX2_inspect 19 = .ok (.istore_n 2, 1) := by decide +kernel
theorem dX2_inspect_20 : decode cX2_inspect 20 = .ok (.iload_n 2, 1) := by decide +kernel
theorem dX2_inspect_21 : decode cX2_inspect 21 = .ok (.aload_n 0, 1) := by decide +kernel
theorem dX2_inspect_22 : decode cX2_inspect 22 = .ok (.getfield 20, 3) := by decide +kernel
theorem dX2_inspect_25 : decode cX2_inspect 25 = .ok (.if_icmp .ge 76, 3) := by decide +kernel
theorem dX2_inspect_28 : decode cX2_inspect 28 = .ok (.iload_n 2, 1) := by decide +kernel
theorem dX2_inspect_29 : decode cX2_inspect 29 = .ok (.iload_n 1, 1) := by decide +kernel
theorem dX2_inspect_30 : decode cX2_inspect 30 = .ok (.imul, 1) := by decide +kernel
theorem dX2_inspect_31 : decode cX2_inspect 31 = .ok (.istore_n 3, 1) := by decide +kernel
theorem dX2_inspect_32 : decode cX2_inspect 32 = .ok (.aload_n 0, 1) := by decide +kernel
theorem dX2_inspect_33 : decode cX2_inspect 33 = .ok (.iload_n 3, 1) := by decide +kernel
theorem dX2_inspect_34 : decode cX2_inspect 34 = .ok (.invokevirtual 68, 3) := by decide +kernel
theorem dX2_inspect_37 : decode cX2_inspect 37 = .ok (.istore 4, 2) := by decide +kernel
theorem dX2_inspect_39 : decode cX2_inspect 39 = .ok (.iload 4, 2) := by decide +kernel
theorem dX2_inspect_41 : decode cX2_inspect 41 = .ok (.iconst (-1), 1) := by decide +kernel
theorem dX2_inspect_42 : decode cX2_inspect 42 = .ok (.if_icmp .eq 10, 3) := by decide +kernel
theorem dX2_inspect_45 : decode cX2_inspect 45 = .ok (.aload_n 0, 1) := by decide +kernel
theorem dX2_inspect_46 : decode cX2_inspect 46 = .ok (.iload 4, 2) := by decide +kernel
theorem dX2_inspect_48 : decode cX2_inspect 48 = .ok (.putfield 65, 3) := by decide +kernel
theorem dX2_inspect_51 : decode cX2_inspect 51 = .ok (.return_, 1) := by decide +kernel
theorem dX2_inspect_52 : decode cX2_inspect 52 = .ok (.aload_n 0, 1) := by decide +kernel
theorem dX2_inspect_53 : decode cX2_inspect 53 = .ok (.iload_n 3, 1) := by decide +kernel
theorem dX2_inspect_54 : decode cX2_inspect 54 = .ok (.invokevirtual 71, 3) := by decide +kernel
theorem dX2_inspect_57 : decode cX2_inspect 57 = .ok (.istore 5, 2) := by decide +kernel
theorem dX2_inspect_59 : decode cX2_inspect 59 = .ok (.iload 5, 2) := by decide +kernel
theorem dX2_inspect_61 : decode cX2_inspect 61 = .ok (.ifCond .ne 16, 3) := by decide +kernel
theorem dX2_inspect_64 : decode cX2_inspect 64 = .ok (.aload_n 0, 1) := by decide +kernel
theorem dX2_inspect_65 : decode cX2_inspect 65 = .ok (.dup, 1) := by decide +kernel
theorem dX2_inspect_66 : decode cX2_inspect 66 = .ok (.getfield 62, 3) := by decide +kernel
theorem dX2_inspect_69 : decode cX2_inspect 69 = .ok (.iconst 1, 1) := by decide +kernel
theorem dX2_inspect_70 : decode cX2_inspect 70 = .ok (.iadd, 1) := by decide +kernel
theorem dX2_inspect_71 : decode cX2_inspect 71 = .ok (.putfield 62, 3) := by decide +kernel
theorem dX2_inspect_74 : decode cX2_inspect 74 = .ok (.goto 21, 3) := by decide +kernel
theorem dX2_inspect_77 : decode cX2_inspect 77 = .ok (.iload 5, 2) := by decide +kernel
theorem dX2_inspect_79 : decode cX2_inspect 79 = .ok (.iconst 4, 1) := by decide +kernel
theorem dX2_inspect_80 : decode cX2_inspect 80 = .ok (.if_icmp .ne 15, 3) := by decide +kernel
theorem dX2_inspect_83 : decode cX2_inspect 83 = .ok (.aload_n 0, 1) := by decide +kernel
theorem dX2_inspect_84 : decode cX2_inspect 84 = .ok (.aload_n 0, 1) := by decide +kernel
theorem dX2_inspect_85 : decode cX2_inspect 85 = .ok (.iload_n 3, 1) := by decide +kernel
theorem dX2_inspect_86 : decode cX2_inspect 86 = .ok (.iload_n 1, 1) := by decide +kernel
theorem dX2_inspect_87 : decode cX2_inspect 87 = .ok (.iadd, 1) := by decide +kernel
theorem dX2_inspect_88 : decode cX2_inspect 88 = .ok (.invokevirtual 74, 3) := by decide +kernel
theorem dX2_inspect_91 : decode cX2_inspect 91 = .ok (.putfield 65, 3) := by decide +kernel
theorem dX2_inspect_94 : decode cX2_inspect 94 = .ok (.return_, 1) := by decide +kernel
theorem dX2_inspect_95 : decode cX2_inspect 95 = .ok (.iinc 2 1, 3) := by decide +kernel
theorem dX2_inspect_98 : decode cX2_inspect 98 = .ok (.goto (-78), 3) := by decide +kernel
theorem dX2_inspect_101 : decode cX2_inspect 101 = .ok (.return_, 1) := by decide +kernel
theorem dX2_wrongWithin_0 : decode cX2_wrongWithin 0 = .ok (.aload_n 0, 1) := by decide +kernel
theorem dX2_wrongWithin_1 : decode cX2_wrongWithin 1 = .ok (.iload_n 1, 1) := by decide +kernel
theorem dX2_wrongWithin_2 : decode cX2_wrongWithin 2 = .ok (.invokevirtual 71, 3) := by decide +kernel
theorem dX2_wrongWithin_5 : decode cX2_wrongWithin 5 = .ok (.istore_n 2, 1) := by decide +kernel
theorem dX2_wrongWithin_6 : decode cX2_wrongWithin 6 = .ok (.iconst 0, 1) := by decide +kernel
theorem dX2_wrongWithin_7 : decode cX2_wrongWithin 7 = .ok (.istore_n 3, 1) := by decide +kernel
theorem dX2_wrongWithin_8 : decode cX2_wrongWithin 8 = .ok (.iload_n 3, 1) := by decide +kernel
theorem dX2_wrongWithin_9 : decode cX2_wrongWithin 9 = .ok (.aload_n 0, 1) := by decide +kernel
theorem dX2_wrongWithin_10 : decode cX2_wrongWithin 10 = .ok (.invokevirtual 59, 3) := by decide +kernel
theorem dX2_wrongWithin_13 : decode cX2_wrongWithin 13 = .ok (.if_icmp .ge 67, 3) := by decide +kernel
theorem dX2_wrongWithin_16 : decode cX2_wrongWithin 16 = .ok (.iload_n 1, 1) := by decide +kernel
theorem dX2_wrongWithin_17 : decode cX2_wrongWithin 17 = .ok (.iload_n 3, 1) := by decide +kernel
theorem dX2_wrongWithin_18 : decode cX2_wrongWithin 18 = .ok (.iadd, 1) := by decide +kernel
theorem dX2_wrongWithin_19 : decode cX2_wrongWithin 19 = .ok (.istore 4, 2) := by decide +kernel
theorem dX2_wrongWithin_21 : decode cX2_wrongWithin 21 = .ok (.aload_n 0, 1) := by decide +kernel
theorem dX2_wrongWithin_22 : decode cX2_wrongWithin 22 = .ok (.iload 4, 2) := by decide +kernel
theorem dX2_wrongWithin_24 : decode cX2_wrongWithin 24 = .ok (.invokevirtual 77, 3) := by decide +kernel
theorem dX2_wrongWithin_27 : decode cX2_wrongWithin 27 = .ok (.ifCond .ne 8, 3) := by decide +kernel
theorem dX2_wrongWithin_30 : decode cX2_wrongWithin 30 = .ok (.aload_n 0, 1) := by decide +kernel
theorem dX2_wrongWithin_31 : decode cX2_wrongWithin 31 = .ok (.getfield 20, 3) := by decide +kernel
theorem dX2_wrongWithin_34 : decode cX2_wrongWithin 34 = .ok (.ireturn, 1) := by decide +kernel
theorem dX2_wrongWithin_35 : decode cX2_wrongWithin 35 = .ok (.aload_n 0, 1) := by decide +kernel
theorem dX2_wrongWithin_36 : decode cX2_wrongWithin 36 = .ok (.iload 4, 2) := by decide +kernel
theorem dX2_wrongWithin_38 : decode cX2_wrongWithin 38 = .ok (.iload_n 3, 1) := by decide +kernel
theorem dX2_wrongWithin_39 : decode cX2_wrongWithin 39 = .ok (.invokevirtual 81, 3) := by decide +kernel
theorem dX2_wrongWithin_42 : decode cX2_wrongWithin 42 = .ok (.invokestatic 84, 3) := by decide +kernel
theorem dX2_wrongWithin_45 : decode cX2_wrongWithin 45 = .ok (.istore 5, 2) := by decide +kernel
theorem dX2_wrongWithin_47 : decode cX2_wrongWithin 47 = .ok (.iload_n 2, 1) := by decide +kernel
theorem dX2_wrongWithin_48 : decode cX2_wrongWithin 48 = .ok (.iconst 4, 1) := by decide +kernel
theorem dX2_wrongWithin_49 : decode cX2_wrongWithin 49 = .ok (.if_icmp .gt 22, 3) := by decide +kernel
theorem dX2_wrongWithin_52 : decode cX2_wrongWithin 52 = .ok (.iload 5, 2) := by decide +kernel
theorem dX2_wrongWithin_54 : decode cX2_wrongWithin 54 = .ok (.aload_n 0, 1) := by decide +kernel
theorem dX2_wrongWithin_55 : decode cX2_wrongWithin 55 = .ok (.invokevirtual 48, 3) := by decide +kernel
theorem dX2_wrongWithin_58 : decode cX2_wrongWithin 58 = .ok (.if_icmp .gt 13, 3) := by decide +kernel
theorem dX2_wrongWithin_61 : decode cX2_wrongWithin 61 = .ok (.iload_n 2, 1) := by decide +kernel
theorem dX2_wrongWithin_62 : decode cX2_wrongWithin 62 = .ok (.iconst 2, 1) := by decide +kernel
theorem dX2_wrongWithin_63 : decode cX2_wrongWithin 63 = .ok (.if_icmp .lt 11, 3) := by decide +kernel
theorem dX2_wrongWithin_66 : decode cX2_wrongWithin 66 = .ok (.iload 5, 2) := by decide +kernel
theorem dX2_wrongWithin_68 : decode cX2_wrongWithin 68 = .ok (.ifCond .eq 6, 3) := by decide +kernel
theorem dX2_wrongWithin_71 : decode cX2_wrongWithin 71 = .ok (.iload 4, 2) := by decide +kernel
theorem dX2_wrongWithin_73 : decode cX2_wrongWithin 73 = .ok (.ireturn, 1) := by decide +kernel
theorem dX2_wrongWithin_74 : decode cX2_wrongWithin 74 = .ok (.iinc 3 1, 3) := by decide +kernel
theorem dX2_wrongWithin_77 : decode cX2_wrongWithin 77 = .ok (.goto (-69), 3) := by decide +kernel
theorem dX2_wrongWithin_80 : decode cX2_wrongWithin 80 = .ok (.iconst (-1), 1) := by decide +kernel
theorem dX2_wrongWithin_81 : decode cX2_wrongWithin 81 = .ok (.ireturn, 1) := by decide +kernel
theorem dX2_kindAt_0 : decode cX2_kindAt 0 = .ok (.aload_n 0, 1) := by decide +kernel
theorem dX2_kindAt_1 : decode cX2_kindAt 1 = .ok (.iload_n 1, 1) := by decide +kernel
theorem dX2_kindAt_2 : decode cX2_kindAt 2 = .ok (.invokevirtual 77, 3) := by decide +kernel
theorem dX2_kindAt_5 : decode cX2_kindAt 5 = .ok (.ifCond .ne 5, 3) := by decide +kernel
theorem dX2_kindAt_8 : decode cX2_kindAt 8 = .ok (.iconst 4, 1) := by decide +kernel
theorem dX2_kindAt_9 : decode cX2_kindAt 9 = .ok (.ireturn, 1) := by decide +kernel
theorem dX2_kindAt_10 : decode cX2_kindAt 10 = .ok (.aload_n 0, 1) := by decide +kernel
theorem dX2_kindAt_11 : decode cX2_kindAt 11 = .ok (.getfield 16, 3) := by decide +kernel
theorem dX2_kindAt_14 : decode cX2_kindAt 14 = .ok (.ifCond .ne 15, 3) := by decide +kernel
theorem dX2_kindAt_17 : decode cX2_kindAt 17 = .ok (.aload_n 0, 1) := by decide +kernel
theorem dX2_kindAt_18 : decode cX2_kindAt 18 = .ok (.getfield 10, 3) := by decide +kernel
theorem dX2_kindAt_21 : decode cX2_kindAt 21 = .ok (.iload_n 1, 1) := by decide +kernel
theorem dX2_kindAt_22 : decode cX2_kindAt 22 = .ok (.iaload, 1) := by decide +kernel
theorem dX2_kindAt_23 : decode cX2_kindAt 23 = .ok (.bipush 32, 2) := by decide +kernel
theorem dX2_kindAt_25 : decode cX2_kindAt 25 = .ok (.idiv, 1) := by decide +kernel
theorem dX2_kindAt_26 : decode cX2_kindAt 26 = .ok (.goto 9, 3) := by decide +kernel
theorem dX2_kindAt_29 : decode cX2_kindAt 29 = .ok (.aload_n 0, 1) := by decide +kernel
theorem dX2_kindAt_30 : decode cX2_kindAt 30 = .ok (.getfield 10, 3) := by decide +kernel
theorem dX2_kindAt_33 : decode cX2_kindAt 33 = .ok (.iload_n 1, 1) := by decide +kernel
theorem dX2_kindAt_34 : decode cX2_kindAt 34 = .ok (.iaload, 1) := by decide +kernel
theorem dX2_kindAt_35 : decode cX2_kindAt 35 = .ok (.ireturn, 1) := by decide +kernel
theorem dX2_differenceAt_0 : decode cX2_differenceAt 0 = .ok (.aload_n 0, 1) := by decide +kernel
theorem dX2_differenceAt_1 : decode cX2_differenceAt 1 = .ok (.iload_n 1, 1) := by decide +kernel
theorem dX2_differenceAt_2 : decode cX2_differenceAt 2 = .ok (.invokevirtual 77, 3) := by decide +kernel
theorem dX2_differenceAt_5 : decode cX2_differenceAt 5 = .ok (.ifCond .ne 5, 3) := by decide +kernel
theorem dX2_differenceAt_8 : decode cX2_differenceAt 8 = .ok (.iconst 0, 1) := by decide +kernel
theorem dX2_differenceAt_9 : decode cX2_differenceAt 9 = .ok (.ireturn, 1) := by decide +kernel
theorem dX2_differenceAt_10 : decode cX2_differenceAt 10 = .ok (.aload_n 0, 1) := by decide +kernel
theorem dX2_differenceAt_11 : decode cX2_differenceAt 11 = .ok (.getfield 16, 3) := by decide +kernel
theorem dX2_differenceAt_14 : decode cX2_differenceAt 14 = .ok (.ifCond .ne 32, 3) := by decide +kernel
theorem dX2_differenceAt_17 : decode cX2_differenceAt 17 = .ok (.iload_n 2, 1) := by decide +kernel
theorem dX2_differenceAt_18 : decode cX2_differenceAt 18 = .ok (.ifCond .ne 18, 3) := by decide +kernel
theorem dX2_differenceAt_21 : decode cX2_differenceAt 21 = .ok (.aload_n 0, 1) := by decide +kernel
theorem dX2_differenceAt_22 : decode cX2_differenceAt 22 = .ok (.getfield 10, 3) := by decide +kernel
theorem dX2_differenceAt_25 : decode cX2_differenceAt 25 = .ok (.iload_n 1, 1) := by decide +kernel
theorem dX2_differenceAt_26 : decode cX2_differenceAt 26 = .ok (.iaload, 1) := by decide +kernel
theorem dX2_differenceAt_27 : decode cX2_differenceAt 27 = .ok (.bipush 32, 2) := by decide +kernel
theorem dX2_differenceAt_29 : decode cX2_differenceAt 29 = .ok (.irem, 1) := by decide +kernel
theorem dX2_differenceAt_30 : decode cX2_differenceAt 30 = .ok (.bipush 16, 2) := by decide +kernel
theorem dX2_differenceAt_32 : decode cX2_differenceAt 32 = .ok (.isub, 1) := by decide +kernel
theorem dX2_differenceAt_33 : decode cX2_differenceAt 33 = .ok (.goto 12, 3) := by decide +kernel
theorem dX2_differenceAt_36 : decode cX2_differenceAt 36 = .ok (.aload_n 0, 1) := by decide +kernel
theorem dX2_differenceAt_37 : decode cX2_differenceAt 37 = .ok (.getfield 10, 3) := by decide +kernel
theorem dX2_differenceAt_40 : decode cX2_differenceAt 40 = .ok (.iload_n 1, 1) := by decide +kernel
theorem dX2_differenceAt_41 : decode cX2_differenceAt 41 = .ok (.iaload, 1) := by decide +kernel
theorem dX2_differenceAt_42 : decode cX2_differenceAt 42 = .ok (.bipush 16, 2) := by decide +kernel
theorem dX2_differenceAt_44 : decode cX2_differenceAt 44 = .ok (.isub, 1) := by decide +kernel
theorem dX2_differenceAt_45 : decode cX2_differenceAt 45 = .ok (.ireturn, 1) := by decide +kernel
theorem dX2_differenceAt_46 : decode cX2_differenceAt 46 = .ok (.iload_n 2, 1) := by decide +kernel
theorem dX2_differenceAt_47 : decode cX2_differenceAt 47 = .ok (.ifCond .ne 7, 3) := by decide +kernel
theorem dX2_differenceAt_50 : decode cX2_differenceAt 50 = .ok (.iconst 0, 1) := by decide +kernel
theorem dX2_differenceAt_51 : decode cX2_differenceAt 51 = .ok (.goto 13, 3) := by decide +kernel
theorem dX2_differenceAt_54 : decode cX2_differenceAt 54 = .ok (.aload_n 0, 1) := by decide +kernel
theorem dX2_differenceAt_55 : decode cX2_differenceAt 55 = .ok (.getfield 10, 3) := by decide +kernel
theorem dX2_differenceAt_58 : decode cX2_differenceAt 58 = .ok (.iload_n 1, 1) := by decide +kernel
theorem dX2_differenceAt_59 : decode cX2_differenceAt 59 = .ok (.iaload, 1) := by decide +kernel
theorem dX2_differenceAt_60 : decode cX2_differenceAt 60 = .ok (.sipush 128, 3) := by decide +kernel
theorem dX2_differenceAt_63 : decode cX2_differenceAt 63 = .ok (.isub, 1) := by decide +kernel
theorem dX2_differenceAt_64 : decode cX2_differenceAt 64 = .ok (.ireturn, 1) := by decide +kernel
theorem dX2_wrongBehindEnd_0 : decode cX2_wrongBehindEnd 0 = .ok (.aload_n 0, 1) := by decide +kernel
theorem dX2_wrongBehindEnd_1 : decode cX2_wrongBehindEnd 1 = .ok (.iload_n 1, 1) := by decide +kernel
theorem dX2_wrongBehindEnd_2 : decode cX2_wrongBehindEnd 2 = .ok (.invokevirtual 77, 3) := by decide +kernel
theorem dX2_wrongBehindEnd_5 : decode cX2_wrongBehindEnd 5 = .ok (.ifCond .ne 8, 3) := by decide +kernel
theorem dX2_wrongBehindEnd_8 : decode cX2_wrongBehindEnd 8 = .ok (.aload_n 0, 1) := by decide +kernel
theorem dX2_wrongBehindEnd_9 : decode cX2_wrongBehindEnd 9 = .ok (.getfield 20, 3) := by decide +kernel
theorem dX2_wrongBehindEnd_12 : decode cX2_wrongBehindEnd 12 = .ok (.ireturn, 1) := by decide +kernel
theorem dX2_wrongBehindEnd_13 : decode cX2_wrongBehindEnd 13 = .ok (.aload_n 0, 1) := by decide +kernel
theorem dX2_wrongBehindEnd_14 : decode cX2_wrongBehindEnd 14 = .ok (.getfield 10, 3) := by decide +kernel
theorem dX2_wrongBehindEnd_17 : decode cX2_wrongBehindEnd 17 = .ok (.iload_n 1, 1) := by decide +kernel
theorem dX2_wrongBehindEnd_18 : decode cX2_wrongBehindEnd 18 = .ok (.iaload, 1) := by decide +kernel
theorem dX2_wrongBehindEnd_19 : decode cX2_wrongBehindEnd 19 = .ok (.aload_n 0, 1) := by decide +kernel
theorem dX2_wrongBehindEnd_20 : decode cX2_wrongBehindEnd 20 = .ok (.iload_n 1, 1) := by decide +kernel
theorem dX2_wrongBehindEnd_21 : decode cX2_wrongBehindEnd 21 = .ok (.invokevirtual 34, 3) := by decide +kernel
theorem dX2_wrongBehindEnd_24 : decode cX2_wrongBehindEnd 24 = .ok (.if_icmp .eq 5, 3) := by decide +kernel
theorem dX2_wrongBehindEnd_27 : decode cX2_wrongBehindEnd 27 = .ok (.iload_n 1, 1) := by decide +kernel
theorem dX2_wrongBehindEnd_28 : decode cX2_wrongBehindEnd 28 = .ok (.ireturn, 1) := by decide +kernel
theorem dX2_wrongBehindEnd_29 : decode cX2_wrongBehindEnd 29 = .ok (.iload_n 1, 1) := by decide +kernel
theorem dX2_wrongBehindEnd_30 : decode cX2_wrongBehindEnd 30 = .ok (.iconst 1, 1) := by decide +kernel
theorem dX2_wrongBehindEnd_31 : decode cX2_wrongBehindEnd 31 = .ok (.iadd, 1) := by decide +kernel
theorem dX2_wrongBehindEnd_32 : decode cX2_wrongBehindEnd 32 = .ok (.aload_n 0, 1) := by decide +kernel
theorem dX2_wrongBehindEnd_33 : decode cX2_wrongBehindEnd 33 = .ok (.getfield 20, 3) := by decide +kernel
theorem dX2_wrongBehindEnd_36 : decode cX2_wrongBehindEnd 36 = .ok (.if_icmp .ge 9, 3) := by decide +kernel
theorem dX2_wrongBehindEnd_39 : decode cX2_wrongBehindEnd 39 = .ok (.iload_n 1, 1) := by decide +kernel
theorem dX2_wrongBehindEnd_40 : decode cX2_wrongBehindEnd 40 = .ok (.iconst 1, 1) := by decide +kernel
theorem dX2_wrongBehindEnd_41 : decode cX2_wrongBehindEnd 41 = .ok (.iadd, 1) := by decide +kernel
theorem dX2_wrongBehindEnd_42 : decode cX2_wrongBehindEnd 42 = .ok (.goto 4, 3) := by decide +kernel
theorem dX2_wrongBehindEnd_45 : decode cX2_wrongBehindEnd 45 = .ok (.iconst (-1), 1) := by decide +kernel
theorem dX2_wrongBehindEnd_46 : decode cX2_wrongBehindEnd 46 = .ok (.ireturn, 1) := by decide +kernel
theorem dX3_init_0 : decode cX3_init 0 = .ok (.aload_n 0, 1) := by decide +kernel
theorem dX3_init_1 : decode cX3_init 1 = .ok (.invokespecial 3, 3) := by decide +kernel
theorem dX3_init_4 : decode cX3_init 4 = .ok (.aload_n 0, 1) := by decide +kernel
theorem dX3_init_5 : decode cX3_init 5 = .ok (.sipush 16641, 3) := by decide +kernel
theorem dX3_init_8 : decode cX3_init 8 = .ok (.newarray .int, 2) := by decide +kernel
theorem dX3_init_10 : decode cX3_init 10 = .ok (.putfield 9, 3) := by decide +kernel
theorem dX3_init_13 : decode cX3_init 13 = .ok (.aload_n 0, 1) := by decide +kernel
theorem dX3_init_14 : decode cX3_init 14 = .ok (.sipush 16641, 3) := by decide +kernel
theorem dX3_init_17 : decode cX3_init 17 = .ok (.newarray .int, 2) := by decide +kernel
theorem dX3_init_19 : decode cX3_init 19 = .ok (.putfield 15, 3) := by decide +kernel
theorem dX3_init_22 : decode cX3_init 22 = .ok (.aload_n 0, 1) := by decide +kernel
theorem dX3_init_23 : decode cX3_init 23 = .ok (.sipush 16641, 3) := by decide +kernel
theorem dX3_init_26 : decode cX3_init 26 = .ok (.newarray .int, 2) := by decide +kernel
theorem dX3_init_28 : decode cX3_init 28 = .ok (.putfield 18, 3) := by decide +kernel
theorem dX3_init_31 : decode cX3_init 31 = .ok (.aload_n 0, 1) := by decide +kernel
theorem dX3_init_32 : decode cX3_init 32 = .ok (.sipush 16641, 3) := by decide +kernel
theorem dX3_init_35 : decode cX3_init 35 = .ok (.newarray .int, 2) := by decide +kernel
theorem dX3_init_37 : decode cX3_init 37 = .ok (.putfield 21, 3) := by decide +kernel
theorem dX3_init_40 : decode cX3_init 40 = .ok (.aload_n 0, 1) := by decide +kernel
theorem dX3_init_41 : decode cX3_init 41 = .ok (.iconst 5, 1) := by decide +kernel
theorem dX3_init_42 : decode cX3_init 42 = .ok (.newarray .int, 2) := by decide +kernel
theorem dX3_init_44 : decode cX3_init 44 = .ok (.putfield 24, 3) := by decide +kernel
theorem dX3_init_47 : decode cX3_init 47 = .ok (.aload_n 0, 1) := by decide +kernel
theorem dX3_init_48 : decode cX3_init 48 = .ok (.bipush 6, 2) := by decide +kernel
theorem dX3_init_50 : decode cX3_init 50 = .ok (.newarray .int, 2) := by decide +kernel
theorem dX3_init_52 : decode cX3_init 52 = .ok (.putfield 27, 3) := by decide +kernel
theorem dX3_init_55 : decode cX3_init 55 = .ok (.aload_n 0, 1) := by decide +kernel
theorem dX3_init_56 : decode cX3_init 56 = .ok (.iconst (-1), 1) := by decide +kernel
theorem dX3_init_57 : decode cX3_init 57 = .ok (.putfield 30, 3) := by decide +kernel
theorem dX3_init_60 : decode cX3_init 60 = .ok (.return_, 1) := by decide +kernel
theorem dX3_begin_0 : decode cX3_begin 0 = .ok (.aload_n 0, 1) := by decide +kernel
theorem dX3_begin_1 : decode cX3_begin 1 = .ok (.iconst 0, 1) := by decide +kernel
theorem dX3_begin_2 : decode cX3_begin 2 = .ok (.putfield 34, 3) := by decide +kernel
theorem dX3_begin_5 : decode cX3_begin 5 = .ok (.aload_n 0, 1) := by decide +kernel
theorem dX3_begin_6 : decode cX3_begin 6 = .ok (.fconst 0, 1) := by decide +kernel
theorem dX3_begin_7 : decode cX3_begin 7 = .ok (.putfield 37, 3) := by decide +kernel
theorem dX3_begin_10 : decode cX3_begin 10 = .ok (.aload_n 0, 1) := by decide +kernel
theorem dX3_begin_11 : decode cX3_begin 11 = .ok (.iconst 0, 1) := by decide +kernel
theorem dX3_begin_12 : decode cX3_begin 12 = .ok (.putfield 41, 3) := by decide +kernel
theorem dX3_begin_15 : decode cX3_begin 15 = .ok (.aload_n 0, 1) := by decide +kernel
theorem dX3_begin_16 : decode cX3_begin 16 = .ok (.iconst 0, 1) := by decide +kernel
theorem dX3_begin_17 : decode cX3_begin 17 = .ok (.putfield 44, 3) := by decide +kernel
theorem dX3_begin_20 : decode cX3_begin 20 = .ok (.aload_n 0, 1) := by decide +kernel
theorem dX3_begin_21 : decode cX3_begin 21 = .ok (.iconst (-1), 1) := by decide +kernel
theorem dX3_begin_22 : decode cX3_begin 22 = .ok (.putfield 30, 3) := by decide +kernel
theorem dX3_begin_25 : decode cX3_begin 25 = .ok (.iconst 0, 1) := by decide +kernel
theorem dX3_begin_26 : decode cX3_begin 26 = .ok (.istore_n 1, 1) := by decide +kernel
theorem dX3_begin_27 : decode cX3_begin 27 = .ok (.iload_n 1, 1) := by decide +kernel
theorem dX3_begin_28 : decode cX3_begin 28 = .ok (.aload_n 0, 1) := by decide +kernel
theorem dX3_begin_29 : decode cX3_begin 29 = .ok (.getfield 24, 3) := by decide +kernel
theorem dX3_begin_32 : decode cX3_begin 32 = .ok (.arraylength, 1) := by decide +kernel
theorem dX3_begin_33 : decode cX3_begin 33 = .ok (.if_icmp .ge 16, 3) := by decide +kernel
theorem dX3_begin_36 : decode cX3_begin 36 = .ok (.aload_n 0, 1) := by decide +kernel
theorem dX3_begin_37 : decode cX3_begin 37 = .ok (.getfield 24, 3) := by decide +kernel
theorem dX3_begin_40 : decode cX3_begin 40 = .ok (.iload_n 1, 1) := by decide +kernel
theorem dX3_begin_41 : decode cX3_begin 41 = .ok (.iconst 0, 1) := by decide +kernel
theorem dX3_begin_42 : decode cX3_begin 42 = .ok (.iastore, 1) := by decide +kernel
theorem dX3_begin_43 : decode cX3_begin 43 = .ok (.iinc 1 1, 3) := by decide +kernel
theorem dX3_begin_46 : decode cX3_begin 46 = .ok (.goto (-19), 3) := by decide +kernel
theorem dX3_begin_49 : decode cX3_begin 49 = .ok (.iconst 0, 1) := by decide +kernel
theorem dX3_begin_50 : decode cX3_begin 50 = .ok (.istore_n 1, 1) := by decide +kernel
theorem dX3_begin_51 : decode cX3_begin 51 = .ok (.iload_n 1, 1) := by decide +kernel
theorem dX3_begin_52 : decode cX3_begin 52 = .ok (.aload_n 0, 1) := by decide +kernel
theorem dX3_begin_53 : decode cX3_begin 53 = .ok (.getfield 27, 3) := by decide +kernel
theorem dX3_begin_56 : decode cX3_begin 56 = .ok (.arraylength, 1) := by decide +kernel
theorem dX3_begin_57 : decode cX3_begin 57 = .ok (.if_icmp .ge 16, 3) := by decide +kernel
theorem dX3_begin_60 : decode cX3_begin 60 = .ok (.aload_n 0, 1) := by decide +kernel
theorem dX3_begin_61 : decode cX3_begin 61 = .ok (.getfield 27, 3) := by decide +kernel
theorem dX3_begin_64 : decode cX3_begin 64 = .ok (.iload_n 1, 1) := by decide +kernel
theorem dX3_begin_65 : decode cX3_begin 65 = .ok (.iconst 0, 1) := by decide +kernel
theorem dX3_begin_66 : decode cX3_begin 66 = .ok (.iastore, 1) := by decide +kernel
theorem dX3_begin_67 : decode cX3_begin 67 = .ok (.iinc 1 1, 3) := by decide +kernel
theorem dX3_begin_70 : decode cX3_begin 70 = .ok (.goto (-19), 3) := by decide +kernel
theorem dX3_begin_73 : decode cX3_begin 73 = .ok (.return_, 1) := by decide +kernel
theorem dX3_squareToFirst_0 : decode cX3_squareToFirst 0 = .ok (.aload_n 1, 1) := by decide +kernel
theorem dX3_squareToFirst_1 : decode cX3_squareToFirst 1 = .ok (.invokevirtual 47, 3) := by decide +kernel
theorem dX3_squareToFirst_4 : decode cX3_squareToFirst 4 = .ok (.aload_n 0, 1) := by decide +kernel
theorem dX3_squareToFirst_5 : decode cX3_squareToFirst 5 = .ok (.getfield 41, 3) := by decide +kernel
theorem dX3_squareToFirst_8 : decode cX3_squareToFirst 8 = .ok (.isub, 1) := by decide +kernel
theorem dX3_squareToFirst_9 : decode cX3_squareToFirst 9 = .ok (.istore_n 2, 1) := by decide +kernel
theorem dX3_squareToFirst_10 : decode cX3_squareToFirst 10 = .ok (.aload_n 1, 1) := by decide +kernel
theorem dX3_squareToFirst_11 : decode cX3_squareToFirst 11 = .ok (.invokevirtual 53, 3) := by decide +kernel
theorem dX3_squareToFirst_14 : decode cX3_squareToFirst 14 = .ok (.aload_n 0, 1) := by decide +kernel
theorem dX3_squareToFirst_15 : decode cX3_squareToFirst 15 = .ok (.getfield 44, 3) := by decide +kernel
theorem dX3_squareToFirst_18 : decode cX3_squareToFirst 18 = .ok (.isub, 1) := by decide +kernel
theorem dX3_squareToFirst_19 : decode cX3_squareToFirst 19 = .ok (.istore_n 3, 1) := by decide +kernel
theorem dX3_squareToFirst_20 : decode cX3_squareToFirst 20 = .ok (.iload_n 2, 1) := by decide +kernel
theorem dX3_squareToFirst_21 : decode cX3_squareToFirst 21 = .ok (.iload_n 2, 1) := by decide +kernel
theorem dX3_squareToFirst_22 : decode cX3_squareToFirst 22 = .ok (.imul, 1) := by decide +kernel
theorem dX3_squareToFirst_23 : decode cX3_squareToFirst 23 = .ok (.iload_n 3, 1) := by decide +kernel
theorem dX3_squareToFirst_24 : decode cX3_squareToFirst 24 = .ok (.iload_n 3, 1) := by decide +kernel
theorem dX3_squareToFirst_25 : decode cX3_squareToFirst 25 = .ok (.imul, 1) := by decide +kernel
theorem dX3_squareToFirst_26 : decode cX3_squareToFirst 26 = .ok (.iadd, 1) := by decide +kernel
theorem dX3_squareToFirst_27 : decode cX3_squareToFirst 27 = .ok (.ireturn, 1) := by decide +kernel
theorem dX3_sewField_0 : decode cX3_sewField 0 = .ok (.aload_n 1, 1) := by decide +kernel
theorem dX3_sewField_1 : decode cX3_sewField 1 = .ok (.getfield 56, 3) := by decide +kernel
theorem dX3_sewField_4 : decode cX3_sewField 4 = .ok (.astore 4, 2) := by decide +kernel
theorem dX3_sewField_6 : decode cX3_sewField 6 = .ok (.aload_n 0, 1) := by decide +kernel
theorem dX3_sewField_7 : decode cX3_sewField 7 = .ok (.getfield 30, 3) := by decide +kernel
theorem dX3_sewField_10 : decode cX3_sewField 10 = .ok (.iconst (-1), 1) := by decide +kernel
theorem dX3_sewField_11 : decode cX3_sewField 11 = .ok (.if_icmp .eq 22, 3) := by decide +kernel
theorem dX3_sewField_14 : decode cX3_sewField 14 = .ok (.aload_n 0, 1) := by decide +kernel
theorem dX3_sewField_15 : decode cX3_sewField 15 = .ok (.getfield 30, 3) := by decide +kernel
theorem dX3_sewField_18 : decode cX3_sewField 18 = .ok (.aload_n 1, 1) := by decide +kernel
theorem dX3_sewField_19 : decode cX3_sewField 19 = .ok (.getfield 62, 3) := by decide +kernel
theorem dX3_sewField_22 : decode cX3_sewField 22 = .ok (.if_icmp .eq 11, 3) := by decide +kernel
theorem dX3_sewField_25 : decode cX3_sewField 25 = .ok (.aload_n 0, 1) := by decide +kernel
theorem dX3_sewField_26 : decode cX3_sewField 26 = .ok (.iconst 3, 1) := by decide +kernel
theorem dX3_sewField_27 : decode cX3_sewField 27 = .ok (.iconst 0, 1) := by decide +kernel
theorem dX3_sewField_28 : decode cX3_sewField 28 = .ok (.iconst 0, 1) := by decide +kernel
theorem dX3_sewField_29 : decode cX3_sewField 29 = .ok (.iconst (-1), 1) := by decide +kernel
theorem dX3_sewField_30 : decode cX3_sewField 30 = .ok (.invokevirtual 63, 3) := by decide +kernel
theorem dX3_sewField_33 : decode cX3_sewField 33 = .ok (.aload_n 0, 1) := by decide +kernel
theorem dX3_sewField_34 : decode cX3_sewField 34 = .ok (.aload_n 1, 1) := by decide +kernel
theorem dX3_sewField_35 : decode cX3_sewField 35 = .ok (.getfield 62, 3) := by decide +kernel
theorem dX3_sewField_38 : decode cX3_sewField 38 = .ok (.putfield 30, 3) := by decide +kernel
theorem dX3_sewField_41 : decode cX3_sewField 41 = .ok (.aload_n 0, 1) := by decide +kernel
theorem dX3_sewField_42 : decode cX3_sewField 42 = .ok (.aload 4, 2) := by decide +kernel
theorem dX3_sewField_44 : decode cX3_sewField 44 = .ok (.invokevirtual 67, 3) := by decide +kernel
theorem dX3_sewField_47 : decode cX3_sewField 47 = .ok (.iload_n 3, 1) := by decide +kernel
theorem dX3_sewField_48 : decode cX3_sewField 48 = .ok (.iload_n 3, 1) := by decide +kernel
theorem dX3_sewField_49 : decode cX3_sewField 49 = .ok (.imul, 1) := by decide +kernel
theorem dX3_sewField_50 : decode cX3_sewField 50 = .ok (.if_icmp .le 11, 3) := by decide +kernel
theorem dX3_sewField_53 : decode cX3_sewField 53 = .ok (.aload_n 0, 1) := by decide +kernel
theorem dX3_sewField_54 : decode cX3_sewField 54 = .ok (.iconst 2, 1) := by decide +kernel
theorem dX3_sewField_55 : decode cX3_sewField 55 = .ok (.iconst 0, 1) := by decide +kernel
theorem dX3_sewField_56 : decode cX3_sewField 56 = .ok (.iconst 0, 1) := by decide +kernel
theorem dX3_sewField_57 : decode cX3_sewField 57 = .ok (.iconst (-1), 1) := by decide +kernel
theorem dX3_sewField_58 : decode cX3_sewField 58 = .ok (.invokevirtual 63, 3) := by decide +kernel
theorem dX3_sewField_61 : decode cX3_sewField 61 = .ok (.aload_n 0, 1) := by decide +kernel
theorem dX3_sewField_62 : decode cX3_sewField 62 = .ok (.aload 4, 2) := by decide +kernel
theorem dX3_sewField_64 : decode cX3_sewField 64 = .ok (.invokevirtual 47, 3) := by decide +kernel
theorem dX3_sewField_67 : decode cX3_sewField 67 = .ok (.aload 4, 2) := by decide +kernel
theorem dX3_sewField_69 : decode cX3_sewField 69 = .ok (.invokevirtual 53, 3) := by decide +kernel
theorem dX3_sewField_72 : decode cX3_sewField 72 = .ok (.iload_n 2, 1) := by decide +kernel
theorem dX3_sewField_73 : decode cX3_sewField 73 = .ok (.iconst 0, 1) := by decide +kernel
theorem dX3_sewField_74 : decode cX3_sewField 74 = .ok (.invokevirtual 71, 3) := by decide +kernel
theorem dX3_sewField_77 : decode cX3_sewField 77 = .ok (.iconst 1, 1) := by decide +kernel
theorem dX3_sewField_78 : decode cX3_sewField 78 = .ok (.istore 5, 2) := by decide +kernel
theorem dX3_sewField_80 : decode cX3_sewField 80 = .ok (.iload 5, 2) := by decide +kernel
theorem dX3_sewField_82 : decode cX3_sewField 82 = .ok (.aload 4, 2) := by decide +kernel
theorem dX3_sewField_84 : decode cX3_sewField 84 = .ok (.getfield 75, 3) := by decide +kernel
theorem dX3_sewField_87 : decode cX3_sewField 87 = .ok (.if_icmp .ge 53, 3) := by decide +kernel
theorem dX3_sewField_90 : decode cX3_sewField 90 = .ok (.iload 5, 2) := by decide +kernel
theorem dX3_sewField_92 : decode cX3_sewField 92 = .ok (.aload 4, 2) := by decide +kernel
theorem dX3_sewField_94 : decode cX3_sewField 94 = .ok (.getfield 76, 3) := by decide +kernel
theorem dX3_sewField_97 : decode cX3_sewField 97 = .ok (.arraylength, 1) := by decide +kernel
theorem dX3_sewField_98 : decode cX3_sewField 98 = .ok (.if_icmp .ge 42, 3) := by decide +kernel
theorem dX3_sewField_101 : decode cX3_sewField 101 = .ok (.iload 5, 2) := by decide +kernel
theorem dX3_sewField_103 : decode cX3_sewField 103 = .ok (.aload 4, 2) := by decide +kernel
theorem dX3_sewField_105 : decode cX3_sewField 105 = .ok (.getfield 79, 3) := by decide +kernel
theorem dX3_sewField_108 : decode cX3_sewField 108 = .ok (.arraylength, 1) := by decide +kernel
theorem dX3_sewField_109 : decode cX3_sewField 109 = .ok (.if_icmp .ge 31, 3) := by decide +kernel
theorem dX3_sewField_112 : decode cX3_sewField 112 = .ok (.aload_n 0, 1) := by decide +kernel
theorem dX3_sewField_113 : decode cX3_sewField 113 = .ok (.aload 4, 2) := by decide +kernel
theorem dX3_sewField_115 : decode cX3_sewField 115 = .ok (.getfield 76, 3) := by decide +kernel
theorem dX3_sewField_118 : decode cX3_sewField 118 = .ok (.iload 5, 2) := by decide +kernel
theorem dX3_sewField_120 : decode cX3_sewField 120 = .ok (.iaload, 1) := by decide +kernel
theorem dX3_sewField_121 : decode cX3_sewField 121 = .ok (.aload 4, 2) := by decide +kernel
theorem dX3_sewField_123 : decode cX3_sewField 123 = .ok (.getfield 79, 3) := by decide +kernel
theorem dX3_sewField_126 : decode cX3_sewField 126 = .ok (.iload 5, 2) := by decide +kernel
theorem dX3_sewField_128 : decode cX3_sewField 128 = .ok (.iaload, 1) := by decide +kernel
theorem dX3_sewField_129 : decode cX3_sewField 129 = .ok (.iload_n 2, 1) := by decide +kernel
theorem dX3_sewField_130 : decode cX3_sewField 130 = .ok (.iconst 1, 1) := by decide +kernel
theorem dX3_sewField_131 : decode cX3_sewField 131 = .ok (.invokevirtual 71, 3) := by decide +kernel
theorem dX3_sewField_134 : decode cX3_sewField 134 = .ok (.iinc 5 1, 3) := by decide +kernel
theorem dX3_sewField_137 : decode cX3_sewField 137 = .ok (.goto (-57), 3) := by decide +kernel
theorem dX3_sewField_140 : decode cX3_sewField 140 = .ok (.return_, 1) := by decide +kernel
theorem dX3_goTo_0 : decode cX3_goTo 0 = .ok (.iload_n 1, 1) := by decide +kernel
theorem dX3_goTo_1 : decode cX3_goTo 1 = .ok (.aload_n 0, 1) := by decide +kernel
theorem dX3_goTo_2 : decode cX3_goTo 2 = .ok (.getfield 41, 3) := by decide +kernel
theorem dX3_goTo_5 : decode cX3_goTo 5 = .ok (.isub, 1) := by decide +kernel
theorem dX3_goTo_6 : decode cX3_goTo 6 = .ok (.istore 5, 2) := by decide +kernel
theorem dX3_goTo_8 : decode cX3_goTo 8 = .ok (.iload_n 2, 1) := by decide +kernel
theorem dX3_goTo_9 : decode cX3_goTo 9 = .ok (.aload_n 0, 1) := by decide +kernel
theorem dX3_goTo_10 : decode cX3_goTo 10 = .ok (.getfield 44, 3) := by decide +kernel
theorem dX3_goTo_13 : decode cX3_goTo 13 = .ok (.isub, 1) := by decide +kernel
theorem dX3_goTo_14 : decode cX3_goTo 14 = .ok (.istore 6, 2) := by decide +kernel
theorem dX3_goTo_16 : decode cX3_goTo 16 = .ok (.iload 5, 2) := by decide +kernel
theorem dX3_goTo_18 : decode cX3_goTo 18 = .ok (.iload 6, 2) := by decide +kernel
theorem dX3_goTo_20 : decode cX3_goTo 20 = .ok (.invokestatic 82, 3) := by decide +kernel
theorem dX3_goTo_23 : decode cX3_goTo 23 = .ok (.istore 7, 2) := by decide +kernel
theorem dX3_goTo_25 : decode cX3_goTo 25 = .ok (.iload 7, 2) := by decide +kernel
theorem dX3_goTo_27 : decode cX3_goTo 27 = .ok (.ifCond .eq 33, 3) := by decide +kernel
theorem dX3_goTo_30 : decode cX3_goTo 30 = .ok (.iload 4, 2) := by decide +kernel
theorem dX3_goTo_32 : decode cX3_goTo 32 = .ok (.ifCond .eq 14, 3) := by decide +kernel
theorem dX3_goTo_35 : decode cX3_goTo 35 = .ok (.iload 7, 2) := by decide +kernel
theorem dX3_goTo_37 : decode cX3_goTo 37 = .ok (.bipush 12, 2) := by decide +kernel
theorem dX3_goTo_39 : decode cX3_goTo 39 = .ok (.if_icmp .gt 7, 3) := by decide +kernel
theorem dX3_goTo_42 : decode cX3_goTo 42 = .ok (.iconst 0, 1) := by decide +kernel
theorem dX3_goTo_43 : decode cX3_goTo 43 = .ok (.goto 4, 3) := by decide +kernel
theorem dX3_goTo_46 : decode cX3_goTo 46 = .ok (.iconst 1, 1) := by decide +kernel
theorem dX3_goTo_47 : decode cX3_goTo 47 = .ok (.istore 8, 2) := by decide +kernel
theorem dX3_goTo_49 : decode cX3_goTo 49 = .ok (.aload_n 0, 1) := by decide +kernel
theorem dX3_goTo_50 : decode cX3_goTo 50 = .ok (.iload 8, 2) := by decide +kernel
theorem dX3_goTo_52 : decode cX3_goTo 52 = .ok (.iload 5, 2) := by decide +kernel
theorem dX3_goTo_54 : decode cX3_goTo 54 = .ok (.iload 6, 2) := by decide +kernel
theorem dX3_goTo_56 : decode cX3_goTo 56 = .ok (.iload_n 3, 1) := by decide +kernel
theorem dX3_goTo_57 : decode cX3_goTo 57 = .ok (.invokevirtual 63, 3) := by decide +kernel
theorem dX3_goTo_60 : decode cX3_goTo 60 = .ok (.aload_n 0, 1) := by decide +kernel
theorem dX3_goTo_61 : decode cX3_goTo 61 = .ok (.iload_n 1, 1) := by decide +kernel
theorem dX3_goTo_62 : decode cX3_goTo 62 = .ok (.putfield 41, 3) := by decide +kernel
theorem dX3_goTo_65 : decode cX3_goTo 65 = .ok (.aload_n 0, 1) := by decide +kernel
theorem dX3_goTo_66 : decode cX3_goTo 66 = .ok (.iload_n 2, 1) := by decide +kernel
theorem dX3_goTo_67 : decode cX3_goTo 67 = .ok (.putfield 44, 3) := by decide +kernel
theorem dX3_goTo_70 : decode cX3_goTo 70 = .ok (.return_, 1) := by decide +kernel
theorem dX3_put_0 : decode cX3_put 0 = .ok (.aload_n 0, 1) := by decide +kernel
theorem dX3_put_1 : decode cX3_put 1 = .ok (.getfield 34, 3) := by decide +kernel
theorem dX3_put_4 : decode cX3_put 4 = .ok (.istore 5, 2) := by decide +kernel
theorem dX3_put_6 : decode cX3_put 6 = .ok (.iload 5, 2) := by decide +kernel
theorem dX3_put_8 : decode cX3_put 8 = .ok (.aload_n 0, 1) := by decide +kernel
theorem dX3_put_9 : decode cX3_put 9 = .ok (.getfield 9, 3) := by decide +kernel
theorem dX3_put_12 : decode cX3_put 12 = .ok (.arraylength, 1) := by decide +kernel
theorem dX3_put_13 : decode cX3_put 13 = .ok (.if_icmp .ge 46, 3) := by decide +kernel
theorem dX3_put_16 : decode cX3_put 16 = .ok (.iload 5, 2) := by decide +kernel
theorem dX3_put_18 : decode cX3_put 18 = .ok (.aload_n 0, 1) := by decide +kernel
theorem dX3_put_19 : decode cX3_put 19 = .ok (.getfield 15, 3) := by decide +kernel
theorem dX3_put_22 : decode cX3_put 22 = .ok (.arraylength, 1) := by decide +kernel
theorem dX3_put_23 : decode cX3_put 23 = .ok (.if_icmp .ge 36, 3) := by decide +kernel
theorem dX3_put_26 : decode cX3_put 26 = .ok (.iload 5, 2) := by decide +kernel
theorem dX3_put_28 : decode cX3_put 28 = .ok (.aload_n 0, 1) := by decide +kernel
theorem dX3_put_29 : decode cX3_put 29 = .ok (.getfield 18, 3) := by decide +kernel
theorem dX3_put_32 : decode cX3_put 32 = .ok (.arraylength, 1) := by decide +kernel
theorem dX3_put_33 : decode cX3_put 33 = .ok (.if_icmp .ge 26, 3) := by decide +kernel
theorem dX3_put_36 : decode cX3_put 36 = .ok (.iload 5, 2) := by decide +kernel
theorem dX3_put_38 : decode cX3_put 38 = .ok (.aload_n 0, 1) := by decide +kernel
theorem dX3_put_39 : decode cX3_put 39 = .ok (.getfield 21, 3) := by decide +kernel
theorem dX3_put_42 : decode cX3_put 42 = .ok (.arraylength, 1) := by decide +kernel
theorem dX3_put_43 : decode cX3_put 43 = .ok (.if_icmp .ge 16, 3) := by decide +kernel
theorem dX3_put_46 : decode cX3_put 46 = .ok (.iload_n 1, 1) := by decide +kernel
theorem dX3_put_47 : decode cX3_put 47 = .ok (.ifCond .lt 12, 3) := by decide +kernel
theorem dX3_put_50 : decode cX3_put 50 = .ok (.iload_n 1, 1) := by decide +kernel
theorem dX3_put_51 : decode cX3_put 51 = .ok (.aload_n 0, 1) := by decide +kernel
theorem dX3_put_52 : decode cX3_put 52 = .ok (.getfield 24, 3) := by decide +kernel
theorem dX3_put_55 : decode cX3_put 55 = .ok (.arraylength, 1) := by decide +kernel
theorem dX3_put_56 : decode cX3_put 56 = .ok (.if_icmp .lt 4, 3) := by decide +kernel
theorem dX3_put_59 : decode cX3_put 59 = .ok (.return_, 1) := by decide +kernel
theorem dX3_put_60 : decode cX3_put 60 = .ok (.aload_n 0, 1) := by decide +kernel
theorem dX3_put_61 : decode cX3_put 61 = .ok (.getfield 9, 3) := by decide +kernel
theorem dX3_put_64 : decode cX3_put 64 = .ok (.iload 5, 2) := by decide +kernel
theorem dX3_put_66 : decode cX3_put 66 = .ok (.iload_n 1, 1) := by decide +kernel
theorem dX3_put_67 : decode cX3_put 67 = .ok (.iastore, 1) := by decide +kernel
theorem dX3_put_68 : decode cX3_put 68 = .ok (.aload_n 0, 1) := by decide +kernel
theorem dX3_put_69 : decode cX3_put 69 = .ok (.getfield 15, 3) := by decide +kernel
theorem dX3_put_72 : decode cX3_put 72 = .ok (.iload 5, 2) := by decide +kernel
theorem dX3_put_74 : decode cX3_put 74 = .ok (.iload_n 2, 1) := by decide +kernel
theorem dX3_put_75 : decode cX3_put 75 = .ok (.iastore, 1) := by decide +kernel
theorem dX3_put_76 : decode cX3_put 76 = .ok (.aload_n 0, 1) := by decide +kernel
theorem dX3_put_77 : decode cX3_put 77 = .ok (.getfield 18, 3) := by decide +kernel
theorem dX3_put_80 : decode cX3_put 80 = .ok (.iload 5, 2) := by decide +kernel
theorem dX3_put_82 : decode cX3_put 82 = .ok (.iload_n 3, 1) := by decide +kernel
theorem dX3_put_83 : decode cX3_put 83 = .ok (.iastore, 1) := by decide +kernel
theorem dX3_put_84 : decode cX3_put 84 = .ok (.aload_n 0, 1) := by decide +kernel
theorem dX3_put_85 : decode cX3_put 85 = .ok (.getfield 21, 3) := by decide +kernel
theorem dX3_put_88 : decode cX3_put 88 = .ok (.iload 5, 2) := by decide +kernel
theorem dX3_put_90 : decode cX3_put 90 = .ok (.iload 4, 2) := by decide +kernel
theorem dX3_put_92 : decode cX3_put 92 = .ok (.iastore, 1) := by decide +kernel
theorem dX3_put_93 : decode cX3_put 93 = .ok (.aload_n 0, 1) := by decide +kernel
theorem dX3_put_94 : decode cX3_put 94 = .ok (.iload 5, 2) := by decide +kernel
theorem dX3_put_96 : decode cX3_put 96 = .ok (.iconst 1, 1) := by decide +kernel
theorem dX3_put_97 : decode cX3_put 97 = .ok (.iadd, 1) := by decide +kernel
theorem dX3_put_98 : decode cX3_put 98 = .ok (.putfield 34, 3) := by decide +kernel
theorem dX3_put_101 : decode cX3_put 101 = .ok (.aload_n 0, 1) := by decide +kernel
theorem dX3_put_102 : decode cX3_put 102 = .ok (.getfield 24, 3) := by decide +kernel
theorem dX3_put_105 : decode cX3_put 105 = .ok (.iload_n 1, 1) := by decide +kernel
theorem dX3_put_106 : decode cX3_put 106 = .ok (.dup2, 1) := by decide +kernel
theorem dX3_put_107 : decode cX3_put 107 = .ok (.iaload, 1) := by decide +kernel
theorem dX3_put_108 : decode cX3_put 108 = .ok (.iconst 1, 1) := by decide +kernel
theorem dX3_put_109 : decode cX3_put 109 = .ok (.iadd, 1) := by decide +kernel
theorem dX3_put_110 : decode cX3_put 110 = .ok (.iastore, 1) := by decide +kernel
theorem dX3_put_111 : decode cX3_put 111 = .ok (.aload_n 0, 1) := by decide +kernel
theorem dX3_put_112 : decode cX3_put 112 = .ok (.dup, 1) := by decide +kernel
theorem dX3_put_113 : decode cX3_put 113 = .ok (.getfield 37, 3) := by decide +kernel
theorem dX3_put_116 : decode cX3_put 116 = .ok (.iload_n 1, 1) := by decide +kernel
theorem dX3_put_117 : decode cX3_put 117 = .ok (.iload_n 2, 1) := by decide +kernel
theorem dX3_put_118 : decode cX3_put 118 = .ok (.iload_n 3, 1) := by decide +kernel
theorem dX3_put_119 : decode cX3_put 119 = .ok (.invokestatic 82, 3) := by decide +kernel
theorem dX3_put_122 : decode cX3_put 122 = .ok (.invokestatic 86, 3) := by decide +kernel
theorem dX3_put_125 : decode cX3_put 125 = .ok (.fadd, 1) := by decide +kernel
theorem dX3_put_126 : decode cX3_put 126 = .ok (.putfield 37, 3) := by decide +kernel
theorem dX3_put_129 : decode cX3_put 129 = .ok (.iload_n 1, 1) := by decide +kernel
theorem dX3_put_130 : decode cX3_put 130 = .ok (.ifCond .ne 51, 3) := by decide +kernel
theorem dX3_put_133 : decode cX3_put 133 = .ok (.aload_n 0, 1) := by decide +kernel
theorem dX3_put_134 : decode cX3_put 134 = .ok (.getfield 30, 3) := by decide +kernel
theorem dX3_put_137 : decode cX3_put 137 = .ok (.ifCond .lt 44, 3) := by decide +kernel
theorem dX3_put_140 : decode cX3_put 140 = .ok (.aload_n 0, 1) := by decide +kernel
theorem dX3_put_141 : decode cX3_put 141 = .ok (.getfield 30, 3) := by decide +kernel
theorem dX3_put_144 : decode cX3_put 144 = .ok (.aload_n 0, 1) := by decide +kernel
theorem dX3_put_145 : decode cX3_put 145 = .ok (.getfield 27, 3) := by decide +kernel
theorem dX3_put_148 : decode cX3_put 148 = .ok (.arraylength, 1) := by decide +kernel
theorem dX3_put_149 : decode cX3_put 149 = .ok (.if_icmp .ge 32, 3) := by decide +kernel
theorem dX3_put_152 : decode cX3_put 152 = .ok (.iload_n 2, 1) := by decide +kernel
theorem dX3_put_153 : decode cX3_put 153 = .ok (.iload_n 2, 1) := by decide +kernel
theorem dX3_put_154 : decode cX3_put 154 = .ok (.imul, 1) := by decide +kernel
theorem dX3_put_155 : decode cX3_put 155 = .ok (.iload_n 3, 1) := by decide +kernel
theorem dX3_put_156 : decode cX3_put 156 = .ok (.iload_n 3, 1) := by decide +kernel
theorem dX3_put_157 : decode cX3_put 157 = .ok (.imul, 1) := by decide +kernel
theorem dX3_put_158 : decode cX3_put 158 = .ok (.iadd, 1) := by decide +kernel
theorem dX3_put_159 : decode cX3_put 159 = .ok (.istore 6, 2) := by decide +kernel
theorem dX3_put_161 : decode cX3_put 161 = .ok (.aload_n 0, 1) := by decide +kernel
theorem dX3_put_162 : decode cX3_put 162 = .ok (.getfield 27, 3) := by decide +kernel
theorem dX3_put_165 : decode cX3_put 165 = .ok (.aload_n 0, 1) := by decide +kernel
theorem dX3_put_166 : decode cX3_put 166 = .ok (.getfield 30, 3) := by decide +kernel
theorem dX3_put_169 : decode cX3_put 169 = .ok (.dup2, 1) := by decide +kernel
theorem dX3_put_170 : decode cX3_put 170 = .ok (.iaload, 1) := by decide +kernel
theorem dX3_put_171 : decode cX3_put 171 = .ok (.bipush 100, 2) := by decide +kernel
theorem dX3_put_173 : decode cX3_put 173 = .ok (.iload 6, 2) := by decide +kernel
theorem dX3_put_175 : decode cX3_put 175 = .ok (.imul, 1) := by decide +kernel
theorem dX3_put_176 : decode cX3_put 176 = .ok (.invokestatic 90, 3) := by decide +kernel
theorem dX3_put_179 : decode cX3_put 179 = .ok (.iadd, 1) := by decide +kernel
theorem dX3_put_180 : decode cX3_put 180 = .ok (.iastore, 1) := by decide +kernel
theorem dX3_put_181 : decode cX3_put 181 = .ok (.return_, 1) := by decide +kernel
theorem dX3_secondsOf_0 : decode cX3_secondsOf 0 = .ok (.iload_n 0, 1) := by decide +kernel
theorem dX3_secondsOf_1 : decode cX3_secondsOf 1 = .ok (.tableswitch 53 0 3 #[31, 44, 47, 50], 31) := by decide +kernel
theorem dX3_secondsOf_32 : decode cX3_secondsOf 32 = .ok (.iload_n 1, 1) := by decide +kernel
theorem dX3_secondsOf_33 : decode cX3_secondsOf 33 = .ok (.iconst 4, 1) := by decide +kernel
theorem dX3_secondsOf_34 : decode cX3_secondsOf 34 = .ok (.if_icmp .gt 8, 3) := by decide +kernel
theorem dX3_secondsOf_37 : decode cX3_secondsOf 37 = .ok (.ldc 94, 2) := by decide +kernel
theorem dX3_secondsOf_39 : decode cX3_secondsOf 39 = .ok (.goto 5, 3) := by decide +kernel
theorem dX3_secondsOf_42 : decode cX3_secondsOf 42 = .ok (.ldc 95, 2) := by decide +kernel
theorem dX3_secondsOf_44 : decode cX3_secondsOf 44 = .ok (.freturn, 1) := by decide +kernel
theorem dX3_secondsOf_45 : decode cX3_secondsOf 45 = .ok (.ldc 96, 2) := by decide +kernel
theorem dX3_secondsOf_47 : decode cX3_secondsOf 47 = .ok (.freturn, 1) := by decide +kernel
theorem dX3_secondsOf_48 : decode cX3_secondsOf 48 = .ok (.ldc 97, 2) := by decide +kernel
theorem dX3_secondsOf_50 : decode cX3_secondsOf 50 = .ok (.freturn, 1) := by decide +kernel
theorem dX3_secondsOf_51 : decode cX3_secondsOf 51 = .ok (.ldc 98, 2) := by decide +kernel
theorem dX3_secondsOf_53 : decode cX3_secondsOf 53 = .ok (.freturn, 1) := by decide +kernel
theorem dX3_secondsOf_54 : decode cX3_secondsOf 54 = .ok (.fconst 0, 1) := by decide +kernel
theorem dX3_secondsOf_55 : decode cX3_secondsOf 55 = .ok (.freturn, 1) := by decide +kernel
theorem dX3_told_0 : decode cX3_told 0 = .ok (.iload_n 1, 1) := by decide +kernel
theorem dX3_told_1 : decode cX3_told 1 = .ok (.ifCond .lt 39, 3) := by decide +kernel
theorem dX3_told_4 : decode cX3_told 4 = .ok (.iload_n 1, 1) := by decide +kernel
theorem dX3_told_5 : decode cX3_told 5 = .ok (.aload_n 0, 1) := by decide +kernel
theorem dX3_told_6 : decode cX3_told 6 = .ok (.getfield 9, 3) := by decide +kernel
theorem dX3_told_9 : decode cX3_told 9 = .ok (.arraylength, 1) := by decide +kernel
theorem dX3_told_10 : decode cX3_told 10 = .ok (.if_icmp .ge 30, 3) := by decide +kernel
theorem dX3_told_13 : decode cX3_told 13 = .ok (.iload_n 1, 1) := by decide +kernel
theorem dX3_told_14 : decode cX3_told 14 = .ok (.aload_n 0, 1) := by decide +kernel
theorem dX3_told_15 : decode cX3_told 15 = .ok (.getfield 15, 3) := by decide +kernel
theorem dX3_told_18 : decode cX3_told 18 = .ok (.arraylength, 1) := by decide +kernel
theorem dX3_told_19 : decode cX3_told 19 = .ok (.if_icmp .ge 21, 3) := by decide +kernel
theorem dX3_told_22 : decode cX3_told 22 = .ok (.iload_n 1, 1) := by decide +kernel
theorem dX3_told_23 : decode cX3_told 23 = .ok (.aload_n 0, 1) := by decide +kernel
theorem dX3_told_24 : decode cX3_told 24 = .ok (.getfield 18, 3) := by decide +kernel
theorem dX3_told_27 : decode cX3_told 27 = .ok (.arraylength, 1) := by decide +kernel
theorem dX3_told_28 : decode cX3_told 28 = .ok (.if_icmp .ge 12, 3) := by decide +kernel
theorem dX3_told_31 : decode cX3_told 31 = .ok (.iload_n 1, 1) := by decide +kernel
theorem dX3_told_32 : decode cX3_told 32 = .ok (.aload_n 0, 1) := by decide +kernel
theorem dX3_told_33 : decode cX3_told 33 = .ok (.getfield 21, 3) := by decide +kernel
theorem dX3_told_36 : decode cX3_told 36 = .ok (.arraylength, 1) := by decide +kernel
theorem dX3_told_37 : decode cX3_told 37 = .ok (.if_icmp .lt 5, 3) := by decide +kernel
theorem dX3_told_40 : decode cX3_told 40 = .ok (.iconst (-1), 1) := by decide +kernel
theorem dX3_told_41 : decode cX3_told 41 = .ok (.ireturn, 1) := by decide +kernel
theorem dX3_told_42 : decode cX3_told 42 = .ok (.iload_n 2, 1) := by decide +kernel
theorem dX3_told_43 : decode cX3_told 43 = .ok (.tableswitch 46 0 2 #[25, 32, 39], 25) := by decide +kernel
theorem dX3_told_68 : decode cX3_told 68 = .ok (.aload_n 0, 1) := by decide +kernel
theorem dX3_told_69 : decode cX3_told 69 = .ok (.getfield 9, 3) := by decide +kernel
theorem dX3_told_72 : decode cX3_told 72 = .ok (.iload_n 1, 1) := by decide +kernel
theorem dX3_told_73 : decode cX3_told 73 = .ok (.iaload, 1) := by decide +kernel
theorem dX3_told_74 : decode cX3_told 74 = .ok (.ireturn, 1) := by decide +kernel
theorem dX3_told_75 : decode cX3_told 75 = .ok (.aload_n 0, 1) := by decide +kernel
theorem dX3_told_76 : decode cX3_told 76 = .ok (.getfield 15, 3) := by decide +kernel
theorem dX3_told_79 : decode cX3_told 79 = .ok (.iload_n 1, 1) := by decide +kernel
theorem dX3_told_80 : decode cX3_told 80 = .ok (.iaload, 1) := by decide +kernel
theorem dX3_told_81 : decode cX3_told 81 = .ok (.ireturn, 1) := by decide +kernel
theorem dX3_told_82 : decode cX3_told 82 = .ok (.aload_n 0, 1) := by decide +kernel
theorem dX3_told_83 : decode cX3_told 83 = .ok (.getfield 18, 3) := by decide +kernel
theorem dX3_told_86 : decode cX3_told 86 = .ok (.iload_n 1, 1) := by decide +kernel
theorem dX3_told_87 : decode cX3_told 87 = .ok (.iaload, 1) := by decide +kernel
theorem dX3_told_88 : decode cX3_told 88 = .ok (.ireturn, 1) := by decide +kernel
theorem dX3_told_89 : decode cX3_told 89 = .ok (.aload_n 0, 1) := by decide +kernel
theorem dX3_told_90 : decode cX3_told 90 = .ok (.getfield 21, 3) := by decide +kernel
theorem dX3_told_93 : decode cX3_told 93 = .ok (.iload_n 1, 1) := by decide +kernel
theorem dX3_told_94 : decode cX3_told 94 = .ok (.iaload, 1) := by decide +kernel
theorem dX3_told_95 : decode cX3_told 95 = .ok (.ireturn, 1) := by decide +kernel
theorem dX4_init_0 : decode cX4_init 0 = .ok (.aload_n 0, 1) := by decide +kernel
theorem dX4_init_1 : decode cX4_init 1 = .ok (.invokespecial 3, 3) := by decide +kernel
theorem dX4_init_4 : decode cX4_init 4 = .ok (.aload_n 0, 1) := by decide +kernel
theorem dX4_init_5 : decode cX4_init 5 = .ok (.sipush 2078, 3) := by decide +kernel
theorem dX4_init_8 : decode cX4_init 8 = .ok (.newarray .int, 2) := by decide +kernel
theorem dX4_init_10 : decode cX4_init 10 = .ok (.putfield 9, 3) := by decide +kernel
theorem dX4_init_13 : decode cX4_init 13 = .ok (.aload_n 0, 1) := by decide +kernel
theorem dX4_init_14 : decode cX4_init 14 = .ok (.sipush 2078, 3) := by decide +kernel
theorem dX4_init_17 : decode cX4_init 17 = .ok (.newarray .int, 2) := by decide +kernel
theorem dX4_init_19 : decode cX4_init 19 = .ok (.putfield 15, 3) := by decide +kernel
theorem dX4_init_22 : decode cX4_init 22 = .ok (.return_, 1) := by decide +kernel
theorem dX4_put_0 : decode cX4_put 0 = .ok (.aload_n 0, 1) := by decide +kernel
theorem dX4_put_1 : decode cX4_put 1 = .ok (.getfield 18, 3) := by decide +kernel
theorem dX4_put_4 : decode cX4_put 4 = .ok (.istore_n 3, 1) := by decide +kernel
theorem dX4_put_5 : decode cX4_put 5 = .ok (.iload_n 3, 1) := by decide +kernel
theorem dX4_put_6 : decode cX4_put 6 = .ok (.aload_n 0, 1) := by decide +kernel
theorem dX4_put_7 : decode cX4_put 7 = .ok (.getfield 9, 3) := by decide +kernel
theorem dX4_put_10 : decode cX4_put 10 = .ok (.arraylength, 1) := by decide +kernel
theorem dX4_put_11 : decode cX4_put 11 = .ok (.if_icmp .ge 33, 3) := by decide +kernel
theorem dX4_put_14 : decode cX4_put 14 = .ok (.iload_n 3, 1) := by decide +kernel
theorem dX4_put_15 : decode cX4_put 15 = .ok (.aload_n 0, 1) := by decide +kernel
theorem dX4_put_16 : decode cX4_put 16 = .ok (.getfield 15, 3) := by decide +kernel
theorem dX4_put_19 : decode cX4_put 19 = .ok (.arraylength, 1) := by decide +kernel
theorem dX4_put_20 : decode cX4_put 20 = .ok (.if_icmp .ge 24, 3) := by decide +kernel
theorem dX4_put_23 : decode cX4_put 23 = .ok (.aload_n 0, 1) := by decide +kernel
theorem dX4_put_24 : decode cX4_put 24 = .ok (.getfield 9, 3) := by decide +kernel
theorem dX4_put_27 : decode cX4_put 27 = .ok (.iload_n 3, 1) := by decide +kernel
theorem dX4_put_28 : decode cX4_put 28 = .ok (.iload_n 1, 1) := by decide +kernel
theorem dX4_put_29 : decode cX4_put 29 = .ok (.iastore, 1) := by decide +kernel
theorem dX4_put_30 : decode cX4_put 30 = .ok (.aload_n 0, 1) := by decide +kernel
theorem dX4_put_31 : decode cX4_put 31 = .ok (.getfield 15, 3) := by decide +kernel
theorem dX4_put_34 : decode cX4_put 34 = .ok (.iload_n 3, 1) := by decide +kernel
theorem dX4_put_35 : decode cX4_put 35 = .ok (.iload_n 2, 1) := by decide +kernel
theorem dX4_put_36 : decode cX4_put 36 = .ok (.iastore, 1) := by decide +kernel
theorem dX4_put_37 : decode cX4_put 37 = .ok (.aload_n 0, 1) := by decide +kernel
theorem dX4_put_38 : decode cX4_put 38 = .ok (.iload_n 3, 1) := by decide +kernel
theorem dX4_put_39 : decode cX4_put 39 = .ok (.iconst 1, 1) := by decide +kernel
theorem dX4_put_40 : decode cX4_put 40 = .ok (.iadd, 1) := by decide +kernel
theorem dX4_put_41 : decode cX4_put 41 = .ok (.putfield 18, 3) := by decide +kernel
theorem dX4_put_44 : decode cX4_put 44 = .ok (.return_, 1) := by decide +kernel
theorem dX4_firstX_0 : decode cX4_firstX 0 = .ok (.aload_n 0, 1) := by decide +kernel
theorem dX4_firstX_1 : decode cX4_firstX 1 = .ok (.getfield 18, 3) := by decide +kernel
theorem dX4_firstX_4 : decode cX4_firstX 4 = .ok (.ifCond .le 12, 3) := by decide +kernel
theorem dX4_firstX_7 : decode cX4_firstX 7 = .ok (.aload_n 0, 1) := by decide +kernel
theorem dX4_firstX_8 : decode cX4_firstX 8 = .ok (.getfield 9, 3) := by decide +kernel
theorem dX4_firstX_11 : decode cX4_firstX 11 = .ok (.iconst 0, 1) := by decide +kernel
theorem dX4_firstX_12 : decode cX4_firstX 12 = .ok (.iaload, 1) := by decide +kernel
theorem dX4_firstX_13 : decode cX4_firstX 13 = .ok (.goto 4, 3) := by decide +kernel
theorem dX4_firstX_16 : decode cX4_firstX 16 = .ok (.iconst 0, 1) := by decide +kernel
theorem dX4_firstX_17 : decode cX4_firstX 17 = .ok (.ireturn, 1) := by decide +kernel
theorem dX4_firstY_0 : decode cX4_firstY 0 = .ok (.aload_n 0, 1) := by decide +kernel
theorem dX4_firstY_1 : decode cX4_firstY 1 = .ok (.getfield 18, 3) := by decide +kernel
theorem dX4_firstY_4 : decode cX4_firstY 4 = .ok (.ifCond .le 12, 3) := by decide +kernel
theorem dX4_firstY_7 : decode cX4_firstY 7 = .ok (.aload_n 0, 1) := by decide +kernel
theorem dX4_firstY_8 : decode cX4_firstY 8 = .ok (.getfield 15, 3) := by decide +kernel
theorem dX4_firstY_11 : decode cX4_firstY 11 = .ok (.iconst 0, 1) := by decide +kernel
theorem dX4_firstY_12 : decode cX4_firstY 12 = .ok (.iaload, 1) := by decide +kernel
theorem dX4_firstY_13 : decode cX4_firstY 13 = .ok (.goto 4, 3) := by decide +kernel
theorem dX4_firstY_16 : decode cX4_firstY 16 = .ok (.iconst 0, 1) := by decide +kernel
theorem dX4_firstY_17 : decode cX4_firstY 17 = .ok (.ireturn, 1) := by decide +kernel
theorem dX5_init_0 : decode cX5_init 0 = .ok (.aload_n 0, 1) := by decide +kernel
theorem dX5_init_1 : decode cX5_init 1 = .ok (.invokespecial 3, 3) := by decide +kernel
theorem dX5_init_4 : decode cX5_init 4 = .ok (.aload_n 0, 1) := by decide +kernel
theorem dX5_init_5 : decode cX5_init 5 = .ok (.sipush 1024, 3) := by decide +kernel
theorem dX5_init_8 : decode cX5_init 8 = .ok (.newarray .boolean, 2) := by decide +kernel
theorem dX5_init_10 : decode cX5_init 10 = .ok (.putfield 9, 3) := by decide +kernel
theorem dX5_init_13 : decode cX5_init 13 = .ok (.return_, 1) := by decide +kernel
theorem dX5_walk_0 : decode cX5_walk 0 = .ok (.aload_n 0, 1) := by decide +kernel
theorem dX5_walk_1 : decode cX5_walk 1 = .ok (.iconst 0, 1) := by decide +kernel
theorem dX5_walk_2 : decode cX5_walk 2 = .ok (.putfield 15, 3) := by decide +kernel
theorem dX5_walk_5 : decode cX5_walk 5 = .ok (.iconst 0, 1) := by decide +kernel
theorem dX5_walk_6 : decode cX5_walk 6 = .ok (.istore_n 2, 1) := by decide +kernel
theorem dX5_walk_7 : decode cX5_walk 7 = .ok (.iload_n 2, 1) := by decide +kernel
theorem dX5_walk_8 : decode cX5_walk 8 = .ok (.aload_n 0, 1) := by decide +kernel
theorem dX5_walk_9 : decode cX5_walk 9 = .ok (.getfield 9, 3) := by decide +kernel
theorem dX5_walk_12 : decode cX5_walk 12 = .ok (.arraylength, 1) := by decide +kernel
theorem dX5_walk_13 : decode cX5_walk 13 = .ok (.if_icmp .ge 16, 3) := by decide +kernel
theorem dX5_walk_16 : decode cX5_walk 16 = .ok (.aload_n 0, 1) := by decide +kernel
theorem dX5_walk_17 : decode cX5_walk 17 = .ok (.getfield 9, 3) := by decide +kernel
theorem dX5_walk_20 : decode cX5_walk 20 = .ok (.iload_n 2, 1) := by decide +kernel
theorem dX5_walk_21 : decode cX5_walk 21 = .ok (.iconst 0, 1) := by decide +kernel
theorem dX5_walk_22 : decode cX5_walk 22 = .ok (.bastore, 1) := by decide +kernel
theorem dX5_walk_23 : decode cX5_walk 23 = .ok (.iinc 2 1, 3) := by decide +kernel
theorem dX5_walk_26 : decode cX5_walk 26 = .ok (.goto (-19), 3) := by decide +kernel
theorem dX5_walk_29 : decode cX5_walk 29 = .ok (.iconst 1, 1) := by decide +kernel
theorem dX5_walk_30 : decode cX5_walk 30 = .ok (.istore_n 2, 1) := by decide +kernel
theorem dX5_walk_31 : decode cX5_walk 31 = .ok (.iload_n 2, 1) := by decide +kernel
theorem dX5_walk_32 : decode cX5_walk 32 = .ok (.aload_n 1, 1) := by decide +kernel
theorem dX5_walk_33 : decode cX5_walk 33 = .ok (.getfield 19, 3) := by decide +kernel
theorem dX5_walk_36 : decode cX5_walk 36 = .ok (.if_icmp .ge 59, 3) := by decide +kernel
theorem dX5_walk_39 : decode cX5_walk 39 = .ok (.iload_n 2, 1) := by decide +kernel
theorem dX5_walk_40 : decode cX5_walk 40 = .ok (.aload_n 1, 1) := by decide +kernel
theorem dX5_walk_41 : decode cX5_walk 41 = .ok (.getfield 24, 3) := by decide +kernel
theorem dX5_walk_44 : decode cX5_walk 44 = .ok (.arraylength, 1) := by decide +kernel
theorem dX5_walk_45 : decode cX5_walk 45 = .ok (.if_icmp .ge 50, 3) := by decide +kernel
theorem dX5_walk_48 : decode cX5_walk 48 = .ok (.iload_n 2, 1) := by decide +kernel
theorem dX5_walk_49 : decode cX5_walk 49 = .ok (.aload_n 1, 1) := by decide +kernel
theorem dX5_walk_50 : decode cX5_walk 50 = .ok (.getfield 28, 3) := by decide +kernel
theorem dX5_walk_53 : decode cX5_walk 53 = .ok (.arraylength, 1) := by decide +kernel
theorem dX5_walk_54 : decode cX5_walk 54 = .ok (.if_icmp .ge 41, 3) := by decide +kernel
theorem dX5_walk_57 : decode cX5_walk 57 = .ok (.aload_n 0, 1) := by decide +kernel
theorem dX5_walk_58 : decode cX5_walk 58 = .ok (.aload_n 1, 1) := by decide +kernel
theorem dX5_walk_59 : decode cX5_walk 59 = .ok (.getfield 24, 3) := by decide +kernel
theorem dX5_walk_62 : decode cX5_walk 62 = .ok (.iload_n 2, 1) := by decide +kernel
theorem dX5_walk_63 : decode cX5_walk 63 = .ok (.iconst 1, 1) := by decide +kernel
theorem dX5_walk_64 : decode cX5_walk 64 = .ok (.isub, 1) := by decide +kernel
theorem dX5_walk_65 : decode cX5_walk 65 = .ok (.iaload, 1) := by decide +kernel
theorem dX5_walk_66 : decode cX5_walk 66 = .ok (.aload_n 1, 1) := by decide +kernel
theorem dX5_walk_67 : decode cX5_walk 67 = .ok (.getfield 28, 3) := by decide +kernel
theorem dX5_walk_70 : decode cX5_walk 70 = .ok (.iload_n 2, 1) := by decide +kernel
theorem dX5_walk_71 : decode cX5_walk 71 = .ok (.iconst 1, 1) := by decide +kernel
theorem dX5_walk_72 : decode cX5_walk 72 = .ok (.isub, 1) := by decide +kernel
theorem dX5_walk_73 : decode cX5_walk 73 = .ok (.iaload, 1) := by decide +kernel
theorem dX5_walk_74 : decode cX5_walk 74 = .ok (.aload_n 1, 1) := by decide +kernel
theorem dX5_walk_75 : decode cX5_walk 75 = .ok (.getfield 24, 3) := by decide +kernel
theorem dX5_walk_78 : decode cX5_walk 78 = .ok (.iload_n 2, 1) := by decide +kernel
theorem dX5_walk_79 : decode cX5_walk 79 = .ok (.iaload, 1) := by decide +kernel
theorem dX5_walk_80 : decode cX5_walk 80 = .ok (.aload_n 1, 1) := by decide +kernel
theorem dX5_walk_81 : decode cX5_walk 81 = .ok (.getfield 28, 3) := by decide +kernel
theorem dX5_walk_84 : decode cX5_walk 84 = .ok (.iload_n 2, 1) := by decide +kernel
theorem dX5_walk_85 : decode cX5_walk 85 = .ok (.iaload, 1) := by decide +kernel
theorem dX5_walk_86 : decode cX5_walk 86 = .ok (.invokevirtual 31, 3) := by decide +kernel
theorem dX5_walk_89 : decode cX5_walk 89 = .ok (.iinc 2 1, 3) := by decide +kernel
theorem dX5_walk_92 : decode cX5_walk 92 = .ok (.goto (-61), 3) := by decide +kernel
theorem dX5_walk_95 : decode cX5_walk 95 = .ok (.return_, 1) := by decide +kernel
theorem dX5_walkTo_0 : decode cX5_walkTo 0 = .ok (.iload_n 3, 1) := by decide +kernel
theorem dX5_walkTo_1 : decode cX5_walkTo 1 = .ok (.iload_n 1, 1) := by decide +kernel
theorem dX5_walkTo_2 : decode cX5_walkTo 2 = .ok (.isub, 1) := by decide +kernel
theorem dX5_walkTo_3 : decode cX5_walkTo 3 = .ok (.iload 4, 2) := by decide +kernel
theorem dX5_walkTo_5 : decode cX5_walkTo 5 = .ok (.iload_n 2, 1) := by decide +kernel
theorem dX5_walkTo_6 : decode cX5_walkTo 6 = .ok (.isub, 1) := by decide +kernel
theorem dX5_walkTo_7 : decode cX5_walkTo 7 = .ok (.invokestatic 35, 3) := by decide +kernel
theorem dX5_walkTo_10 : decode cX5_walkTo 10 = .ok (.istore 5, 2) := by decide +kernel
theorem dX5_walkTo_12 : decode cX5_walkTo 12 = .ok (.iload 5, 2) := by decide +kernel
theorem dX5_walkTo_14 : decode cX5_walkTo 14 = .ok (.ifCond .eq 10, 3) := by decide +kernel
theorem dX5_walkTo_17 : decode cX5_walkTo 17 = .ok (.iload 5, 2) := by decide +kernel
theorem dX5_walkTo_19 : decode cX5_walkTo 19 = .ok (.bipush 12, 2) := by decide +kernel
theorem dX5_walkTo_21 : decode cX5_walkTo 21 = .ok (.if_icmp .le 4, 3) := by decide +kernel
theorem dX5_walkTo_24 : decode cX5_walkTo 24 = .ok (.return_, 1) := by decide +kernel
theorem dX5_walkTo_25 : decode cX5_walkTo 25 = .ok (.iconst 0, 1) := by decide +kernel
theorem dX5_walkTo_26 : decode cX5_walkTo 26 = .ok (.istore 6, 2) := by decide +kernel
theorem dX5_walkTo_28 : decode cX5_walkTo 28 = .ok (.iload 6, 2) := by decide +kernel
theorem dX5_walkTo_30 : decode cX5_walkTo 30 = .ok (.iload 5, 2) := by decide +kernel
theorem dX5_walkTo_32 : decode cX5_walkTo 32 = .ok (.if_icmp .gt 32, 3) := by decide +kernel
theorem dX5_walkTo_35 : decode cX5_walkTo 35 = .ok (.aload_n 0, 1) := by decide +kernel
theorem dX5_walkTo_36 : decode cX5_walkTo 36 = .ok (.iload_n 1, 1) := by decide +kernel
theorem dX5_walkTo_37 : decode cX5_walkTo 37 = .ok (.iload_n 3, 1) := by decide +kernel
theorem dX5_walkTo_38 : decode cX5_walkTo 38 = .ok (.iload 6, 2) := by decide +kernel
theorem dX5_walkTo_40 : decode cX5_walkTo 40 = .ok (.iload 5, 2) := by decide +kernel
theorem dX5_walkTo_42 : decode cX5_walkTo 42 = .ok (.invokestatic 39, 3) := by decide +kernel
theorem dX5_walkTo_45 : decode cX5_walkTo 45 = .ok (.iload_n 2, 1) := by decide +kernel
theorem dX5_walkTo_46 : decode cX5_walkTo 46 = .ok (.iload 4, 2) := by decide +kernel
theorem dX5_walkTo_48 : decode cX5_walkTo 48 = .ok (.iload 6, 2) := by decide +kernel
theorem dX5_walkTo_50 : decode cX5_walkTo 50 = .ok (.iload 5, 2) := by decide +kernel
theorem dX5_walkTo_52 : decode cX5_walkTo 52 = .ok (.invokestatic 39, 3) := by decide +kernel
theorem dX5_walkTo_55 : decode cX5_walkTo 55 = .ok (.invokevirtual 43, 3) := by decide +kernel
theorem dX5_walkTo_58 : decode cX5_walkTo 58 = .ok (.iinc 6 1, 3) := by decide +kernel
theorem dX5_walkTo_61 : decode cX5_walkTo 61 = .ok (.goto (-33), 3) := by decide +kernel
theorem dX5_walkTo_64 : decode cX5_walkTo 64 = .ok (.return_, 1) := by decide +kernel
theorem dX5_touch_0 : decode cX5_touch 0 = .ok (.iload_n 1, 1) := by decide +kernel
theorem dX5_touch_1 : decode cX5_touch 1 = .ok (.iconst 0, 1) := by decide +kernel
theorem dX5_touch_2 : decode cX5_touch 2 = .ok (.bipush 31, 2) := by decide +kernel
theorem dX5_touch_4 : decode cX5_touch 4 = .ok (.invokestatic 47, 3) := by decide +kernel
theorem dX5_touch_7 : decode cX5_touch 7 = .ok (.ifCond .eq 13, 3) := by decide +kernel
theorem dX5_touch_10 : decode cX5_touch 10 = .ok (.iload_n 2, 1) := by decide +kernel
theorem dX5_touch_11 : decode cX5_touch 11 = .ok (.iconst 0, 1) := by decide +kernel
theorem dX5_touch_12 : decode cX5_touch 12 = .ok (.bipush 31, 2) := by decide +kernel
theorem dX5_touch_14 : decode cX5_touch 14 = .ok (.invokestatic 47, 3) := by decide +kernel
theorem dX5_touch_17 : decode cX5_touch 17 = .ok (.ifCond .ne 4, 3) := by decide +kernel
theorem dX5_touch_20 : decode cX5_touch 20 = .ok (.return_, 1) := by decide +kernel
theorem dX5_touch_21 : decode cX5_touch 21 = .ok (.iload_n 2, 1) := by decide +kernel
theorem dX5_touch_22 : decode cX5_touch 22 = .ok (.bipush 32, 2) := by decide +kernel
theorem dX5_touch_24 : decode cX5_touch 24 = .ok (.imul, 1) := by decide +kernel
theorem dX5_touch_25 : decode cX5_touch 25 = .ok (.iload_n 1, 1) := by decide +kernel
theorem dX5_touch_26 : decode cX5_touch 26 = .ok (.iadd, 1) := by decide +kernel
theorem dX5_touch_27 : decode cX5_touch 27 = .ok (.istore_n 3, 1) := by decide +kernel
theorem dX5_touch_28 : decode cX5_touch 28 = .ok (.iload_n 3, 1) := by decide +kernel
theorem dX5_touch_29 : decode cX5_touch 29 = .ok (.aload_n 0, 1) := by decide +kernel
theorem dX5_touch_30 : decode cX5_touch 30 = .ok (.getfield 9, 3) := by decide +kernel
theorem dX5_touch_33 : decode cX5_touch 33 = .ok (.arraylength, 1) := by decide +kernel
theorem dX5_touch_34 : decode cX5_touch 34 = .ok (.if_icmp .ge 29, 3) := by decide +kernel
theorem dX5_touch_37 : decode cX5_touch 37 = .ok (.aload_n 0, 1) := by decide +kernel
theorem dX5_touch_38 : decode cX5_touch 38 = .ok (.getfield 9, 3) := by decide +kernel
theorem dX5_touch_41 : decode cX5_touch 41 = .ok (.iload_n 3, 1) := by decide +kernel
theorem dX5_touch_42 : decode cX5_touch 42 = .ok (.baload, 1) := by decide +kernel
theorem dX5_touch_43 : decode cX5_touch 43 = .ok (.ifCond .ne 20, 3) := by decide +kernel
theorem dX5_touch_46 : decode cX5_touch 46 = .ok (.aload_n 0, 1) := by decide +kernel
theorem dX5_touch_47 : decode cX5_touch 47 = .ok (.getfield 9, 3) := by decide +kernel
theorem dX5_touch_50 : decode cX5_touch 50 = .ok (.iload_n 3, 1) := by decide +kernel
theorem dX5_touch_51 : decode cX5_touch 51 = .ok (.iconst 1, 1) := by decide +kernel
theorem dX5_touch_52 : decode cX5_touch 52 = .ok (.bastore, 1) := by decide +kernel
theorem dX5_touch_53 : decode cX5_touch 53 = .ok (.aload_n 0, 1) := by decide +kernel
theorem dX5_touch_54 : decode cX5_touch 54 = .ok (.dup, 1) := by decide +kernel
theorem dX5_touch_55 : decode cX5_touch 55 = .ok (.getfield 15, 3) := by decide +kernel
theorem dX5_touch_58 : decode cX5_touch 58 = .ok (.iconst 1, 1) := by decide +kernel
theorem dX5_touch_59 : decode cX5_touch 59 = .ok (.iadd, 1) := by decide +kernel
theorem dX5_touch_60 : decode cX5_touch 60 = .ok (.putfield 15, 3) := by decide +kernel
theorem dX5_touch_63 : decode cX5_touch 63 = .ok (.return_, 1) := by decide +kernel
theorem dX5_partCovered_0 : decode cX5_partCovered 0 = .ok (.iconst 0, 1) := by decide +kernel
theorem dX5_partCovered_1 : decode cX5_partCovered 1 = .ok (.istore_n 2, 1) := by decide +kernel
theorem dX5_partCovered_2 : decode cX5_partCovered 2 = .ok (.iconst 0, 1) := by decide +kernel
theorem dX5_partCovered_3 : decode cX5_partCovered 3 = .ok (.istore_n 3, 1) := by decide +kernel
theorem dX5_partCovered_4 : decode cX5_partCovered 4 = .ok (.aload_n 1, 1) := by decide +kernel
theorem dX5_partCovered_5 : decode cX5_partCovered 5 = .ok (.invokevirtual 51, 3) := by decide +kernel
theorem dX5_partCovered_8 : decode cX5_partCovered 8 = .ok (.bipush 32, 2) := by decide +kernel
theorem dX5_partCovered_10 : decode cX5_partCovered 10 = .ok (.invokestatic 57, 3) := by decide +kernel
theorem dX5_partCovered_13 : decode cX5_partCovered 13 = .ok (.istore 4, 2) := by decide +kernel
theorem dX5_partCovered_15 : decode cX5_partCovered 15 = .ok (.aload_n 1, 1) := by decide +kernel
theorem dX5_partCovered_16 : decode cX5_partCovered 16 = .ok (.invokevirtual 62, 3) := by decide +kernel
theorem dX5_partCovered_19 : decode cX5_partCovered 19 = .ok (.istore 5, 2) := by decide +kernel
theorem dX5_partCovered_21 : decode cX5_partCovered 21 = .ok (.iload 5, 2) := by decide +kernel
theorem dX5_partCovered_23 : decode cX5_partCovered 23 = .ok (.iload 4, 2) := by decide +kernel
theorem dX5_partCovered_25 : decode cX5_partCovered 25 = .ok (.if_icmp .ge 66, 3) := by decide +kernel
theorem dX5_partCovered_28 : decode cX5_partCovered 28 = .ok (.aload_n 1, 1) := by decide +kernel
theorem dX5_partCovered_29 : decode cX5_partCovered 29 = .ok (.iload 5, 2) := by decide +kernel
theorem dX5_partCovered_31 : decode cX5_partCovered 31 = .ok (.invokevirtual 65, 3) := by decide +kernel
theorem dX5_partCovered_34 : decode cX5_partCovered 34 = .ok (.iconst 0, 1) := by decide +kernel
theorem dX5_partCovered_35 : decode cX5_partCovered 35 = .ok (.istore 6, 2) := by decide +kernel
theorem dX5_partCovered_37 : decode cX5_partCovered 37 = .ok (.iload 6, 2) := by decide +kernel
theorem dX5_partCovered_39 : decode cX5_partCovered 39 = .ok (.bipush 32, 2) := by decide +kernel
theorem dX5_partCovered_41 : decode cX5_partCovered 41 = .ok (.if_icmp .ge 44, 3) := by decide +kernel
theorem dX5_partCovered_44 : decode cX5_partCovered 44 = .ok (.aload_n 1, 1) := by decide +kernel
theorem dX5_partCovered_45 : decode cX5_partCovered 45 = .ok (.iload 6, 2) := by decide +kernel
theorem dX5_partCovered_47 : decode cX5_partCovered 47 = .ok (.invokevirtual 69, 3) := by decide +kernel
theorem dX5_partCovered_50 : decode cX5_partCovered 50 = .ok (.ifCond .eq 29, 3) := by decide +kernel
theorem dX5_partCovered_53 : decode cX5_partCovered 53 = .ok (.iinc 2 1, 3) := by decide +kernel
theorem dX5_partCovered_56 : decode cX5_partCovered 56 = .ok (.iload_n 3, 1) := by decide +kernel
theorem dX5_partCovered_57 : decode cX5_partCovered 57 = .ok (.aload_n 0, 1) := by decide +kernel
theorem dX5_partCovered_58 : decode cX5_partCovered 58 = .ok (.iload 6, 2) := by decide +kernel
theorem dX5_partCovered_60 : decode cX5_partCovered 60 = .ok (.iload 5, 2) := by decide +kernel
theorem dX5_partCovered_62 : decode cX5_partCovered 62 = .ok (.aload_n 1, 1) := by decide +kernel
theorem dX5_partCovered_63 : decode cX5_partCovered 63 = .ok (.getfield 73, 3) := by decide +kernel
theorem dX5_partCovered_66 : decode cX5_partCovered 66 = .ok (.invokevirtual 76, 3) := by decide +kernel
theorem dX5_partCovered_69 : decode cX5_partCovered 69 = .ok (.ifCond .eq 7, 3) := by decide +kernel
theorem dX5_partCovered_72 : decode cX5_partCovered 72 = .ok (.iconst 1, 1) := by decide +kernel
theorem dX5_partCovered_73 : decode cX5_partCovered 73 = .ok (.goto 4, 3) := by decide +kernel
theorem dX5_partCovered_76 : decode cX5_partCovered 76 = .ok (.iconst 0, 1) := by decide +kernel
theorem dX5_partCovered_77 : decode cX5_partCovered 77 = .ok (.iadd, 1) := by decide +kernel
theorem dX5_partCovered_78 : decode cX5_partCovered 78 = .ok (.istore_n 3, 1) := by decide +kernel
theorem dX5_partCovered_79 : decode cX5_partCovered 79 = .ok (.iinc 6 1, 3) := by decide +kernel
theorem dX5_partCovered_82 : decode cX5_partCovered 82 = .ok (.goto (-45), 3) := by decide +kernel
theorem dX5_partCovered_85 : decode cX5_partCovered 85 = .ok (.iinc 5 1, 3) := by decide +kernel
theorem dX5_partCovered_88 : decode cX5_partCovered 88 = .ok (.goto (-67), 3) := by decide +kernel
theorem dX5_partCovered_91 : decode cX5_partCovered 91 = .ok (.iload_n 2, 1) := by decide +kernel
theorem dX5_partCovered_92 : decode cX5_partCovered 92 = .ok (.ifCond .ne 7, 3) := by decide +kernel
theorem dX5_partCovered_95 : decode cX5_partCovered 95 = .ok (.fconst 0, 1) := by decide +kernel
theorem dX5_partCovered_96 : decode cX5_partCovered 96 = .ok (.goto 8, 3) := by decide +kernel
theorem dX5_partCovered_99 : decode cX5_partCovered 99 = .ok (.iload_n 3, 1) := by decide +kernel
theorem dX5_partCovered_100 : decode cX5_partCovered 100 = .ok (.i2f, 1) := by decide +kernel
theorem dX5_partCovered_101 : decode cX5_partCovered 101 = .ok (.iload_n 2, 1) := by decide +kernel
theorem dX5_partCovered_102 : decode cX5_partCovered 102 = .ok (.i2f, 1) := by decide +kernel
theorem dX5_partCovered_103 : decode cX5_partCovered 103 = .ok (.fdiv, 1) := by decide +kernel
theorem dX5_partCovered_104 : decode cX5_partCovered 104 = .ok (.freturn, 1) := by decide +kernel
theorem dX5_isNear_0 : decode cX5_isNear 0 = .ok (.iconst 0, 1) := by decide +kernel
theorem dX5_isNear_1 : decode cX5_isNear 1 = .ok (.iload_n 2, 1) := by decide +kernel
theorem dX5_isNear_2 : decode cX5_isNear 2 = .ok (.iload_n 3, 1) := by decide +kernel
theorem dX5_isNear_3 : decode cX5_isNear 3 = .ok (.isub, 1) := by decide +kernel
theorem dX5_isNear_4 : decode cX5_isNear 4 = .ok (.iconst 1, 1) := by decide +kernel
theorem dX5_isNear_5 : decode cX5_isNear 5 = .ok (.iadd, 1) := by decide +kernel
theorem dX5_isNear_6 : decode cX5_isNear 6 = .ok (.invokestatic 79, 3) := by decide +kernel
theorem dX5_isNear_9 : decode cX5_isNear 9 = .ok (.istore 4, 2) := by decide +kernel
theorem dX5_isNear_11 : decode cX5_isNear 11 = .ok (.bipush 31, 2) := by decide +kernel
theorem dX5_isNear_13 : decode cX5_isNear 13 = .ok (.iload_n 2, 1) := by decide +kernel
theorem dX5_isNear_14 : decode cX5_isNear 14 = .ok (.iload_n 3, 1) := by decide +kernel
theorem dX5_isNear_15 : decode cX5_isNear 15 = .ok (.iadd, 1) := by decide +kernel
theorem dX5_isNear_16 : decode cX5_isNear 16 = .ok (.iconst 1, 1) := by decide +kernel
theorem dX5_isNear_17 : decode cX5_isNear 17 = .ok (.isub, 1) := by decide +kernel
theorem dX5_isNear_18 : decode cX5_isNear 18 = .ok (.invokestatic 57, 3) := by decide +kernel
theorem dX5_isNear_21 : decode cX5_isNear 21 = .ok (.istore 5, 2) := by decide +kernel
theorem dX5_isNear_23 : decode cX5_isNear 23 = .ok (.iload 4, 2) := by decide +kernel
theorem dX5_isNear_25 : decode cX5_isNear 25 = .ok (.istore 6, 2) := by decide +kernel
theorem dX5_isNear_27 : decode cX5_isNear 27 = .ok (.iload 6, 2) := by decide +kernel
theorem dX5_isNear_29 : decode cX5_isNear 29 = .ok (.iload 5, 2) := by decide +kernel
theorem dX5_isNear_31 : decode cX5_isNear 31 = .ok (.if_icmp .gt 45, 3) := by decide +kernel
theorem dX5_isNear_34 : decode cX5_isNear 34 = .ok (.iload 6, 2) := by decide +kernel
theorem dX5_isNear_36 : decode cX5_isNear 36 = .ok (.bipush 32, 2) := by decide +kernel
theorem dX5_isNear_38 : decode cX5_isNear 38 = .ok (.imul, 1) := by decide +kernel
theorem dX5_isNear_39 : decode cX5_isNear 39 = .ok (.iload_n 1, 1) := by decide +kernel
theorem dX5_isNear_40 : decode cX5_isNear 40 = .ok (.iadd, 1) := by decide +kernel
theorem dX5_isNear_41 : decode cX5_isNear 41 = .ok (.istore 7, 2) := by decide +kernel
theorem dX5_isNear_43 : decode cX5_isNear 43 = .ok (.iload 7, 2) := by decide +kernel
theorem dX5_isNear_45 : decode cX5_isNear 45 = .ok (.ifCond .lt 25, 3) := by decide +kernel
theorem dX5_isNear_48 : decode cX5_isNear 48 = .ok (.iload 7, 2) := by decide +kernel
theorem dX5_isNear_50 : decode cX5_isNear 50 = .ok (.aload_n 0, 1) := by decide +kernel
theorem dX5_isNear_51 : decode cX5_isNear 51 = .ok (.getfield 9, 3) := by decide +kernel
theorem dX5_isNear_54 : decode cX5_isNear 54 = .ok (.arraylength, 1) := by decide +kernel
theorem dX5_isNear_55 : decode cX5_isNear 55 = .ok (.if_icmp .ge 15, 3) := by decide +kernel
theorem dX5_isNear_58 : decode cX5_isNear 58 = .ok (.aload_n 0, 1) := by decide +kernel
theorem dX5_isNear_59 : decode cX5_isNear 59 = .ok (.getfield 9, 3) := by decide +kernel
theorem dX5_isNear_62 : decode cX5_isNear 62 = .ok (.iload 7, 2) := by decide +kernel
theorem dX5_isNear_64 : decode cX5_isNear 64 = .ok (.baload, 1) := by decide +kernel
theorem dX5_isNear_65 : decode cX5_isNear 65 = .ok (.ifCond .eq 5, 3) := by decide +kernel
theorem dX5_isNear_68 : decode cX5_isNear 68 = .ok (.iconst 1, 1) := by decide +kernel
theorem dX5_isNear_69 : decode cX5_isNear 69 = .ok (.ireturn, 1) := by decide +kernel
theorem dX5_isNear_70 : decode cX5_isNear 70 = .ok (.iinc 6 1, 3) := by decide +kernel
theorem dX5_isNear_73 : decode cX5_isNear 73 = .ok (.goto (-46), 3) := by decide +kernel
theorem dX5_isNear_76 : decode cX5_isNear 76 = .ok (.iconst 0, 1) := by decide +kernel
theorem dX5_isNear_77 : decode cX5_isNear 77 = .ok (.ireturn, 1) := by decide +kernel
theorem dX6_init_0 : decode cX6_init 0 = .ok (.aload_n 0, 1) := by decide +kernel
theorem dX6_init_1 : decode cX6_init 1 = .ok (.invokespecial 3, 3) := by decide +kernel
theorem dX6_init_4 : decode cX6_init 4 = .ok (.aload_n 0, 1) := by decide +kernel
theorem dX6_init_5 : decode cX6_init 5 = .ok (.bipush 8, 2) := by decide +kernel
theorem dX6_init_7 : decode cX6_init 7 = .ok (.anewarray 9, 3) := by decide +kernel
theorem dX6_init_10 : decode cX6_init 10 = .ok (.putfield 11, 3) := by decide +kernel
theorem dX6_init_13 : decode cX6_init 13 = .ok (.aload_n 0, 1) := by decide +kernel
theorem dX6_init_14 : decode cX6_init 14 = .ok (.bipush 8, 2) := by decide +kernel
theorem dX6_init_16 : decode cX6_init 16 = .ok (.newarray .boolean, 2) := by decide +kernel
theorem dX6_init_18 : decode cX6_init 18 = .ok (.putfield 15, 3) := by decide +kernel
theorem dX6_init_21 : decode cX6_init 21 = .ok (.aload_n 0, 1) := by decide +kernel
theorem dX6_init_22 : decode cX6_init 22 = .ok (.new 19, 3) := by decide +kernel
theorem dX6_init_25 : decode cX6_init 25 = .ok (.dup, 1) := by decide +kernel
theorem dX6_init_26 : decode cX6_init 26 = .ok (.invokespecial 21, 3) := by decide +kernel
theorem dX6_init_29 : decode cX6_init 29 = .ok (.putfield 22, 3) := by decide +kernel
theorem dX6_init_32 : decode cX6_init 32 = .ok (.aload_n 0, 1) := by decide +kernel
theorem dX6_init_33 : decode cX6_init 33 = .ok (.new 26, 3) := by decide +kernel
theorem dX6_init_36 : decode cX6_init 36 = .ok (.dup, 1) := by decide +kernel
theorem dX6_init_37 : decode cX6_init 37 = .ok (.invokespecial 28, 3) := by decide +kernel
theorem dX6_init_40 : decode cX6_init 40 = .ok (.putfield 29, 3) := by decide +kernel
theorem dX6_init_43 : decode cX6_init 43 = .ok (.aload_n 0, 1) := by decide +kernel
theorem dX6_init_44 : decode cX6_init 44 = .ok (.new 33, 3) := by decide +kernel
theorem dX6_init_47 : decode cX6_init 47 = .ok (.dup, 1) := by decide +kernel
theorem dX6_init_48 : decode cX6_init 48 = .ok (.invokespecial 35, 3) := by decide +kernel
theorem dX6_init_51 : decode cX6_init 51 = .ok (.putfield 36, 3) := by decide +kernel
theorem dX6_init_54 : decode cX6_init 54 = .ok (.aload_n 0, 1) := by decide +kernel
theorem dX6_init_55 : decode cX6_init 55 = .ok (.new 40, 3) := by decide +kernel
theorem dX6_init_58 : decode cX6_init 58 = .ok (.dup, 1) := by decide +kernel
theorem dX6_init_59 : decode cX6_init 59 = .ok (.invokespecial 42, 3) := by decide +kernel
theorem dX6_init_62 : decode cX6_init 62 = .ok (.putfield 43, 3) := by decide +kernel
theorem dX6_init_65 : decode cX6_init 65 = .ok (.aload_n 0, 1) := by decide +kernel
theorem dX6_init_66 : decode cX6_init 66 = .ok (.bipush 8, 2) := by decide +kernel
theorem dX6_init_68 : decode cX6_init 68 = .ok (.putfield 47, 3) := by decide +kernel
theorem dX6_init_71 : decode cX6_init 71 = .ok (.return_, 1) := by decide +kernel
theorem dX6_field_0 : decode cX6_field 0 = .ok (.iload_n 1, 1) := by decide +kernel
theorem dX6_field_1 : decode cX6_field 1 = .ok (.iconst 0, 1) := by decide +kernel
theorem dX6_field_2 : decode cX6_field 2 = .ok (.iconst 5, 1) := by decide +kernel
theorem dX6_field_3 : decode cX6_field 3 = .ok (.invokestatic 51, 3) := by decide +kernel
theorem dX6_field_6 : decode cX6_field 6 = .ok (.ifCond .ne 13, 3) := by decide +kernel
theorem dX6_field_9 : decode cX6_field 9 = .ok (.new 55, 3) := by decide +kernel
theorem dX6_field_12 : decode cX6_field 12 = .ok (.dup, 1) := by decide +kernel
theorem dX6_field_13 : decode cX6_field 13 = .ok (.ldc 57, 2) := by decide +kernel
theorem dX6_field_15 : decode cX6_field 15 = .ok (.invokespecial 59, 3) := by decide +kernel
theorem dX6_field_18 : decode cX6_field 18 = .ok (.athrow, 1) := by decide +kernel
theorem dX6_field_19 : decode cX6_field 19 = .ok (.iload_n 2, 1) := by decide +kernel
theorem dX6_field_20 : decode cX6_field 20 = .ok (.iconst 0, 1) := by decide +kernel
theorem dX6_field_21 : decode cX6_field 21 = .ok (.iconst 3, 1) := by decide +kernel
theorem dX6_field_22 : decode cX6_field 22 = .ok (.invokestatic 51, 3) := by decide +kernel
theorem dX6_field_25 : decode cX6_field 25 = .ok (.ifCond .ne 13, 3) := by decide +kernel
theorem dX6_field_28 : decode cX6_field 28 = .ok (.new 55, 3) := by decide +kernel
theorem dX6_field_31 : decode cX6_field 31 = .ok (.dup, 1) := by decide +kernel
theorem dX6_field_32 : decode cX6_field 32 = .ok (.ldc 62, 2) := by decide +kernel
theorem dX6_field_34 : decode cX6_field 34 = .ok (.invokespecial 59, 3) := by decide +kernel
theorem dX6_field_37 : decode cX6_field 37 = .ok (.athrow, 1) := by decide +kernel
theorem dX6_field_38 : decode cX6_field 38 = .ok (.aload_n 0, 1) := by decide +kernel
theorem dX6_field_39 : decode cX6_field 39 = .ok (.getfield 64, 3) := by decide +kernel
theorem dX6_field_42 : decode cX6_field 42 = .ok (.bipush 8, 2) := by decide +kernel
theorem dX6_field_44 : decode cX6_field 44 = .ok (.if_icmp .ge 15, 3) := by decide +kernel
theorem dX6_field_47 : decode cX6_field 47 = .ok (.aload_n 0, 1) := by decide +kernel
theorem dX6_field_48 : decode cX6_field 48 = .ok (.getfield 64, 3) := by decide +kernel
theorem dX6_field_51 : decode cX6_field 51 = .ok (.aload_n 0, 1) := by decide +kernel
theorem dX6_field_52 : decode cX6_field 52 = .ok (.getfield 11, 3) := by decide +kernel
theorem dX6_field_55 : decode cX6_field 55 = .ok (.arraylength, 1) := by decide +kernel
theorem dX6_field_56 : decode cX6_field 56 = .ok (.if_icmp .lt 13, 3) := by decide +kernel
theorem dX6_field_59 : decode cX6_field 59 = .ok (.new 67, 3) := by decide +kernel
theorem dX6_field_62 : decode cX6_field 62 = .ok (.dup, 1) := by decide +kernel
theorem dX6_field_63 : decode cX6_field 63 = .ok (.ldc 69, 2) := by decide +kernel
theorem dX6_field_65 : decode cX6_field 65 = .ok (.invokespecial 71, 3) := by decide +kernel
theorem dX6_field_68 : decode cX6_field 68 = .ok (.athrow, 1) := by decide +kernel
theorem dX6_field_69 : decode cX6_field 69 = .ok (.aload_n 0, 1) := by decide +kernel
theorem dX6_field_70 : decode cX6_field 70 = .ok (.getfield 64, 3) := by decide +kernel
theorem dX6_field_73 : decode cX6_field 73 = .ok (.istore 4, 2) := by decide +kernel
theorem dX6_field_75 : decode cX6_field 75 = .ok (.aload_n 0, 1) := by decide +kernel
theorem dX6_field_76 : decode cX6_field 76 = .ok (.getfield 11, 3) := by decide +kernel
theorem dX6_field_79 : decode cX6_field 79 = .ok (.iload 4, 2) := by decide +kernel
theorem dX6_field_81 : decode cX6_field 81 = .ok (.new 9, 3) := by decide +kernel
theorem dX6_field_84 : decode cX6_field 84 = .ok (.dup, 1) := by decide +kernel
theorem dX6_field_85 : decode cX6_field 85 = .ok (.iload_n 1, 1) := by decide +kernel
theorem dX6_field_86 : decode cX6_field 86 = .ok (.iload_n 2, 1) := by decide +kernel
theorem dX6_field_87 : decode cX6_field 87 = .ok (.iload_n 3, 1) := by decide +kernel
theorem dX6_field_88 : decode cX6_field 88 = .ok (.invokespecial 72, 3) := by decide +kernel
theorem dX6_field_91 : decode cX6_field 91 = .ok (.aastore, 1) := by decide +kernel
theorem dX6_field_92 : decode cX6_field 92 = .ok (.aload_n 0, 1) := by decide +kernel
theorem dX6_field_93 : decode cX6_field 93 = .ok (.iload 4, 2) := by decide +kernel
theorem dX6_field_95 : decode cX6_field 95 = .ok (.iconst 1, 1) := by decide +kernel
theorem dX6_field_96 : decode cX6_field 96 = .ok (.iadd, 1) := by decide +kernel
theorem dX6_field_97 : decode cX6_field 97 = .ok (.putfield 64, 3) := by decide +kernel
theorem dX6_field_100 : decode cX6_field 100 = .ok (.aload_n 0, 1) := by decide +kernel
theorem dX6_field_101 : decode cX6_field 101 = .ok (.iconst 0, 1) := by decide +kernel
theorem dX6_field_102 : decode cX6_field 102 = .ok (.putfield 75, 3) := by decide +kernel
theorem dX6_field_105 : decode cX6_field 105 = .ok (.iload 4, 2) := by decide +kernel
theorem dX6_field_107 : decode cX6_field 107 = .ok (.ireturn, 1) := by decide +kernel
theorem dX6_corner_0 : decode cX6_corner 0 = .ok (.aload_n 0, 1) := by decide +kernel
theorem dX6_corner_1 : decode cX6_corner 1 = .ok (.iload_n 1, 1) := by decide +kernel
theorem dX6_corner_2 : decode cX6_corner 2 = .ok (.invokevirtual 79, 3) := by decide +kernel
theorem dX6_corner_5 : decode cX6_corner 5 = .ok (.astore 4, 2) := by decide +kernel
theorem dX6_corner_7 : decode cX6_corner 7 = .ok (.iload_n 2, 1) := by decide +kernel
theorem dX6_corner_8 : decode cX6_corner 8 = .ok (.iconst 0, 1) := by decide +kernel
theorem dX6_corner_9 : decode cX6_corner 9 = .ok (.bipush 31, 2) := by decide +kernel
theorem dX6_corner_11 : decode cX6_corner 11 = .ok (.invokestatic 51, 3) := by decide +kernel
theorem dX6_corner_14 : decode cX6_corner 14 = .ok (.ifCond .eq 13, 3) := by decide +kernel
theorem dX6_corner_17 : decode cX6_corner 17 = .ok (.iload_n 3, 1) := by decide +kernel
theorem dX6_corner_18 : decode cX6_corner 18 = .ok (.iconst 0, 1) := by decide +kernel
theorem dX6_corner_19 : decode cX6_corner 19 = .ok (.bipush 31, 2) := by decide +kernel
theorem dX6_corner_21 : decode cX6_corner 21 = .ok (.invokestatic 51, 3) := by decide +kernel
theorem dX6_corner_24 : decode cX6_corner 24 = .ok (.ifCond .ne 13, 3) := by decide +kernel
theorem dX6_corner_27 : decode cX6_corner 27 = .ok (.new 55, 3) := by decide +kernel
theorem dX6_corner_30 : decode cX6_corner 30 = .ok (.dup, 1) := by decide +kernel
theorem dX6_corner_31 : decode cX6_corner 31 = .ok (.ldc 83, 2) := by decide +kernel
theorem dX6_corner_33 : decode cX6_corner 33 = .ok (.invokespecial 59, 3) := by decide +kernel
theorem dX6_corner_36 : decode cX6_corner 36 = .ok (.athrow, 1) := by decide +kernel
theorem dX6_corner_37 : decode cX6_corner 37 = .ok (.aload 4, 2) := by decide +kernel
theorem dX6_corner_39 : decode cX6_corner 39 = .ok (.invokevirtual 85, 3) := by decide +kernel
theorem dX6_corner_42 : decode cX6_corner 42 = .ok (.ifCond .eq 13, 3) := by decide +kernel
theorem dX6_corner_45 : decode cX6_corner 45 = .ok (.new 67, 3) := by decide +kernel
theorem dX6_corner_48 : decode cX6_corner 48 = .ok (.dup, 1) := by decide +kernel
theorem dX6_corner_49 : decode cX6_corner 49 = .ok (.ldc 89, 2) := by decide +kernel
theorem dX6_corner_51 : decode cX6_corner 51 = .ok (.invokespecial 71, 3) := by decide +kernel
theorem dX6_corner_54 : decode cX6_corner 54 = .ok (.athrow, 1) := by decide +kernel
theorem dX6_corner_55 : decode cX6_corner 55 = .ok (.aload 4, 2) := by decide +kernel
theorem dX6_corner_57 : decode cX6_corner 57 = .ok (.iload_n 2, 1) := by decide +kernel
theorem dX6_corner_58 : decode cX6_corner 58 = .ok (.iload_n 3, 1) := by decide +kernel
theorem dX6_corner_59 : decode cX6_corner 59 = .ok (.invokevirtual 91, 3) := by decide +kernel
theorem dX6_corner_62 : decode cX6_corner 62 = .ok (.aload_n 0, 1) := by decide +kernel
theorem dX6_corner_63 : decode cX6_corner 63 = .ok (.iconst 0, 1) := by decide +kernel
theorem dX6_corner_64 : decode cX6_corner 64 = .ok (.putfield 75, 3) := by decide +kernel
theorem dX6_corner_67 : decode cX6_corner 67 = .ok (.aload 4, 2) := by decide +kernel
theorem dX6_corner_69 : decode cX6_corner 69 = .ok (.getfield 95, 3) := by decide +kernel
theorem dX6_corner_72 : decode cX6_corner 72 = .ok (.ireturn, 1) := by decide +kernel
theorem dX6_sew_0 : decode cX6_sew 0 = .ok (.aload_n 0, 1) := by decide +kernel
theorem dX6_sew_1 : decode cX6_sew 1 = .ok (.iload_n 1, 1) := by decide +kernel
theorem dX6_sew_2 : decode cX6_sew 2 = .ok (.invokevirtual 79, 3) := by decide +kernel
theorem dX6_sew_5 : decode cX6_sew 5 = .ok (.astore 7, 2) := by decide +kernel
theorem dX6_sew_7 : decode cX6_sew 7 = .ok (.iload_n 2, 1) := by decide +kernel
theorem dX6_sew_8 : decode cX6_sew 8 = .ok (.iconst 1, 1) := by decide +kernel
theorem dX6_sew_9 : decode cX6_sew 9 = .ok (.bipush 8, 2) := by decide +kernel
theorem dX6_sew_11 : decode cX6_sew 11 = .ok (.invokestatic 51, 3) := by decide +kernel
theorem dX6_sew_14 : decode cX6_sew 14 = .ok (.ifCond .ne 13, 3) := by decide +kernel
theorem dX6_sew_17 : decode cX6_sew 17 = .ok (.new 55, 3) := by decide +kernel
theorem dX6_sew_20 : decode cX6_sew 20 = .ok (.dup, 1) := by decide +kernel
theorem dX6_sew_21 : decode cX6_sew 21 = .ok (.ldc 98, 2) := by decide +kernel
theorem dX6_sew_23 : decode cX6_sew 23 = .ok (.invokespecial 59, 3) := by decide +kernel
theorem dX6_sew_26 : decode cX6_sew 26 = .ok (.athrow, 1) := by decide +kernel
theorem dX6_sew_27 : decode cX6_sew 27 = .ok (.iload_n 3, 1) := by decide +kernel
theorem dX6_sew_28 : decode cX6_sew 28 = .ok (.iconst 1, 1) := by decide +kernel
theorem dX6_sew_29 : decode cX6_sew 29 = .ok (.bipush 12, 2) := by decide +kernel
theorem dX6_sew_31 : decode cX6_sew 31 = .ok (.invokestatic 51, 3) := by decide +kernel
theorem dX6_sew_34 : decode cX6_sew 34 = .ok (.ifCond .ne 13, 3) := by decide +kernel
theorem dX6_sew_37 : decode cX6_sew 37 = .ok (.new 55, 3) := by decide +kernel
theorem dX6_sew_40 : decode cX6_sew 40 = .ok (.dup, 1) := by decide +kernel
theorem dX6_sew_41 : decode cX6_sew 41 = .ok (.ldc 100, 2) := by decide +kernel
theorem dX6_sew_43 : decode cX6_sew 43 = .ok (.invokespecial 59, 3) := by decide +kernel
theorem dX6_sew_46 : decode cX6_sew 46 = .ok (.athrow, 1) := by decide +kernel
theorem dX6_sew_47 : decode cX6_sew 47 = .ok (.iload 4, 2) := by decide +kernel
theorem dX6_sew_49 : decode cX6_sew 49 = .ok (.iconst 0, 1) := by decide +kernel
theorem dX6_sew_50 : decode cX6_sew 50 = .ok (.bipush 11, 2) := by decide +kernel
theorem dX6_sew_52 : decode cX6_sew 52 = .ok (.invokestatic 51, 3) := by decide +kernel
theorem dX6_sew_55 : decode cX6_sew 55 = .ok (.ifCond .ne 13, 3) := by decide +kernel
theorem dX6_sew_58 : decode cX6_sew 58 = .ok (.new 55, 3) := by decide +kernel
theorem dX6_sew_61 : decode cX6_sew 61 = .ok (.dup, 1) := by decide +kernel
theorem dX6_sew_62 : decode cX6_sew 62 = .ok (.ldc 102, 2) := by decide +kernel
theorem dX6_sew_64 : decode cX6_sew 64 = .ok (.invokespecial 59, 3) := by decide +kernel
theorem dX6_sew_67 : decode cX6_sew 67 = .ok (.athrow, 1) := by decide +kernel
theorem dX6_sew_68 : decode cX6_sew 68 = .ok (.iload 5, 2) := by decide +kernel
theorem dX6_sew_70 : decode cX6_sew 70 = .ok (.iconst 0, 1) := by decide +kernel
theorem dX6_sew_71 : decode cX6_sew 71 = .ok (.iconst 3, 1) := by decide +kernel
theorem dX6_sew_72 : decode cX6_sew 72 = .ok (.invokestatic 51, 3) := by decide +kernel
theorem dX6_sew_75 : decode cX6_sew 75 = .ok (.ifCond .ne 13, 3) := by decide +kernel
theorem dX6_sew_78 : decode cX6_sew 78 = .ok (.new 55, 3) := by decide +kernel
theorem dX6_sew_81 : decode cX6_sew 81 = .ok (.dup, 1) := by decide +kernel
theorem dX6_sew_82 : decode cX6_sew 82 = .ok (.ldc 104, 2) := by decide +kernel
theorem dX6_sew_84 : decode cX6_sew 84 = .ok (.invokespecial 59, 3) := by decide +kernel
theorem dX6_sew_87 : decode cX6_sew 87 = .ok (.athrow, 1) := by decide +kernel
theorem dX6_sew_88 : decode cX6_sew 88 = .ok (.aload 7, 2) := by decide +kernel
theorem dX6_sew_90 : decode cX6_sew 90 = .ok (.iload_n 2, 1) := by decide +kernel
theorem dX6_sew_91 : decode cX6_sew 91 = .ok (.iload_n 3, 1) := by decide +kernel
theorem dX6_sew_92 : decode cX6_sew 92 = .ok (.iload 4, 2) := by decide +kernel
theorem dX6_sew_94 : decode cX6_sew 94 = .ok (.iload 5, 2) := by decide +kernel
theorem dX6_sew_96 : decode cX6_sew 96 = .ok (.iload 6, 2) := by decide +kernel
theorem dX6_sew_98 : decode cX6_sew 98 = .ok (.invokevirtual 106, 3) := by decide +kernel
theorem dX6_sew_101 : decode cX6_sew 101 = .ok (.aload_n 0, 1) := by decide +kernel
theorem dX6_sew_102 : decode cX6_sew 102 = .ok (.iconst 0, 1) := by decide +kernel
theorem dX6_sew_103 : decode cX6_sew 103 = .ok (.putfield 75, 3) := by decide +kernel
theorem dX6_sew_106 : decode cX6_sew 106 = .ok (.return_, 1) := by decide +kernel
theorem dX6_scale_0 : decode cX6_scale 0 = .ok (.aload_n 0, 1) := by decide +kernel
theorem dX6_scale_1 : decode cX6_scale 1 = .ok (.iload_n 1, 1) := by decide +kernel
theorem dX6_scale_2 : decode cX6_scale 2 = .ok (.invokevirtual 79, 3) := by decide +kernel
theorem dX6_scale_5 : decode cX6_scale 5 = .ok (.astore_n 3, 1) := by decide +kernel
theorem dX6_scale_6 : decode cX6_scale 6 = .ok (.iload_n 2, 1) := by decide +kernel
theorem dX6_scale_7 : decode cX6_scale 7 = .ok (.iconst 1, 1) := by decide +kernel
theorem dX6_scale_8 : decode cX6_scale 8 = .ok (.sipush 400, 3) := by decide +kernel
theorem dX6_scale_11 : decode cX6_scale 11 = .ok (.invokestatic 51, 3) := by decide +kernel
theorem dX6_scale_14 : decode cX6_scale 14 = .ok (.ifCond .ne 13, 3) := by decide +kernel
theorem dX6_scale_17 : decode cX6_scale 17 = .ok (.new 55, 3) := by decide +kernel
theorem dX6_scale_20 : decode cX6_scale 20 = .ok (.dup, 1) := by decide +kernel
theorem dX6_scale_21 : decode cX6_scale 21 = .ok (.ldc 110, 2) := by decide +kernel
theorem dX6_scale_23 : decode cX6_scale 23 = .ok (.invokespecial 59, 3) := by decide +kernel
theorem dX6_scale_26 : decode cX6_scale 26 = .ok (.athrow, 1) := by decide +kernel
theorem dX6_scale_27 : decode cX6_scale 27 = .ok (.aload_n 3, 1) := by decide +kernel
theorem dX6_scale_28 : decode cX6_scale 28 = .ok (.iload_n 2, 1) := by decide +kernel
theorem dX6_scale_29 : decode cX6_scale 29 = .ok (.invokevirtual 112, 3) := by decide +kernel
theorem dX6_scale_32 : decode cX6_scale 32 = .ok (.ifCond .ne 13, 3) := by decide +kernel
theorem dX6_scale_35 : decode cX6_scale 35 = .ok (.new 67, 3) := by decide +kernel
theorem dX6_scale_38 : decode cX6_scale 38 = .ok (.dup, 1) := by decide +kernel
theorem dX6_scale_39 : decode cX6_scale 39 = .ok (.ldc 116, 2) := by decide +kernel
theorem dX6_scale_41 : decode cX6_scale 41 = .ok (.invokespecial 71, 3) := by decide +kernel
theorem dX6_scale_44 : decode cX6_scale 44 = .ok (.athrow, 1) := by decide +kernel
theorem dX6_scale_45 : decode cX6_scale 45 = .ok (.aload_n 3, 1) := by decide +kernel
theorem dX6_scale_46 : decode cX6_scale 46 = .ok (.iload_n 2, 1) := by decide +kernel
theorem dX6_scale_47 : decode cX6_scale 47 = .ok (.invokevirtual 118, 3) := by decide +kernel
theorem dX6_scale_50 : decode cX6_scale 50 = .ok (.aload_n 0, 1) := by decide +kernel
theorem dX6_scale_51 : decode cX6_scale 51 = .ok (.iconst 0, 1) := by decide +kernel
theorem dX6_scale_52 : decode cX6_scale 52 = .ok (.putfield 75, 3) := by decide +kernel
theorem dX6_scale_55 : decode cX6_scale 55 = .ok (.return_, 1) := by decide +kernel
theorem dX6_bound_0 : decode cX6_bound 0 = .ok (.iload_n 1, 1) := by decide +kernel
theorem dX6_bound_1 : decode cX6_bound 1 = .ok (.iconst 0, 1) := by decide +kernel
theorem dX6_bound_2 : decode cX6_bound 2 = .ok (.bipush 100, 2) := by decide +kernel
theorem dX6_bound_4 : decode cX6_bound 4 = .ok (.invokestatic 51, 3) := by decide +kernel
theorem dX6_bound_7 : decode cX6_bound 7 = .ok (.ifCond .ne 13, 3) := by decide +kernel
theorem dX6_bound_10 : decode cX6_bound 10 = .ok (.new 55, 3) := by decide +kernel
theorem dX6_bound_13 : decode cX6_bound 13 = .ok (.dup, 1) := by decide +kernel
theorem dX6_bound_14 : decode cX6_bound 14 = .ok (.ldc 122, 2) := by decide +kernel
theorem dX6_bound_16 : decode cX6_bound 16 = .ok (.invokespecial 59, 3) := by decide +kernel
theorem dX6_bound_19 : decode cX6_bound 19 = .ok (.athrow, 1) := by decide +kernel
theorem dX6_bound_20 : decode cX6_bound 20 = .ok (.aload_n 0, 1) := by decide +kernel
theorem dX6_bound_21 : decode cX6_bound 21 = .ok (.getfield 47, 3) := by decide +kernel
theorem dX6_bound_24 : decode cX6_bound 24 = .ok (.istore_n 2, 1) := by decide +kernel
theorem dX6_bound_25 : decode cX6_bound 25 = .ok (.aload_n 0, 1) := by decide +kernel
theorem dX6_bound_26 : decode cX6_bound 26 = .ok (.iload_n 1, 1) := by decide +kernel
theorem dX6_bound_27 : decode cX6_bound 27 = .ok (.putfield 47, 3) := by decide +kernel
theorem dX6_bound_30 : decode cX6_bound 30 = .ok (.aload_n 0, 1) := by decide +kernel
theorem dX6_bound_31 : decode cX6_bound 31 = .ok (.iconst 0, 1) := by decide +kernel
theorem dX6_bound_32 : decode cX6_bound 32 = .ok (.putfield 75, 3) := by decide +kernel
theorem dX6_bound_35 : decode cX6_bound 35 = .ok (.iload_n 2, 1) := by decide +kernel
theorem dX6_bound_36 : decode cX6_bound 36 = .ok (.ireturn, 1) := by decide +kernel
theorem dX6_commands_0 : decode cX6_commands 0 = .ok (.aload_n 0, 1) := by decide +kernel
theorem dX6_commands_1 : decode cX6_commands 1 = .ok (.invokevirtual 124, 3) := by decide +kernel
theorem dX6_commands_4 : decode cX6_commands 4 = .ok (.aload_n 0, 1) := by decide +kernel
theorem dX6_commands_5 : decode cX6_commands 5 = .ok (.getfield 22, 3) := by decide +kernel
theorem dX6_commands_8 : decode cX6_commands 8 = .ok (.getfield 127, 3) := by decide +kernel
theorem dX6_commands_11 : decode cX6_commands 11 = .ok (.ireturn, 1) := by decide +kernel
theorem dX6_ofCommand_0 : decode cX6_ofCommand 0 = .ok (.aload_n 0, 1) := by decide +kernel
theorem dX6_ofCommand_1 : decode cX6_ofCommand 1 = .ok (.invokevirtual 124, 3) := by decide +kernel
theorem dX6_ofCommand_4 : decode cX6_ofCommand 4 = .ok (.iload_n 1, 1) := by decide +kernel
theorem dX6_ofCommand_5 : decode cX6_ofCommand 5 = .ok (.iconst 0, 1) := by decide +kernel
theorem dX6_ofCommand_6 : decode cX6_ofCommand 6 = .ok (.aload_n 0, 1) := by decide +kernel
theorem dX6_ofCommand_7 : decode cX6_ofCommand 7 = .ok (.getfield 22, 3) := by decide +kernel
theorem dX6_ofCommand_10 : decode cX6_ofCommand 10 = .ok (.getfield 127, 3) := by decide +kernel
theorem dX6_ofCommand_13 : decode cX6_ofCommand 13 = .ok (.iconst 1, 1) := by decide +kernel
theorem dX6_ofCommand_14 : decode cX6_ofCommand 14 = .ok (.isub, 1) := by decide +kernel
theorem dX6_ofCommand_15 : decode cX6_ofCommand 15 = .ok (.invokestatic 51, 3) := by decide +kernel
theorem dX6_ofCommand_18 : decode cX6_ofCommand 18 = .ok (.ifCond .ne 13, 3) := by decide +kernel
theorem dX6_ofCommand_21 : decode cX6_ofCommand 21 = .ok (.new 130, 3) := by decide +kernel
theorem dX6_ofCommand_24 : decode cX6_ofCommand 24 = .ok (.dup, 1) := by decide +kernel
theorem dX6_ofCommand_25 : decode cX6_ofCommand 25 = .ok (.ldc 132, 2) := by decide +kernel
theorem dX6_ofCommand_27 : decode cX6_ofCommand 27 = .ok (.invokespecial 134, 3) := by decide +kernel
theorem dX6_ofCommand_30 : decode cX6_ofCommand 30 = .ok (.athrow, 1) := by decide +kernel
theorem dX6_ofCommand_31 : decode cX6_ofCommand 31 = .ok (.iload_n 2, 1) := by decide +kernel
theorem dX6_ofCommand_32 : decode cX6_ofCommand 32 = .ok (.iconst 0, 1) := by decide +kernel
theorem dX6_ofCommand_33 : decode cX6_ofCommand 33 = .ok (.iconst 3, 1) := by decide +kernel
theorem dX6_ofCommand_34 : decode cX6_ofCommand 34 = .ok (.invokestatic 51, 3) := by decide +kernel
theorem dX6_ofCommand_37 : decode cX6_ofCommand 37 = .ok (.ifCond .ne 13, 3) := by decide +kernel
theorem dX6_ofCommand_40 : decode cX6_ofCommand 40 = .ok (.new 55, 3) := by decide +kernel
theorem dX6_ofCommand_43 : decode cX6_ofCommand 43 = .ok (.dup, 1) := by decide +kernel
theorem dX6_ofCommand_44 : decode cX6_ofCommand 44 = .ok (.ldc 135, 2) := by decide +kernel
theorem dX6_ofCommand_46 : decode cX6_ofCommand 46 = .ok (.invokespecial 59, 3) := by decide +kernel
theorem dX6_ofCommand_49 : decode cX6_ofCommand 49 = .ok (.athrow, 1) := by decide +kernel
theorem dX6_ofCommand_50 : decode cX6_ofCommand 50 = .ok (.aload_n 0, 1) := by decide +kernel
theorem dX6_ofCommand_51 : decode cX6_ofCommand 51 = .ok (.getfield 22, 3) := by decide +kernel
theorem dX6_ofCommand_54 : decode cX6_ofCommand 54 = .ok (.iload_n 1, 1) := by decide +kernel
theorem dX6_ofCommand_55 : decode cX6_ofCommand 55 = .ok (.iload_n 2, 1) := by decide +kernel
theorem dX6_ofCommand_56 : decode cX6_ofCommand 56 = .ok (.invokevirtual 137, 3) := by decide +kernel
theorem dX6_ofCommand_59 : decode cX6_ofCommand 59 = .ok (.ireturn, 1) := by decide +kernel
theorem dX6_count_0 : decode cX6_count 0 = .ok (.iload_n 1, 1) := by decide +kernel
theorem dX6_count_1 : decode cX6_count 1 = .ok (.iconst 0, 1) := by decide +kernel
theorem dX6_count_2 : decode cX6_count 2 = .ok (.iconst 4, 1) := by decide +kernel
theorem dX6_count_3 : decode cX6_count 3 = .ok (.invokestatic 51, 3) := by decide +kernel
theorem dX6_count_6 : decode cX6_count 6 = .ok (.ifCond .ne 13, 3) := by decide +kernel
theorem dX6_count_9 : decode cX6_count 9 = .ok (.new 55, 3) := by decide +kernel
theorem dX6_count_12 : decode cX6_count 12 = .ok (.dup, 1) := by decide +kernel
theorem dX6_count_13 : decode cX6_count 13 = .ok (.ldc 141, 2) := by decide +kernel
theorem dX6_count_15 : decode cX6_count 15 = .ok (.invokespecial 59, 3) := by decide +kernel
theorem dX6_count_18 : decode cX6_count 18 = .ok (.athrow, 1) := by decide +kernel
theorem dX6_count_19 : decode cX6_count 19 = .ok (.aload_n 0, 1) := by decide +kernel
theorem dX6_count_20 : decode cX6_count 20 = .ok (.invokevirtual 124, 3) := by decide +kernel
theorem dX6_count_23 : decode cX6_count 23 = .ok (.aload_n 0, 1) := by decide +kernel
theorem dX6_count_24 : decode cX6_count 24 = .ok (.getfield 22, 3) := by decide +kernel
theorem dX6_count_27 : decode cX6_count 27 = .ok (.getfield 143, 3) := by decide +kernel
theorem dX6_count_30 : decode cX6_count 30 = .ok (.iload_n 1, 1) := by decide +kernel
theorem dX6_count_31 : decode cX6_count 31 = .ok (.iaload, 1) := by decide +kernel
theorem dX6_count_32 : decode cX6_count 32 = .ok (.ireturn, 1) := by decide +kernel
theorem dX6_time_0 : decode cX6_time 0 = .ok (.aload_n 0, 1) := by decide +kernel
theorem dX6_time_1 : decode cX6_time 1 = .ok (.invokevirtual 124, 3) := by decide +kernel
theorem dX6_time_4 : decode cX6_time 4 = .ok (.aload_n 0, 1) := by decide +kernel
theorem dX6_time_5 : decode cX6_time 5 = .ok (.getfield 22, 3) := by decide +kernel
theorem dX6_time_8 : decode cX6_time 8 = .ok (.getfield 147, 3) := by decide +kernel
theorem dX6_time_11 : decode cX6_time 11 = .ok (.freturn, 1) := by decide +kernel
theorem dX6_thread_0 : decode cX6_thread 0 = .ok (.iload_n 1, 1) := by decide +kernel
theorem dX6_thread_1 : decode cX6_thread 1 = .ok (.iconst 0, 1) := by decide +kernel
theorem dX6_thread_2 : decode cX6_thread 2 = .ok (.iconst 5, 1) := by decide +kernel
theorem dX6_thread_3 : decode cX6_thread 3 = .ok (.invokestatic 51, 3) := by decide +kernel
theorem dX6_thread_6 : decode cX6_thread 6 = .ok (.ifCond .ne 13, 3) := by decide +kernel
theorem dX6_thread_9 : decode cX6_thread 9 = .ok (.new 55, 3) := by decide +kernel
theorem dX6_thread_12 : decode cX6_thread 12 = .ok (.dup, 1) := by decide +kernel
theorem dX6_thread_13 : decode cX6_thread 13 = .ok (.ldc 57, 2) := by decide +kernel
theorem dX6_thread_15 : decode cX6_thread 15 = .ok (.invokespecial 59, 3) := by decide +kernel
theorem dX6_thread_18 : decode cX6_thread 18 = .ok (.athrow, 1) := by decide +kernel
theorem dX6_thread_19 : decode cX6_thread 19 = .ok (.aload_n 0, 1) := by decide +kernel
theorem dX6_thread_20 : decode cX6_thread 20 = .ok (.invokevirtual 124, 3) := by decide +kernel
theorem dX6_thread_23 : decode cX6_thread 23 = .ok (.aload_n 0, 1) := by decide +kernel
theorem dX6_thread_24 : decode cX6_thread 24 = .ok (.getfield 22, 3) := by decide +kernel
theorem dX6_thread_27 : decode cX6_thread 27 = .ok (.getfield 151, 3) := by decide +kernel
theorem dX6_thread_30 : decode cX6_thread 30 = .ok (.iload_n 1, 1) := by decide +kernel
theorem dX6_thread_31 : decode cX6_thread 31 = .ok (.iaload, 1) := by decide +kernel
theorem dX6_thread_32 : decode cX6_thread 32 = .ok (.ireturn, 1) := by decide +kernel
theorem dX6_covered_0 : decode cX6_covered 0 = .ok (.aload_n 0, 1) := by decide +kernel
theorem dX6_covered_1 : decode cX6_covered 1 = .ok (.iload_n 1, 1) := by decide +kernel
theorem dX6_covered_2 : decode cX6_covered 2 = .ok (.invokevirtual 79, 3) := by decide +kernel
theorem dX6_covered_5 : decode cX6_covered 5 = .ok (.astore_n 2, 1) := by decide +kernel
theorem dX6_covered_6 : decode cX6_covered 6 = .ok (.aload_n 2, 1) := by decide +kernel
theorem dX6_covered_7 : decode cX6_covered 7 = .ok (.getfield 154, 3) := by decide +kernel
theorem dX6_covered_10 : decode cX6_covered 10 = .ok (.ifCond .eq 5, 3) := by decide +kernel
theorem dX6_covered_13 : decode cX6_covered 13 = .ok (.fconst 0, 1) := by decide +kernel
theorem dX6_covered_14 : decode cX6_covered 14 = .ok (.freturn, 1) := by decide +kernel
theorem dX6_covered_15 : decode cX6_covered 15 = .ok (.aload_n 0, 1) := by decide +kernel
theorem dX6_covered_16 : decode cX6_covered 16 = .ok (.getfield 29, 3) := by decide +kernel
theorem dX6_covered_19 : decode cX6_covered 19 = .ok (.aload_n 2, 1) := by decide +kernel
theorem dX6_covered_20 : decode cX6_covered 20 = .ok (.invokevirtual 157, 3) := by decide +kernel
theorem dX6_covered_23 : decode cX6_covered 23 = .ok (.invokevirtual 161, 3) := by decide +kernel
theorem dX6_covered_26 : decode cX6_covered 26 = .ok (.aload_n 0, 1) := by decide +kernel
theorem dX6_covered_27 : decode cX6_covered 27 = .ok (.getfield 29, 3) := by decide +kernel
theorem dX6_covered_30 : decode cX6_covered 30 = .ok (.aload_n 2, 1) := by decide +kernel
theorem dX6_covered_31 : decode cX6_covered 31 = .ok (.invokevirtual 165, 3) := by decide +kernel
theorem dX6_covered_34 : decode cX6_covered 34 = .ok (.freturn, 1) := by decide +kernel
theorem dX6_touched_0 : decode cX6_touched 0 = .ok (.aload_n 0, 1) := by decide +kernel
theorem dX6_touched_1 : decode cX6_touched 1 = .ok (.iload_n 1, 1) := by decide +kernel
theorem dX6_touched_2 : decode cX6_touched 2 = .ok (.invokevirtual 79, 3) := by decide +kernel
theorem dX6_touched_5 : decode cX6_touched 5 = .ok (.astore_n 2, 1) := by decide +kernel
theorem dX6_touched_6 : decode cX6_touched 6 = .ok (.aload_n 0, 1) := by decide +kernel
theorem dX6_touched_7 : decode cX6_touched 7 = .ok (.getfield 29, 3) := by decide +kernel
theorem dX6_touched_10 : decode cX6_touched 10 = .ok (.aload_n 2, 1) := by decide +kernel
theorem dX6_touched_11 : decode cX6_touched 11 = .ok (.invokevirtual 157, 3) := by decide +kernel
theorem dX6_touched_14 : decode cX6_touched 14 = .ok (.invokevirtual 161, 3) := by decide +kernel
theorem dX6_touched_17 : decode cX6_touched 17 = .ok (.aload_n 0, 1) := by decide +kernel
theorem dX6_touched_18 : decode cX6_touched 18 = .ok (.getfield 29, 3) := by decide +kernel
theorem dX6_touched_21 : decode cX6_touched 21 = .ok (.getfield 169, 3) := by decide +kernel
theorem dX6_touched_24 : decode cX6_touched 24 = .ok (.ireturn, 1) := by decide +kernel
theorem dX6_write_0 : decode cX6_write 0 = .ok (.iload_n 1, 1) := by decide +kernel
theorem dX6_write_1 : decode cX6_write 1 = .ok (.ifCond .eq 18, 3) := by decide +kernel
theorem dX6_write_4 : decode cX6_write 4 = .ok (.iload_n 1, 1) := by decide +kernel
theorem dX6_write_5 : decode cX6_write 5 = .ok (.iconst 1, 1) := by decide +kernel
theorem dX6_write_6 : decode cX6_write 6 = .ok (.if_icmp .eq 13, 3) := by decide +kernel
theorem dX6_write_9 : decode cX6_write 9 = .ok (.new 55, 3) := by decide +kernel
theorem dX6_write_12 : decode cX6_write 12 = .ok (.dup, 1) := by decide +kernel
theorem dX6_write_13 : decode cX6_write 13 = .ok (.ldc 172, 2) := by decide +kernel
theorem dX6_write_15 : decode cX6_write 15 = .ok (.invokespecial 59, 3) := by decide +kernel
theorem dX6_write_18 : decode cX6_write 18 = .ok (.athrow, 1) := by decide +kernel
theorem dX6_write_19 : decode cX6_write 19 = .ok (.aload_n 0, 1) := by decide +kernel
theorem dX6_write_20 : decode cX6_write 20 = .ok (.invokevirtual 124, 3) := by decide +kernel
theorem dX6_write_23 : decode cX6_write 23 = .ok (.aload_n 0, 1) := by decide +kernel
theorem dX6_write_24 : decode cX6_write 24 = .ok (.getfield 36, 3) := by decide +kernel
theorem dX6_write_27 : decode cX6_write 27 = .ok (.aload_n 0, 1) := by decide +kernel
theorem dX6_write_28 : decode cX6_write 28 = .ok (.getfield 22, 3) := by decide +kernel
theorem dX6_write_31 : decode cX6_write 31 = .ok (.iload_n 1, 1) := by decide +kernel
theorem dX6_write_32 : decode cX6_write 32 = .ok (.invokevirtual 174, 3) := by decide +kernel
theorem dX6_write_35 : decode cX6_write 35 = .ok (.aload_n 0, 1) := by decide +kernel
theorem dX6_write_36 : decode cX6_write 36 = .ok (.getfield 36, 3) := by decide +kernel
theorem dX6_write_39 : decode cX6_write 39 = .ok (.getfield 178, 3) := by decide +kernel
theorem dX6_write_42 : decode cX6_write 42 = .ok (.ireturn, 1) := by decide +kernel
theorem dX6_byteAt_0 : decode cX6_byteAt 0 = .ok (.aload_n 0, 1) := by decide +kernel
theorem dX6_byteAt_1 : decode cX6_byteAt 1 = .ok (.getfield 36, 3) := by decide +kernel
theorem dX6_byteAt_4 : decode cX6_byteAt 4 = .ok (.iload_n 1, 1) := by decide +kernel
theorem dX6_byteAt_5 : decode cX6_byteAt 5 = .ok (.invokevirtual 179, 3) := by decide +kernel
theorem dX6_byteAt_8 : decode cX6_byteAt 8 = .ok (.ifCond .ne 13, 3) := by decide +kernel
theorem dX6_byteAt_11 : decode cX6_byteAt 11 = .ok (.new 130, 3) := by decide +kernel
theorem dX6_byteAt_14 : decode cX6_byteAt 14 = .ok (.dup, 1) := by decide +kernel
theorem dX6_byteAt_15 : decode cX6_byteAt 15 = .ok (.ldc 182, 2) := by decide +kernel
theorem dX6_byteAt_17 : decode cX6_byteAt 17 = .ok (.invokespecial 134, 3) := by decide +kernel
theorem dX6_byteAt_20 : decode cX6_byteAt 20 = .ok (.athrow, 1) := by decide +kernel
theorem dX6_byteAt_21 : decode cX6_byteAt 21 = .ok (.aload_n 0, 1) := by decide +kernel
theorem dX6_byteAt_22 : decode cX6_byteAt 22 = .ok (.getfield 36, 3) := by decide +kernel
theorem dX6_byteAt_25 : decode cX6_byteAt 25 = .ok (.getfield 184, 3) := by decide +kernel
theorem dX6_byteAt_28 : decode cX6_byteAt 28 = .ok (.iload_n 1, 1) := by decide +kernel
theorem dX6_byteAt_29 : decode cX6_byteAt 29 = .ok (.iaload, 1) := by decide +kernel
theorem dX6_byteAt_30 : decode cX6_byteAt 30 = .ok (.ireturn, 1) := by decide +kernel
theorem dX6_damage_0 : decode cX6_damage 0 = .ok (.aload_n 0, 1) := by decide +kernel
theorem dX6_damage_1 : decode cX6_damage 1 = .ok (.getfield 36, 3) := by decide +kernel
theorem dX6_damage_4 : decode cX6_damage 4 = .ok (.iload_n 1, 1) := by decide +kernel
theorem dX6_damage_5 : decode cX6_damage 5 = .ok (.invokevirtual 179, 3) := by decide +kernel
theorem dX6_damage_8 : decode cX6_damage 8 = .ok (.ifCond .ne 13, 3) := by decide +kernel
theorem dX6_damage_11 : decode cX6_damage 11 = .ok (.new 130, 3) := by decide +kernel
theorem dX6_damage_14 : decode cX6_damage 14 = .ok (.dup, 1) := by decide +kernel
theorem dX6_damage_15 : decode cX6_damage 15 = .ok (.ldc 182, 2) := by decide +kernel
theorem dX6_damage_17 : decode cX6_damage 17 = .ok (.invokespecial 134, 3) := by decide +kernel
theorem dX6_damage_20 : decode cX6_damage 20 = .ok (.athrow, 1) := by decide +kernel
theorem dX6_damage_21 : decode cX6_damage 21 = .ok (.iload_n 2, 1) := by decide +kernel
theorem dX6_damage_22 : decode cX6_damage 22 = .ok (.iconst 0, 1) := by decide +kernel
theorem dX6_damage_23 : decode cX6_damage 23 = .ok (.sipush 255, 3) := by decide +kernel
theorem dX6_damage_26 : decode cX6_damage 26 = .ok (.invokestatic 51, 3) := by decide +kernel
theorem dX6_damage_29 : decode cX6_damage 29 = .ok (.ifCond .ne 13, 3) := by decide +kernel
theorem dX6_damage_32 : decode cX6_damage 32 = .ok (.new 55, 3) := by decide +kernel
theorem dX6_damage_35 : decode cX6_damage 35 = .ok (.dup, 1) := by decide +kernel
theorem dX6_damage_36 : decode cX6_damage 36 = .ok (.ldc 187, 2) := by decide +kernel
theorem dX6_damage_38 : decode cX6_damage 38 = .ok (.invokespecial 59, 3) := by decide +kernel
theorem dX6_damage_41 : decode cX6_damage 41 = .ok (.athrow, 1) := by decide +kernel
theorem dX6_damage_42 : decode cX6_damage 42 = .ok (.aload_n 0, 1) := by decide +kernel
theorem dX6_damage_43 : decode cX6_damage 43 = .ok (.getfield 36, 3) := by decide +kernel
theorem dX6_damage_46 : decode cX6_damage 46 = .ok (.getfield 184, 3) := by decide +kernel
theorem dX6_damage_49 : decode cX6_damage 49 = .ok (.iload_n 1, 1) := by decide +kernel
theorem dX6_damage_50 : decode cX6_damage 50 = .ok (.iaload, 1) := by decide +kernel
theorem dX6_damage_51 : decode cX6_damage 51 = .ok (.istore_n 3, 1) := by decide +kernel
theorem dX6_damage_52 : decode cX6_damage 52 = .ok (.aload_n 0, 1) := by decide +kernel
theorem dX6_damage_53 : decode cX6_damage 53 = .ok (.getfield 36, 3) := by decide +kernel
theorem dX6_damage_56 : decode cX6_damage 56 = .ok (.getfield 184, 3) := by decide +kernel
theorem dX6_damage_59 : decode cX6_damage 59 = .ok (.iload_n 1, 1) := by decide +kernel
theorem dX6_damage_60 : decode cX6_damage 60 = .ok (.iload_n 2, 1) := by decide +kernel
theorem dX6_damage_61 : decode cX6_damage 61 = .ok (.iastore, 1) := by decide +kernel
theorem dX6_damage_62 : decode cX6_damage 62 = .ok (.iload_n 3, 1) := by decide +kernel
theorem dX6_damage_63 : decode cX6_damage 63 = .ok (.ireturn, 1) := by decide +kernel
theorem dX6_shorten_0 : decode cX6_shorten 0 = .ok (.iload_n 1, 1) := by decide +kernel
theorem dX6_shorten_1 : decode cX6_shorten 1 = .ok (.iconst 0, 1) := by decide +kernel
theorem dX6_shorten_2 : decode cX6_shorten 2 = .ok (.aload_n 0, 1) := by decide +kernel
theorem dX6_shorten_3 : decode cX6_shorten 3 = .ok (.getfield 36, 3) := by decide +kernel
theorem dX6_shorten_6 : decode cX6_shorten 6 = .ok (.getfield 178, 3) := by decide +kernel
theorem dX6_shorten_9 : decode cX6_shorten 9 = .ok (.invokestatic 51, 3) := by decide +kernel
theorem dX6_shorten_12 : decode cX6_shorten 12 = .ok (.ifCond .ne 13, 3) := by decide +kernel
theorem dX6_shorten_15 : decode cX6_shorten 15 = .ok (.new 55, 3) := by decide +kernel
theorem dX6_shorten_18 : decode cX6_shorten 18 = .ok (.dup, 1) := by decide +kernel
theorem dX6_shorten_19 : decode cX6_shorten 19 = .ok (.ldc 189, 2) := by decide +kernel
theorem dX6_shorten_21 : decode cX6_shorten 21 = .ok (.invokespecial 59, 3) := by decide +kernel
theorem dX6_shorten_24 : decode cX6_shorten 24 = .ok (.athrow, 1) := by decide +kernel
theorem dX6_shorten_25 : decode cX6_shorten 25 = .ok (.aload_n 0, 1) := by decide +kernel
theorem dX6_shorten_26 : decode cX6_shorten 26 = .ok (.getfield 36, 3) := by decide +kernel
theorem dX6_shorten_29 : decode cX6_shorten 29 = .ok (.getfield 178, 3) := by decide +kernel
theorem dX6_shorten_32 : decode cX6_shorten 32 = .ok (.istore_n 2, 1) := by decide +kernel
theorem dX6_shorten_33 : decode cX6_shorten 33 = .ok (.aload_n 0, 1) := by decide +kernel
theorem dX6_shorten_34 : decode cX6_shorten 34 = .ok (.getfield 36, 3) := by decide +kernel
theorem dX6_shorten_37 : decode cX6_shorten 37 = .ok (.iload_n 1, 1) := by decide +kernel
theorem dX6_shorten_38 : decode cX6_shorten 38 = .ok (.putfield 178, 3) := by decide +kernel
theorem dX6_shorten_41 : decode cX6_shorten 41 = .ok (.iload_n 2, 1) := by decide +kernel
theorem dX6_shorten_42 : decode cX6_shorten 42 = .ok (.ireturn, 1) := by decide +kernel
theorem dX6_fault_0 : decode cX6_fault 0 = .ok (.aload_n 0, 1) := by decide +kernel
theorem dX6_fault_1 : decode cX6_fault 1 = .ok (.getfield 36, 3) := by decide +kernel
theorem dX6_fault_4 : decode cX6_fault 4 = .ok (.invokevirtual 191, 3) := by decide +kernel
theorem dX6_fault_7 : decode cX6_fault 7 = .ok (.aload_n 0, 1) := by decide +kernel
theorem dX6_fault_8 : decode cX6_fault 8 = .ok (.getfield 36, 3) := by decide +kernel
theorem dX6_fault_11 : decode cX6_fault 11 = .ok (.getfield 194, 3) := by decide +kernel
theorem dX6_fault_14 : decode cX6_fault 14 = .ok (.ireturn, 1) := by decide +kernel
theorem dX6_reads_0 : decode cX6_reads 0 = .ok (.aload_n 0, 1) := by decide +kernel
theorem dX6_reads_1 : decode cX6_reads 1 = .ok (.getfield 36, 3) := by decide +kernel
theorem dX6_reads_4 : decode cX6_reads 4 = .ok (.invokevirtual 191, 3) := by decide +kernel
theorem dX6_reads_7 : decode cX6_reads 7 = .ok (.aload_n 0, 1) := by decide +kernel
theorem dX6_reads_8 : decode cX6_reads 8 = .ok (.getfield 36, 3) := by decide +kernel
theorem dX6_reads_11 : decode cX6_reads 11 = .ok (.getfield 197, 3) := by decide +kernel
theorem dX6_reads_14 : decode cX6_reads 14 = .ok (.ireturn, 1) := by decide +kernel
theorem dX6_start_0 : decode cX6_start 0 = .ok (.iload_n 1, 1) := by decide +kernel
theorem dX6_start_1 : decode cX6_start 1 = .ok (.iconst 1, 1) := by decide +kernel
theorem dX6_start_2 : decode cX6_start 2 = .ok (.iconst 4, 1) := by decide +kernel
theorem dX6_start_3 : decode cX6_start 3 = .ok (.invokestatic 51, 3) := by decide +kernel
theorem dX6_start_6 : decode cX6_start 6 = .ok (.ifCond .ne 13, 3) := by decide +kernel
theorem dX6_start_9 : decode cX6_start 9 = .ok (.new 55, 3) := by decide +kernel
theorem dX6_start_12 : decode cX6_start 12 = .ok (.dup, 1) := by decide +kernel
theorem dX6_start_13 : decode cX6_start 13 = .ok (.ldc 200, 2) := by decide +kernel
theorem dX6_start_15 : decode cX6_start 15 = .ok (.invokespecial 59, 3) := by decide +kernel
theorem dX6_start_18 : decode cX6_start 18 = .ok (.athrow, 1) := by decide +kernel
theorem dX6_start_19 : decode cX6_start 19 = .ok (.iload_n 2, 1) := by decide +kernel
theorem dX6_start_20 : decode cX6_start 20 = .ok (.iconst 0, 1) := by decide +kernel
theorem dX6_start_21 : decode cX6_start 21 = .ok (.bipush 20, 2) := by decide +kernel
theorem dX6_start_23 : decode cX6_start 23 = .ok (.invokestatic 51, 3) := by decide +kernel
theorem dX6_start_26 : decode cX6_start 26 = .ok (.ifCond .ne 13, 3) := by decide +kernel
theorem dX6_start_29 : decode cX6_start 29 = .ok (.new 55, 3) := by decide +kernel
theorem dX6_start_32 : decode cX6_start 32 = .ok (.dup, 1) := by decide +kernel
theorem dX6_start_33 : decode cX6_start 33 = .ok (.ldc 202, 2) := by decide +kernel
theorem dX6_start_35 : decode cX6_start 35 = .ok (.invokespecial 59, 3) := by decide +kernel
theorem dX6_start_38 : decode cX6_start 38 = .ok (.athrow, 1) := by decide +kernel
theorem dX6_start_39 : decode cX6_start 39 = .ok (.aload_n 0, 1) := by decide +kernel
theorem dX6_start_40 : decode cX6_start 40 = .ok (.invokevirtual 124, 3) := by decide +kernel
theorem dX6_start_43 : decode cX6_start 43 = .ok (.aload_n 0, 1) := by decide +kernel
theorem dX6_start_44 : decode cX6_start 44 = .ok (.getfield 43, 3) := by decide +kernel
theorem dX6_start_47 : decode cX6_start 47 = .ok (.aload_n 0, 1) := by decide +kernel
theorem dX6_start_48 : decode cX6_start 48 = .ok (.getfield 22, 3) := by decide +kernel
theorem dX6_start_51 : decode cX6_start 51 = .ok (.iload_n 1, 1) := by decide +kernel
theorem dX6_start_52 : decode cX6_start 52 = .ok (.iload_n 2, 1) := by decide +kernel
theorem dX6_start_53 : decode cX6_start 53 = .ok (.invokevirtual 204, 3) := by decide +kernel
theorem dX6_start_56 : decode cX6_start 56 = .ok (.return_, 1) := by decide +kernel
theorem dX6_run_0 : decode cX6_run 0 = .ok (.iload_n 1, 1) := by decide +kernel
theorem dX6_run_1 : decode cX6_run 1 = .ok (.iconst 1, 1) := by decide +kernel
theorem dX6_run_2 : decode cX6_run 2 = .ok (.sipush 1000, 3) := by decide +kernel
theorem dX6_run_5 : decode cX6_run 5 = .ok (.invokestatic 51, 3) := by decide +kernel
theorem dX6_run_8 : decode cX6_run 8 = .ok (.ifCond .ne 13, 3) := by decide +kernel
theorem dX6_run_11 : decode cX6_run 11 = .ok (.new 55, 3) := by decide +kernel
theorem dX6_run_14 : decode cX6_run 14 = .ok (.dup, 1) := by decide +kernel
theorem dX6_run_15 : decode cX6_run 15 = .ok (.ldc 208, 2) := by decide +kernel
theorem dX6_run_17 : decode cX6_run 17 = .ok (.invokespecial 59, 3) := by decide +kernel
theorem dX6_run_20 : decode cX6_run 20 = .ok (.athrow, 1) := by decide +kernel
theorem dX6_run_21 : decode cX6_run 21 = .ok (.aload_n 0, 1) := by decide +kernel
theorem dX6_run_22 : decode cX6_run 22 = .ok (.getfield 43, 3) := by decide +kernel
theorem dX6_run_25 : decode cX6_run 25 = .ok (.getfield 210, 3) := by decide +kernel
theorem dX6_run_28 : decode cX6_run 28 = .ok (.ifCond .ne 13, 3) := by decide +kernel
theorem dX6_run_31 : decode cX6_run 31 = .ok (.new 67, 3) := by decide +kernel
theorem dX6_run_34 : decode cX6_run 34 = .ok (.dup, 1) := by decide +kernel
theorem dX6_run_35 : decode cX6_run 35 = .ok (.ldc 213, 2) := by decide +kernel
theorem dX6_run_37 : decode cX6_run 37 = .ok (.invokespecial 71, 3) := by decide +kernel
theorem dX6_run_40 : decode cX6_run 40 = .ok (.athrow, 1) := by decide +kernel
theorem dX6_run_41 : decode cX6_run 41 = .ok (.aload_n 0, 1) := by decide +kernel
theorem dX6_run_42 : decode cX6_run 42 = .ok (.getfield 43, 3) := by decide +kernel
theorem dX6_run_45 : decode cX6_run 45 = .ok (.iload_n 1, 1) := by decide +kernel
theorem dX6_run_46 : decode cX6_run 46 = .ok (.invokevirtual 215, 3) := by decide +kernel
theorem dX6_run_49 : decode cX6_run 49 = .ok (.ireturn, 1) := by decide +kernel
theorem dX6_breaks_0 : decode cX6_breaks 0 = .ok (.aload_n 0, 1) := by decide +kernel
theorem dX6_breaks_1 : decode cX6_breaks 1 = .ok (.getfield 43, 3) := by decide +kernel
theorem dX6_breaks_4 : decode cX6_breaks 4 = .ok (.iload_n 1, 1) := by decide +kernel
theorem dX6_breaks_5 : decode cX6_breaks 5 = .ok (.invokevirtual 219, 3) := by decide +kernel
theorem dX6_breaks_8 : decode cX6_breaks 8 = .ok (.ifCond .ne 13, 3) := by decide +kernel
theorem dX6_breaks_11 : decode cX6_breaks 11 = .ok (.new 130, 3) := by decide +kernel
theorem dX6_breaks_14 : decode cX6_breaks 14 = .ok (.dup, 1) := by decide +kernel
theorem dX6_breaks_15 : decode cX6_breaks 15 = .ok (.ldc 220, 2) := by decide +kernel
theorem dX6_breaks_17 : decode cX6_breaks 17 = .ok (.invokespecial 134, 3) := by decide +kernel
theorem dX6_breaks_20 : decode cX6_breaks 20 = .ok (.athrow, 1) := by decide +kernel
theorem dX6_breaks_21 : decode cX6_breaks 21 = .ok (.aload_n 0, 1) := by decide +kernel
theorem dX6_breaks_22 : decode cX6_breaks 22 = .ok (.getfield 43, 3) := by decide +kernel
theorem dX6_breaks_25 : decode cX6_breaks 25 = .ok (.getfield 222, 3) := by decide +kernel
theorem dX6_breaks_28 : decode cX6_breaks 28 = .ok (.iload_n 1, 1) := by decide +kernel
theorem dX6_breaks_29 : decode cX6_breaks 29 = .ok (.baload, 1) := by decide +kernel
theorem dX6_breaks_30 : decode cX6_breaks 30 = .ok (.ifCond .eq 13, 3) := by decide +kernel
theorem dX6_breaks_33 : decode cX6_breaks 33 = .ok (.new 67, 3) := by decide +kernel
theorem dX6_breaks_36 : decode cX6_breaks 36 = .ok (.dup, 1) := by decide +kernel
theorem dX6_breaks_37 : decode cX6_breaks 37 = .ok (.ldc 225, 2) := by decide +kernel
theorem dX6_breaks_39 : decode cX6_breaks 39 = .ok (.invokespecial 71, 3) := by decide +kernel
theorem dX6_breaks_42 : decode cX6_breaks 42 = .ok (.athrow, 1) := by decide +kernel
theorem dX6_breaks_43 : decode cX6_breaks 43 = .ok (.aload_n 0, 1) := by decide +kernel
theorem dX6_breaks_44 : decode cX6_breaks 44 = .ok (.getfield 43, 3) := by decide +kernel
theorem dX6_breaks_47 : decode cX6_breaks 47 = .ok (.iload_n 1, 1) := by decide +kernel
theorem dX6_breaks_48 : decode cX6_breaks 48 = .ok (.invokevirtual 227, 3) := by decide +kernel
theorem dX6_breaks_51 : decode cX6_breaks 51 = .ok (.return_, 1) := by decide +kernel
theorem dX6_mend_0 : decode cX6_mend 0 = .ok (.aload_n 0, 1) := by decide +kernel
theorem dX6_mend_1 : decode cX6_mend 1 = .ok (.getfield 43, 3) := by decide +kernel
theorem dX6_mend_4 : decode cX6_mend 4 = .ok (.iload_n 1, 1) := by decide +kernel
theorem dX6_mend_5 : decode cX6_mend 5 = .ok (.invokevirtual 219, 3) := by decide +kernel
theorem dX6_mend_8 : decode cX6_mend 8 = .ok (.ifCond .ne 13, 3) := by decide +kernel
theorem dX6_mend_11 : decode cX6_mend 11 = .ok (.new 130, 3) := by decide +kernel
theorem dX6_mend_14 : decode cX6_mend 14 = .ok (.dup, 1) := by decide +kernel
theorem dX6_mend_15 : decode cX6_mend 15 = .ok (.ldc 220, 2) := by decide +kernel
theorem dX6_mend_17 : decode cX6_mend 17 = .ok (.invokespecial 134, 3) := by decide +kernel
theorem dX6_mend_20 : decode cX6_mend 20 = .ok (.athrow, 1) := by decide +kernel
theorem dX6_mend_21 : decode cX6_mend 21 = .ok (.aload_n 0, 1) := by decide +kernel
theorem dX6_mend_22 : decode cX6_mend 22 = .ok (.getfield 43, 3) := by decide +kernel
theorem dX6_mend_25 : decode cX6_mend 25 = .ok (.iload_n 1, 1) := by decide +kernel
theorem dX6_mend_26 : decode cX6_mend 26 = .ok (.invokevirtual 230, 3) := by decide +kernel
theorem dX6_mend_29 : decode cX6_mend 29 = .ok (.ifCond .ne 13, 3) := by decide +kernel
theorem dX6_mend_32 : decode cX6_mend 32 = .ok (.new 67, 3) := by decide +kernel
theorem dX6_mend_35 : decode cX6_mend 35 = .ok (.dup, 1) := by decide +kernel
theorem dX6_mend_36 : decode cX6_mend 36 = .ok (.ldc 233, 2) := by decide +kernel
theorem dX6_mend_38 : decode cX6_mend 38 = .ok (.invokespecial 71, 3) := by decide +kernel
theorem dX6_mend_41 : decode cX6_mend 41 = .ok (.athrow, 1) := by decide +kernel
theorem dX6_mend_42 : decode cX6_mend 42 = .ok (.aload_n 0, 1) := by decide +kernel
theorem dX6_mend_43 : decode cX6_mend 43 = .ok (.getfield 43, 3) := by decide +kernel
theorem dX6_mend_46 : decode cX6_mend 46 = .ok (.iload_n 1, 1) := by decide +kernel
theorem dX6_mend_47 : decode cX6_mend 47 = .ok (.invokevirtual 235, 3) := by decide +kernel
theorem dX6_mend_50 : decode cX6_mend 50 = .ok (.ireturn, 1) := by decide +kernel
theorem dX6_sewn_0 : decode cX6_sewn 0 = .ok (.aload_n 0, 1) := by decide +kernel
theorem dX6_sewn_1 : decode cX6_sewn 1 = .ok (.getfield 43, 3) := by decide +kernel
theorem dX6_sewn_4 : decode cX6_sewn 4 = .ok (.iload_n 1, 1) := by decide +kernel
theorem dX6_sewn_5 : decode cX6_sewn 5 = .ok (.invokevirtual 219, 3) := by decide +kernel
theorem dX6_sewn_8 : decode cX6_sewn 8 = .ok (.ifCond .ne 13, 3) := by decide +kernel
theorem dX6_sewn_11 : decode cX6_sewn 11 = .ok (.new 130, 3) := by decide +kernel
theorem dX6_sewn_14 : decode cX6_sewn 14 = .ok (.dup, 1) := by decide +kernel
theorem dX6_sewn_15 : decode cX6_sewn 15 = .ok (.ldc 220, 2) := by decide +kernel
theorem dX6_sewn_17 : decode cX6_sewn 17 = .ok (.invokespecial 134, 3) := by decide +kernel
theorem dX6_sewn_20 : decode cX6_sewn 20 = .ok (.athrow, 1) := by decide +kernel
theorem dX6_sewn_21 : decode cX6_sewn 21 = .ok (.aload_n 0, 1) := by decide +kernel
theorem dX6_sewn_22 : decode cX6_sewn 22 = .ok (.getfield 43, 3) := by decide +kernel
theorem dX6_sewn_25 : decode cX6_sewn 25 = .ok (.getfield 238, 3) := by decide +kernel
theorem dX6_sewn_28 : decode cX6_sewn 28 = .ok (.iload_n 1, 1) := by decide +kernel
theorem dX6_sewn_29 : decode cX6_sewn 29 = .ok (.iaload, 1) := by decide +kernel
theorem dX6_sewn_30 : decode cX6_sewn 30 = .ok (.ireturn, 1) := by decide +kernel
theorem dX6_fieldNumbered_0 : decode cX6_fieldNumbered 0 = .ok (.iload_n 1, 1) := by decide +kernel
theorem dX6_fieldNumbered_1 : decode cX6_fieldNumbered 1 = .ok (.ifCond .lt 20, 3) := by decide +kernel
theorem dX6_fieldNumbered_4 : decode cX6_fieldNumbered 4 = .ok (.iload_n 1, 1) := by decide +kernel
theorem dX6_fieldNumbered_5 : decode cX6_fieldNumbered 5 = .ok (.aload_n 0, 1) := by decide +kernel
theorem dX6_fieldNumbered_6 : decode cX6_fieldNumbered 6 = .ok (.getfield 64, 3) := by decide +kernel
theorem dX6_fieldNumbered_9 : decode cX6_fieldNumbered 9 = .ok (.if_icmp .ge 12, 3) := by decide +kernel
theorem dX6_fieldNumbered_12 : decode cX6_fieldNumbered 12 = .ok (.iload_n 1, 1) := by decide +kernel
theorem dX6_fieldNumbered_13 : decode cX6_fieldNumbered 13 = .ok (.aload_n 0, 1) := by decide +kernel
theorem dX6_fieldNumbered_14 : decode cX6_fieldNumbered 14 = .ok (.getfield 11, 3) := by decide +kernel
theorem dX6_fieldNumbered_17 : decode cX6_fieldNumbered 17 = .ok (.arraylength, 1) := by decide +kernel
theorem dX6_fieldNumbered_18 : decode cX6_fieldNumbered 18 = .ok (.if_icmp .lt 13, 3) := by decide +kernel
theorem dX6_fieldNumbered_21 : decode cX6_fieldNumbered 21 = .ok (.new 130, 3) := by decide +kernel
theorem dX6_fieldNumbered_24 : decode cX6_fieldNumbered 24 = .ok (.dup, 1) := by decide +kernel
theorem dX6_fieldNumbered_25 : decode cX6_fieldNumbered 25 = .ok (.ldc 241, 2) := by decide +kernel
theorem dX6_fieldNumbered_27 : decode cX6_fieldNumbered 27 = .ok (.invokespecial 134, 3) := by decide +kernel
theorem dX6_fieldNumbered_30 : decode cX6_fieldNumbered 30 = .ok (.athrow, 1) := by decide +kernel
theorem dX6_fieldNumbered_31 : decode cX6_fieldNumbered 31 = .ok (.aload_n 0, 1) := by decide +kernel
theorem dX6_fieldNumbered_32 : decode cX6_fieldNumbered 32 = .ok (.getfield 11, 3) := by decide +kernel
theorem dX6_fieldNumbered_35 : decode cX6_fieldNumbered 35 = .ok (.iload_n 1, 1) := by decide +kernel
theorem dX6_fieldNumbered_36 : decode cX6_fieldNumbered 36 = .ok (.aaload, 1) := by decide +kernel
theorem dX6_fieldNumbered_37 : decode cX6_fieldNumbered 37 = .ok (.astore_n 2, 1) := by decide +kernel
theorem dX6_fieldNumbered_38 : decode cX6_fieldNumbered 38 = .ok (.aload_n 2, 1) := by decide +kernel
theorem dX6_fieldNumbered_39 : decode cX6_fieldNumbered 39 = .ok (.ifnonnull 13, 3) := by decide +kernel
theorem dX6_fieldNumbered_42 : decode cX6_fieldNumbered 42 = .ok (.new 130, 3) := by decide +kernel
theorem dX6_fieldNumbered_45 : decode cX6_fieldNumbered 45 = .ok (.dup, 1) := by decide +kernel
theorem dX6_fieldNumbered_46 : decode cX6_fieldNumbered 46 = .ok (.ldc 241, 2) := by decide +kernel
theorem dX6_fieldNumbered_48 : decode cX6_fieldNumbered 48 = .ok (.invokespecial 134, 3) := by decide +kernel
theorem dX6_fieldNumbered_51 : decode cX6_fieldNumbered 51 = .ok (.athrow, 1) := by decide +kernel
theorem dX6_fieldNumbered_52 : decode cX6_fieldNumbered 52 = .ok (.aload_n 2, 1) := by decide +kernel
theorem dX6_fieldNumbered_53 : decode cX6_fieldNumbered 53 = .ok (.areturn, 1) := by decide +kernel
theorem dX6_refresh_0 : decode cX6_refresh 0 = .ok (.aload_n 0, 1) := by decide +kernel
theorem dX6_refresh_1 : decode cX6_refresh 1 = .ok (.getfield 75, 3) := by decide +kernel
theorem dX6_refresh_4 : decode cX6_refresh 4 = .ok (.ifCond .eq 4, 3) := by decide +kernel
theorem dX6_refresh_7 : decode cX6_refresh 7 = .ok (.return_, 1) := by decide +kernel
theorem dX6_refresh_8 : decode cX6_refresh 8 = .ok (.iconst 0, 1) := by decide +kernel
theorem dX6_refresh_9 : decode cX6_refresh 9 = .ok (.istore_n 1, 1) := by decide +kernel
theorem dX6_refresh_10 : decode cX6_refresh 10 = .ok (.iload_n 1, 1) := by decide +kernel
theorem dX6_refresh_11 : decode cX6_refresh 11 = .ok (.aload_n 0, 1) := by decide +kernel
theorem dX6_refresh_12 : decode cX6_refresh 12 = .ok (.getfield 15, 3) := by decide +kernel
theorem dX6_refresh_15 : decode cX6_refresh 15 = .ok (.arraylength, 1) := by decide +kernel
theorem dX6_refresh_16 : decode cX6_refresh 16 = .ok (.if_icmp .ge 50, 3) := by decide +kernel
theorem dX6_refresh_19 : decode cX6_refresh 19 = .ok (.iload_n 1, 1) := by decide +kernel
theorem dX6_refresh_20 : decode cX6_refresh 20 = .ok (.aload_n 0, 1) := by decide +kernel
theorem dX6_refresh_21 : decode cX6_refresh 21 = .ok (.getfield 11, 3) := by decide +kernel
theorem dX6_refresh_24 : decode cX6_refresh 24 = .ok (.arraylength, 1) := by decide +kernel
theorem dX6_refresh_25 : decode cX6_refresh 25 = .ok (.if_icmp .ge 41, 3) := by decide +kernel
theorem dX6_refresh_28 : decode cX6_refresh 28 = .ok (.aload_n 0, 1) := by decide +kernel
theorem dX6_refresh_29 : decode cX6_refresh 29 = .ok (.getfield 11, 3) := by decide +kernel
theorem dX6_refresh_32 : decode cX6_refresh 32 = .ok (.iload_n 1, 1) := by decide +kernel
theorem dX6_refresh_33 : decode cX6_refresh 33 = .ok (.aaload, 1) := by decide +kernel
theorem dX6_refresh_34 : decode cX6_refresh 34 = .ok (.astore_n 2, 1) := by decide +kernel
theorem dX6_refresh_35 : decode cX6_refresh 35 = .ok (.aload_n 0, 1) := by decide +kernel
theorem dX6_refresh_36 : decode cX6_refresh 36 = .ok (.getfield 15, 3) := by decide +kernel
theorem dX6_refresh_39 : decode cX6_refresh 39 = .ok (.iload_n 1, 1) := by decide +kernel
theorem dX6_refresh_40 : decode cX6_refresh 40 = .ok (.aload_n 2, 1) := by decide +kernel
theorem dX6_refresh_41 : decode cX6_refresh 41 = .ok (.ifnull 17, 3) := by decide +kernel
theorem dX6_refresh_44 : decode cX6_refresh 44 = .ok (.aload_n 2, 1) := by decide +kernel
theorem dX6_refresh_45 : decode cX6_refresh 45 = .ok (.invokevirtual 157, 3) := by decide +kernel
theorem dX6_refresh_48 : decode cX6_refresh 48 = .ok (.getfield 243, 3) := by decide +kernel
theorem dX6_refresh_51 : decode cX6_refresh 51 = .ok (.ifCond .le 7, 3) := by decide +kernel
theorem dX6_refresh_54 : decode cX6_refresh 54 = .ok (.iconst 1, 1) := by decide +kernel
theorem dX6_refresh_55 : decode cX6_refresh 55 = .ok (.goto 4, 3) := by decide +kernel
theorem dX6_refresh_58 : decode cX6_refresh 58 = .ok (.iconst 0, 1) := by decide +kernel
theorem dX6_refresh_59 : decode cX6_refresh 59 = .ok (.bastore, 1) := by decide +kernel
theorem dX6_refresh_60 : decode cX6_refresh 60 = .ok (.iinc 1 1, 3) := by decide +kernel
theorem dX6_refresh_63 : decode cX6_refresh 63 = .ok (.goto (-53), 3) := by decide +kernel
theorem dX6_refresh_66 : decode cX6_refresh 66 = .ok (.aload_n 0, 1) := by decide +kernel
theorem dX6_refresh_67 : decode cX6_refresh 67 = .ok (.getfield 22, 3) := by decide +kernel
theorem dX6_refresh_70 : decode cX6_refresh 70 = .ok (.invokevirtual 246, 3) := by decide +kernel
theorem dX6_refresh_73 : decode cX6_refresh 73 = .ok (.iconst 0, 1) := by decide +kernel
theorem dX6_refresh_74 : decode cX6_refresh 74 = .ok (.istore_n 1, 1) := by decide +kernel
theorem dX6_refresh_75 : decode cX6_refresh 75 = .ok (.iload_n 1, 1) := by decide +kernel
theorem dX6_refresh_76 : decode cX6_refresh 76 = .ok (.bipush 8, 2) := by decide +kernel
theorem dX6_refresh_78 : decode cX6_refresh 78 = .ok (.if_icmp .ge 13, 3) := by decide +kernel
theorem dX6_refresh_81 : decode cX6_refresh 81 = .ok (.aload_n 0, 1) := by decide +kernel
theorem dX6_refresh_82 : decode cX6_refresh 82 = .ok (.invokevirtual 248, 3) := by decide +kernel
theorem dX6_refresh_85 : decode cX6_refresh 85 = .ok (.iinc 1 1, 3) := by decide +kernel
theorem dX6_refresh_88 : decode cX6_refresh 88 = .ok (.goto (-13), 3) := by decide +kernel
theorem dX6_refresh_91 : decode cX6_refresh 91 = .ok (.aload_n 0, 1) := by decide +kernel
theorem dX6_refresh_92 : decode cX6_refresh 92 = .ok (.getfield 22, 3) := by decide +kernel
theorem dX6_refresh_95 : decode cX6_refresh 95 = .ok (.iconst 4, 1) := by decide +kernel
theorem dX6_refresh_96 : decode cX6_refresh 96 = .ok (.iconst 0, 1) := by decide +kernel
theorem dX6_refresh_97 : decode cX6_refresh 97 = .ok (.iconst 0, 1) := by decide +kernel
theorem dX6_refresh_98 : decode cX6_refresh 98 = .ok (.iconst (-1), 1) := by decide +kernel
theorem dX6_refresh_99 : decode cX6_refresh 99 = .ok (.invokevirtual 251, 3) := by decide +kernel
theorem dX6_refresh_102 : decode cX6_refresh 102 = .ok (.aload_n 0, 1) := by decide +kernel
theorem dX6_refresh_103 : decode cX6_refresh 103 = .ok (.iconst 1, 1) := by decide +kernel
theorem dX6_refresh_104 : decode cX6_refresh 104 = .ok (.putfield 75, 3) := by decide +kernel
theorem dX6_refresh_107 : decode cX6_refresh 107 = .ok (.return_, 1) := by decide +kernel
theorem dX6_sewNextField_0 : decode cX6_sewNextField 0 = .ok (.iconst (-1), 1) := by decide +kernel
theorem dX6_sewNextField_1 : decode cX6_sewNextField 1 = .ok (.istore_n 1, 1) := by decide +kernel
theorem dX6_sewNextField_2 : decode cX6_sewNextField 2 = .ok (.aconst_null, 1) := by decide +kernel
theorem dX6_sewNextField_3 : decode cX6_sewNextField 3 = .ok (.astore_n 2, 1) := by decide +kernel
theorem dX6_sewNextField_4 : decode cX6_sewNextField 4 = .ok (.iconst 0, 1) := by decide +kernel
theorem dX6_sewNextField_5 : decode cX6_sewNextField 5 = .ok (.istore_n 3, 1) := by decide +kernel
theorem dX6_sewNextField_6 : decode cX6_sewNextField 6 = .ok (.iload_n 3, 1) := by decide +kernel
theorem dX6_sewNextField_7 : decode cX6_sewNextField 7 = .ok (.aload_n 0, 1) := by decide +kernel
theorem dX6_sewNextField_8 : decode cX6_sewNextField 8 = .ok (.getfield 15, 3) := by decide +kernel
theorem dX6_sewNextField_11 : decode cX6_sewNextField 11 = .ok (.arraylength, 1) := by decide +kernel
theorem dX6_sewNextField_12 : decode cX6_sewNextField 12 = .ok (.if_icmp .ge 59, 3) := by decide +kernel
theorem dX6_sewNextField_15 : decode cX6_sewNextField 15 = .ok (.iload_n 3, 1) := by decide +kernel
theorem dX6_sewNextField_16 : decode cX6_sewNextField 16 = .ok (.aload_n 0, 1) := by decide +kernel
theorem dX6_sewNextField_17 : decode cX6_sewNextField 17 = .ok (.getfield 11, 3) := by decide +kernel
theorem dX6_sewNextField_20 : decode cX6_sewNextField 20 = .ok (.arraylength, 1) := by decide +kernel
theorem dX6_sewNextField_21 : decode cX6_sewNextField 21 = .ok (.if_icmp .ge 50, 3) := by decide +kernel
theorem dX6_sewNextField_24 : decode cX6_sewNextField 24 = .ok (.aload_n 0, 1) := by decide +kernel
theorem dX6_sewNextField_25 : decode cX6_sewNextField 25 = .ok (.getfield 11, 3) := by decide +kernel
theorem dX6_sewNextField_28 : decode cX6_sewNextField 28 = .ok (.iload_n 3, 1) := by decide +kernel
theorem dX6_sewNextField_29 : decode cX6_sewNextField 29 = .ok (.aaload, 1) := by decide +kernel
theorem dX6_sewNextField_30 : decode cX6_sewNextField 30 = .ok (.astore 4, 2) := by decide +kernel
theorem dX6_sewNextField_32 : decode cX6_sewNextField 32 = .ok (.aload 4, 2) := by decide +kernel
theorem dX6_sewNextField_34 : decode cX6_sewNextField 34 = .ok (.ifnull 31, 3) := by decide +kernel
theorem dX6_sewNextField_37 : decode cX6_sewNextField 37 = .ok (.aload_n 0, 1) := by decide +kernel
theorem dX6_sewNextField_38 : decode cX6_sewNextField 38 = .ok (.getfield 15, 3) := by decide +kernel
theorem dX6_sewNextField_41 : decode cX6_sewNextField 41 = .ok (.iload_n 3, 1) := by decide +kernel
theorem dX6_sewNextField_42 : decode cX6_sewNextField 42 = .ok (.baload, 1) := by decide +kernel
theorem dX6_sewNextField_43 : decode cX6_sewNextField 43 = .ok (.ifCond .eq 22, 3) := by decide +kernel
theorem dX6_sewNextField_46 : decode cX6_sewNextField 46 = .ok (.aload_n 2, 1) := by decide +kernel
theorem dX6_sewNextField_47 : decode cX6_sewNextField 47 = .ok (.ifnull 13, 3) := by decide +kernel
theorem dX6_sewNextField_50 : decode cX6_sewNextField 50 = .ok (.aload_n 0, 1) := by decide +kernel
theorem dX6_sewNextField_51 : decode cX6_sewNextField 51 = .ok (.aload 4, 2) := by decide +kernel
theorem dX6_sewNextField_53 : decode cX6_sewNextField 53 = .ok (.aload_n 2, 1) := by decide +kernel
theorem dX6_sewNextField_54 : decode cX6_sewNextField 54 = .ok (.invokevirtual 255, 3) := by decide +kernel
theorem dX6_sewNextField_57 : decode cX6_sewNextField 57 = .ok (.ifCond .eq 8, 3) := by decide +kernel
theorem dX6_sewNextField_60 : decode cX6_sewNextField 60 = .ok (.iload_n 3, 1) := by decide +kernel
theorem dX6_sewNextField_61 : decode cX6_sewNextField 61 = .ok (.istore_n 1, 1) := by decide +kernel
theorem dX6_sewNextField_62 : decode cX6_sewNextField 62 = .ok (.aload 4, 2) := by decide +kernel
theorem dX6_sewNextField_64 : decode cX6_sewNextField 64 = .ok (.astore_n 2, 1) := by decide +kernel
theorem dX6_sewNextField_65 : decode cX6_sewNextField 65 = .ok (.iinc 3 1, 3) := by decide +kernel
theorem dX6_sewNextField_68 : decode cX6_sewNextField 68 = .ok (.goto (-62), 3) := by decide +kernel
theorem dX6_sewNextField_71 : decode cX6_sewNextField 71 = .ok (.aload_n 2, 1) := by decide +kernel
theorem dX6_sewNextField_72 : decode cX6_sewNextField 72 = .ok (.ifnull 36, 3) := by decide +kernel
theorem dX6_sewNextField_75 : decode cX6_sewNextField 75 = .ok (.iload_n 1, 1) := by decide +kernel
theorem dX6_sewNextField_76 : decode cX6_sewNextField 76 = .ok (.ifCond .lt 32, 3) := by decide +kernel
theorem dX6_sewNextField_79 : decode cX6_sewNextField 79 = .ok (.iload_n 1, 1) := by decide +kernel
theorem dX6_sewNextField_80 : decode cX6_sewNextField 80 = .ok (.aload_n 0, 1) := by decide +kernel
theorem dX6_sewNextField_81 : decode cX6_sewNextField 81 = .ok (.getfield 15, 3) := by decide +kernel
theorem dX6_sewNextField_84 : decode cX6_sewNextField 84 = .ok (.arraylength, 1) := by decide +kernel
theorem dX6_sewNextField_85 : decode cX6_sewNextField 85 = .ok (.if_icmp .ge 23, 3) := by decide +kernel
theorem dX6_sewNextField_88 : decode cX6_sewNextField 88 = .ok (.aload_n 0, 1) := by decide +kernel
theorem dX6_sewNextField_89 : decode cX6_sewNextField 89 = .ok (.getfield 15, 3) := by decide +kernel
theorem dX6_sewNextField_92 : decode cX6_sewNextField 92 = .ok (.iload_n 1, 1) := by decide +kernel
theorem dX6_sewNextField_93 : decode cX6_sewNextField 93 = .ok (.iconst 0, 1) := by decide +kernel
theorem dX6_sewNextField_94 : decode cX6_sewNextField 94 = .ok (.bastore, 1) := by decide +kernel
theorem dX6_sewNextField_95 : decode cX6_sewNextField 95 = .ok (.aload_n 0, 1) := by decide +kernel
theorem dX6_sewNextField_96 : decode cX6_sewNextField 96 = .ok (.getfield 22, 3) := by decide +kernel
theorem dX6_sewNextField_99 : decode cX6_sewNextField 99 = .ok (.aload_n 2, 1) := by decide +kernel
theorem dX6_sewNextField_100 : decode cX6_sewNextField 100 = .ok (.iload_n 1, 1) := by decide +kernel
theorem dX6_sewNextField_101 : decode cX6_sewNextField 101 = .ok (.aload_n 0, 1) := by decide +kernel
theorem dX6_sewNextField_102 : decode cX6_sewNextField 102 = .ok (.getfield 47, 3) := by decide +kernel
theorem dX6_sewNextField_105 : decode cX6_sewNextField 105 = .ok (.invokevirtual 259, 3) := by decide +kernel
theorem dX6_sewNextField_108 : decode cX6_sewNextField 108 = .ok (.return_, 1) := by decide +kernel
theorem dX6_comesAhead_0 : decode cX6_comesAhead 0 = .ok (.aload_n 1, 1) := by decide +kernel
theorem dX6_comesAhead_1 : decode cX6_comesAhead 1 = .ok (.getfield 263, 3) := by decide +kernel
theorem dX6_comesAhead_4 : decode cX6_comesAhead 4 = .ok (.aload_n 2, 1) := by decide +kernel
theorem dX6_comesAhead_5 : decode cX6_comesAhead 5 = .ok (.getfield 263, 3) := by decide +kernel
theorem dX6_comesAhead_8 : decode cX6_comesAhead 8 = .ok (.if_icmp .eq 20, 3) := by decide +kernel
theorem dX6_comesAhead_11 : decode cX6_comesAhead 11 = .ok (.aload_n 1, 1) := by decide +kernel
theorem dX6_comesAhead_12 : decode cX6_comesAhead 12 = .ok (.getfield 263, 3) := by decide +kernel
theorem dX6_comesAhead_15 : decode cX6_comesAhead 15 = .ok (.aload_n 2, 1) := by decide +kernel
theorem dX6_comesAhead_16 : decode cX6_comesAhead 16 = .ok (.getfield 263, 3) := by decide +kernel
theorem dX6_comesAhead_19 : decode cX6_comesAhead 19 = .ok (.if_icmp .ge 7, 3) := by decide +kernel
theorem dX6_comesAhead_22 : decode cX6_comesAhead 22 = .ok (.iconst 1, 1) := by decide +kernel
theorem dX6_comesAhead_23 : decode cX6_comesAhead 23 = .ok (.goto 4, 3) := by decide +kernel
theorem dX6_comesAhead_26 : decode cX6_comesAhead 26 = .ok (.iconst 0, 1) := by decide +kernel
theorem dX6_comesAhead_27 : decode cX6_comesAhead 27 = .ok (.ireturn, 1) := by decide +kernel
theorem dX6_comesAhead_28 : decode cX6_comesAhead 28 = .ok (.aload_n 1, 1) := by decide +kernel
theorem dX6_comesAhead_29 : decode cX6_comesAhead 29 = .ok (.getfield 266, 3) := by decide +kernel
theorem dX6_comesAhead_32 : decode cX6_comesAhead 32 = .ok (.aload_n 0, 1) := by decide +kernel
theorem dX6_comesAhead_33 : decode cX6_comesAhead 33 = .ok (.getfield 22, 3) := by decide +kernel
theorem dX6_comesAhead_36 : decode cX6_comesAhead 36 = .ok (.getfield 269, 3) := by decide +kernel
theorem dX6_comesAhead_39 : decode cX6_comesAhead 39 = .ok (.if_icmp .ne 7, 3) := by decide +kernel
theorem dX6_comesAhead_42 : decode cX6_comesAhead 42 = .ok (.iconst 1, 1) := by decide +kernel
theorem dX6_comesAhead_43 : decode cX6_comesAhead 43 = .ok (.goto 4, 3) := by decide +kernel
theorem dX6_comesAhead_46 : decode cX6_comesAhead 46 = .ok (.iconst 0, 1) := by decide +kernel
theorem dX6_comesAhead_47 : decode cX6_comesAhead 47 = .ok (.istore_n 3, 1) := by decide +kernel
theorem dX6_comesAhead_48 : decode cX6_comesAhead 48 = .ok (.aload_n 2, 1) := by decide +kernel
theorem dX6_comesAhead_49 : decode cX6_comesAhead 49 = .ok (.getfield 266, 3) := by decide +kernel
theorem dX6_comesAhead_52 : decode cX6_comesAhead 52 = .ok (.aload_n 0, 1) := by decide +kernel
theorem dX6_comesAhead_53 : decode cX6_comesAhead 53 = .ok (.getfield 22, 3) := by decide +kernel
theorem dX6_comesAhead_56 : decode cX6_comesAhead 56 = .ok (.getfield 269, 3) := by decide +kernel
theorem dX6_comesAhead_59 : decode cX6_comesAhead 59 = .ok (.if_icmp .ne 7, 3) := by decide +kernel
theorem dX6_comesAhead_62 : decode cX6_comesAhead 62 = .ok (.iconst 1, 1) := by decide +kernel
theorem dX6_comesAhead_63 : decode cX6_comesAhead 63 = .ok (.goto 4, 3) := by decide +kernel
theorem dX6_comesAhead_66 : decode cX6_comesAhead 66 = .ok (.iconst 0, 1) := by decide +kernel
theorem dX6_comesAhead_67 : decode cX6_comesAhead 67 = .ok (.istore 4, 2) := by decide +kernel
theorem dX6_comesAhead_69 : decode cX6_comesAhead 69 = .ok (.iload_n 3, 1) := by decide +kernel
theorem dX6_comesAhead_70 : decode cX6_comesAhead 70 = .ok (.iload 4, 2) := by decide +kernel
theorem dX6_comesAhead_72 : decode cX6_comesAhead 72 = .ok (.if_icmp .eq 5, 3) := by decide +kernel
theorem dX6_comesAhead_75 : decode cX6_comesAhead 75 = .ok (.iload_n 3, 1) := by decide +kernel
theorem dX6_comesAhead_76 : decode cX6_comesAhead 76 = .ok (.ireturn, 1) := by decide +kernel
theorem dX6_comesAhead_77 : decode cX6_comesAhead 77 = .ok (.aload_n 0, 1) := by decide +kernel
theorem dX6_comesAhead_78 : decode cX6_comesAhead 78 = .ok (.getfield 22, 3) := by decide +kernel
theorem dX6_comesAhead_81 : decode cX6_comesAhead 81 = .ok (.aload_n 1, 1) := by decide +kernel
theorem dX6_comesAhead_82 : decode cX6_comesAhead 82 = .ok (.getfield 270, 3) := by decide +kernel
theorem dX6_comesAhead_85 : decode cX6_comesAhead 85 = .ok (.invokevirtual 274, 3) := by decide +kernel
theorem dX6_comesAhead_88 : decode cX6_comesAhead 88 = .ok (.aload_n 0, 1) := by decide +kernel
theorem dX6_comesAhead_89 : decode cX6_comesAhead 89 = .ok (.getfield 22, 3) := by decide +kernel
theorem dX6_comesAhead_92 : decode cX6_comesAhead 92 = .ok (.aload_n 2, 1) := by decide +kernel
theorem dX6_comesAhead_93 : decode cX6_comesAhead 93 = .ok (.getfield 270, 3) := by decide +kernel
theorem dX6_comesAhead_96 : decode cX6_comesAhead 96 = .ok (.invokevirtual 274, 3) := by decide +kernel
theorem dX6_comesAhead_99 : decode cX6_comesAhead 99 = .ok (.if_icmp .ge 7, 3) := by decide +kernel
theorem dX6_comesAhead_102 : decode cX6_comesAhead 102 = .ok (.iconst 1, 1) := by decide +kernel
theorem dX6_comesAhead_103 : decode cX6_comesAhead 103 = .ok (.goto 4, 3) := by decide +kernel
theorem dX6_comesAhead_106 : decode cX6_comesAhead 106 = .ok (.iconst 0, 1) := by decide +kernel
theorem dX6_comesAhead_107 : decode cX6_comesAhead 107 = .ok (.ireturn, 1) := by decide +kernel
theorem dX6_isWithin_0 : decode cX6_isWithin 0 = .ok (.iload_n 0, 1) := by decide +kernel
theorem dX6_isWithin_1 : decode cX6_isWithin 1 = .ok (.iload_n 1, 1) := by decide +kernel
theorem dX6_isWithin_2 : decode cX6_isWithin 2 = .ok (.if_icmp .lt 12, 3) := by decide +kernel
theorem dX6_isWithin_5 : decode cX6_isWithin 5 = .ok (.iload_n 0, 1) := by decide +kernel
theorem dX6_isWithin_6 : decode cX6_isWithin 6 = .ok (.iload_n 2, 1) := by decide +kernel
theorem dX6_isWithin_7 : decode cX6_isWithin 7 = .ok (.if_icmp .gt 7, 3) := by decide +kernel
theorem dX6_isWithin_10 : decode cX6_isWithin 10 = .ok (.iconst 1, 1) := by decide +kernel
theorem dX6_isWithin_11 : decode cX6_isWithin 11 = .ok (.goto 4, 3) := by decide +kernel
theorem dX6_isWithin_14 : decode cX6_isWithin 14 = .ok (.iconst 0, 1) := by decide +kernel
theorem dX6_isWithin_15 : decode cX6_isWithin 15 = .ok (.ireturn, 1) := by decide +kernel
theorem dX6_placeOf_0 : decode cX6_placeOf 0 = .ok (.iload_n 3, 1) := by decide +kernel
theorem dX6_placeOf_1 : decode cX6_placeOf 1 = .ok (.ifCond .gt 7, 3) := by decide +kernel
theorem dX6_placeOf_4 : decode cX6_placeOf 4 = .ok (.iload_n 0, 1) := by decide +kernel
theorem dX6_placeOf_5 : decode cX6_placeOf 5 = .ok (.goto 14, 3) := by decide +kernel
theorem dX6_placeOf_8 : decode cX6_placeOf 8 = .ok (.iload_n 0, 1) := by decide +kernel
theorem dX6_placeOf_9 : decode cX6_placeOf 9 = .ok (.iload_n 1, 1) := by decide +kernel
theorem dX6_placeOf_10 : decode cX6_placeOf 10 = .ok (.iload_n 0, 1) := by decide +kernel
theorem dX6_placeOf_11 : decode cX6_placeOf 11 = .ok (.isub, 1) := by decide +kernel
theorem dX6_placeOf_12 : decode cX6_placeOf 12 = .ok (.iload_n 2, 1) := by decide +kernel
theorem dX6_placeOf_13 : decode cX6_placeOf 13 = .ok (.imul, 1) := by decide +kernel
theorem dX6_placeOf_14 : decode cX6_placeOf 14 = .ok (.iload_n 3, 1) := by decide +kernel
theorem dX6_placeOf_15 : decode cX6_placeOf 15 = .ok (.invokestatic 278, 3) := by decide +kernel
theorem dX6_placeOf_18 : decode cX6_placeOf 18 = .ok (.iadd, 1) := by decide +kernel
theorem dX6_placeOf_19 : decode cX6_placeOf 19 = .ok (.ireturn, 1) := by decide +kernel
theorem dX6_roundedUp_0 : decode cX6_roundedUp 0 = .ok (.iload_n 1, 1) := by decide +kernel
theorem dX6_roundedUp_1 : decode cX6_roundedUp 1 = .ok (.ifCond .gt 7, 3) := by decide +kernel
theorem dX6_roundedUp_4 : decode cX6_roundedUp 4 = .ok (.iconst 0, 1) := by decide +kernel
theorem dX6_roundedUp_5 : decode cX6_roundedUp 5 = .ok (.goto 10, 3) := by decide +kernel
theorem dX6_roundedUp_8 : decode cX6_roundedUp 8 = .ok (.iload_n 0, 1) := by decide +kernel
theorem dX6_roundedUp_9 : decode cX6_roundedUp 9 = .ok (.iload_n 1, 1) := by decide +kernel
theorem dX6_roundedUp_10 : decode cX6_roundedUp 10 = .ok (.iadd, 1) := by decide +kernel
theorem dX6_roundedUp_11 : decode cX6_roundedUp 11 = .ok (.iconst 1, 1) := by decide +kernel
theorem dX6_roundedUp_12 : decode cX6_roundedUp 12 = .ok (.isub, 1) := by decide +kernel
theorem dX6_roundedUp_13 : decode cX6_roundedUp 13 = .ok (.iload_n 1, 1) := by decide +kernel
theorem dX6_roundedUp_14 : decode cX6_roundedUp 14 = .ok (.idiv, 1) := by decide +kernel
theorem dX6_roundedUp_15 : decode cX6_roundedUp 15 = .ok (.ireturn, 1) := by decide +kernel
theorem dX6_greaterDifference_0 : decode cX6_greaterDifference 0 = .ok (.iload_n 0, 1) := by decide +kernel
theorem dX6_greaterDifference_1 : decode cX6_greaterDifference 1 = .ok (.invokestatic 283, 3) := by decide +kernel
theorem dX6_greaterDifference_4 : decode cX6_greaterDifference 4 = .ok (.iload_n 1, 1) := by decide +kernel
theorem dX6_greaterDifference_5 : decode cX6_greaterDifference 5 = .ok (.invokestatic 283, 3) := by decide +kernel
theorem dX6_greaterDifference_8 : decode cX6_greaterDifference 8 = .ok (.invokestatic 286, 3) := by decide +kernel
theorem dX6_greaterDifference_11 : decode cX6_greaterDifference 11 = .ok (.ireturn, 1) := by decide +kernel
theorem dX6_wholeRoot_0 : decode cX6_wholeRoot 0 = .ok (.iconst 0, 1) := by decide +kernel
theorem dX6_wholeRoot_1 : decode cX6_wholeRoot 1 = .ok (.istore_n 1, 1) := by decide +kernel
theorem dX6_wholeRoot_2 : decode cX6_wholeRoot 2 = .ok (.sipush 128, 3) := by decide +kernel
theorem dX6_wholeRoot_5 : decode cX6_wholeRoot 5 = .ok (.istore_n 2, 1) := by decide +kernel
theorem dX6_wholeRoot_6 : decode cX6_wholeRoot 6 = .ok (.iload_n 2, 1) := by decide +kernel
theorem dX6_wholeRoot_7 : decode cX6_wholeRoot 7 = .ok (.ifCond .le 23, 3) := by decide +kernel
theorem dX6_wholeRoot_10 : decode cX6_wholeRoot 10 = .ok (.iload_n 1, 1) := by decide +kernel
theorem dX6_wholeRoot_11 : decode cX6_wholeRoot 11 = .ok (.iload_n 2, 1) := by decide +kernel
theorem dX6_wholeRoot_12 : decode cX6_wholeRoot 12 = .ok (.iadd, 1) := by decide +kernel
theorem dX6_wholeRoot_13 : decode cX6_wholeRoot 13 = .ok (.istore_n 3, 1) := by decide +kernel
theorem dX6_wholeRoot_14 : decode cX6_wholeRoot 14 = .ok (.iload_n 3, 1) := by decide +kernel
theorem dX6_wholeRoot_15 : decode cX6_wholeRoot 15 = .ok (.iload_n 3, 1) := by decide +kernel
theorem dX6_wholeRoot_16 : decode cX6_wholeRoot 16 = .ok (.imul, 1) := by decide +kernel
theorem dX6_wholeRoot_17 : decode cX6_wholeRoot 17 = .ok (.iload_n 0, 1) := by decide +kernel
theorem dX6_wholeRoot_18 : decode cX6_wholeRoot 18 = .ok (.if_icmp .gt 5, 3) := by decide +kernel
theorem dX6_wholeRoot_21 : decode cX6_wholeRoot 21 = .ok (.iload_n 3, 1) := by decide +kernel
theorem dX6_wholeRoot_22 : decode cX6_wholeRoot 22 = .ok (.istore_n 1, 1) := by decide +kernel
theorem dX6_wholeRoot_23 : decode cX6_wholeRoot 23 = .ok (.iload_n 2, 1) := by decide +kernel
theorem dX6_wholeRoot_24 : decode cX6_wholeRoot 24 = .ok (.iconst 1, 1) := by decide +kernel
theorem dX6_wholeRoot_25 : decode cX6_wholeRoot 25 = .ok (.ishr, 1) := by decide +kernel
theorem dX6_wholeRoot_26 : decode cX6_wholeRoot 26 = .ok (.istore_n 2, 1) := by decide +kernel
theorem dX6_wholeRoot_27 : decode cX6_wholeRoot 27 = .ok (.goto (-21), 3) := by decide +kernel
theorem dX6_wholeRoot_30 : decode cX6_wholeRoot 30 = .ok (.iload_n 1, 1) := by decide +kernel
theorem dX6_wholeRoot_31 : decode cX6_wholeRoot 31 = .ok (.ireturn, 1) := by decide +kernel
theorem dJ9_floorDiv_7cf53_0 : decode cJ9_floorDiv_7cf53 0 = .ok (.iload_n 0, 1) := by decide +kernel
theorem dJ9_floorDiv_7cf53_1 : decode cJ9_floorDiv_7cf53 1 = .ok (.iload_n 1, 1) := by decide +kernel
theorem dJ9_floorDiv_7cf53_2 : decode cJ9_floorDiv_7cf53 2 = .ok (.idiv, 1) := by decide +kernel
theorem dJ9_floorDiv_7cf53_3 : decode cJ9_floorDiv_7cf53 3 = .ok (.istore_n 2, 1) := by decide +kernel
theorem dJ9_floorDiv_7cf53_4 : decode cJ9_floorDiv_7cf53 4 = .ok (.iload_n 0, 1) := by decide +kernel
theorem dJ9_floorDiv_7cf53_5 : decode cJ9_floorDiv_7cf53 5 = .ok (.iload_n 1, 1) := by decide +kernel
theorem dJ9_floorDiv_7cf53_6 : decode cJ9_floorDiv_7cf53 6 = .ok (.ixor, 1) := by decide +kernel
theorem dJ9_floorDiv_7cf53_7 : decode cJ9_floorDiv_7cf53 7 = .ok (.ifCond .ge 14, 3) := by decide +kernel
theorem dJ9_floorDiv_7cf53_10 : decode cJ9_floorDiv_7cf53 10 = .ok (.iload_n 2, 1) := by decide +kernel
theorem dJ9_floorDiv_7cf53_11 : decode cJ9_floorDiv_7cf53 11 = .ok (.iload_n 1, 1) := by decide +kernel
theorem dJ9_floorDiv_7cf53_12 : decode cJ9_floorDiv_7cf53 12 = .ok (.imul, 1) := by decide +kernel
theorem dJ9_floorDiv_7cf53_13 : decode cJ9_floorDiv_7cf53 13 = .ok (.iload_n 0, 1) := by decide +kernel
theorem dJ9_floorDiv_7cf53_14 : decode cJ9_floorDiv_7cf53 14 = .ok (.if_icmp .eq 7, 3) := by decide +kernel
theorem dJ9_floorDiv_7cf53_17 : decode cJ9_floorDiv_7cf53 17 = .ok (.iload_n 2, 1) := by decide +kernel
theorem dJ9_floorDiv_7cf53_18 : decode cJ9_floorDiv_7cf53 18 = .ok (.iconst 1, 1) := by decide +kernel
theorem dJ9_floorDiv_7cf53_19 : decode cJ9_floorDiv_7cf53 19 = .ok (.isub, 1) := by decide +kernel
theorem dJ9_floorDiv_7cf53_20 : decode cJ9_floorDiv_7cf53 20 = .ok (.ireturn, 1) := by decide +kernel
theorem dJ9_floorDiv_7cf53_21 : decode cJ9_floorDiv_7cf53 21 = .ok (.iload_n 2, 1) := by decide +kernel
theorem dJ9_floorDiv_7cf53_22 : decode cJ9_floorDiv_7cf53 22 = .ok (.ireturn, 1) := by decide +kernel
theorem dJ9_floorMod_7cf53_0 : decode cJ9_floorMod_7cf53 0 = .ok (.iload_n 0, 1) := by decide +kernel
theorem dJ9_floorMod_7cf53_1 : decode cJ9_floorMod_7cf53 1 = .ok (.iload_n 1, 1) := by decide +kernel
theorem dJ9_floorMod_7cf53_2 : decode cJ9_floorMod_7cf53 2 = .ok (.irem, 1) := by decide +kernel
theorem dJ9_floorMod_7cf53_3 : decode cJ9_floorMod_7cf53 3 = .ok (.istore_n 2, 1) := by decide +kernel
theorem dJ9_floorMod_7cf53_4 : decode cJ9_floorMod_7cf53 4 = .ok (.iload_n 0, 1) := by decide +kernel
theorem dJ9_floorMod_7cf53_5 : decode cJ9_floorMod_7cf53 5 = .ok (.iload_n 1, 1) := by decide +kernel
theorem dJ9_floorMod_7cf53_6 : decode cJ9_floorMod_7cf53 6 = .ok (.ixor, 1) := by decide +kernel
theorem dJ9_floorMod_7cf53_7 : decode cJ9_floorMod_7cf53 7 = .ok (.ifCond .ge 11, 3) := by decide +kernel
theorem dJ9_floorMod_7cf53_10 : decode cJ9_floorMod_7cf53 10 = .ok (.iload_n 2, 1) := by decide +kernel
theorem dJ9_floorMod_7cf53_11 : decode cJ9_floorMod_7cf53 11 = .ok (.ifCond .eq 7, 3) := by decide +kernel
theorem dJ9_floorMod_7cf53_14 : decode cJ9_floorMod_7cf53 14 = .ok (.iload_n 2, 1) := by decide +kernel
theorem dJ9_floorMod_7cf53_15 : decode cJ9_floorMod_7cf53 15 = .ok (.iload_n 1, 1) := by decide +kernel
theorem dJ9_floorMod_7cf53_16 : decode cJ9_floorMod_7cf53 16 = .ok (.iadd, 1) := by decide +kernel
theorem dJ9_floorMod_7cf53_17 : decode cJ9_floorMod_7cf53 17 = .ok (.ireturn, 1) := by decide +kernel
theorem dJ9_floorMod_7cf53_18 : decode cJ9_floorMod_7cf53 18 = .ok (.iload_n 2, 1) := by decide +kernel
theorem dJ9_floorMod_7cf53_19 : decode cJ9_floorMod_7cf53 19 = .ok (.ireturn, 1) := by decide +kernel
theorem dJ9_abs_0f7a4_0 : decode cJ9_abs_0f7a4 0 = .ok (.iload_n 0, 1) := by decide +kernel
theorem dJ9_abs_0f7a4_1 : decode cJ9_abs_0f7a4 1 = .ok (.ifCond .ge 8, 3) := by decide +kernel
theorem dJ9_abs_0f7a4_4 : decode cJ9_abs_0f7a4 4 = .ok (.iload_n 0, 1) := by decide +kernel
theorem dJ9_abs_0f7a4_5 : decode cJ9_abs_0f7a4 5 = .ok (.ineg, 1) := by decide +kernel
theorem dJ9_abs_0f7a4_6 : decode cJ9_abs_0f7a4 6 = .ok (.goto 4, 3) := by decide +kernel
theorem dJ9_abs_0f7a4_9 : decode cJ9_abs_0f7a4 9 = .ok (.iload_n 0, 1) := by decide +kernel
theorem dJ9_abs_0f7a4_10 : decode cJ9_abs_0f7a4 10 = .ok (.ireturn, 1) := by decide +kernel
theorem dJ9_max_7cf53_0 : decode cJ9_max_7cf53 0 = .ok (.iload_n 0, 1) := by decide +kernel
theorem dJ9_max_7cf53_1 : decode cJ9_max_7cf53 1 = .ok (.iload_n 1, 1) := by decide +kernel
theorem dJ9_max_7cf53_2 : decode cJ9_max_7cf53 2 = .ok (.if_icmp .lt 7, 3) := by decide +kernel
theorem dJ9_max_7cf53_5 : decode cJ9_max_7cf53 5 = .ok (.iload_n 0, 1) := by decide +kernel
theorem dJ9_max_7cf53_6 : decode cJ9_max_7cf53 6 = .ok (.goto 4, 3) := by decide +kernel
theorem dJ9_max_7cf53_9 : decode cJ9_max_7cf53 9 = .ok (.iload_n 1, 1) := by decide +kernel
theorem dJ9_max_7cf53_10 : decode cJ9_max_7cf53 10 = .ok (.ireturn, 1) := by decide +kernel
theorem dJ9_min_7cf53_0 : decode cJ9_min_7cf53 0 = .ok (.iload_n 0, 1) := by decide +kernel
theorem dJ9_min_7cf53_1 : decode cJ9_min_7cf53 1 = .ok (.iload_n 1, 1) := by decide +kernel
theorem dJ9_min_7cf53_2 : decode cJ9_min_7cf53 2 = .ok (.if_icmp .gt 7, 3) := by decide +kernel
theorem dJ9_min_7cf53_5 : decode cJ9_min_7cf53 5 = .ok (.iload_n 0, 1) := by decide +kernel
theorem dJ9_min_7cf53_6 : decode cJ9_min_7cf53 6 = .ok (.goto 4, 3) := by decide +kernel
theorem dJ9_min_7cf53_9 : decode cJ9_min_7cf53 9 = .ok (.iload_n 1, 1) := by decide +kernel
theorem dJ9_min_7cf53_10 : decode cJ9_min_7cf53 10 = .ok (.ireturn, 1) := by decide +kernel
