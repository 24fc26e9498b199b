theorem dX5_init_0 : decode cX5_init 0 = .ok (.aload_n 0, 1) := by decide +kernel
theorem dX5_init_1 : decode cX5_init 1 = .ok (.invokespecial 3, 3) := by decide +kernel
theorem dX5_init_4 : decode cX5_init 4 = .ok (.aload_n 0, 1) := by decide +kernel
theorem dX5_init_5 : decode cX5_init 5 = .ok (.bipush 100, 2) := by decide +kernel
theorem dX5_init_7 : decode cX5_init 7 = .ok (.newarray .int, 2) := by decide +kernel
theorem dX5_init_9 : decode cX5_init 9 = .ok (.putfield 9, 3) := by decide +kernel
theorem dX5_init_12 : decode cX5_init 12 = .ok (.return_, 1) := by decide +kernel
theorem dX5_keepKind_0 : decode cX5_keepKind 0 = .ok (.aload_n 0, 1) := by decide +kernel
theorem dX5_keepKind_1 : decode cX5_keepKind 1 = .ok (.iconst 1, 1) := by decide +kernel
theorem dX5_keepKind_2 : decode cX5_keepKind 2 = .ok (.putfield 15, 3) := by decide +kernel
theorem dX5_keepKind_5 : decode cX5_keepKind 5 = .ok (.aload_n 0, 1) := by decide +kernel
theorem dX5_keepKind_6 : decode cX5_keepKind 6 = .ok (.iload_n 1, 1) := by decide +kernel
theorem dX5_keepKind_7 : decode cX5_keepKind 7 = .ok (.putfield 19, 3) := by decide +kernel
theorem dX5_keepKind_10 : decode cX5_keepKind 10 = .ok (.aload_n 0, 1) := by decide +kernel
theorem dX5_keepKind_11 : decode cX5_keepKind 11 = .ok (.iload_n 2, 1) := by decide +kernel
theorem dX5_keepKind_12 : decode cX5_keepKind 12 = .ok (.putfield 22, 3) := by decide +kernel
theorem dX5_keepKind_15 : decode cX5_keepKind 15 = .ok (.return_, 1) := by decide +kernel
theorem dX5_keepRow_0 : decode cX5_keepRow 0 = .ok (.aload_n 0, 1) := by decide +kernel
theorem dX5_keepRow_1 : decode cX5_keepRow 1 = .ok (.iconst 2, 1) := by decide +kernel
theorem dX5_keepRow_2 : decode cX5_keepRow 2 = .ok (.putfield 15, 3) := by decide +kernel
theorem dX5_keepRow_5 : decode cX5_keepRow 5 = .ok (.aload_n 0, 1) := by decide +kernel
theorem dX5_keepRow_6 : decode cX5_keepRow 6 = .ok (.iload_n 1, 1) := by decide +kernel
theorem dX5_keepRow_7 : decode cX5_keepRow 7 = .ok (.putfield 25, 3) := by decide +kernel
theorem dX5_keepRow_10 : decode cX5_keepRow 10 = .ok (.aload_n 0, 1) := by decide +kernel
theorem dX5_keepRow_11 : decode cX5_keepRow 11 = .ok (.iload_n 2, 1) := by decide +kernel
theorem dX5_keepRow_12 : decode cX5_keepRow 12 = .ok (.putfield 28, 3) := by decide +kernel
theorem dX5_keepRow_15 : decode cX5_keepRow 15 = .ok (.iconst 0, 1) := by decide +kernel
theorem dX5_keepRow_16 : decode cX5_keepRow 16 = .ok (.istore_n 3, 1) := by decide +kernel
theorem dX5_keepRow_17 : decode cX5_keepRow 17 = .ok (.iload_n 3, 1) := by decide +kernel
theorem dX5_keepRow_18 : decode cX5_keepRow 18 = .ok (.bipush 100, 2) := by decide +kernel
theorem dX5_keepRow_20 : decode cX5_keepRow 20 = .ok (.if_icmp .ge 16, 3) := by decide +kernel
theorem dX5_keepRow_23 : decode cX5_keepRow 23 = .ok (.aload_n 0, 1) := by decide +kernel
theorem dX5_keepRow_24 : decode cX5_keepRow 24 = .ok (.getfield 9, 3) := by decide +kernel
theorem dX5_keepRow_27 : decode cX5_keepRow 27 = .ok (.iload_n 3, 1) := by decide +kernel
theorem dX5_keepRow_28 : decode cX5_keepRow 28 = .ok (.iconst 0, 1) := by decide +kernel
theorem dX5_keepRow_29 : decode cX5_keepRow 29 = .ok (.iastore, 1) := by decide +kernel
theorem dX5_keepRow_30 : decode cX5_keepRow 30 = .ok (.iinc 3 1, 3) := by decide +kernel
theorem dX5_keepRow_33 : decode cX5_keepRow 33 = .ok (.goto (-16), 3) := by decide +kernel
theorem dX5_keepRow_36 : decode cX5_keepRow 36 = .ok (.return_, 1) := by decide +kernel
theorem dX5_hasPlace_0 : decode cX5_hasPlace 0 = .ok (.iload_n 1, 1) := by decide +kernel
theorem dX5_hasPlace_1 : decode cX5_hasPlace 1 = .ok (.ifCond .lt 15, 3) := by decide +kernel
theorem dX5_hasPlace_4 : decode cX5_hasPlace 4 = .ok (.iload_n 1, 1) := by decide +kernel
theorem dX5_hasPlace_5 : decode cX5_hasPlace 5 = .ok (.aload_n 0, 1) := by decide +kernel
theorem dX5_hasPlace_6 : decode cX5_hasPlace 6 = .ok (.getfield 28, 3) := by decide +kernel
theorem dX5_hasPlace_9 : decode cX5_hasPlace 9 = .ok (.if_icmp .ge 7, 3) := by decide +kernel
theorem dX5_hasPlace_12 : decode cX5_hasPlace 12 = .ok (.iconst 1, 1) := by decide +kernel
theorem dX5_hasPlace_13 : decode cX5_hasPlace 13 = .ok (.goto 4, 3) := by decide +kernel
theorem dX5_hasPlace_16 : decode cX5_hasPlace 16 = .ok (.iconst 0, 1) := by decide +kernel
theorem dX5_hasPlace_17 : decode cX5_hasPlace 17 = .ok (.ireturn, 1) := by decide +kernel
theorem dX5_hasPart_0 : decode cX5_hasPart 0 = .ok (.iload_n 1, 1) := by decide +kernel
theorem dX5_hasPart_1 : decode cX5_hasPart 1 = .ok (.ifCond .lt 25, 3) := by decide +kernel
theorem dX5_hasPart_4 : decode cX5_hasPart 4 = .ok (.iload_n 1, 1) := by decide +kernel
theorem dX5_hasPart_5 : decode cX5_hasPart 5 = .ok (.aload_n 0, 1) := by decide +kernel
theorem dX5_hasPart_6 : decode cX5_hasPart 6 = .ok (.getfield 28, 3) := by decide +kernel
theorem dX5_hasPart_9 : decode cX5_hasPart 9 = .ok (.if_icmp .gt 17, 3) := by decide +kernel
theorem dX5_hasPart_12 : decode cX5_hasPart 12 = .ok (.iload_n 2, 1) := by decide +kernel
theorem dX5_hasPart_13 : decode cX5_hasPart 13 = .ok (.aload_n 0, 1) := by decide +kernel
theorem dX5_hasPart_14 : decode cX5_hasPart 14 = .ok (.getfield 28, 3) := by decide +kernel
theorem dX5_hasPart_17 : decode cX5_hasPart 17 = .ok (.iload_n 1, 1) := by decide +kernel
theorem dX5_hasPart_18 : decode cX5_hasPart 18 = .ok (.isub, 1) := by decide +kernel
theorem dX5_hasPart_19 : decode cX5_hasPart 19 = .ok (.if_icmp .gt 7, 3) := by decide +kernel
theorem dX5_hasPart_22 : decode cX5_hasPart 22 = .ok (.iconst 1, 1) := by decide +kernel
theorem dX5_hasPart_23 : decode cX5_hasPart 23 = .ok (.goto 4, 3) := by decide +kernel
theorem dX5_hasPart_26 : decode cX5_hasPart 26 = .ok (.iconst 0, 1) := by decide +kernel
theorem dX5_hasPart_27 : decode cX5_hasPart 27 = .ok (.ireturn, 1) := by decide +kernel
theorem dX5_at_0 : decode cX5_at 0 = .ok (.aload_n 0, 1) := by decide +kernel
theorem dX5_at_1 : decode cX5_at 1 = .ok (.iload_n 1, 1) := by decide +kernel
theorem dX5_at_2 : decode cX5_at 2 = .ok (.invokevirtual 31, 3) := by decide +kernel
theorem dX5_at_5 : decode cX5_at 5 = .ok (.ifCond .eq 12, 3) := by decide +kernel
theorem dX5_at_8 : decode cX5_at 8 = .ok (.aload_n 0, 1) := by decide +kernel
theorem dX5_at_9 : decode cX5_at 9 = .ok (.getfield 9, 3) := by decide +kernel
theorem dX5_at_12 : decode cX5_at 12 = .ok (.iload_n 1, 1) := by decide +kernel
theorem dX5_at_13 : decode cX5_at 13 = .ok (.iaload, 1) := by decide +kernel
theorem dX5_at_14 : decode cX5_at 14 = .ok (.goto 4, 3) := by decide +kernel
theorem dX5_at_17 : decode cX5_at 17 = .ok (.iconst 0, 1) := by decide +kernel
theorem dX5_at_18 : decode cX5_at 18 = .ok (.ireturn, 1) := by decide +kernel
theorem dX5_take_0 : decode cX5_take 0 = .ok (.aload_n 0, 1) := by decide +kernel
theorem dX5_take_1 : decode cX5_take 1 = .ok (.iload_n 1, 1) := by decide +kernel
theorem dX5_take_2 : decode cX5_take 2 = .ok (.invokevirtual 31, 3) := by decide +kernel
theorem dX5_take_5 : decode cX5_take 5 = .ok (.ifCond .eq 35, 3) := by decide +kernel
theorem dX5_take_8 : decode cX5_take 8 = .ok (.aload_n 0, 1) := by decide +kernel
theorem dX5_take_9 : decode cX5_take 9 = .ok (.getfield 9, 3) := by decide +kernel
theorem dX5_take_12 : decode cX5_take 12 = .ok (.iload_n 1, 1) := by decide +kernel
theorem dX5_take_13 : decode cX5_take 13 = .ok (.aload_n 0, 1) := by decide +kernel
theorem dX5_take_14 : decode cX5_take 14 = .ok (.getfield 25, 3) := by decide +kernel
theorem dX5_take_17 : decode cX5_take 17 = .ok (.ifCond .ne 8, 3) := by decide +kernel
theorem dX5_take_20 : decode cX5_take 20 = .ok (.iload_n 2, 1) := by decide +kernel
theorem dX5_take_21 : decode cX5_take 21 = .ok (.i2b, 1) := by decide +kernel
theorem dX5_take_22 : decode cX5_take 22 = .ok (.goto 17, 3) := by decide +kernel
theorem dX5_take_25 : decode cX5_take 25 = .ok (.aload_n 0, 1) := by decide +kernel
theorem dX5_take_26 : decode cX5_take 26 = .ok (.getfield 25, 3) := by decide +kernel
theorem dX5_take_29 : decode cX5_take 29 = .ok (.iconst 1, 1) := by decide +kernel
theorem dX5_take_30 : decode cX5_take 30 = .ok (.if_icmp .ne 8, 3) := by decide +kernel
theorem dX5_take_33 : decode cX5_take 33 = .ok (.iload_n 2, 1) := by decide +kernel
theorem dX5_take_34 : decode cX5_take 34 = .ok (.i2s, 1) := by decide +kernel
theorem dX5_take_35 : decode cX5_take 35 = .ok (.goto 4, 3) := by decide +kernel
theorem dX5_take_38 : decode cX5_take 38 = .ok (.iload_n 2, 1) := by decide +kernel
theorem dX5_take_39 : decode cX5_take 39 = .ok (.iastore, 1) := by decide +kernel
theorem dX5_take_40 : decode cX5_take 40 = .ok (.return_, 1) := by decide +kernel
theorem dX5_isSkipped_0 : decode cX5_isSkipped 0 = .ok (.aload_n 0, 1) := by decide +kernel
theorem dX5_isSkipped_1 : decode cX5_isSkipped 1 = .ok (.getfield 25, 3) := by decide +kernel
theorem dX5_isSkipped_4 : decode cX5_isSkipped 4 = .ok (.ifCond .ne 8, 3) := by decide +kernel
theorem dX5_isSkipped_7 : decode cX5_isSkipped 7 = .ok (.bipush (-128), 2) := by decide +kernel
theorem dX5_isSkipped_9 : decode cX5_isSkipped 9 = .ok (.goto 19, 3) := by decide +kernel
theorem dX5_isSkipped_12 : decode cX5_isSkipped 12 = .ok (.aload_n 0, 1) := by decide +kernel
theorem dX5_isSkipped_13 : decode cX5_isSkipped 13 = .ok (.getfield 25, 3) := by decide +kernel
theorem dX5_isSkipped_16 : decode cX5_isSkipped 16 = .ok (.iconst 1, 1) := by decide +kernel
theorem dX5_isSkipped_17 : decode cX5_isSkipped 17 = .ok (.if_icmp .ne 9, 3) := by decide +kernel
theorem dX5_isSkipped_20 : decode cX5_isSkipped 20 = .ok (.sipush (-32768), 3) := by decide +kernel
theorem dX5_isSkipped_23 : decode cX5_isSkipped 23 = .ok (.goto 5, 3) := by decide +kernel
theorem dX5_isSkipped_26 : decode cX5_isSkipped 26 = .ok (.ldc 35, 2) := by decide +kernel
theorem dX5_isSkipped_28 : decode cX5_isSkipped 28 = .ok (.istore_n 2, 1) := by decide +kernel
theorem dX5_isSkipped_29 : decode cX5_isSkipped 29 = .ok (.aload_n 0, 1) := by decide +kernel
theorem dX5_isSkipped_30 : decode cX5_isSkipped 30 = .ok (.iload_n 1, 1) := by decide +kernel
theorem dX5_isSkipped_31 : decode cX5_isSkipped 31 = .ok (.invokevirtual 36, 3) := by decide +kernel
theorem dX5_isSkipped_34 : decode cX5_isSkipped 34 = .ok (.iload_n 2, 1) := by decide +kernel
theorem dX5_isSkipped_35 : decode cX5_isSkipped 35 = .ok (.if_icmp .ne 7, 3) := by decide +kernel
theorem dX5_isSkipped_38 : decode cX5_isSkipped 38 = .ok (.iconst 1, 1) := by decide +kernel
theorem dX5_isSkipped_39 : decode cX5_isSkipped 39 = .ok (.goto 4, 3) := by decide +kernel
theorem dX5_isSkipped_42 : decode cX5_isSkipped 42 = .ok (.iconst 0, 1) := by decide +kernel
theorem dX5_isSkipped_43 : decode cX5_isSkipped 43 = .ok (.ireturn, 1) := by decide +kernel
theorem dX6_init_0 : decode cX6_init 0 = .ok (.aload_n 0, 1) := by decide +kernel
theorem dX6_init_1 : decode cX6_init 1 = .ok (.invokespecial 3, 3) := by decide +kernel
theorem dX6_init_4 : decode cX6_init 4 = .ok (.aload_n 0, 1) := by decide +kernel
theorem dX6_init_5 : decode cX6_init 5 = .ok (.bipush 10, 2) := by decide +kernel
theorem dX6_init_7 : decode cX6_init 7 = .ok (.newarray .int, 2) := by decide +kernel
theorem dX6_init_9 : decode cX6_init 9 = .ok (.putfield 9, 3) := by decide +kernel
theorem dX6_init_12 : decode cX6_init 12 = .ok (.aload_n 0, 1) := by decide +kernel
theorem dX6_init_13 : decode cX6_init 13 = .ok (.aload_n 1, 1) := by decide +kernel
theorem dX6_init_14 : decode cX6_init 14 = .ok (.putfield 15, 3) := by decide +kernel
theorem dX6_init_17 : decode cX6_init 17 = .ok (.return_, 1) := by decide +kernel
theorem dX6_howMany_0 : decode cX6_howMany 0 = .ok (.aload_n 0, 1) := by decide +kernel
theorem dX6_howMany_1 : decode cX6_howMany 1 = .ok (.invokevirtual 19, 3) := by decide +kernel
theorem dX6_howMany_4 : decode cX6_howMany 4 = .ok (.iconst 0, 1) := by decide +kernel
theorem dX6_howMany_5 : decode cX6_howMany 5 = .ok (.istore_n 1, 1) := by decide +kernel
theorem dX6_howMany_6 : decode cX6_howMany 6 = .ok (.iconst 0, 1) := by decide +kernel
theorem dX6_howMany_7 : decode cX6_howMany 7 = .ok (.istore_n 2, 1) := by decide +kernel
theorem dX6_howMany_8 : decode cX6_howMany 8 = .ok (.iload_n 2, 1) := by decide +kernel
theorem dX6_howMany_9 : decode cX6_howMany 9 = .ok (.aload_n 0, 1) := by decide +kernel
theorem dX6_howMany_10 : decode cX6_howMany 10 = .ok (.getfield 15, 3) := by decide +kernel
theorem dX6_howMany_13 : decode cX6_howMany 13 = .ok (.getfield 22, 3) := by decide +kernel
theorem dX6_howMany_16 : decode cX6_howMany 16 = .ok (.if_icmp .ge 21, 3) := by decide +kernel
theorem dX6_howMany_19 : decode cX6_howMany 19 = .ok (.iload_n 1, 1) := by decide +kernel
theorem dX6_howMany_20 : decode cX6_howMany 20 = .ok (.aload_n 0, 1) := by decide +kernel
theorem dX6_howMany_21 : decode cX6_howMany 21 = .ok (.getfield 9, 3) := by decide +kernel
theorem dX6_howMany_24 : decode cX6_howMany 24 = .ok (.iload_n 2, 1) := by decide +kernel
theorem dX6_howMany_25 : decode cX6_howMany 25 = .ok (.iaload, 1) := by decide +kernel
theorem dX6_howMany_26 : decode cX6_howMany 26 = .ok (.invokestatic 28, 3) := by decide +kernel
theorem dX6_howMany_29 : decode cX6_howMany 29 = .ok (.iadd, 1) := by decide +kernel
theorem dX6_howMany_30 : decode cX6_howMany 30 = .ok (.istore_n 1, 1) := by decide +kernel
theorem dX6_howMany_31 : decode cX6_howMany 31 = .ok (.iinc 2 1, 3) := by decide +kernel
theorem dX6_howMany_34 : decode cX6_howMany 34 = .ok (.goto (-26), 3) := by decide +kernel
theorem dX6_howMany_37 : decode cX6_howMany 37 = .ok (.iload_n 1, 1) := by decide +kernel
theorem dX6_howMany_38 : decode cX6_howMany 38 = .ok (.iconst 2, 1) := by decide +kernel
theorem dX6_howMany_39 : decode cX6_howMany 39 = .ok (.idiv, 1) := by decide +kernel
theorem dX6_howMany_40 : decode cX6_howMany 40 = .ok (.ireturn, 1) := by decide +kernel
theorem dX6_firstTwo_0 : decode cX6_firstTwo 0 = .ok (.aload_n 0, 1) := by decide +kernel
theorem dX6_firstTwo_1 : decode cX6_firstTwo 1 = .ok (.invokevirtual 19, 3) := by decide +kernel
theorem dX6_firstTwo_4 : decode cX6_firstTwo 4 = .ok (.iconst 0, 1) := by decide +kernel
theorem dX6_firstTwo_5 : decode cX6_firstTwo 5 = .ok (.istore_n 1, 1) := by decide +kernel
theorem dX6_firstTwo_6 : decode cX6_firstTwo 6 = .ok (.iload_n 1, 1) := by decide +kernel
theorem dX6_firstTwo_7 : decode cX6_firstTwo 7 = .ok (.aload_n 0, 1) := by decide +kernel
theorem dX6_firstTwo_8 : decode cX6_firstTwo 8 = .ok (.getfield 15, 3) := by decide +kernel
theorem dX6_firstTwo_11 : decode cX6_firstTwo 11 = .ok (.getfield 22, 3) := by decide +kernel
theorem dX6_firstTwo_14 : decode cX6_firstTwo 14 = .ok (.if_icmp .ge 33, 3) := by decide +kernel
theorem dX6_firstTwo_17 : decode cX6_firstTwo 17 = .ok (.aload_n 0, 1) := by decide +kernel
theorem dX6_firstTwo_18 : decode cX6_firstTwo 18 = .ok (.getfield 9, 3) := by decide +kernel
theorem dX6_firstTwo_21 : decode cX6_firstTwo 21 = .ok (.iload_n 1, 1) := by decide +kernel
theorem dX6_firstTwo_22 : decode cX6_firstTwo 22 = .ok (.iaload, 1) := by decide +kernel
theorem dX6_firstTwo_23 : decode cX6_firstTwo 23 = .ok (.ifCond .eq 18, 3) := by decide +kernel
theorem dX6_firstTwo_26 : decode cX6_firstTwo 26 = .ok (.bipush 10, 2) := by decide +kernel
theorem dX6_firstTwo_28 : decode cX6_firstTwo 28 = .ok (.iload_n 1, 1) := by decide +kernel
theorem dX6_firstTwo_29 : decode cX6_firstTwo 29 = .ok (.imul, 1) := by decide +kernel
theorem dX6_firstTwo_30 : decode cX6_firstTwo 30 = .ok (.aload_n 0, 1) := by decide +kernel
theorem dX6_firstTwo_31 : decode cX6_firstTwo 31 = .ok (.getfield 9, 3) := by decide +kernel
theorem dX6_firstTwo_34 : decode cX6_firstTwo 34 = .ok (.iload_n 1, 1) := by decide +kernel
theorem dX6_firstTwo_35 : decode cX6_firstTwo 35 = .ok (.iaload, 1) := by decide +kernel
theorem dX6_firstTwo_36 : decode cX6_firstTwo 36 = .ok (.invokestatic 34, 3) := by decide +kernel
theorem dX6_firstTwo_39 : decode cX6_firstTwo 39 = .ok (.iadd, 1) := by decide +kernel
theorem dX6_firstTwo_40 : decode cX6_firstTwo 40 = .ok (.ireturn, 1) := by decide +kernel
theorem dX6_firstTwo_41 : decode cX6_firstTwo 41 = .ok (.iinc 1 1, 3) := by decide +kernel
theorem dX6_firstTwo_44 : decode cX6_firstTwo 44 = .ok (.goto (-38), 3) := by decide +kernel
theorem dX6_firstTwo_47 : decode cX6_firstTwo 47 = .ok (.bipush (-4), 2) := by decide +kernel
theorem dX6_firstTwo_49 : decode cX6_firstTwo 49 = .ok (.ireturn, 1) := by decide +kernel
theorem dX6_fewestInTheWay_0 : decode cX6_fewestInTheWay 0 = .ok (.aload_n 0, 1) := by decide +kernel
theorem dX6_fewestInTheWay_1 : decode cX6_fewestInTheWay 1 = .ok (.invokevirtual 19, 3) := by decide +kernel
theorem dX6_fewestInTheWay_4 : decode cX6_fewestInTheWay 4 = .ok (.iconst 1, 1) := by decide +kernel
theorem dX6_fewestInTheWay_5 : decode cX6_fewestInTheWay 5 = .ok (.aload_n 0, 1) := by decide +kernel
theorem dX6_fewestInTheWay_6 : decode cX6_fewestInTheWay 6 = .ok (.getfield 15, 3) := by decide +kernel
theorem dX6_fewestInTheWay_9 : decode cX6_fewestInTheWay 9 = .ok (.getfield 22, 3) := by decide +kernel
theorem dX6_fewestInTheWay_12 : decode cX6_fewestInTheWay 12 = .ok (.ishl, 1) := by decide +kernel
theorem dX6_fewestInTheWay_13 : decode cX6_fewestInTheWay 13 = .ok (.istore_n 1, 1) := by decide +kernel
theorem dX6_fewestInTheWay_14 : decode cX6_fewestInTheWay 14 = .ok (.iload_n 1, 1) := by decide +kernel
theorem dX6_fewestInTheWay_15 : decode cX6_fewestInTheWay 15 = .ok (.iconst 1, 1) := by decide +kernel
theorem dX6_fewestInTheWay_16 : decode cX6_fewestInTheWay 16 = .ok (.isub, 1) := by decide +kernel
theorem dX6_fewestInTheWay_17 : decode cX6_fewestInTheWay 17 = .ok (.istore_n 2, 1) := by decide +kernel
theorem dX6_fewestInTheWay_18 : decode cX6_fewestInTheWay 18 = .ok (.iconst 0, 1) := by decide +kernel
theorem dX6_fewestInTheWay_19 : decode cX6_fewestInTheWay 19 = .ok (.istore_n 3, 1) := by decide +kernel
theorem dX6_fewestInTheWay_20 : decode cX6_fewestInTheWay 20 = .ok (.iload_n 3, 1) := by decide +kernel
theorem dX6_fewestInTheWay_21 : decode cX6_fewestInTheWay 21 = .ok (.iload_n 1, 1) := by decide +kernel
theorem dX6_fewestInTheWay_22 : decode cX6_fewestInTheWay 22 = .ok (.if_icmp .ge 30, 3) := by decide +kernel
theorem dX6_fewestInTheWay_25 : decode cX6_fewestInTheWay 25 = .ok (.iload_n 3, 1) := by decide +kernel
theorem dX6_fewestInTheWay_26 : decode cX6_fewestInTheWay 26 = .ok (.invokestatic 28, 3) := by decide +kernel
theorem dX6_fewestInTheWay_29 : decode cX6_fewestInTheWay 29 = .ok (.iload_n 2, 1) := by decide +kernel
theorem dX6_fewestInTheWay_30 : decode cX6_fewestInTheWay 30 = .ok (.invokestatic 28, 3) := by decide +kernel
theorem dX6_fewestInTheWay_33 : decode cX6_fewestInTheWay 33 = .ok (.if_icmp .ge 13, 3) := by decide +kernel
theorem dX6_fewestInTheWay_36 : decode cX6_fewestInTheWay 36 = .ok (.aload_n 0, 1) := by decide +kernel
theorem dX6_fewestInTheWay_37 : decode cX6_fewestInTheWay 37 = .ok (.iload_n 3, 1) := by decide +kernel
theorem dX6_fewestInTheWay_38 : decode cX6_fewestInTheWay 38 = .ok (.invokevirtual 37, 3) := by decide +kernel
theorem dX6_fewestInTheWay_41 : decode cX6_fewestInTheWay 41 = .ok (.ifCond .eq 5, 3) := by decide +kernel
theorem dX6_fewestInTheWay_44 : decode cX6_fewestInTheWay 44 = .ok (.iload_n 3, 1) := by decide +kernel
theorem dX6_fewestInTheWay_45 : decode cX6_fewestInTheWay 45 = .ok (.istore_n 2, 1) := by decide +kernel
theorem dX6_fewestInTheWay_46 : decode cX6_fewestInTheWay 46 = .ok (.iinc 3 1, 3) := by decide +kernel
theorem dX6_fewestInTheWay_49 : decode cX6_fewestInTheWay 49 = .ok (.goto (-29), 3) := by decide +kernel
theorem dX6_fewestInTheWay_52 : decode cX6_fewestInTheWay 52 = .ok (.iload_n 2, 1) := by decide +kernel
theorem dX6_fewestInTheWay_53 : decode cX6_fewestInTheWay 53 = .ok (.ireturn, 1) := by decide +kernel
theorem dX6_isUntangled_0 : decode cX6_isUntangled 0 = .ok (.iconst 0, 1) := by decide +kernel
theorem dX6_isUntangled_1 : decode cX6_isUntangled 1 = .ok (.istore_n 2, 1) := by decide +kernel
theorem dX6_isUntangled_2 : decode cX6_isUntangled 2 = .ok (.iload_n 2, 1) := by decide +kernel
theorem dX6_isUntangled_3 : decode cX6_isUntangled 3 = .ok (.aload_n 0, 1) := by decide +kernel
theorem dX6_isUntangled_4 : decode cX6_isUntangled 4 = .ok (.getfield 15, 3) := by decide +kernel
theorem dX6_isUntangled_7 : decode cX6_isUntangled 7 = .ok (.getfield 22, 3) := by decide +kernel
theorem dX6_isUntangled_10 : decode cX6_isUntangled 10 = .ok (.if_icmp .ge 32, 3) := by decide +kernel
theorem dX6_isUntangled_13 : decode cX6_isUntangled 13 = .ok (.iload_n 1, 1) := by decide +kernel
theorem dX6_isUntangled_14 : decode cX6_isUntangled 14 = .ok (.iload_n 2, 1) := by decide +kernel
theorem dX6_isUntangled_15 : decode cX6_isUntangled 15 = .ok (.ishr, 1) := by decide +kernel
theorem dX6_isUntangled_16 : decode cX6_isUntangled 16 = .ok (.iconst 1, 1) := by decide +kernel
theorem dX6_isUntangled_17 : decode cX6_isUntangled 17 = .ok (.iand, 1) := by decide +kernel
theorem dX6_isUntangled_18 : decode cX6_isUntangled 18 = .ok (.ifCond .ne 18, 3) := by decide +kernel
theorem dX6_isUntangled_21 : decode cX6_isUntangled 21 = .ok (.aload_n 0, 1) := by decide +kernel
theorem dX6_isUntangled_22 : decode cX6_isUntangled 22 = .ok (.getfield 9, 3) := by decide +kernel
theorem dX6_isUntangled_25 : decode cX6_isUntangled 25 = .ok (.iload_n 2, 1) := by decide +kernel
theorem dX6_isUntangled_26 : decode cX6_isUntangled 26 = .ok (.iaload, 1) := by decide +kernel
theorem dX6_isUntangled_27 : decode cX6_isUntangled 27 = .ok (.iload_n 1, 1) := by decide +kernel
theorem dX6_isUntangled_28 : decode cX6_isUntangled 28 = .ok (.iconst (-1), 1) := by decide +kernel
theorem dX6_isUntangled_29 : decode cX6_isUntangled 29 = .ok (.ixor, 1) := by decide +kernel
theorem dX6_isUntangled_30 : decode cX6_isUntangled 30 = .ok (.iand, 1) := by decide +kernel
theorem dX6_isUntangled_31 : decode cX6_isUntangled 31 = .ok (.ifCond .eq 5, 3) := by decide +kernel
theorem dX6_isUntangled_34 : decode cX6_isUntangled 34 = .ok (.iconst 0, 1) := by decide +kernel
theorem dX6_isUntangled_35 : decode cX6_isUntangled 35 = .ok (.ireturn, 1) := by decide +kernel
theorem dX6_isUntangled_36 : decode cX6_isUntangled 36 = .ok (.iinc 2 1, 3) := by decide +kernel
theorem dX6_isUntangled_39 : decode cX6_isUntangled 39 = .ok (.goto (-37), 3) := by decide +kernel
theorem dX6_isUntangled_42 : decode cX6_isUntangled 42 = .ok (.iconst 1, 1) := by decide +kernel
theorem dX6_isUntangled_43 : decode cX6_isUntangled 43 = .ok (.ireturn, 1) := by decide +kernel
theorem dX6_findCrossed_0 : decode cX6_findCrossed 0 = .ok (.iconst 0, 1) := by decide +kernel
theorem dX6_findCrossed_1 : decode cX6_findCrossed 1 = .ok (.istore_n 1, 1) := by decide +kernel
theorem dX6_findCrossed_2 : decode cX6_findCrossed 2 = .ok (.iload_n 1, 1) := by decide +kernel
theorem dX6_findCrossed_3 : decode cX6_findCrossed 3 = .ok (.aload_n 0, 1) := by decide +kernel
theorem dX6_findCrossed_4 : decode cX6_findCrossed 4 = .ok (.getfield 15, 3) := by decide +kernel
theorem dX6_findCrossed_7 : decode cX6_findCrossed 7 = .ok (.getfield 22, 3) := by decide +kernel
theorem dX6_findCrossed_10 : decode cX6_findCrossed 10 = .ok (.if_icmp .ge 87, 3) := by decide +kernel
theorem dX6_findCrossed_13 : decode cX6_findCrossed 13 = .ok (.aload_n 0, 1) := by decide +kernel
theorem dX6_findCrossed_14 : decode cX6_findCrossed 14 = .ok (.getfield 9, 3) := by decide +kernel
theorem dX6_findCrossed_17 : decode cX6_findCrossed 17 = .ok (.iload_n 1, 1) := by decide +kernel
theorem dX6_findCrossed_18 : decode cX6_findCrossed 18 = .ok (.iconst 0, 1) := by decide +kernel
theorem dX6_findCrossed_19 : decode cX6_findCrossed 19 = .ok (.iastore, 1) := by decide +kernel
theorem dX6_findCrossed_20 : decode cX6_findCrossed 20 = .ok (.iconst 0, 1) := by decide +kernel
theorem dX6_findCrossed_21 : decode cX6_findCrossed 21 = .ok (.istore_n 2, 1) := by decide +kernel
theorem dX6_findCrossed_22 : decode cX6_findCrossed 22 = .ok (.iload_n 2, 1) := by decide +kernel
theorem dX6_findCrossed_23 : decode cX6_findCrossed 23 = .ok (.aload_n 0, 1) := by decide +kernel
theorem dX6_findCrossed_24 : decode cX6_findCrossed 24 = .ok (.getfield 15, 3) := by decide +kernel
theorem dX6_findCrossed_27 : decode cX6_findCrossed 27 = .ok (.getfield 22, 3) := by decide +kernel
theorem dX6_findCrossed_30 : decode cX6_findCrossed 30 = .ok (.if_icmp .ge 61, 3) := by decide +kernel
theorem dX6_findCrossed_33 : decode cX6_findCrossed 33 = .ok (.aload_n 0, 1) := by decide +kernel
theorem dX6_findCrossed_34 : decode cX6_findCrossed 34 = .ok (.getfield 15, 3) := by decide +kernel
theorem dX6_findCrossed_37 : decode cX6_findCrossed 37 = .ok (.iload_n 1, 1) := by decide +kernel
theorem dX6_findCrossed_38 : decode cX6_findCrossed 38 = .ok (.invokevirtual 41, 3) := by decide +kernel
theorem dX6_findCrossed_41 : decode cX6_findCrossed 41 = .ok (.ifCond .ne 44, 3) := by decide +kernel
theorem dX6_findCrossed_44 : decode cX6_findCrossed 44 = .ok (.aload_n 0, 1) := by decide +kernel
theorem dX6_findCrossed_45 : decode cX6_findCrossed 45 = .ok (.getfield 15, 3) := by decide +kernel
theorem dX6_findCrossed_48 : decode cX6_findCrossed 48 = .ok (.iload_n 2, 1) := by decide +kernel
theorem dX6_findCrossed_49 : decode cX6_findCrossed 49 = .ok (.invokevirtual 41, 3) := by decide +kernel
theorem dX6_findCrossed_52 : decode cX6_findCrossed 52 = .ok (.ifCond .ne 33, 3) := by decide +kernel
theorem dX6_findCrossed_55 : decode cX6_findCrossed 55 = .ok (.aload_n 0, 1) := by decide +kernel
theorem dX6_findCrossed_56 : decode cX6_findCrossed 56 = .ok (.iload_n 1, 1) := by decide +kernel
theorem dX6_findCrossed_57 : decode cX6_findCrossed 57 = .ok (.iload_n 2, 1) := by decide +kernel
theorem dX6_findCrossed_58 : decode cX6_findCrossed 58 = .ok (.invokevirtual 44, 3) := by decide +kernel
theorem dX6_findCrossed_61 : decode cX6_findCrossed 61 = .ok (.ifCond .ne 12, 3) := by decide +kernel
theorem dX6_findCrossed_64 : decode cX6_findCrossed 64 = .ok (.aload_n 0, 1) := by decide +kernel
theorem dX6_findCrossed_65 : decode cX6_findCrossed 65 = .ok (.iload_n 2, 1) := by decide +kernel
theorem dX6_findCrossed_66 : decode cX6_findCrossed 66 = .ok (.iload_n 1, 1) := by decide +kernel
theorem dX6_findCrossed_67 : decode cX6_findCrossed 67 = .ok (.invokevirtual 44, 3) := by decide +kernel
theorem dX6_findCrossed_70 : decode cX6_findCrossed 70 = .ok (.ifCond .eq 15, 3) := by decide +kernel
theorem dX6_findCrossed_73 : decode cX6_findCrossed 73 = .ok (.aload_n 0, 1) := by decide +kernel
theorem dX6_findCrossed_74 : decode cX6_findCrossed 74 = .ok (.getfield 9, 3) := by decide +kernel
theorem dX6_findCrossed_77 : decode cX6_findCrossed 77 = .ok (.iload_n 1, 1) := by decide +kernel
theorem dX6_findCrossed_78 : decode cX6_findCrossed 78 = .ok (.dup2, 1) := by decide +kernel
theorem dX6_findCrossed_79 : decode cX6_findCrossed 79 = .ok (.iaload, 1) := by decide +kernel
theorem dX6_findCrossed_80 : decode cX6_findCrossed 80 = .ok (.iconst 1, 1) := by decide +kernel
theorem dX6_findCrossed_81 : decode cX6_findCrossed 81 = .ok (.iload_n 2, 1) := by decide +kernel
theorem dX6_findCrossed_82 : decode cX6_findCrossed 82 = .ok (.ishl, 1) := by decide +kernel
theorem dX6_findCrossed_83 : decode cX6_findCrossed 83 = .ok (.ior, 1) := by decide +kernel
theorem dX6_findCrossed_84 : decode cX6_findCrossed 84 = .ok (.iastore, 1) := by decide +kernel
theorem dX6_findCrossed_85 : decode cX6_findCrossed 85 = .ok (.iinc 2 1, 3) := by decide +kernel
theorem dX6_findCrossed_88 : decode cX6_findCrossed 88 = .ok (.goto (-66), 3) := by decide +kernel
theorem dX6_findCrossed_91 : decode cX6_findCrossed 91 = .ok (.iinc 1 1, 3) := by decide +kernel
theorem dX6_findCrossed_94 : decode cX6_findCrossed 94 = .ok (.goto (-92), 3) := by decide +kernel
theorem dX6_findCrossed_97 : decode cX6_findCrossed 97 = .ok (.return_, 1) := by decide +kernel
theorem dX6_reachesInto_0 : decode cX6_reachesInto 0 = .ok (.aload_n 0, 1) := by decide +kernel
theorem dX6_reachesInto_1 : decode cX6_reachesInto 1 = .ok (.getfield 15, 3) := by decide +kernel
theorem dX6_reachesInto_4 : decode cX6_reachesInto 4 = .ok (.getfield 48, 3) := by decide +kernel
theorem dX6_reachesInto_7 : decode cX6_reachesInto 7 = .ok (.aload_n 0, 1) := by decide +kernel
theorem dX6_reachesInto_8 : decode cX6_reachesInto 8 = .ok (.getfield 15, 3) := by decide +kernel
theorem dX6_reachesInto_11 : decode cX6_reachesInto 11 = .ok (.getfield 51, 3) := by decide +kernel
theorem dX6_reachesInto_14 : decode cX6_reachesInto 14 = .ok (.iload_n 2, 1) := by decide +kernel
theorem dX6_reachesInto_15 : decode cX6_reachesInto 15 = .ok (.iaload, 1) := by decide +kernel
theorem dX6_reachesInto_16 : decode cX6_reachesInto 16 = .ok (.iaload, 1) := by decide +kernel
theorem dX6_reachesInto_17 : decode cX6_reachesInto 17 = .ok (.istore_n 3, 1) := by decide +kernel
theorem dX6_reachesInto_18 : decode cX6_reachesInto 18 = .ok (.aload_n 0, 1) := by decide +kernel
theorem dX6_reachesInto_19 : decode cX6_reachesInto 19 = .ok (.getfield 15, 3) := by decide +kernel
theorem dX6_reachesInto_22 : decode cX6_reachesInto 22 = .ok (.getfield 48, 3) := by decide +kernel
theorem dX6_reachesInto_25 : decode cX6_reachesInto 25 = .ok (.aload_n 0, 1) := by decide +kernel
theorem dX6_reachesInto_26 : decode cX6_reachesInto 26 = .ok (.getfield 15, 3) := by decide +kernel
theorem dX6_reachesInto_29 : decode cX6_reachesInto 29 = .ok (.getfield 54, 3) := by decide +kernel
theorem dX6_reachesInto_32 : decode cX6_reachesInto 32 = .ok (.iload_n 2, 1) := by decide +kernel
theorem dX6_reachesInto_33 : decode cX6_reachesInto 33 = .ok (.iaload, 1) := by decide +kernel
theorem dX6_reachesInto_34 : decode cX6_reachesInto 34 = .ok (.iaload, 1) := by decide +kernel
theorem dX6_reachesInto_35 : decode cX6_reachesInto 35 = .ok (.istore 4, 2) := by decide +kernel
theorem dX6_reachesInto_37 : decode cX6_reachesInto 37 = .ok (.aload_n 0, 1) := by decide +kernel
theorem dX6_reachesInto_38 : decode cX6_reachesInto 38 = .ok (.iload_n 1, 1) := by decide +kernel
theorem dX6_reachesInto_39 : decode cX6_reachesInto 39 = .ok (.invokevirtual 57, 3) := by decide +kernel
theorem dX6_reachesInto_42 : decode cX6_reachesInto 42 = .ok (.aload_n 0, 1) := by decide +kernel
theorem dX6_reachesInto_43 : decode cX6_reachesInto 43 = .ok (.iload_n 2, 1) := by decide +kernel
theorem dX6_reachesInto_44 : decode cX6_reachesInto 44 = .ok (.invokevirtual 57, 3) := by decide +kernel
theorem dX6_reachesInto_47 : decode cX6_reachesInto 47 = .ok (.if_icmp .ge 34, 3) := by decide +kernel
theorem dX6_reachesInto_50 : decode cX6_reachesInto 50 = .ok (.aload_n 0, 1) := by decide +kernel
theorem dX6_reachesInto_51 : decode cX6_reachesInto 51 = .ok (.iload_n 2, 1) := by decide +kernel
theorem dX6_reachesInto_52 : decode cX6_reachesInto 52 = .ok (.invokevirtual 57, 3) := by decide +kernel
theorem dX6_reachesInto_55 : decode cX6_reachesInto 55 = .ok (.aload_n 0, 1) := by decide +kernel
theorem dX6_reachesInto_56 : decode cX6_reachesInto 56 = .ok (.iload_n 1, 1) := by decide +kernel
theorem dX6_reachesInto_57 : decode cX6_reachesInto 57 = .ok (.invokevirtual 60, 3) := by decide +kernel
theorem dX6_reachesInto_60 : decode cX6_reachesInto 60 = .ok (.if_icmp .ge 21, 3) := by decide +kernel
theorem dX6_reachesInto_63 : decode cX6_reachesInto 63 = .ok (.aload_n 0, 1) := by decide +kernel
theorem dX6_reachesInto_64 : decode cX6_reachesInto 64 = .ok (.iload_n 1, 1) := by decide +kernel
theorem dX6_reachesInto_65 : decode cX6_reachesInto 65 = .ok (.invokevirtual 60, 3) := by decide +kernel
theorem dX6_reachesInto_68 : decode cX6_reachesInto 68 = .ok (.iload_n 3, 1) := by decide +kernel
theorem dX6_reachesInto_69 : decode cX6_reachesInto 69 = .ok (.iload 4, 2) := by decide +kernel
theorem dX6_reachesInto_71 : decode cX6_reachesInto 71 = .ok (.invokestatic 63, 3) := by decide +kernel
theorem dX6_reachesInto_74 : decode cX6_reachesInto 74 = .ok (.if_icmp .ge 7, 3) := by decide +kernel
theorem dX6_reachesInto_77 : decode cX6_reachesInto 77 = .ok (.iconst 1, 1) := by decide +kernel
theorem dX6_reachesInto_78 : decode cX6_reachesInto 78 = .ok (.goto 4, 3) := by decide +kernel
theorem dX6_reachesInto_81 : decode cX6_reachesInto 81 = .ok (.iconst 0, 1) := by decide +kernel
theorem dX6_reachesInto_82 : decode cX6_reachesInto 82 = .ok (.ireturn, 1) := by decide +kernel
theorem dX6_least_0 : decode cX6_least 0 = .ok (.aload_n 0, 1) := by decide +kernel
theorem dX6_least_1 : decode cX6_least 1 = .ok (.getfield 15, 3) := by decide +kernel
theorem dX6_least_4 : decode cX6_least 4 = .ok (.getfield 48, 3) := by decide +kernel
theorem dX6_least_7 : decode cX6_least 7 = .ok (.aload_n 0, 1) := by decide +kernel
theorem dX6_least_8 : decode cX6_least 8 = .ok (.getfield 15, 3) := by decide +kernel
theorem dX6_least_11 : decode cX6_least 11 = .ok (.getfield 51, 3) := by decide +kernel
theorem dX6_least_14 : decode cX6_least 14 = .ok (.iload_n 1, 1) := by decide +kernel
theorem dX6_least_15 : decode cX6_least 15 = .ok (.iaload, 1) := by decide +kernel
theorem dX6_least_16 : decode cX6_least 16 = .ok (.iaload, 1) := by decide +kernel
theorem dX6_least_17 : decode cX6_least 17 = .ok (.aload_n 0, 1) := by decide +kernel
theorem dX6_least_18 : decode cX6_least 18 = .ok (.getfield 15, 3) := by decide +kernel
theorem dX6_least_21 : decode cX6_least 21 = .ok (.getfield 48, 3) := by decide +kernel
theorem dX6_least_24 : decode cX6_least 24 = .ok (.aload_n 0, 1) := by decide +kernel
theorem dX6_least_25 : decode cX6_least 25 = .ok (.getfield 15, 3) := by decide +kernel
theorem dX6_least_28 : decode cX6_least 28 = .ok (.getfield 54, 3) := by decide +kernel
theorem dX6_least_31 : decode cX6_least 31 = .ok (.iload_n 1, 1) := by decide +kernel
theorem dX6_least_32 : decode cX6_least 32 = .ok (.iaload, 1) := by decide +kernel
theorem dX6_least_33 : decode cX6_least 33 = .ok (.iaload, 1) := by decide +kernel
theorem dX6_least_34 : decode cX6_least 34 = .ok (.invokestatic 69, 3) := by decide +kernel
theorem dX6_least_37 : decode cX6_least 37 = .ok (.ireturn, 1) := by decide +kernel
theorem dX6_greatest_0 : decode cX6_greatest 0 = .ok (.aload_n 0, 1) := by decide +kernel
theorem dX6_greatest_1 : decode cX6_greatest 1 = .ok (.getfield 15, 3) := by decide +kernel
theorem dX6_greatest_4 : decode cX6_greatest 4 = .ok (.getfield 48, 3) := by decide +kernel
theorem dX6_greatest_7 : decode cX6_greatest 7 = .ok (.aload_n 0, 1) := by decide +kernel
theorem dX6_greatest_8 : decode cX6_greatest 8 = .ok (.getfield 15, 3) := by decide +kernel
theorem dX6_greatest_11 : decode cX6_greatest 11 = .ok (.getfield 51, 3) := by decide +kernel
theorem dX6_greatest_14 : decode cX6_greatest 14 = .ok (.iload_n 1, 1) := by decide +kernel
theorem dX6_greatest_15 : decode cX6_greatest 15 = .ok (.iaload, 1) := by decide +kernel
theorem dX6_greatest_16 : decode cX6_greatest 16 = .ok (.iaload, 1) := by decide +kernel
theorem dX6_greatest_17 : decode cX6_greatest 17 = .ok (.aload_n 0, 1) := by decide +kernel
theorem dX6_greatest_18 : decode cX6_greatest 18 = .ok (.getfield 15, 3) := by decide +kernel
theorem dX6_greatest_21 : decode cX6_greatest 21 = .ok (.getfield 48, 3) := by decide +kernel
theorem dX6_greatest_24 : decode cX6_greatest 24 = .ok (.aload_n 0, 1) := by decide +kernel
theorem dX6_greatest_25 : decode cX6_greatest 25 = .ok (.getfield 15, 3) := by decide +kernel
theorem dX6_greatest_28 : decode cX6_greatest 28 = .ok (.getfield 54, 3) := by decide +kernel
theorem dX6_greatest_31 : decode cX6_greatest 31 = .ok (.iload_n 1, 1) := by decide +kernel
theorem dX6_greatest_32 : decode cX6_greatest 32 = .ok (.iaload, 1) := by decide +kernel
theorem dX6_greatest_33 : decode cX6_greatest 33 = .ok (.iaload, 1) := by decide +kernel
theorem dX6_greatest_34 : decode cX6_greatest 34 = .ok (.invokestatic 63, 3) := by decide +kernel
theorem dX6_greatest_37 : decode cX6_greatest 37 = .ok (.ireturn, 1) := by decide +kernel
theorem dX7_init_0 : decode cX7_init 0 = .ok (.aload_n 0, 1) := by decide +kernel
theorem dX7_init_1 : decode cX7_init 1 = .ok (.invokespecial 3, 3) := by decide +kernel
theorem dX7_init_4 : decode cX7_init 4 = .ok (.aload_n 0, 1) := by decide +kernel
theorem dX7_init_5 : decode cX7_init 5 = .ok (.bipush 7, 2) := by decide +kernel
theorem dX7_init_7 : decode cX7_init 7 = .ok (.newarray .int, 2) := by decide +kernel
theorem dX7_init_9 : decode cX7_init 9 = .ok (.putfield 9, 3) := by decide +kernel
theorem dX7_init_12 : decode cX7_init 12 = .ok (.aload_n 0, 1) := by decide +kernel
theorem dX7_init_13 : decode cX7_init 13 = .ok (.bipush 7, 2) := by decide +kernel
theorem dX7_init_15 : decode cX7_init 15 = .ok (.newarray .int, 2) := by decide +kernel
theorem dX7_init_17 : decode cX7_init 17 = .ok (.putfield 15, 3) := by decide +kernel
theorem dX7_init_20 : decode cX7_init 20 = .ok (.aload_n 0, 1) := by decide +kernel
theorem dX7_init_21 : decode cX7_init 21 = .ok (.bipush 7, 2) := by decide +kernel
theorem dX7_init_23 : decode cX7_init 23 = .ok (.newarray .int, 2) := by decide +kernel
theorem dX7_init_25 : decode cX7_init 25 = .ok (.putfield 18, 3) := by decide +kernel
theorem dX7_init_28 : decode cX7_init 28 = .ok (.aload_n 0, 1) := by decide +kernel
theorem dX7_init_29 : decode cX7_init 29 = .ok (.bipush 10, 2) := by decide +kernel
theorem dX7_init_31 : decode cX7_init 31 = .ok (.newarray .int, 2) := by decide +kernel
theorem dX7_init_33 : decode cX7_init 33 = .ok (.putfield 21, 3) := by decide +kernel
theorem dX7_init_36 : decode cX7_init 36 = .ok (.aload_n 0, 1) := by decide +kernel
theorem dX7_init_37 : decode cX7_init 37 = .ok (.bipush 10, 2) := by decide +kernel
theorem dX7_init_39 : decode cX7_init 39 = .ok (.newarray .int, 2) := by decide +kernel
theorem dX7_init_41 : decode cX7_init 41 = .ok (.putfield 24, 3) := by decide +kernel
theorem dX7_init_44 : decode cX7_init 44 = .ok (.aload_n 0, 1) := by decide +kernel
theorem dX7_init_45 : decode cX7_init 45 = .ok (.bipush 10, 2) := by decide +kernel
theorem dX7_init_47 : decode cX7_init 47 = .ok (.newarray .int, 2) := by decide +kernel
theorem dX7_init_49 : decode cX7_init 49 = .ok (.putfield 27, 3) := by decide +kernel
theorem dX7_init_52 : decode cX7_init 52 = .ok (.aload_n 0, 1) := by decide +kernel
theorem dX7_init_53 : decode cX7_init 53 = .ok (.bipush 10, 2) := by decide +kernel
theorem dX7_init_55 : decode cX7_init 55 = .ok (.newarray .int, 2) := by decide +kernel
theorem dX7_init_57 : decode cX7_init 57 = .ok (.putfield 30, 3) := by decide +kernel
theorem dX7_init_60 : decode cX7_init 60 = .ok (.aload_n 0, 1) := by decide +kernel
theorem dX7_init_61 : decode cX7_init 61 = .ok (.bipush 10, 2) := by decide +kernel
theorem dX7_init_63 : decode cX7_init 63 = .ok (.newarray .int, 2) := by decide +kernel
theorem dX7_init_65 : decode cX7_init 65 = .ok (.putfield 33, 3) := by decide +kernel
theorem dX7_init_68 : decode cX7_init 68 = .ok (.aload_n 0, 1) := by decide +kernel
theorem dX7_init_69 : decode cX7_init 69 = .ok (.bipush 10, 2) := by decide +kernel
theorem dX7_init_71 : decode cX7_init 71 = .ok (.newarray .int, 2) := by decide +kernel
theorem dX7_init_73 : decode cX7_init 73 = .ok (.putfield 36, 3) := by decide +kernel
theorem dX7_init_76 : decode cX7_init 76 = .ok (.aload_n 0, 1) := by decide +kernel
theorem dX7_init_77 : decode cX7_init 77 = .ok (.bipush 10, 2) := by decide +kernel
theorem dX7_init_79 : decode cX7_init 79 = .ok (.newarray .int, 2) := by decide +kernel
theorem dX7_init_81 : decode cX7_init 81 = .ok (.putfield 39, 3) := by decide +kernel
theorem dX7_init_84 : decode cX7_init 84 = .ok (.aload_n 0, 1) := by decide +kernel
theorem dX7_init_85 : decode cX7_init 85 = .ok (.bipush 10, 2) := by decide +kernel
theorem dX7_init_87 : decode cX7_init 87 = .ok (.newarray .int, 2) := by decide +kernel
theorem dX7_init_89 : decode cX7_init 89 = .ok (.putfield 42, 3) := by decide +kernel
theorem dX7_init_92 : decode cX7_init 92 = .ok (.return_, 1) := by decide +kernel
theorem dX7_becomes_0 : decode cX7_becomes 0 = .ok (.aload_n 0, 1) := by decide +kernel
theorem dX7_becomes_1 : decode cX7_becomes 1 = .ok (.aload_n 1, 1) := by decide +kernel
theorem dX7_becomes_2 : decode cX7_becomes 2 = .ok (.getfield 45, 3) := by decide +kernel
theorem dX7_becomes_5 : decode cX7_becomes 5 = .ok (.putfield 45, 3) := by decide +kernel
theorem dX7_becomes_8 : decode cX7_becomes 8 = .ok (.aload_n 0, 1) := by decide +kernel
theorem dX7_becomes_9 : decode cX7_becomes 9 = .ok (.aload_n 1, 1) := by decide +kernel
theorem dX7_becomes_10 : decode cX7_becomes 10 = .ok (.getfield 49, 3) := by decide +kernel
theorem dX7_becomes_13 : decode cX7_becomes 13 = .ok (.putfield 49, 3) := by decide +kernel
theorem dX7_becomes_16 : decode cX7_becomes 16 = .ok (.aload_n 0, 1) := by decide +kernel
theorem dX7_becomes_17 : decode cX7_becomes 17 = .ok (.aload_n 1, 1) := by decide +kernel
theorem dX7_becomes_18 : decode cX7_becomes 18 = .ok (.getfield 52, 3) := by decide +kernel
theorem dX7_becomes_21 : decode cX7_becomes 21 = .ok (.putfield 52, 3) := by decide +kernel
theorem dX7_becomes_24 : decode cX7_becomes 24 = .ok (.aload_n 0, 1) := by decide +kernel
theorem dX7_becomes_25 : decode cX7_becomes 25 = .ok (.aload_n 1, 1) := by decide +kernel
theorem dX7_becomes_26 : decode cX7_becomes 26 = .ok (.getfield 55, 3) := by decide +kernel
theorem dX7_becomes_29 : decode cX7_becomes 29 = .ok (.putfield 55, 3) := by decide +kernel
theorem dX7_becomes_32 : decode cX7_becomes 32 = .ok (.aload_n 0, 1) := by decide +kernel
theorem dX7_becomes_33 : decode cX7_becomes 33 = .ok (.aload_n 1, 1) := by decide +kernel
theorem dX7_becomes_34 : decode cX7_becomes 34 = .ok (.getfield 58, 3) := by decide +kernel
theorem dX7_becomes_37 : decode cX7_becomes 37 = .ok (.putfield 58, 3) := by decide +kernel
theorem dX7_becomes_40 : decode cX7_becomes 40 = .ok (.iconst 0, 1) := by decide +kernel
theorem dX7_becomes_41 : decode cX7_becomes 41 = .ok (.istore_n 2, 1) := by decide +kernel
theorem dX7_becomes_42 : decode cX7_becomes 42 = .ok (.iload_n 2, 1) := by decide +kernel
theorem dX7_becomes_43 : decode cX7_becomes 43 = .ok (.bipush 7, 2) := by decide +kernel
theorem dX7_becomes_45 : decode cX7_becomes 45 = .ok (.if_icmp .ge 33, 3) := by decide +kernel
theorem dX7_becomes_48 : decode cX7_becomes 48 = .ok (.aload_n 0, 1) := by decide +kernel
theorem dX7_becomes_49 : decode cX7_becomes 49 = .ok (.getfield 9, 3) := by decide +kernel
theorem dX7_becomes_52 : decode cX7_becomes 52 = .ok (.iload_n 2, 1) := by decide +kernel
theorem dX7_becomes_53 : decode cX7_becomes 53 = .ok (.aload_n 1, 1) := by decide +kernel
theorem dX7_becomes_54 : decode cX7_becomes 54 = .ok (.getfield 9, 3) := by decide +kernel
theorem dX7_becomes_57 : decode cX7_becomes 57 = .ok (.iload_n 2, 1) := by decide +kernel
theorem dX7_becomes_58 : decode cX7_becomes 58 = .ok (.iaload, 1) := by decide +kernel
theorem dX7_becomes_59 : decode cX7_becomes 59 = .ok (.iastore, 1) := by decide +kernel
theorem dX7_becomes_60 : decode cX7_becomes 60 = .ok (.aload_n 0, 1) := by decide +kernel
theorem dX7_becomes_61 : decode cX7_becomes 61 = .ok (.getfield 15, 3) := by decide +kernel
theorem dX7_becomes_64 : decode cX7_becomes 64 = .ok (.iload_n 2, 1) := by decide +kernel
theorem dX7_becomes_65 : decode cX7_becomes 65 = .ok (.aload_n 1, 1) := by decide +kernel
theorem dX7_becomes_66 : decode cX7_becomes 66 = .ok (.getfield 15, 3) := by decide +kernel
theorem dX7_becomes_69 : decode cX7_becomes 69 = .ok (.iload_n 2, 1) := by decide +kernel
theorem dX7_becomes_70 : decode cX7_becomes 70 = .ok (.iaload, 1) := by decide +kernel
theorem dX7_becomes_71 : decode cX7_becomes 71 = .ok (.iastore, 1) := by decide +kernel
theorem dX7_becomes_72 : decode cX7_becomes 72 = .ok (.iinc 2 1, 3) := by decide +kernel
theorem dX7_becomes_75 : decode cX7_becomes 75 = .ok (.goto (-33), 3) := by decide +kernel
theorem dX7_becomes_78 : decode cX7_becomes 78 = .ok (.iconst 0, 1) := by decide +kernel
theorem dX7_becomes_79 : decode cX7_becomes 79 = .ok (.istore_n 2, 1) := by decide +kernel
theorem dX7_becomes_80 : decode cX7_becomes 80 = .ok (.iload_n 2, 1) := by decide +kernel
theorem dX7_becomes_81 : decode cX7_becomes 81 = .ok (.bipush 10, 2) := by decide +kernel
theorem dX7_becomes_83 : decode cX7_becomes 83 = .ok (.if_icmp .ge 105, 3) := by decide +kernel
theorem dX7_becomes_86 : decode cX7_becomes 86 = .ok (.aload_n 0, 1) := by decide +kernel
theorem dX7_becomes_87 : decode cX7_becomes 87 = .ok (.getfield 21, 3) := by decide +kernel
theorem dX7_becomes_90 : decode cX7_becomes 90 = .ok (.iload_n 2, 1) := by decide +kernel
theorem dX7_becomes_91 : decode cX7_becomes 91 = .ok (.aload_n 1, 1) := by decide +kernel
theorem dX7_becomes_92 : decode cX7_becomes 92 = .ok (.getfield 21, 3) := by decide +kernel
theorem dX7_becomes_95 : decode cX7_becomes 95 = .ok (.iload_n 2, 1) := by decide +kernel
theorem dX7_becomes_96 : decode cX7_becomes 96 = .ok (.iaload, 1) := by decide +kernel
theorem dX7_becomes_97 : decode cX7_becomes 97 = .ok (.iastore, 1) := by decide +kernel
theorem dX7_becomes_98 : decode cX7_becomes 98 = .ok (.aload_n 0, 1) := by decide +kernel
theorem dX7_becomes_99 : decode cX7_becomes 99 = .ok (.getfield 24, 3) := by decide +kernel
theorem dX7_becomes_102 : decode cX7_becomes 102 = .ok (.iload_n 2, 1) := by decide +kernel
theorem dX7_becomes_103 : decode cX7_becomes 103 = .ok (.aload_n 1, 1) := by decide +kernel
theorem dX7_becomes_104 : decode cX7_becomes 104 = .ok (.getfield 24, 3) := by decide +kernel
theorem dX7_becomes_107 : decode cX7_becomes 107 = .ok (.iload_n 2, 1) := by decide +kernel
theorem dX7_becomes_108 : decode cX7_becomes 108 = .ok (.iaload, 1) := by decide +kernel
theorem dX7_becomes_109 : decode cX7_becomes 109 = .ok (.iastore, 1) := by decide +kernel
theorem dX7_becomes_110 : decode cX7_becomes 110 = .ok (.aload_n 0, 1) := by decide +kernel
theorem dX7_becomes_111 : decode cX7_becomes 111 = .ok (.getfield 27, 3) := by decide +kernel
theorem dX7_becomes_114 : decode cX7_becomes 114 = .ok (.iload_n 2, 1) := by decide +kernel
theorem dX7_becomes_115 : decode cX7_becomes 115 = .ok (.aload_n 1, 1) := by decide +kernel
theorem dX7_becomes_116 : decode cX7_becomes 116 = .ok (.getfield 27, 3) := by decide +kernel
theorem dX7_becomes_119 : decode cX7_becomes 119 = .ok (.iload_n 2, 1) := by decide +kernel
theorem dX7_becomes_120 : decode cX7_becomes 120 = .ok (.iaload, 1) := by decide +kernel
theorem dX7_becomes_121 : decode cX7_becomes 121 = .ok (.iastore, 1) := by decide +kernel
theorem dX7_becomes_122 : decode cX7_becomes 122 = .ok (.aload_n 0, 1) := by decide +kernel
theorem dX7_becomes_123 : decode cX7_becomes 123 = .ok (.getfield 30, 3) := by decide +kernel
theorem dX7_becomes_126 : decode cX7_becomes 126 = .ok (.iload_n 2, 1) := by decide +kernel
theorem dX7_becomes_127 : decode cX7_becomes 127 = .ok (.aload_n 1, 1) := by decide +kernel
theorem dX7_becomes_128 : decode cX7_becomes 128 = .ok (.getfield 30, 3) := by decide +kernel
theorem dX7_becomes_131 : decode cX7_becomes 131 = .ok (.iload_n 2, 1) := by decide +kernel
theorem dX7_becomes_132 : decode cX7_becomes 132 = .ok (.iaload, 1) := by decide +kernel
theorem dX7_becomes_133 : decode cX7_becomes 133 = .ok (.iastore, 1) := by decide +kernel
theorem dX7_becomes_134 : decode cX7_becomes 134 = .ok (.aload_n 0, 1) := by decide +kernel
theorem dX7_becomes_135 : decode cX7_becomes 135 = .ok (.getfield 33, 3) := by decide +kernel
theorem dX7_becomes_138 : decode cX7_becomes 138 = .ok (.iload_n 2, 1) := by decide +kernel
theorem dX7_becomes_139 : decode cX7_becomes 139 = .ok (.aload_n 1, 1) := by decide +kernel
theorem dX7_becomes_140 : decode cX7_becomes 140 = .ok (.getfield 33, 3) := by decide +kernel
theorem dX7_becomes_143 : decode cX7_becomes 143 = .ok (.iload_n 2, 1) := by decide +kernel
theorem dX7_becomes_144 : decode cX7_becomes 144 = .ok (.iaload, 1) := by decide +kernel
theorem dX7_becomes_145 : decode cX7_becomes 145 = .ok (.iastore, 1) := by decide +kernel
theorem dX7_becomes_146 : decode cX7_becomes 146 = .ok (.aload_n 0, 1) := by decide +kernel
theorem dX7_becomes_147 : decode cX7_becomes 147 = .ok (.getfield 36, 3) := by decide +kernel
theorem dX7_becomes_150 : decode cX7_becomes 150 = .ok (.iload_n 2, 1) := by decide +kernel
theorem dX7_becomes_151 : decode cX7_becomes 151 = .ok (.aload_n 1, 1) := by decide +kernel
theorem dX7_becomes_152 : decode cX7_becomes 152 = .ok (.getfield 36, 3) := by decide +kernel
theorem dX7_becomes_155 : decode cX7_becomes 155 = .ok (.iload_n 2, 1) := by decide +kernel
theorem dX7_becomes_156 : decode cX7_becomes 156 = .ok (.iaload, 1) := by decide +kernel
theorem dX7_becomes_157 : decode cX7_becomes 157 = .ok (.iastore, 1) := by decide +kernel
theorem dX7_becomes_158 : decode cX7_becomes 158 = .ok (.aload_n 0, 1) := by decide +kernel
theorem dX7_becomes_159 : decode cX7_becomes 159 = .ok (.getfield 39, 3) := by decide +kernel
theorem dX7_becomes_162 : decode cX7_becomes 162 = .ok (.iload_n 2, 1) := by decide +kernel
theorem dX7_becomes_163 : decode cX7_becomes 163 = .ok (.aload_n 1, 1) := by decide +kernel
theorem dX7_becomes_164 : decode cX7_becomes 164 = .ok (.getfield 39, 3) := by decide +kernel
theorem dX7_becomes_167 : decode cX7_becomes 167 = .ok (.iload_n 2, 1) := by decide +kernel
theorem dX7_becomes_168 : decode cX7_becomes 168 = .ok (.iaload, 1) := by decide +kernel
theorem dX7_becomes_169 : decode cX7_becomes 169 = .ok (.iastore, 1) := by decide +kernel
theorem dX7_becomes_170 : decode cX7_becomes 170 = .ok (.aload_n 0, 1) := by decide +kernel
theorem dX7_becomes_171 : decode cX7_becomes 171 = .ok (.getfield 42, 3) := by decide +kernel
theorem dX7_becomes_174 : decode cX7_becomes 174 = .ok (.iload_n 2, 1) := by decide +kernel
theorem dX7_becomes_175 : decode cX7_becomes 175 = .ok (.aload_n 1, 1) := by decide +kernel
theorem dX7_becomes_176 : decode cX7_becomes 176 = .ok (.getfield 42, 3) := by decide +kernel
theorem dX7_becomes_179 : decode cX7_becomes 179 = .ok (.iload_n 2, 1) := by decide +kernel
theorem dX7_becomes_180 : decode cX7_becomes 180 = .ok (.iaload, 1) := by decide +kernel
theorem dX7_becomes_181 : decode cX7_becomes 181 = .ok (.iastore, 1) := by decide +kernel
theorem dX7_becomes_182 : decode cX7_becomes 182 = .ok (.iinc 2 1, 3) := by decide +kernel
theorem dX7_becomes_185 : decode cX7_becomes 185 = .ok (.goto (-105), 3) := by decide +kernel
theorem dX7_becomes_188 : decode cX7_becomes 188 = .ok (.return_, 1) := by decide +kernel
theorem dX7_isPerson_0 : decode cX7_isPerson 0 = .ok (.iload_n 1, 1) := by decide +kernel
theorem dX7_isPerson_1 : decode cX7_isPerson 1 = .ok (.ifCond .lt 15, 3) := by decide +kernel
theorem dX7_isPerson_4 : decode cX7_isPerson 4 = .ok (.iload_n 1, 1) := by decide +kernel
theorem dX7_isPerson_5 : decode cX7_isPerson 5 = .ok (.aload_n 0, 1) := by decide +kernel
theorem dX7_isPerson_6 : decode cX7_isPerson 6 = .ok (.getfield 45, 3) := by decide +kernel
theorem dX7_isPerson_9 : decode cX7_isPerson 9 = .ok (.if_icmp .ge 7, 3) := by decide +kernel
theorem dX7_isPerson_12 : decode cX7_isPerson 12 = .ok (.iconst 1, 1) := by decide +kernel
theorem dX7_isPerson_13 : decode cX7_isPerson 13 = .ok (.goto 4, 3) := by decide +kernel
theorem dX7_isPerson_16 : decode cX7_isPerson 16 = .ok (.iconst 0, 1) := by decide +kernel
theorem dX7_isPerson_17 : decode cX7_isPerson 17 = .ok (.ireturn, 1) := by decide +kernel
theorem dX7_areTwo_0 : decode cX7_areTwo 0 = .ok (.aload_n 0, 1) := by decide +kernel
theorem dX7_areTwo_1 : decode cX7_areTwo 1 = .ok (.iload_n 1, 1) := by decide +kernel
theorem dX7_areTwo_2 : decode cX7_areTwo 2 = .ok (.invokevirtual 61, 3) := by decide +kernel
theorem dX7_areTwo_5 : decode cX7_areTwo 5 = .ok (.ifCond .eq 20, 3) := by decide +kernel
theorem dX7_areTwo_8 : decode cX7_areTwo 8 = .ok (.aload_n 0, 1) := by decide +kernel
theorem dX7_areTwo_9 : decode cX7_areTwo 9 = .ok (.iload_n 2, 1) := by decide +kernel
theorem dX7_areTwo_10 : decode cX7_areTwo 10 = .ok (.invokevirtual 61, 3) := by decide +kernel
theorem dX7_areTwo_13 : decode cX7_areTwo 13 = .ok (.ifCond .eq 12, 3) := by decide +kernel
theorem dX7_areTwo_16 : decode cX7_areTwo 16 = .ok (.iload_n 1, 1) := by decide +kernel
theorem dX7_areTwo_17 : decode cX7_areTwo 17 = .ok (.iload_n 2, 1) := by decide +kernel
theorem dX7_areTwo_18 : decode cX7_areTwo 18 = .ok (.if_icmp .eq 7, 3) := by decide +kernel
theorem dX7_areTwo_21 : decode cX7_areTwo 21 = .ok (.iconst 1, 1) := by decide +kernel
theorem dX7_areTwo_22 : decode cX7_areTwo 22 = .ok (.goto 4, 3) := by decide +kernel
theorem dX7_areTwo_25 : decode cX7_areTwo 25 = .ok (.iconst 0, 1) := by decide +kernel
theorem dX7_areTwo_26 : decode cX7_areTwo 26 = .ok (.ireturn, 1) := by decide +kernel
theorem dX7_isBand_0 : decode cX7_isBand 0 = .ok (.iload_n 1, 1) := by decide +kernel
theorem dX7_isBand_1 : decode cX7_isBand 1 = .ok (.ifCond .lt 15, 3) := by decide +kernel
theorem dX7_isBand_4 : decode cX7_isBand 4 = .ok (.iload_n 1, 1) := by decide +kernel
theorem dX7_isBand_5 : decode cX7_isBand 5 = .ok (.aload_n 0, 1) := by decide +kernel
theorem dX7_isBand_6 : decode cX7_isBand 6 = .ok (.getfield 49, 3) := by decide +kernel
theorem dX7_isBand_9 : decode cX7_isBand 9 = .ok (.if_icmp .ge 7, 3) := by decide +kernel
theorem dX7_isBand_12 : decode cX7_isBand 12 = .ok (.iconst 1, 1) := by decide +kernel
theorem dX7_isBand_13 : decode cX7_isBand 13 = .ok (.goto 4, 3) := by decide +kernel
theorem dX7_isBand_16 : decode cX7_isBand 16 = .ok (.iconst 0, 1) := by decide +kernel
theorem dX7_isBand_17 : decode cX7_isBand 17 = .ok (.ireturn, 1) := by decide +kernel
theorem dX7_isSnapped_0 : decode cX7_isSnapped 0 = .ok (.aload_n 0, 1) := by decide +kernel
theorem dX7_isSnapped_1 : decode cX7_isSnapped 1 = .ok (.getfield 52, 3) := by decide +kernel
theorem dX7_isSnapped_4 : decode cX7_isSnapped 4 = .ok (.iload_n 1, 1) := by decide +kernel
theorem dX7_isSnapped_5 : decode cX7_isSnapped 5 = .ok (.ishr, 1) := by decide +kernel
theorem dX7_isSnapped_6 : decode cX7_isSnapped 6 = .ok (.iconst 1, 1) := by decide +kernel
theorem dX7_isSnapped_7 : decode cX7_isSnapped 7 = .ok (.iand, 1) := by decide +kernel
theorem dX7_isSnapped_8 : decode cX7_isSnapped 8 = .ok (.iconst 1, 1) := by decide +kernel
theorem dX7_isSnapped_9 : decode cX7_isSnapped 9 = .ok (.if_icmp .ne 7, 3) := by decide +kernel
theorem dX7_isSnapped_12 : decode cX7_isSnapped 12 = .ok (.iconst 1, 1) := by decide +kernel
theorem dX7_isSnapped_13 : decode cX7_isSnapped 13 = .ok (.goto 4, 3) := by decide +kernel
theorem dX7_isSnapped_16 : decode cX7_isSnapped 16 = .ok (.iconst 0, 1) := by decide +kernel
theorem dX7_isSnapped_17 : decode cX7_isSnapped 17 = .ok (.ireturn, 1) := by decide +kernel
theorem dX7_isRound_0 : decode cX7_isRound 0 = .ok (.aload_n 0, 1) := by decide +kernel
theorem dX7_isRound_1 : decode cX7_isRound 1 = .ok (.getfield 27, 3) := by decide +kernel
theorem dX7_isRound_4 : decode cX7_isRound 4 = .ok (.iload_n 1, 1) := by decide +kernel
theorem dX7_isRound_5 : decode cX7_isRound 5 = .ok (.iaload, 1) := by decide +kernel
theorem dX7_isRound_6 : decode cX7_isRound 6 = .ok (.iload_n 2, 1) := by decide +kernel
theorem dX7_isRound_7 : decode cX7_isRound 7 = .ok (.if_icmp .ne 13, 3) := by decide +kernel
theorem dX7_isRound_10 : decode cX7_isRound 10 = .ok (.aload_n 0, 1) := by decide +kernel
theorem dX7_isRound_11 : decode cX7_isRound 11 = .ok (.getfield 30, 3) := by decide +kernel
theorem dX7_isRound_14 : decode cX7_isRound 14 = .ok (.iload_n 1, 1) := by decide +kernel
theorem dX7_isRound_15 : decode cX7_isRound 15 = .ok (.iaload, 1) := by decide +kernel
theorem dX7_isRound_16 : decode cX7_isRound 16 = .ok (.iload_n 3, 1) := by decide +kernel
theorem dX7_isRound_17 : decode cX7_isRound 17 = .ok (.if_icmp .eq 23, 3) := by decide +kernel
theorem dX7_isRound_20 : decode cX7_isRound 20 = .ok (.aload_n 0, 1) := by decide +kernel
theorem dX7_isRound_21 : decode cX7_isRound 21 = .ok (.getfield 27, 3) := by decide +kernel
theorem dX7_isRound_24 : decode cX7_isRound 24 = .ok (.iload_n 1, 1) := by decide +kernel
theorem dX7_isRound_25 : decode cX7_isRound 25 = .ok (.iaload, 1) := by decide +kernel
theorem dX7_isRound_26 : decode cX7_isRound 26 = .ok (.iload_n 3, 1) := by decide +kernel
theorem dX7_isRound_27 : decode cX7_isRound 27 = .ok (.if_icmp .ne 17, 3) := by decide +kernel
theorem dX7_isRound_30 : decode cX7_isRound 30 = .ok (.aload_n 0, 1) := by decide +kernel
theorem dX7_isRound_31 : decode cX7_isRound 31 = .ok (.getfield 30, 3) := by decide +kernel
theorem dX7_isRound_34 : decode cX7_isRound 34 = .ok (.iload_n 1, 1) := by decide +kernel
theorem dX7_isRound_35 : decode cX7_isRound 35 = .ok (.iaload, 1) := by decide +kernel
theorem dX7_isRound_36 : decode cX7_isRound 36 = .ok (.iload_n 2, 1) := by decide +kernel
theorem dX7_isRound_37 : decode cX7_isRound 37 = .ok (.if_icmp .ne 7, 3) := by decide +kernel
theorem dX7_isRound_40 : decode cX7_isRound 40 = .ok (.iconst 1, 1) := by decide +kernel
theorem dX7_isRound_41 : decode cX7_isRound 41 = .ok (.goto 4, 3) := by decide +kernel
theorem dX7_isRound_44 : decode cX7_isRound 44 = .ok (.iconst 0, 1) := by decide +kernel
theorem dX7_isRound_45 : decode cX7_isRound 45 = .ok (.ireturn, 1) := by decide +kernel
theorem dX7_snappedCount_0 : decode cX7_snappedCount 0 = .ok (.aload_n 0, 1) := by decide +kernel
theorem dX7_snappedCount_1 : decode cX7_snappedCount 1 = .ok (.getfield 52, 3) := by decide +kernel
theorem dX7_snappedCount_4 : decode cX7_snappedCount 4 = .ok (.invokestatic 65, 3) := by decide +kernel
theorem dX7_snappedCount_7 : decode cX7_snappedCount 7 = .ok (.ireturn, 1) := by decide +kernel
theorem dX7_apart_0 : decode cX7_apart 0 = .ok (.aload_n 0, 1) := by decide +kernel
theorem dX7_apart_1 : decode cX7_apart 1 = .ok (.getfield 9, 3) := by decide +kernel
theorem dX7_apart_4 : decode cX7_apart 4 = .ok (.iload_n 1, 1) := by decide +kernel
theorem dX7_apart_5 : decode cX7_apart 5 = .ok (.iaload, 1) := by decide +kernel
theorem dX7_apart_6 : decode cX7_apart 6 = .ok (.aload_n 0, 1) := by decide +kernel
theorem dX7_apart_7 : decode cX7_apart 7 = .ok (.getfield 9, 3) := by decide +kernel
theorem dX7_apart_10 : decode cX7_apart 10 = .ok (.iload_n 2, 1) := by decide +kernel
theorem dX7_apart_11 : decode cX7_apart 11 = .ok (.iaload, 1) := by decide +kernel
theorem dX7_apart_12 : decode cX7_apart 12 = .ok (.isub, 1) := by decide +kernel
theorem dX7_apart_13 : decode cX7_apart 13 = .ok (.invokestatic 71, 3) := by decide +kernel
theorem dX7_apart_16 : decode cX7_apart 16 = .ok (.ireturn, 1) := by decide +kernel
theorem dX7_stretch_0 : decode cX7_stretch 0 = .ok (.aload_n 0, 1) := by decide +kernel
theorem dX7_stretch_1 : decode cX7_stretch 1 = .ok (.getfield 9, 3) := by decide +kernel
theorem dX7_stretch_4 : decode cX7_stretch 4 = .ok (.aload_n 0, 1) := by decide +kernel
theorem dX7_stretch_5 : decode cX7_stretch 5 = .ok (.getfield 27, 3) := by decide +kernel
theorem dX7_stretch_8 : decode cX7_stretch 8 = .ok (.iload_n 1, 1) := by decide +kernel
theorem dX7_stretch_9 : decode cX7_stretch 9 = .ok (.iaload, 1) := by decide +kernel
theorem dX7_stretch_10 : decode cX7_stretch 10 = .ok (.iaload, 1) := by decide +kernel
theorem dX7_stretch_11 : decode cX7_stretch 11 = .ok (.aload_n 0, 1) := by decide +kernel
theorem dX7_stretch_12 : decode cX7_stretch 12 = .ok (.getfield 9, 3) := by decide +kernel
theorem dX7_stretch_15 : decode cX7_stretch 15 = .ok (.aload_n 0, 1) := by decide +kernel
theorem dX7_stretch_16 : decode cX7_stretch 16 = .ok (.getfield 30, 3) := by decide +kernel
theorem dX7_stretch_19 : decode cX7_stretch 19 = .ok (.iload_n 1, 1) := by decide +kernel
theorem dX7_stretch_20 : decode cX7_stretch 20 = .ok (.iaload, 1) := by decide +kernel
theorem dX7_stretch_21 : decode cX7_stretch 21 = .ok (.iaload, 1) := by decide +kernel
theorem dX7_stretch_22 : decode cX7_stretch 22 = .ok (.isub, 1) := by decide +kernel
theorem dX7_stretch_23 : decode cX7_stretch 23 = .ok (.istore_n 2, 1) := by decide +kernel
theorem dX7_stretch_24 : decode cX7_stretch 24 = .ok (.iload_n 2, 1) := by decide +kernel
theorem dX7_stretch_25 : decode cX7_stretch 25 = .ok (.ifCond .ge 8, 3) := by decide +kernel
theorem dX7_stretch_28 : decode cX7_stretch 28 = .ok (.iload_n 2, 1) := by decide +kernel
theorem dX7_stretch_29 : decode cX7_stretch 29 = .ok (.ineg, 1) := by decide +kernel
theorem dX7_stretch_30 : decode cX7_stretch 30 = .ok (.goto 4, 3) := by decide +kernel
theorem dX7_stretch_33 : decode cX7_stretch 33 = .ok (.iload_n 2, 1) := by decide +kernel
theorem dX7_stretch_34 : decode cX7_stretch 34 = .ok (.aload_n 0, 1) := by decide +kernel
theorem dX7_stretch_35 : decode cX7_stretch 35 = .ok (.getfield 36, 3) := by decide +kernel
theorem dX7_stretch_38 : decode cX7_stretch 38 = .ok (.iload_n 1, 1) := by decide +kernel
theorem dX7_stretch_39 : decode cX7_stretch 39 = .ok (.iaload, 1) := by decide +kernel
theorem dX7_stretch_40 : decode cX7_stretch 40 = .ok (.isub, 1) := by decide +kernel
theorem dX7_stretch_41 : decode cX7_stretch 41 = .ok (.istore_n 3, 1) := by decide +kernel
theorem dX7_stretch_42 : decode cX7_stretch 42 = .ok (.iload_n 3, 1) := by decide +kernel
theorem dX7_stretch_43 : decode cX7_stretch 43 = .ok (.ifCond .le 7, 3) := by decide +kernel
theorem dX7_stretch_46 : decode cX7_stretch 46 = .ok (.iload_n 3, 1) := by decide +kernel
theorem dX7_stretch_47 : decode cX7_stretch 47 = .ok (.goto 4, 3) := by decide +kernel
theorem dX7_stretch_50 : decode cX7_stretch 50 = .ok (.iconst 0, 1) := by decide +kernel
theorem dX7_stretch_51 : decode cX7_stretch 51 = .ok (.ireturn, 1) := by decide +kernel
theorem dX7_pull_0 : decode cX7_pull 0 = .ok (.aload_n 0, 1) := by decide +kernel
theorem dX7_pull_1 : decode cX7_pull 1 = .ok (.iload_n 1, 1) := by decide +kernel
theorem dX7_pull_2 : decode cX7_pull 2 = .ok (.invokevirtual 76, 3) := by decide +kernel
theorem dX7_pull_5 : decode cX7_pull 5 = .ok (.ifCond .eq 7, 3) := by decide +kernel
theorem dX7_pull_8 : decode cX7_pull 8 = .ok (.iconst 0, 1) := by decide +kernel
theorem dX7_pull_9 : decode cX7_pull 9 = .ok (.goto 15, 3) := by decide +kernel
theorem dX7_pull_12 : decode cX7_pull 12 = .ok (.aload_n 0, 1) := by decide +kernel
theorem dX7_pull_13 : decode cX7_pull 13 = .ok (.iload_n 1, 1) := by decide +kernel
theorem dX7_pull_14 : decode cX7_pull 14 = .ok (.invokevirtual 79, 3) := by decide +kernel
theorem dX7_pull_17 : decode cX7_pull 17 = .ok (.aload_n 0, 1) := by decide +kernel
theorem dX7_pull_18 : decode cX7_pull 18 = .ok (.getfield 39, 3) := by decide +kernel
theorem dX7_pull_21 : decode cX7_pull 21 = .ok (.iload_n 1, 1) := by decide +kernel
theorem dX7_pull_22 : decode cX7_pull 22 = .ok (.iaload, 1) := by decide +kernel
theorem dX7_pull_23 : decode cX7_pull 23 = .ok (.imul, 1) := by decide +kernel
theorem dX7_pull_24 : decode cX7_pull 24 = .ok (.ireturn, 1) := by decide +kernel
theorem dX7_holdsAt_0 : decode cX7_holdsAt 0 = .ok (.aload_n 0, 1) := by decide +kernel
theorem dX7_holdsAt_1 : decode cX7_holdsAt 1 = .ok (.getfield 42, 3) := by decide +kernel
theorem dX7_holdsAt_4 : decode cX7_holdsAt 4 = .ok (.iload_n 1, 1) := by decide +kernel
theorem dX7_holdsAt_5 : decode cX7_holdsAt 5 = .ok (.iaload, 1) := by decide +kernel
theorem dX7_holdsAt_6 : decode cX7_holdsAt 6 = .ok (.iload_n 2, 1) := by decide +kernel
theorem dX7_holdsAt_7 : decode cX7_holdsAt 7 = .ok (.iconst 5, 1) := by decide +kernel
theorem dX7_holdsAt_8 : decode cX7_holdsAt 8 = .ok (.idiv, 1) := by decide +kernel
theorem dX7_holdsAt_9 : decode cX7_holdsAt 9 = .ok (.isub, 1) := by decide +kernel
theorem dX7_holdsAt_10 : decode cX7_holdsAt 10 = .ok (.iload_n 3, 1) := by decide +kernel
theorem dX7_holdsAt_11 : decode cX7_holdsAt 11 = .ok (.iconst 2, 1) := by decide +kernel
theorem dX7_holdsAt_12 : decode cX7_holdsAt 12 = .ok (.idiv, 1) := by decide +kernel
theorem dX7_holdsAt_13 : decode cX7_holdsAt 13 = .ok (.isub, 1) := by decide +kernel
theorem dX7_holdsAt_14 : decode cX7_holdsAt 14 = .ok (.istore 4, 2) := by decide +kernel
theorem dX7_holdsAt_16 : decode cX7_holdsAt 16 = .ok (.iload 4, 2) := by decide +kernel
theorem dX7_holdsAt_18 : decode cX7_holdsAt 18 = .ok (.ifCond .le 8, 3) := by decide +kernel
theorem dX7_holdsAt_21 : decode cX7_holdsAt 21 = .ok (.iload 4, 2) := by decide +kernel
theorem dX7_holdsAt_23 : decode cX7_holdsAt 23 = .ok (.goto 4, 3) := by decide +kernel
theorem dX7_holdsAt_26 : decode cX7_holdsAt 26 = .ok (.iconst 0, 1) := by decide +kernel
theorem dX7_holdsAt_27 : decode cX7_holdsAt 27 = .ok (.ireturn, 1) := by decide +kernel
theorem dX7_overstretched_0 : decode cX7_overstretched 0 = .ok (.iconst 0, 1) := by decide +kernel
theorem dX7_overstretched_1 : decode cX7_overstretched 1 = .ok (.istore_n 2, 1) := by decide +kernel
theorem dX7_overstretched_2 : decode cX7_overstretched 2 = .ok (.iconst 0, 1) := by decide +kernel
theorem dX7_overstretched_3 : decode cX7_overstretched 3 = .ok (.istore_n 3, 1) := by decide +kernel
theorem dX7_overstretched_4 : decode cX7_overstretched 4 = .ok (.iload_n 3, 1) := by decide +kernel
theorem dX7_overstretched_5 : decode cX7_overstretched 5 = .ok (.aload_n 0, 1) := by decide +kernel
theorem dX7_overstretched_6 : decode cX7_overstretched 6 = .ok (.getfield 49, 3) := by decide +kernel
theorem dX7_overstretched_9 : decode cX7_overstretched 9 = .ok (.if_icmp .ge 43, 3) := by decide +kernel
theorem dX7_overstretched_12 : decode cX7_overstretched 12 = .ok (.aload_n 0, 1) := by decide +kernel
theorem dX7_overstretched_13 : decode cX7_overstretched 13 = .ok (.iload_n 3, 1) := by decide +kernel
theorem dX7_overstretched_14 : decode cX7_overstretched 14 = .ok (.invokevirtual 76, 3) := by decide +kernel
theorem dX7_overstretched_17 : decode cX7_overstretched 17 = .ok (.ifCond .ne 29, 3) := by decide +kernel
theorem dX7_overstretched_20 : decode cX7_overstretched 20 = .ok (.aload_n 0, 1) := by decide +kernel
theorem dX7_overstretched_21 : decode cX7_overstretched 21 = .ok (.iload_n 3, 1) := by decide +kernel
theorem dX7_overstretched_22 : decode cX7_overstretched 22 = .ok (.invokevirtual 79, 3) := by decide +kernel
theorem dX7_overstretched_25 : decode cX7_overstretched 25 = .ok (.aload_n 0, 1) := by decide +kernel
theorem dX7_overstretched_26 : decode cX7_overstretched 26 = .ok (.iload_n 3, 1) := by decide +kernel
theorem dX7_overstretched_27 : decode cX7_overstretched 27 = .ok (.aload_n 0, 1) := by decide +kernel
theorem dX7_overstretched_28 : decode cX7_overstretched 28 = .ok (.getfield 33, 3) := by decide +kernel
theorem dX7_overstretched_31 : decode cX7_overstretched 31 = .ok (.iload_n 3, 1) := by decide +kernel
theorem dX7_overstretched_32 : decode cX7_overstretched 32 = .ok (.iaload, 1) := by decide +kernel
theorem dX7_overstretched_33 : decode cX7_overstretched 33 = .ok (.iload_n 1, 1) := by decide +kernel
theorem dX7_overstretched_34 : decode cX7_overstretched 34 = .ok (.invokevirtual 82, 3) := by decide +kernel
theorem dX7_overstretched_37 : decode cX7_overstretched 37 = .ok (.if_icmp .le 9, 3) := by decide +kernel
theorem dX7_overstretched_40 : decode cX7_overstretched 40 = .ok (.iload_n 2, 1) := by decide +kernel
theorem dX7_overstretched_41 : decode cX7_overstretched 41 = .ok (.iconst 1, 1) := by decide +kernel
theorem dX7_overstretched_42 : decode cX7_overstretched 42 = .ok (.iload_n 3, 1) := by decide +kernel
theorem dX7_overstretched_43 : decode cX7_overstretched 43 = .ok (.ishl, 1) := by decide +kernel
theorem dX7_overstretched_44 : decode cX7_overstretched 44 = .ok (.ior, 1) := by decide +kernel
theorem dX7_overstretched_45 : decode cX7_overstretched 45 = .ok (.istore_n 2, 1) := by decide +kernel
theorem dX7_overstretched_46 : decode cX7_overstretched 46 = .ok (.iinc 3 1, 3) := by decide +kernel
theorem dX7_overstretched_49 : decode cX7_overstretched 49 = .ok (.goto (-45), 3) := by decide +kernel
theorem dX7_overstretched_52 : decode cX7_overstretched 52 = .ok (.iload_n 2, 1) := by decide +kernel
theorem dX7_overstretched_53 : decode cX7_overstretched 53 = .ok (.ireturn, 1) := by decide +kernel
theorem dX7_tryAll_0 : decode cX7_tryAll 0 = .ok (.aload_n 0, 1) := by decide +kernel
theorem dX7_tryAll_1 : decode cX7_tryAll 1 = .ok (.aload_n 0, 1) := by decide +kernel
theorem dX7_tryAll_2 : decode cX7_tryAll 2 = .ok (.getfield 55, 3) := by decide +kernel
theorem dX7_tryAll_5 : decode cX7_tryAll 5 = .ok (.invokevirtual 86, 3) := by decide +kernel
theorem dX7_tryAll_8 : decode cX7_tryAll 8 = .ok (.istore_n 1, 1) := by decide +kernel
theorem dX7_tryAll_9 : decode cX7_tryAll 9 = .ok (.iconst 0, 1) := by decide +kernel
theorem dX7_tryAll_10 : decode cX7_tryAll 10 = .ok (.istore_n 2, 1) := by decide +kernel
theorem dX7_tryAll_11 : decode cX7_tryAll 11 = .ok (.iload_n 2, 1) := by decide +kernel
theorem dX7_tryAll_12 : decode cX7_tryAll 12 = .ok (.aload_n 0, 1) := by decide +kernel
theorem dX7_tryAll_13 : decode cX7_tryAll 13 = .ok (.getfield 49, 3) := by decide +kernel
theorem dX7_tryAll_16 : decode cX7_tryAll 16 = .ok (.if_icmp .ge 38, 3) := by decide +kernel
theorem dX7_tryAll_19 : decode cX7_tryAll 19 = .ok (.iload_n 1, 1) := by decide +kernel
theorem dX7_tryAll_20 : decode cX7_tryAll 20 = .ok (.iload_n 2, 1) := by decide +kernel
theorem dX7_tryAll_21 : decode cX7_tryAll 21 = .ok (.ishr, 1) := by decide +kernel
theorem dX7_tryAll_22 : decode cX7_tryAll 22 = .ok (.iconst 1, 1) := by decide +kernel
theorem dX7_tryAll_23 : decode cX7_tryAll 23 = .ok (.iand, 1) := by decide +kernel
theorem dX7_tryAll_24 : decode cX7_tryAll 24 = .ok (.iconst 1, 1) := by decide +kernel
theorem dX7_tryAll_25 : decode cX7_tryAll 25 = .ok (.if_icmp .ne 23, 3) := by decide +kernel
theorem dX7_tryAll_28 : decode cX7_tryAll 28 = .ok (.aload_n 0, 1) := by decide +kernel
theorem dX7_tryAll_29 : decode cX7_tryAll 29 = .ok (.aload_n 0, 1) := by decide +kernel
theorem dX7_tryAll_30 : decode cX7_tryAll 30 = .ok (.getfield 27, 3) := by decide +kernel
theorem dX7_tryAll_33 : decode cX7_tryAll 33 = .ok (.iload_n 2, 1) := by decide +kernel
theorem dX7_tryAll_34 : decode cX7_tryAll 34 = .ok (.iaload, 1) := by decide +kernel
theorem dX7_tryAll_35 : decode cX7_tryAll 35 = .ok (.invokevirtual 89, 3) := by decide +kernel
theorem dX7_tryAll_38 : decode cX7_tryAll 38 = .ok (.aload_n 0, 1) := by decide +kernel
theorem dX7_tryAll_39 : decode cX7_tryAll 39 = .ok (.aload_n 0, 1) := by decide +kernel
theorem dX7_tryAll_40 : decode cX7_tryAll 40 = .ok (.getfield 30, 3) := by decide +kernel
theorem dX7_tryAll_43 : decode cX7_tryAll 43 = .ok (.iload_n 2, 1) := by decide +kernel
theorem dX7_tryAll_44 : decode cX7_tryAll 44 = .ok (.iaload, 1) := by decide +kernel
theorem dX7_tryAll_45 : decode cX7_tryAll 45 = .ok (.invokevirtual 89, 3) := by decide +kernel
theorem dX7_tryAll_48 : decode cX7_tryAll 48 = .ok (.iinc 2 1, 3) := by decide +kernel
theorem dX7_tryAll_51 : decode cX7_tryAll 51 = .ok (.goto (-40), 3) := by decide +kernel
theorem dX7_tryAll_54 : decode cX7_tryAll 54 = .ok (.aload_n 0, 1) := by decide +kernel
theorem dX7_tryAll_55 : decode cX7_tryAll 55 = .ok (.dup, 1) := by decide +kernel
theorem dX7_tryAll_56 : decode cX7_tryAll 56 = .ok (.getfield 52, 3) := by decide +kernel
theorem dX7_tryAll_59 : decode cX7_tryAll 59 = .ok (.iload_n 1, 1) := by decide +kernel
theorem dX7_tryAll_60 : decode cX7_tryAll 60 = .ok (.ior, 1) := by decide +kernel
theorem dX7_tryAll_61 : decode cX7_tryAll 61 = .ok (.putfield 52, 3) := by decide +kernel
theorem dX7_tryAll_64 : decode cX7_tryAll 64 = .ok (.iload_n 1, 1) := by decide +kernel
theorem dX7_tryAll_65 : decode cX7_tryAll 65 = .ok (.invokestatic 65, 3) := by decide +kernel
theorem dX7_tryAll_68 : decode cX7_tryAll 68 = .ok (.ireturn, 1) := by decide +kernel
theorem dX7_sting_0 : decode cX7_sting 0 = .ok (.aload_n 0, 1) := by decide +kernel
theorem dX7_sting_1 : decode cX7_sting 1 = .ok (.getfield 15, 3) := by decide +kernel
theorem dX7_sting_4 : decode cX7_sting 4 = .ok (.iload_n 1, 1) := by decide +kernel
theorem dX7_sting_5 : decode cX7_sting 5 = .ok (.iaload, 1) := by decide +kernel
theorem dX7_sting_6 : decode cX7_sting 6 = .ok (.bipush 99, 2) := by decide +kernel
theorem dX7_sting_8 : decode cX7_sting 8 = .ok (.if_icmp .ge 13, 3) := by decide +kernel
theorem dX7_sting_11 : decode cX7_sting 11 = .ok (.aload_n 0, 1) := by decide +kernel
theorem dX7_sting_12 : decode cX7_sting 12 = .ok (.getfield 15, 3) := by decide +kernel
theorem dX7_sting_15 : decode cX7_sting 15 = .ok (.iload_n 1, 1) := by decide +kernel
theorem dX7_sting_16 : decode cX7_sting 16 = .ok (.dup2, 1) := by decide +kernel
theorem dX7_sting_17 : decode cX7_sting 17 = .ok (.iaload, 1) := by decide +kernel
theorem dX7_sting_18 : decode cX7_sting 18 = .ok (.iconst 1, 1) := by decide +kernel
theorem dX7_sting_19 : decode cX7_sting 19 = .ok (.iadd, 1) := by decide +kernel
theorem dX7_sting_20 : decode cX7_sting 20 = .ok (.iastore, 1) := by decide +kernel
theorem dX7_sting_21 : decode cX7_sting 21 = .ok (.return_, 1) := by decide +kernel
theorem dX7_addPerson_0 : decode cX7_addPerson 0 = .ok (.aload_n 0, 1) := by decide +kernel
theorem dX7_addPerson_1 : decode cX7_addPerson 1 = .ok (.getfield 45, 3) := by decide +kernel
theorem dX7_addPerson_4 : decode cX7_addPerson 4 = .ok (.istore_n 2, 1) := by decide +kernel
theorem dX7_addPerson_5 : decode cX7_addPerson 5 = .ok (.aload_n 0, 1) := by decide +kernel
theorem dX7_addPerson_6 : decode cX7_addPerson 6 = .ok (.getfield 9, 3) := by decide +kernel
theorem dX7_addPerson_9 : decode cX7_addPerson 9 = .ok (.iload_n 2, 1) := by decide +kernel
theorem dX7_addPerson_10 : decode cX7_addPerson 10 = .ok (.iload_n 1, 1) := by decide +kernel
theorem dX7_addPerson_11 : decode cX7_addPerson 11 = .ok (.iastore, 1) := by decide +kernel
theorem dX7_addPerson_12 : decode cX7_addPerson 12 = .ok (.aload_n 0, 1) := by decide +kernel
theorem dX7_addPerson_13 : decode cX7_addPerson 13 = .ok (.getfield 15, 3) := by decide +kernel
theorem dX7_addPerson_16 : decode cX7_addPerson 16 = .ok (.iload_n 2, 1) := by decide +kernel
theorem dX7_addPerson_17 : decode cX7_addPerson 17 = .ok (.iconst 0, 1) := by decide +kernel
theorem dX7_addPerson_18 : decode cX7_addPerson 18 = .ok (.iastore, 1) := by decide +kernel
theorem dX7_addPerson_19 : decode cX7_addPerson 19 = .ok (.aload_n 0, 1) := by decide +kernel
theorem dX7_addPerson_20 : decode cX7_addPerson 20 = .ok (.dup, 1) := by decide +kernel
theorem dX7_addPerson_21 : decode cX7_addPerson 21 = .ok (.getfield 45, 3) := by decide +kernel
theorem dX7_addPerson_24 : decode cX7_addPerson 24 = .ok (.iconst 1, 1) := by decide +kernel
theorem dX7_addPerson_25 : decode cX7_addPerson 25 = .ok (.iadd, 1) := by decide +kernel
theorem dX7_addPerson_26 : decode cX7_addPerson 26 = .ok (.putfield 45, 3) := by decide +kernel
theorem dX7_addPerson_29 : decode cX7_addPerson 29 = .ok (.iload_n 2, 1) := by decide +kernel
theorem dX7_addPerson_30 : decode cX7_addPerson 30 = .ok (.ireturn, 1) := by decide +kernel
theorem dX7_addBand_0 : decode cX7_addBand 0 = .ok (.aload_n 0, 1) := by decide +kernel
theorem dX7_addBand_1 : decode cX7_addBand 1 = .ok (.getfield 49, 3) := by decide +kernel
theorem dX7_addBand_4 : decode cX7_addBand 4 = .ok (.istore 5, 2) := by decide +kernel
theorem dX7_addBand_6 : decode cX7_addBand 6 = .ok (.aload_n 0, 1) := by decide +kernel
theorem dX7_addBand_7 : decode cX7_addBand 7 = .ok (.getfield 21, 3) := by decide +kernel
theorem dX7_addBand_10 : decode cX7_addBand 10 = .ok (.iload 5, 2) := by decide +kernel
theorem dX7_addBand_12 : decode cX7_addBand 12 = .ok (.iload_n 1, 1) := by decide +kernel
theorem dX7_addBand_13 : decode cX7_addBand 13 = .ok (.iastore, 1) := by decide +kernel
theorem dX7_addBand_14 : decode cX7_addBand 14 = .ok (.aload_n 0, 1) := by decide +kernel
theorem dX7_addBand_15 : decode cX7_addBand 15 = .ok (.getfield 24, 3) := by decide +kernel
theorem dX7_addBand_18 : decode cX7_addBand 18 = .ok (.iload 5, 2) := by decide +kernel
theorem dX7_addBand_20 : decode cX7_addBand 20 = .ok (.iload_n 2, 1) := by decide +kernel
theorem dX7_addBand_21 : decode cX7_addBand 21 = .ok (.iastore, 1) := by decide +kernel
theorem dX7_addBand_22 : decode cX7_addBand 22 = .ok (.aload_n 0, 1) := by decide +kernel
theorem dX7_addBand_23 : decode cX7_addBand 23 = .ok (.getfield 27, 3) := by decide +kernel
theorem dX7_addBand_26 : decode cX7_addBand 26 = .ok (.iload 5, 2) := by decide +kernel
theorem dX7_addBand_28 : decode cX7_addBand 28 = .ok (.iload_n 3, 1) := by decide +kernel
theorem dX7_addBand_29 : decode cX7_addBand 29 = .ok (.iastore, 1) := by decide +kernel
theorem dX7_addBand_30 : decode cX7_addBand 30 = .ok (.aload_n 0, 1) := by decide +kernel
theorem dX7_addBand_31 : decode cX7_addBand 31 = .ok (.getfield 30, 3) := by decide +kernel
theorem dX7_addBand_34 : decode cX7_addBand 34 = .ok (.iload 5, 2) := by decide +kernel
theorem dX7_addBand_36 : decode cX7_addBand 36 = .ok (.iload 4, 2) := by decide +kernel
theorem dX7_addBand_38 : decode cX7_addBand 38 = .ok (.iastore, 1) := by decide +kernel
theorem dX7_addBand_39 : decode cX7_addBand 39 = .ok (.aload_n 0, 1) := by decide +kernel
theorem dX7_addBand_40 : decode cX7_addBand 40 = .ok (.getfield 33, 3) := by decide +kernel
theorem dX7_addBand_43 : decode cX7_addBand 43 = .ok (.iload 5, 2) := by decide +kernel
theorem dX7_addBand_45 : decode cX7_addBand 45 = .ok (.iconst 0, 1) := by decide +kernel
theorem dX7_addBand_46 : decode cX7_addBand 46 = .ok (.iastore, 1) := by decide +kernel
theorem dX7_addBand_47 : decode cX7_addBand 47 = .ok (.aload_n 0, 1) := by decide +kernel
theorem dX7_addBand_48 : decode cX7_addBand 48 = .ok (.getfield 36, 3) := by decide +kernel
theorem dX7_addBand_51 : decode cX7_addBand 51 = .ok (.iload 5, 2) := by decide +kernel
theorem dX7_addBand_53 : decode cX7_addBand 53 = .ok (.iload_n 1, 1) := by decide +kernel
theorem dX7_addBand_54 : decode cX7_addBand 54 = .ok (.iload_n 2, 1) := by decide +kernel
theorem dX7_addBand_55 : decode cX7_addBand 55 = .ok (.invokestatic 93, 3) := by decide +kernel
theorem dX7_addBand_58 : decode cX7_addBand 58 = .ok (.iastore, 1) := by decide +kernel
theorem dX7_addBand_59 : decode cX7_addBand 59 = .ok (.aload_n 0, 1) := by decide +kernel
theorem dX7_addBand_60 : decode cX7_addBand 60 = .ok (.getfield 39, 3) := by decide +kernel
theorem dX7_addBand_63 : decode cX7_addBand 63 = .ok (.iload 5, 2) := by decide +kernel
theorem dX7_addBand_65 : decode cX7_addBand 65 = .ok (.iload_n 1, 1) := by decide +kernel
theorem dX7_addBand_66 : decode cX7_addBand 66 = .ok (.invokestatic 98, 3) := by decide +kernel
theorem dX7_addBand_69 : decode cX7_addBand 69 = .ok (.iastore, 1) := by decide +kernel
theorem dX7_addBand_70 : decode cX7_addBand 70 = .ok (.aload_n 0, 1) := by decide +kernel
theorem dX7_addBand_71 : decode cX7_addBand 71 = .ok (.getfield 42, 3) := by decide +kernel
theorem dX7_addBand_74 : decode cX7_addBand 74 = .ok (.iload 5, 2) := by decide +kernel
theorem dX7_addBand_76 : decode cX7_addBand 76 = .ok (.iload_n 1, 1) := by decide +kernel
theorem dX7_addBand_77 : decode cX7_addBand 77 = .ok (.iload_n 2, 1) := by decide +kernel
theorem dX7_addBand_78 : decode cX7_addBand 78 = .ok (.invokestatic 100, 3) := by decide +kernel
theorem dX7_addBand_81 : decode cX7_addBand 81 = .ok (.iastore, 1) := by decide +kernel
theorem dX7_addBand_82 : decode cX7_addBand 82 = .ok (.aload_n 0, 1) := by decide +kernel
theorem dX7_addBand_83 : decode cX7_addBand 83 = .ok (.dup, 1) := by decide +kernel
theorem dX7_addBand_84 : decode cX7_addBand 84 = .ok (.getfield 49, 3) := by decide +kernel
theorem dX7_addBand_87 : decode cX7_addBand 87 = .ok (.iconst 1, 1) := by decide +kernel
theorem dX7_addBand_88 : decode cX7_addBand 88 = .ok (.iadd, 1) := by decide +kernel
theorem dX7_addBand_89 : decode cX7_addBand 89 = .ok (.putfield 49, 3) := by decide +kernel
theorem dX7_addBand_92 : decode cX7_addBand 92 = .ok (.aload_n 0, 1) := by decide +kernel
theorem dX7_addBand_93 : decode cX7_addBand 93 = .ok (.invokevirtual 102, 3) := by decide +kernel
theorem dX7_addBand_96 : decode cX7_addBand 96 = .ok (.pop, 1) := by decide +kernel
theorem dX7_addBand_97 : decode cX7_addBand 97 = .ok (.iload 5, 2) := by decide +kernel
theorem dX7_addBand_99 : decode cX7_addBand 99 = .ok (.ireturn, 1) := by decide +kernel
theorem dX7_moves_0 : decode cX7_moves 0 = .ok (.aload_n 0, 1) := by decide +kernel
theorem dX7_moves_1 : decode cX7_moves 1 = .ok (.getfield 9, 3) := by decide +kernel
theorem dX7_moves_4 : decode cX7_moves 4 = .ok (.iload_n 1, 1) := by decide +kernel
theorem dX7_moves_5 : decode cX7_moves 5 = .ok (.iload_n 2, 1) := by decide +kernel
theorem dX7_moves_6 : decode cX7_moves 6 = .ok (.iastore, 1) := by decide +kernel
theorem dX7_moves_7 : decode cX7_moves 7 = .ok (.aload_n 0, 1) := by decide +kernel
theorem dX7_moves_8 : decode cX7_moves 8 = .ok (.invokevirtual 102, 3) := by decide +kernel
theorem dX7_moves_11 : decode cX7_moves 11 = .ok (.ireturn, 1) := by decide +kernel
theorem dX7_chills_0 : decode cX7_chills 0 = .ok (.aload_n 0, 1) := by decide +kernel
theorem dX7_chills_1 : decode cX7_chills 1 = .ok (.iload_n 1, 1) := by decide +kernel
theorem dX7_chills_2 : decode cX7_chills 2 = .ok (.putfield 55, 3) := by decide +kernel
theorem dX7_chills_5 : decode cX7_chills 5 = .ok (.aload_n 0, 1) := by decide +kernel
theorem dX7_chills_6 : decode cX7_chills 6 = .ok (.invokevirtual 102, 3) := by decide +kernel
theorem dX7_chills_9 : decode cX7_chills 9 = .ok (.ireturn, 1) := by decide +kernel
theorem dX7_passYears_0 : decode cX7_passYears 0 = .ok (.iconst 0, 1) := by decide +kernel
theorem dX7_passYears_1 : decode cX7_passYears 1 = .ok (.istore_n 2, 1) := by decide +kernel
theorem dX7_passYears_2 : decode cX7_passYears 2 = .ok (.iload_n 2, 1) := by decide +kernel
theorem dX7_passYears_3 : decode cX7_passYears 3 = .ok (.iload_n 1, 1) := by decide +kernel
theorem dX7_passYears_4 : decode cX7_passYears 4 = .ok (.if_icmp .ge 14, 3) := by decide +kernel
theorem dX7_passYears_7 : decode cX7_passYears 7 = .ok (.aload_n 0, 1) := by decide +kernel
theorem dX7_passYears_8 : decode cX7_passYears 8 = .ok (.invokevirtual 106, 3) := by decide +kernel
theorem dX7_passYears_11 : decode cX7_passYears 11 = .ok (.pop, 1) := by decide +kernel
theorem dX7_passYears_12 : decode cX7_passYears 12 = .ok (.iinc 2 1, 3) := by decide +kernel
theorem dX7_passYears_15 : decode cX7_passYears 15 = .ok (.goto (-13), 3) := by decide +kernel
theorem dX7_passYears_18 : decode cX7_passYears 18 = .ok (.return_, 1) := by decide +kernel
theorem dX7_passYear_0 : decode cX7_passYear 0 = .ok (.aload_n 0, 1) := by decide +kernel
theorem dX7_passYear_1 : decode cX7_passYear 1 = .ok (.dup, 1) := by decide +kernel
theorem dX7_passYear_2 : decode cX7_passYear 2 = .ok (.getfield 58, 3) := by decide +kernel
theorem dX7_passYear_5 : decode cX7_passYear 5 = .ok (.iconst 1, 1) := by decide +kernel
theorem dX7_passYear_6 : decode cX7_passYear 6 = .ok (.iadd, 1) := by decide +kernel
theorem dX7_passYear_7 : decode cX7_passYear 7 = .ok (.putfield 58, 3) := by decide +kernel
theorem dX7_passYear_10 : decode cX7_passYear 10 = .ok (.iconst 0, 1) := by decide +kernel
theorem dX7_passYear_11 : decode cX7_passYear 11 = .ok (.istore_n 1, 1) := by decide +kernel
theorem dX7_passYear_12 : decode cX7_passYear 12 = .ok (.iload_n 1, 1) := by decide +kernel
theorem dX7_passYear_13 : decode cX7_passYear 13 = .ok (.aload_n 0, 1) := by decide +kernel
theorem dX7_passYear_14 : decode cX7_passYear 14 = .ok (.getfield 49, 3) := by decide +kernel
theorem dX7_passYear_17 : decode cX7_passYear 17 = .ok (.if_icmp .ge 28, 3) := by decide +kernel
theorem dX7_passYear_20 : decode cX7_passYear 20 = .ok (.aload_n 0, 1) := by decide +kernel
theorem dX7_passYear_21 : decode cX7_passYear 21 = .ok (.getfield 33, 3) := by decide +kernel
theorem dX7_passYear_24 : decode cX7_passYear 24 = .ok (.iload_n 1, 1) := by decide +kernel
theorem dX7_passYear_25 : decode cX7_passYear 25 = .ok (.bipush 99, 2) := by decide +kernel
theorem dX7_passYear_27 : decode cX7_passYear 27 = .ok (.aload_n 0, 1) := by decide +kernel
theorem dX7_passYear_28 : decode cX7_passYear 28 = .ok (.getfield 33, 3) := by decide +kernel
theorem dX7_passYear_31 : decode cX7_passYear 31 = .ok (.iload_n 1, 1) := by decide +kernel
theorem dX7_passYear_32 : decode cX7_passYear 32 = .ok (.iaload, 1) := by decide +kernel
theorem dX7_passYear_33 : decode cX7_passYear 33 = .ok (.iconst 1, 1) := by decide +kernel
theorem dX7_passYear_34 : decode cX7_passYear 34 = .ok (.iadd, 1) := by decide +kernel
theorem dX7_passYear_35 : decode cX7_passYear 35 = .ok (.invokestatic 110, 3) := by decide +kernel
theorem dX7_passYear_38 : decode cX7_passYear 38 = .ok (.iastore, 1) := by decide +kernel
theorem dX7_passYear_39 : decode cX7_passYear 39 = .ok (.iinc 1 1, 3) := by decide +kernel
theorem dX7_passYear_42 : decode cX7_passYear 42 = .ok (.goto (-30), 3) := by decide +kernel
theorem dX7_passYear_45 : decode cX7_passYear 45 = .ok (.aload_n 0, 1) := by decide +kernel
theorem dX7_passYear_46 : decode cX7_passYear 46 = .ok (.invokevirtual 102, 3) := by decide +kernel
theorem dX7_passYear_49 : decode cX7_passYear 49 = .ok (.istore_n 1, 1) := by decide +kernel
theorem dX7_passYear_50 : decode cX7_passYear 50 = .ok (.aload_n 0, 1) := by decide +kernel
theorem dX7_passYear_51 : decode cX7_passYear 51 = .ok (.invokevirtual 113, 3) := by decide +kernel
theorem dX7_passYear_54 : decode cX7_passYear 54 = .ok (.iload_n 1, 1) := by decide +kernel
theorem dX7_passYear_55 : decode cX7_passYear 55 = .ok (.aload_n 0, 1) := by decide +kernel
theorem dX7_passYear_56 : decode cX7_passYear 56 = .ok (.invokevirtual 116, 3) := by decide +kernel
theorem dX7_passYear_59 : decode cX7_passYear 59 = .ok (.iadd, 1) := by decide +kernel
theorem dX7_passYear_60 : decode cX7_passYear 60 = .ok (.istore_n 1, 1) := by decide +kernel
theorem dX7_passYear_61 : decode cX7_passYear 61 = .ok (.iload_n 1, 1) := by decide +kernel
theorem dX7_passYear_62 : decode cX7_passYear 62 = .ok (.aload_n 0, 1) := by decide +kernel
theorem dX7_passYear_63 : decode cX7_passYear 63 = .ok (.invokevirtual 102, 3) := by decide +kernel
theorem dX7_passYear_66 : decode cX7_passYear 66 = .ok (.iadd, 1) := by decide +kernel
theorem dX7_passYear_67 : decode cX7_passYear 67 = .ok (.istore_n 1, 1) := by decide +kernel
theorem dX7_passYear_68 : decode cX7_passYear 68 = .ok (.iload_n 1, 1) := by decide +kernel
theorem dX7_passYear_69 : decode cX7_passYear 69 = .ok (.ifCond .le 7, 3) := by decide +kernel
theorem dX7_passYear_72 : decode cX7_passYear 72 = .ok (.iconst 1, 1) := by decide +kernel
theorem dX7_passYear_73 : decode cX7_passYear 73 = .ok (.goto 4, 3) := by decide +kernel
theorem dX7_passYear_76 : decode cX7_passYear 76 = .ok (.iconst 0, 1) := by decide +kernel
theorem dX7_passYear_77 : decode cX7_passYear 77 = .ok (.ireturn, 1) := by decide +kernel
theorem dX7_stepAll_0 : decode cX7_stepAll 0 = .ok (.iconst 0, 1) := by decide +kernel
theorem dX7_stepAll_1 : decode cX7_stepAll 1 = .ok (.istore_n 1, 1) := by decide +kernel
theorem dX7_stepAll_2 : decode cX7_stepAll 2 = .ok (.iconst 0, 1) := by decide +kernel
theorem dX7_stepAll_3 : decode cX7_stepAll 3 = .ok (.istore_n 2, 1) := by decide +kernel
theorem dX7_stepAll_4 : decode cX7_stepAll 4 = .ok (.iload_n 2, 1) := by decide +kernel
theorem dX7_stepAll_5 : decode cX7_stepAll 5 = .ok (.aload_n 0, 1) := by decide +kernel
theorem dX7_stepAll_6 : decode cX7_stepAll 6 = .ok (.getfield 45, 3) := by decide +kernel
theorem dX7_stepAll_9 : decode cX7_stepAll 9 = .ok (.if_icmp .ge 44, 3) := by decide +kernel
theorem dX7_stepAll_12 : decode cX7_stepAll 12 = .ok (.aload_n 0, 1) := by decide +kernel
theorem dX7_stepAll_13 : decode cX7_stepAll 13 = .ok (.getfield 18, 3) := by decide +kernel
theorem dX7_stepAll_16 : decode cX7_stepAll 16 = .ok (.iload_n 2, 1) := by decide +kernel
theorem dX7_stepAll_17 : decode cX7_stepAll 17 = .ok (.iaload, 1) := by decide +kernel
theorem dX7_stepAll_18 : decode cX7_stepAll 18 = .ok (.ifCond .eq 29, 3) := by decide +kernel
theorem dX7_stepAll_21 : decode cX7_stepAll 21 = .ok (.aload_n 0, 1) := by decide +kernel
theorem dX7_stepAll_22 : decode cX7_stepAll 22 = .ok (.getfield 9, 3) := by decide +kernel
theorem dX7_stepAll_25 : decode cX7_stepAll 25 = .ok (.iload_n 2, 1) := by decide +kernel
theorem dX7_stepAll_26 : decode cX7_stepAll 26 = .ok (.dup2, 1) := by decide +kernel
theorem dX7_stepAll_27 : decode cX7_stepAll 27 = .ok (.iaload, 1) := by decide +kernel
theorem dX7_stepAll_28 : decode cX7_stepAll 28 = .ok (.aload_n 0, 1) := by decide +kernel
theorem dX7_stepAll_29 : decode cX7_stepAll 29 = .ok (.getfield 18, 3) := by decide +kernel
theorem dX7_stepAll_32 : decode cX7_stepAll 32 = .ok (.iload_n 2, 1) := by decide +kernel
theorem dX7_stepAll_33 : decode cX7_stepAll 33 = .ok (.iaload, 1) := by decide +kernel
theorem dX7_stepAll_34 : decode cX7_stepAll 34 = .ok (.ifCond .le 7, 3) := by decide +kernel
theorem dX7_stepAll_37 : decode cX7_stepAll 37 = .ok (.iconst 1, 1) := by decide +kernel
theorem dX7_stepAll_38 : decode cX7_stepAll 38 = .ok (.goto 4, 3) := by decide +kernel
theorem dX7_stepAll_41 : decode cX7_stepAll 41 = .ok (.iconst (-1), 1) := by decide +kernel
theorem dX7_stepAll_42 : decode cX7_stepAll 42 = .ok (.iadd, 1) := by decide +kernel
theorem dX7_stepAll_43 : decode cX7_stepAll 43 = .ok (.iastore, 1) := by decide +kernel
theorem dX7_stepAll_44 : decode cX7_stepAll 44 = .ok (.iinc 1 1, 3) := by decide +kernel
theorem dX7_stepAll_47 : decode cX7_stepAll 47 = .ok (.iinc 2 1, 3) := by decide +kernel
theorem dX7_stepAll_50 : decode cX7_stepAll 50 = .ok (.goto (-46), 3) := by decide +kernel
theorem dX7_stepAll_53 : decode cX7_stepAll 53 = .ok (.iload_n 1, 1) := by decide +kernel
theorem dX7_stepAll_54 : decode cX7_stepAll 54 = .ok (.ireturn, 1) := by decide +kernel
theorem dX7_weighLeans_0 : decode cX7_weighLeans 0 = .ok (.iconst 0, 1) := by decide +kernel
theorem dX7_weighLeans_1 : decode cX7_weighLeans 1 = .ok (.istore_n 1, 1) := by decide +kernel
theorem dX7_weighLeans_2 : decode cX7_weighLeans 2 = .ok (.iload_n 1, 1) := by decide +kernel
theorem dX7_weighLeans_3 : decode cX7_weighLeans 3 = .ok (.aload_n 0, 1) := by decide +kernel
theorem dX7_weighLeans_4 : decode cX7_weighLeans 4 = .ok (.getfield 45, 3) := by decide +kernel
theorem dX7_weighLeans_7 : decode cX7_weighLeans 7 = .ok (.if_icmp .ge 16, 3) := by decide +kernel
theorem dX7_weighLeans_10 : decode cX7_weighLeans 10 = .ok (.aload_n 0, 1) := by decide +kernel
theorem dX7_weighLeans_11 : decode cX7_weighLeans 11 = .ok (.getfield 18, 3) := by decide +kernel
theorem dX7_weighLeans_14 : decode cX7_weighLeans 14 = .ok (.iload_n 1, 1) := by decide +kernel
theorem dX7_weighLeans_15 : decode cX7_weighLeans 15 = .ok (.iconst 0, 1) := by decide +kernel
theorem dX7_weighLeans_16 : decode cX7_weighLeans 16 = .ok (.iastore, 1) := by decide +kernel
theorem dX7_weighLeans_17 : decode cX7_weighLeans 17 = .ok (.iinc 1 1, 3) := by decide +kernel
theorem dX7_weighLeans_20 : decode cX7_weighLeans 20 = .ok (.goto (-18), 3) := by decide +kernel
theorem dX7_weighLeans_23 : decode cX7_weighLeans 23 = .ok (.iconst 0, 1) := by decide +kernel
theorem dX7_weighLeans_24 : decode cX7_weighLeans 24 = .ok (.istore_n 1, 1) := by decide +kernel
theorem dX7_weighLeans_25 : decode cX7_weighLeans 25 = .ok (.iload_n 1, 1) := by decide +kernel
theorem dX7_weighLeans_26 : decode cX7_weighLeans 26 = .ok (.aload_n 0, 1) := by decide +kernel
theorem dX7_weighLeans_27 : decode cX7_weighLeans 27 = .ok (.getfield 49, 3) := by decide +kernel
theorem dX7_weighLeans_30 : decode cX7_weighLeans 30 = .ok (.if_icmp .ge 76, 3) := by decide +kernel
theorem dX7_weighLeans_33 : decode cX7_weighLeans 33 = .ok (.aload_n 0, 1) := by decide +kernel
theorem dX7_weighLeans_34 : decode cX7_weighLeans 34 = .ok (.getfield 27, 3) := by decide +kernel
theorem dX7_weighLeans_37 : decode cX7_weighLeans 37 = .ok (.iload_n 1, 1) := by decide +kernel
theorem dX7_weighLeans_38 : decode cX7_weighLeans 38 = .ok (.iaload, 1) := by decide +kernel
theorem dX7_weighLeans_39 : decode cX7_weighLeans 39 = .ok (.istore_n 2, 1) := by decide +kernel
theorem dX7_weighLeans_40 : decode cX7_weighLeans 40 = .ok (.aload_n 0, 1) := by decide +kernel
theorem dX7_weighLeans_41 : decode cX7_weighLeans 41 = .ok (.getfield 30, 3) := by decide +kernel
theorem dX7_weighLeans_44 : decode cX7_weighLeans 44 = .ok (.iload_n 1, 1) := by decide +kernel
theorem dX7_weighLeans_45 : decode cX7_weighLeans 45 = .ok (.iaload, 1) := by decide +kernel
theorem dX7_weighLeans_46 : decode cX7_weighLeans 46 = .ok (.istore_n 3, 1) := by decide +kernel
theorem dX7_weighLeans_47 : decode cX7_weighLeans 47 = .ok (.aload_n 0, 1) := by decide +kernel
theorem dX7_weighLeans_48 : decode cX7_weighLeans 48 = .ok (.getfield 9, 3) := by decide +kernel
theorem dX7_weighLeans_51 : decode cX7_weighLeans 51 = .ok (.iload_n 2, 1) := by decide +kernel
theorem dX7_weighLeans_52 : decode cX7_weighLeans 52 = .ok (.iaload, 1) := by decide +kernel
theorem dX7_weighLeans_53 : decode cX7_weighLeans 53 = .ok (.aload_n 0, 1) := by decide +kernel
theorem dX7_weighLeans_54 : decode cX7_weighLeans 54 = .ok (.getfield 9, 3) := by decide +kernel
theorem dX7_weighLeans_57 : decode cX7_weighLeans 57 = .ok (.iload_n 3, 1) := by decide +kernel
theorem dX7_weighLeans_58 : decode cX7_weighLeans 58 = .ok (.iaload, 1) := by decide +kernel
theorem dX7_weighLeans_59 : decode cX7_weighLeans 59 = .ok (.if_icmp .ge 11, 3) := by decide +kernel
theorem dX7_weighLeans_62 : decode cX7_weighLeans 62 = .ok (.aload_n 0, 1) := by decide +kernel
theorem dX7_weighLeans_63 : decode cX7_weighLeans 63 = .ok (.iload_n 1, 1) := by decide +kernel
theorem dX7_weighLeans_64 : decode cX7_weighLeans 64 = .ok (.invokevirtual 119, 3) := by decide +kernel
theorem dX7_weighLeans_67 : decode cX7_weighLeans 67 = .ok (.goto 9, 3) := by decide +kernel
theorem dX7_weighLeans_70 : decode cX7_weighLeans 70 = .ok (.aload_n 0, 1) := by decide +kernel
theorem dX7_weighLeans_71 : decode cX7_weighLeans 71 = .ok (.iload_n 1, 1) := by decide +kernel
theorem dX7_weighLeans_72 : decode cX7_weighLeans 72 = .ok (.invokevirtual 119, 3) := by decide +kernel
theorem dX7_weighLeans_75 : decode cX7_weighLeans 75 = .ok (.ineg, 1) := by decide +kernel
theorem dX7_weighLeans_76 : decode cX7_weighLeans 76 = .ok (.istore 4, 2) := by decide +kernel
theorem dX7_weighLeans_78 : decode cX7_weighLeans 78 = .ok (.aload_n 0, 1) := by decide +kernel
theorem dX7_weighLeans_79 : decode cX7_weighLeans 79 = .ok (.getfield 18, 3) := by decide +kernel
theorem dX7_weighLeans_82 : decode cX7_weighLeans 82 = .ok (.iload_n 2, 1) := by decide +kernel
theorem dX7_weighLeans_83 : decode cX7_weighLeans 83 = .ok (.dup2, 1) := by decide +kernel
theorem dX7_weighLeans_84 : decode cX7_weighLeans 84 = .ok (.iaload, 1) := by decide +kernel
theorem dX7_weighLeans_85 : decode cX7_weighLeans 85 = .ok (.iload 4, 2) := by decide +kernel
theorem dX7_weighLeans_87 : decode cX7_weighLeans 87 = .ok (.iadd, 1) := by decide +kernel
theorem dX7_weighLeans_88 : decode cX7_weighLeans 88 = .ok (.iastore, 1) := by decide +kernel
theorem dX7_weighLeans_89 : decode cX7_weighLeans 89 = .ok (.aload_n 0, 1) := by decide +kernel
theorem dX7_weighLeans_90 : decode cX7_weighLeans 90 = .ok (.getfield 18, 3) := by decide +kernel
theorem dX7_weighLeans_93 : decode cX7_weighLeans 93 = .ok (.iload_n 3, 1) := by decide +kernel
theorem dX7_weighLeans_94 : decode cX7_weighLeans 94 = .ok (.dup2, 1) := by decide +kernel
theorem dX7_weighLeans_95 : decode cX7_weighLeans 95 = .ok (.iaload, 1) := by decide +kernel
theorem dX7_weighLeans_96 : decode cX7_weighLeans 96 = .ok (.iload 4, 2) := by decide +kernel
theorem dX7_weighLeans_98 : decode cX7_weighLeans 98 = .ok (.isub, 1) := by decide +kernel
theorem dX7_weighLeans_99 : decode cX7_weighLeans 99 = .ok (.iastore, 1) := by decide +kernel
theorem dX7_weighLeans_100 : decode cX7_weighLeans 100 = .ok (.iinc 1 1, 3) := by decide +kernel
theorem dX7_weighLeans_103 : decode cX7_weighLeans 103 = .ok (.goto (-78), 3) := by decide +kernel
theorem dX7_weighLeans_106 : decode cX7_weighLeans 106 = .ok (.return_, 1) := by decide +kernel
theorem dX7_pulled_0 : decode cX7_pulled 0 = .ok (.iconst 0, 1) := by decide +kernel
theorem dX7_pulled_1 : decode cX7_pulled 1 = .ok (.istore_n 3, 1) := by decide +kernel
theorem dX7_pulled_2 : decode cX7_pulled 2 = .ok (.iconst 0, 1) := by decide +kernel
theorem dX7_pulled_3 : decode cX7_pulled 3 = .ok (.istore 4, 2) := by decide +kernel
theorem dX7_pulled_5 : decode cX7_pulled 5 = .ok (.iload 4, 2) := by decide +kernel
theorem dX7_pulled_7 : decode cX7_pulled 7 = .ok (.aload_n 0, 1) := by decide +kernel
theorem dX7_pulled_8 : decode cX7_pulled 8 = .ok (.getfield 49, 3) := by decide +kernel
theorem dX7_pulled_11 : decode cX7_pulled 11 = .ok (.if_icmp .ge 95, 3) := by decide +kernel
theorem dX7_pulled_14 : decode cX7_pulled 14 = .ok (.iconst 0, 1) := by decide +kernel
theorem dX7_pulled_15 : decode cX7_pulled 15 = .ok (.istore 5, 2) := by decide +kernel
theorem dX7_pulled_17 : decode cX7_pulled 17 = .ok (.aload_n 0, 1) := by decide +kernel
theorem dX7_pulled_18 : decode cX7_pulled 18 = .ok (.getfield 27, 3) := by decide +kernel
theorem dX7_pulled_21 : decode cX7_pulled 21 = .ok (.iload 4, 2) := by decide +kernel
theorem dX7_pulled_23 : decode cX7_pulled 23 = .ok (.iaload, 1) := by decide +kernel
theorem dX7_pulled_24 : decode cX7_pulled 24 = .ok (.iload_n 1, 1) := by decide +kernel
theorem dX7_pulled_25 : decode cX7_pulled 25 = .ok (.if_icmp .ne 27, 3) := by decide +kernel
theorem dX7_pulled_28 : decode cX7_pulled 28 = .ok (.aload_n 0, 1) := by decide +kernel
theorem dX7_pulled_29 : decode cX7_pulled 29 = .ok (.getfield 9, 3) := by decide +kernel
theorem dX7_pulled_32 : decode cX7_pulled 32 = .ok (.aload_n 0, 1) := by decide +kernel
theorem dX7_pulled_33 : decode cX7_pulled 33 = .ok (.getfield 30, 3) := by decide +kernel
theorem dX7_pulled_36 : decode cX7_pulled 36 = .ok (.iload 4, 2) := by decide +kernel
theorem dX7_pulled_38 : decode cX7_pulled 38 = .ok (.iaload, 1) := by decide +kernel
theorem dX7_pulled_39 : decode cX7_pulled 39 = .ok (.iaload, 1) := by decide +kernel
theorem dX7_pulled_40 : decode cX7_pulled 40 = .ok (.aload_n 0, 1) := by decide +kernel
theorem dX7_pulled_41 : decode cX7_pulled 41 = .ok (.getfield 9, 3) := by decide +kernel
theorem dX7_pulled_44 : decode cX7_pulled 44 = .ok (.iload_n 1, 1) := by decide +kernel
theorem dX7_pulled_45 : decode cX7_pulled 45 = .ok (.iaload, 1) := by decide +kernel
theorem dX7_pulled_46 : decode cX7_pulled 46 = .ok (.isub, 1) := by decide +kernel
theorem dX7_pulled_47 : decode cX7_pulled 47 = .ok (.istore 5, 2) := by decide +kernel
theorem dX7_pulled_49 : decode cX7_pulled 49 = .ok (.goto 35, 3) := by decide +kernel
theorem dX7_pulled_52 : decode cX7_pulled 52 = .ok (.aload_n 0, 1) := by decide +kernel
theorem dX7_pulled_53 : decode cX7_pulled 53 = .ok (.getfield 30, 3) := by decide +kernel
theorem dX7_pulled_56 : decode cX7_pulled 56 = .ok (.iload 4, 2) := by decide +kernel
theorem dX7_pulled_58 : decode cX7_pulled 58 = .ok (.iaload, 1) := by decide +kernel
theorem dX7_pulled_59 : decode cX7_pulled 59 = .ok (.iload_n 1, 1) := by decide +kernel
theorem dX7_pulled_60 : decode cX7_pulled 60 = .ok (.if_icmp .ne 24, 3) := by decide +kernel
theorem dX7_pulled_63 : decode cX7_pulled 63 = .ok (.aload_n 0, 1) := by decide +kernel
theorem dX7_pulled_64 : decode cX7_pulled 64 = .ok (.getfield 9, 3) := by decide +kernel
theorem dX7_pulled_67 : decode cX7_pulled 67 = .ok (.aload_n 0, 1) := by decide +kernel
theorem dX7_pulled_68 : decode cX7_pulled 68 = .ok (.getfield 27, 3) := by decide +kernel
theorem dX7_pulled_71 : decode cX7_pulled 71 = .ok (.iload 4, 2) := by decide +kernel
theorem dX7_pulled_73 : decode cX7_pulled 73 = .ok (.iaload, 1) := by decide +kernel
theorem dX7_pulled_74 : decode cX7_pulled 74 = .ok (.iaload, 1) := by decide +kernel
theorem dX7_pulled_75 : decode cX7_pulled 75 = .ok (.aload_n 0, 1) := by decide +kernel
theorem dX7_pulled_76 : decode cX7_pulled 76 = .ok (.getfield 9, 3) := by decide +kernel
theorem dX7_pulled_79 : decode cX7_pulled 79 = .ok (.iload_n 1, 1) := by decide +kernel
theorem dX7_pulled_80 : decode cX7_pulled 80 = .ok (.iaload, 1) := by decide +kernel
theorem dX7_pulled_81 : decode cX7_pulled 81 = .ok (.isub, 1) := by decide +kernel
theorem dX7_pulled_82 : decode cX7_pulled 82 = .ok (.istore 5, 2) := by decide +kernel
theorem dX7_pulled_84 : decode cX7_pulled 84 = .ok (.iload 5, 2) := by decide +kernel
theorem dX7_pulled_86 : decode cX7_pulled 86 = .ok (.iload_n 2, 1) := by decide +kernel
theorem dX7_pulled_87 : decode cX7_pulled 87 = .ok (.imul, 1) := by decide +kernel
theorem dX7_pulled_88 : decode cX7_pulled 88 = .ok (.ifCond .le 12, 3) := by decide +kernel
theorem dX7_pulled_91 : decode cX7_pulled 91 = .ok (.iload_n 3, 1) := by decide +kernel
theorem dX7_pulled_92 : decode cX7_pulled 92 = .ok (.aload_n 0, 1) := by decide +kernel
theorem dX7_pulled_93 : decode cX7_pulled 93 = .ok (.iload 4, 2) := by decide +kernel
theorem dX7_pulled_95 : decode cX7_pulled 95 = .ok (.invokevirtual 119, 3) := by decide +kernel
theorem dX7_pulled_98 : decode cX7_pulled 98 = .ok (.iadd, 1) := by decide +kernel
theorem dX7_pulled_99 : decode cX7_pulled 99 = .ok (.istore_n 3, 1) := by decide +kernel
theorem dX7_pulled_100 : decode cX7_pulled 100 = .ok (.iinc 4 1, 3) := by decide +kernel
theorem dX7_pulled_103 : decode cX7_pulled 103 = .ok (.goto (-98), 3) := by decide +kernel
theorem dX7_pulled_106 : decode cX7_pulled 106 = .ok (.iload_n 3, 1) := by decide +kernel
theorem dX7_pulled_107 : decode cX7_pulled 107 = .ok (.ireturn, 1) := by decide +kernel
theorem dX7_allStung_0 : decode cX7_allStung 0 = .ok (.iconst 0, 1) := by decide +kernel
theorem dX7_allStung_1 : decode cX7_allStung 1 = .ok (.istore_n 1, 1) := by decide +kernel
theorem dX7_allStung_2 : decode cX7_allStung 2 = .ok (.iconst 0, 1) := by decide +kernel
theorem dX7_allStung_3 : decode cX7_allStung 3 = .ok (.istore_n 2, 1) := by decide +kernel
theorem dX7_allStung_4 : decode cX7_allStung 4 = .ok (.iload_n 2, 1) := by decide +kernel
theorem dX7_allStung_5 : decode cX7_allStung 5 = .ok (.aload_n 0, 1) := by decide +kernel
theorem dX7_allStung_6 : decode cX7_allStung 6 = .ok (.getfield 45, 3) := by decide +kernel
theorem dX7_allStung_9 : decode cX7_allStung 9 = .ok (.if_icmp .ge 18, 3) := by decide +kernel
theorem dX7_allStung_12 : decode cX7_allStung 12 = .ok (.iload_n 1, 1) := by decide +kernel
theorem dX7_allStung_13 : decode cX7_allStung 13 = .ok (.aload_n 0, 1) := by decide +kernel
theorem dX7_allStung_14 : decode cX7_allStung 14 = .ok (.getfield 15, 3) := by decide +kernel
theorem dX7_allStung_17 : decode cX7_allStung 17 = .ok (.iload_n 2, 1) := by decide +kernel
theorem dX7_allStung_18 : decode cX7_allStung 18 = .ok (.iaload, 1) := by decide +kernel
theorem dX7_allStung_19 : decode cX7_allStung 19 = .ok (.iadd, 1) := by decide +kernel
theorem dX7_allStung_20 : decode cX7_allStung 20 = .ok (.istore_n 1, 1) := by decide +kernel
theorem dX7_allStung_21 : decode cX7_allStung 21 = .ok (.iinc 2 1, 3) := by decide +kernel
theorem dX7_allStung_24 : decode cX7_allStung 24 = .ok (.goto (-20), 3) := by decide +kernel
theorem dX7_allStung_27 : decode cX7_allStung 27 = .ok (.iload_n 1, 1) := by decide +kernel
theorem dX7_allStung_28 : decode cX7_allStung 28 = .ok (.ireturn, 1) := by decide +kernel
theorem dX7_allPull_0 : decode cX7_allPull 0 = .ok (.iconst 0, 1) := by decide +kernel
theorem dX7_allPull_1 : decode cX7_allPull 1 = .ok (.istore_n 1, 1) := by decide +kernel
theorem dX7_allPull_2 : decode cX7_allPull 2 = .ok (.iconst 0, 1) := by decide +kernel
theorem dX7_allPull_3 : decode cX7_allPull 3 = .ok (.istore_n 2, 1) := by decide +kernel
theorem dX7_allPull_4 : decode cX7_allPull 4 = .ok (.iload_n 2, 1) := by decide +kernel
theorem dX7_allPull_5 : decode cX7_allPull 5 = .ok (.aload_n 0, 1) := by decide +kernel
theorem dX7_allPull_6 : decode cX7_allPull 6 = .ok (.getfield 49, 3) := by decide +kernel
theorem dX7_allPull_9 : decode cX7_allPull 9 = .ok (.if_icmp .ge 17, 3) := by decide +kernel
theorem dX7_allPull_12 : decode cX7_allPull 12 = .ok (.iload_n 1, 1) := by decide +kernel
theorem dX7_allPull_13 : decode cX7_allPull 13 = .ok (.aload_n 0, 1) := by decide +kernel
theorem dX7_allPull_14 : decode cX7_allPull 14 = .ok (.iload_n 2, 1) := by decide +kernel
theorem dX7_allPull_15 : decode cX7_allPull 15 = .ok (.invokevirtual 119, 3) := by decide +kernel
theorem dX7_allPull_18 : decode cX7_allPull 18 = .ok (.iadd, 1) := by decide +kernel
theorem dX7_allPull_19 : decode cX7_allPull 19 = .ok (.istore_n 1, 1) := by decide +kernel
theorem dX7_allPull_20 : decode cX7_allPull 20 = .ok (.iinc 2 1, 3) := by decide +kernel
theorem dX7_allPull_23 : decode cX7_allPull 23 = .ok (.goto (-19), 3) := by decide +kernel
theorem dX7_allPull_26 : decode cX7_allPull 26 = .ok (.iload_n 1, 1) := by decide +kernel
theorem dX7_allPull_27 : decode cX7_allPull 27 = .ok (.ireturn, 1) := by decide +kernel
theorem dX7_stretchOfWhole_0 : decode cX7_stretchOfWhole 0 = .ok (.iconst 0, 1) := by decide +kernel
theorem dX7_stretchOfWhole_1 : decode cX7_stretchOfWhole 1 = .ok (.istore_n 1, 1) := by decide +kernel
theorem dX7_stretchOfWhole_2 : decode cX7_stretchOfWhole 2 = .ok (.iconst 0, 1) := by decide +kernel
theorem dX7_stretchOfWhole_3 : decode cX7_stretchOfWhole 3 = .ok (.istore_n 2, 1) := by decide +kernel
theorem dX7_stretchOfWhole_4 : decode cX7_stretchOfWhole 4 = .ok (.iload_n 2, 1) := by decide +kernel
theorem dX7_stretchOfWhole_5 : decode cX7_stretchOfWhole 5 = .ok (.aload_n 0, 1) := by decide +kernel
theorem dX7_stretchOfWhole_6 : decode cX7_stretchOfWhole 6 = .ok (.getfield 49, 3) := by decide +kernel
theorem dX7_stretchOfWhole_9 : decode cX7_stretchOfWhole 9 = .ok (.if_icmp .ge 29, 3) := by decide +kernel
theorem dX7_stretchOfWhole_12 : decode cX7_stretchOfWhole 12 = .ok (.iload_n 1, 1) := by decide +kernel
theorem dX7_stretchOfWhole_13 : decode cX7_stretchOfWhole 13 = .ok (.aload_n 0, 1) := by decide +kernel
theorem dX7_stretchOfWhole_14 : decode cX7_stretchOfWhole 14 = .ok (.iload_n 2, 1) := by decide +kernel
theorem dX7_stretchOfWhole_15 : decode cX7_stretchOfWhole 15 = .ok (.invokevirtual 76, 3) := by decide +kernel
theorem dX7_stretchOfWhole_18 : decode cX7_stretchOfWhole 18 = .ok (.ifCond .eq 7, 3) := by decide +kernel
theorem dX7_stretchOfWhole_21 : decode cX7_stretchOfWhole 21 = .ok (.iconst 0, 1) := by decide +kernel
theorem dX7_stretchOfWhole_22 : decode cX7_stretchOfWhole 22 = .ok (.goto 8, 3) := by decide +kernel
theorem dX7_stretchOfWhole_25 : decode cX7_stretchOfWhole 25 = .ok (.aload_n 0, 1) := by decide +kernel
theorem dX7_stretchOfWhole_26 : decode cX7_stretchOfWhole 26 = .ok (.iload_n 2, 1) := by decide +kernel
theorem dX7_stretchOfWhole_27 : decode cX7_stretchOfWhole 27 = .ok (.invokevirtual 79, 3) := by decide +kernel
theorem dX7_stretchOfWhole_30 : decode cX7_stretchOfWhole 30 = .ok (.iadd, 1) := by decide +kernel
theorem dX7_stretchOfWhole_31 : decode cX7_stretchOfWhole 31 = .ok (.istore_n 1, 1) := by decide +kernel
theorem dX7_stretchOfWhole_32 : decode cX7_stretchOfWhole 32 = .ok (.iinc 2 1, 3) := by decide +kernel
theorem dX7_stretchOfWhole_35 : decode cX7_stretchOfWhole 35 = .ok (.goto (-31), 3) := by decide +kernel
theorem dX7_stretchOfWhole_38 : decode cX7_stretchOfWhole 38 = .ok (.iload_n 1, 1) := by decide +kernel
theorem dX7_stretchOfWhole_39 : decode cX7_stretchOfWhole 39 = .ok (.ireturn, 1) := by decide +kernel
theorem dX8_digitsBehind_0 : decode cX8_digitsBehind 0 = .ok (.iload_n 0, 1) := by decide +kernel
theorem dX8_digitsBehind_1 : decode cX8_digitsBehind 1 = .ok (.lookupswitch 71 #[(98, 61), (99, 65), (103, 63), (112, 59), (120, 69), (121, 67)], 59) := by decide +kernel
theorem dX8_digitsBehind_60 : decode cX8_digitsBehind 60 = .ok (.iconst 2, 1) := by decide +kernel
theorem dX8_digitsBehind_61 : decode cX8_digitsBehind 61 = .ok (.ireturn, 1) := by decide +kernel
theorem dX8_digitsBehind_62 : decode cX8_digitsBehind 62 = .ok (.iconst 4, 1) := by decide +kernel
theorem dX8_digitsBehind_63 : decode cX8_digitsBehind 63 = .ok (.ireturn, 1) := by decide +kernel
theorem dX8_digitsBehind_64 : decode cX8_digitsBehind 64 = .ok (.iconst 3, 1) := by decide +kernel
theorem dX8_digitsBehind_65 : decode cX8_digitsBehind 65 = .ok (.ireturn, 1) := by decide +kernel
theorem dX8_digitsBehind_66 : decode cX8_digitsBehind 66 = .ok (.iconst 1, 1) := by decide +kernel
theorem dX8_digitsBehind_67 : decode cX8_digitsBehind 67 = .ok (.ireturn, 1) := by decide +kernel
theorem dX8_digitsBehind_68 : decode cX8_digitsBehind 68 = .ok (.iconst 2, 1) := by decide +kernel
theorem dX8_digitsBehind_69 : decode cX8_digitsBehind 69 = .ok (.ireturn, 1) := by decide +kernel
theorem dX8_digitsBehind_70 : decode cX8_digitsBehind 70 = .ok (.iconst 1, 1) := by decide +kernel
theorem dX8_digitsBehind_71 : decode cX8_digitsBehind 71 = .ok (.ireturn, 1) := by decide +kernel
theorem dX8_digitsBehind_72 : decode cX8_digitsBehind 72 = .ok (.iconst 0, 1) := by decide +kernel
theorem dX8_digitsBehind_73 : decode cX8_digitsBehind 73 = .ok (.ireturn, 1) := by decide +kernel
theorem dX8_formFault_0 : decode cX8_formFault 0 = .ok (.iconst 1, 1) := by decide +kernel
theorem dX8_formFault_1 : decode cX8_formFault 1 = .ok (.istore_n 1, 1) := by decide +kernel
theorem dX8_formFault_2 : decode cX8_formFault 2 = .ok (.iconst 0, 1) := by decide +kernel
theorem dX8_formFault_3 : decode cX8_formFault 3 = .ok (.istore_n 2, 1) := by decide +kernel
theorem dX8_formFault_4 : decode cX8_formFault 4 = .ok (.iconst 0, 1) := by decide +kernel
theorem dX8_formFault_5 : decode cX8_formFault 5 = .ok (.istore_n 3, 1) := by decide +kernel
theorem dX8_formFault_6 : decode cX8_formFault 6 = .ok (.iload_n 3, 1) := by decide +kernel
theorem dX8_formFault_7 : decode cX8_formFault 7 = .ok (.aload_n 0, 1) := by decide +kernel
theorem dX8_formFault_8 : decode cX8_formFault 8 = .ok (.getfield 9, 3) := by decide +kernel
theorem dX8_formFault_11 : decode cX8_formFault 11 = .ok (.if_icmp .ge 74, 3) := by decide +kernel
theorem dX8_formFault_14 : decode cX8_formFault 14 = .ok (.aload_n 0, 1) := by decide +kernel
theorem dX8_formFault_15 : decode cX8_formFault 15 = .ok (.iload_n 3, 1) := by decide +kernel
theorem dX8_formFault_16 : decode cX8_formFault 16 = .ok (.invokevirtual 15, 3) := by decide +kernel
theorem dX8_formFault_19 : decode cX8_formFault 19 = .ok (.istore 4, 2) := by decide +kernel
theorem dX8_formFault_21 : decode cX8_formFault 21 = .ok (.iload_n 1, 1) := by decide +kernel
theorem dX8_formFault_22 : decode cX8_formFault 22 = .ok (.ifCond .eq 20, 3) := by decide +kernel
theorem dX8_formFault_25 : decode cX8_formFault 25 = .ok (.iload 4, 2) := by decide +kernel
theorem dX8_formFault_27 : decode cX8_formFault 27 = .ok (.invokestatic 19, 3) := by decide +kernel
theorem dX8_formFault_30 : decode cX8_formFault 30 = .ok (.istore_n 2, 1) := by decide +kernel
theorem dX8_formFault_31 : decode cX8_formFault 31 = .ok (.iload_n 2, 1) := by decide +kernel
theorem dX8_formFault_32 : decode cX8_formFault 32 = .ok (.ifCond .ne 5, 3) := by decide +kernel
theorem dX8_formFault_35 : decode cX8_formFault 35 = .ok (.iload_n 3, 1) := by decide +kernel
theorem dX8_formFault_36 : decode cX8_formFault 36 = .ok (.ireturn, 1) := by decide +kernel
theorem dX8_formFault_37 : decode cX8_formFault 37 = .ok (.iconst 0, 1) := by decide +kernel
theorem dX8_formFault_38 : decode cX8_formFault 38 = .ok (.istore_n 1, 1) := by decide +kernel
theorem dX8_formFault_39 : decode cX8_formFault 39 = .ok (.goto 40, 3) := by decide +kernel
theorem dX8_formFault_42 : decode cX8_formFault 42 = .ok (.iload_n 2, 1) := by decide +kernel
theorem dX8_formFault_43 : decode cX8_formFault 43 = .ok (.ifCond .le 25, 3) := by decide +kernel
theorem dX8_formFault_46 : decode cX8_formFault 46 = .ok (.iload 4, 2) := by decide +kernel
theorem dX8_formFault_48 : decode cX8_formFault 48 = .ok (.bipush 48, 2) := by decide +kernel
theorem dX8_formFault_50 : decode cX8_formFault 50 = .ok (.if_icmp .lt 10, 3) := by decide +kernel
theorem dX8_formFault_53 : decode cX8_formFault 53 = .ok (.iload 4, 2) := by decide +kernel
theorem dX8_formFault_55 : decode cX8_formFault 55 = .ok (.bipush 57, 2) := by decide +kernel
theorem dX8_formFault_57 : decode cX8_formFault 57 = .ok (.if_icmp .le 5, 3) := by decide +kernel
theorem dX8_formFault_60 : decode cX8_formFault 60 = .ok (.iload_n 3, 1) := by decide +kernel
theorem dX8_formFault_61 : decode cX8_formFault 61 = .ok (.ireturn, 1) := by decide +kernel
theorem dX8_formFault_62 : decode cX8_formFault 62 = .ok (.iinc 2 (-1), 3) := by decide +kernel
theorem dX8_formFault_65 : decode cX8_formFault 65 = .ok (.goto 14, 3) := by decide +kernel
theorem dX8_formFault_68 : decode cX8_formFault 68 = .ok (.iload 4, 2) := by decide +kernel
theorem dX8_formFault_70 : decode cX8_formFault 70 = .ok (.bipush 59, 2) := by decide +kernel
theorem dX8_formFault_72 : decode cX8_formFault 72 = .ok (.if_icmp .eq 5, 3) := by decide +kernel
theorem dX8_formFault_75 : decode cX8_formFault 75 = .ok (.iload_n 3, 1) := by decide +kernel
theorem dX8_formFault_76 : decode cX8_formFault 76 = .ok (.ireturn, 1) := by decide +kernel
theorem dX8_formFault_77 : decode cX8_formFault 77 = .ok (.iconst 1, 1) := by decide +kernel
theorem dX8_formFault_78 : decode cX8_formFault 78 = .ok (.istore_n 1, 1) := by decide +kernel
theorem dX8_formFault_79 : decode cX8_formFault 79 = .ok (.iinc 3 1, 3) := by decide +kernel
theorem dX8_formFault_82 : decode cX8_formFault 82 = .ok (.goto (-76), 3) := by decide +kernel
theorem dX8_formFault_85 : decode cX8_formFault 85 = .ok (.iload_n 1, 1) := by decide +kernel
theorem dX8_formFault_86 : decode cX8_formFault 86 = .ok (.ifCond .eq 14, 3) := by decide +kernel
theorem dX8_formFault_89 : decode cX8_formFault 89 = .ok (.aload_n 0, 1) := by decide +kernel
theorem dX8_formFault_90 : decode cX8_formFault 90 = .ok (.getfield 9, 3) := by decide +kernel
theorem dX8_formFault_93 : decode cX8_formFault 93 = .ok (.ifCond .le 7, 3) := by decide +kernel
theorem dX8_formFault_96 : decode cX8_formFault 96 = .ok (.iconst (-1), 1) := by decide +kernel
theorem dX8_formFault_97 : decode cX8_formFault 97 = .ok (.goto 7, 3) := by decide +kernel
theorem dX8_formFault_100 : decode cX8_formFault 100 = .ok (.aload_n 0, 1) := by decide +kernel
theorem dX8_formFault_101 : decode cX8_formFault 101 = .ok (.getfield 9, 3) := by decide +kernel
theorem dX8_formFault_104 : decode cX8_formFault 104 = .ok (.ireturn, 1) := by decide +kernel
theorem dX8_happens_0 : decode cX8_happens 0 = .ok (.aload_n 0, 1) := by decide +kernel
theorem dX8_happens_1 : decode cX8_happens 1 = .ok (.iload_n 1, 1) := by decide +kernel
theorem dX8_happens_2 : decode cX8_happens 2 = .ok (.invokevirtual 15, 3) := by decide +kernel
theorem dX8_happens_5 : decode cX8_happens 5 = .ok (.lookupswitch 115 #[(98, 63), (99, 89), (103, 70), (112, 51), (121, 103)], 51) := by decide +kernel
theorem dX8_happens_56 : decode cX8_happens 56 = .ok (.aload_n 2, 1) := by decide +kernel
theorem dX8_happens_57 : decode cX8_happens 57 = .ok (.aload_n 0, 1) := by decide +kernel
theorem dX8_happens_58 : decode cX8_happens 58 = .ok (.iload_n 1, 1) := by decide +kernel
theorem dX8_happens_59 : decode cX8_happens 59 = .ok (.iconst 1, 1) := by decide +kernel
theorem dX8_happens_60 : decode cX8_happens 60 = .ok (.iadd, 1) := by decide +kernel
theorem dX8_happens_61 : decode cX8_happens 61 = .ok (.invokestatic 24, 3) := by decide +kernel
theorem dX8_happens_64 : decode cX8_happens 64 = .ok (.invokestatic 28, 3) := by decide +kernel
theorem dX8_happens_67 : decode cX8_happens 67 = .ok (.ireturn, 1) := by decide +kernel
theorem dX8_happens_68 : decode cX8_happens 68 = .ok (.aload_n 0, 1) := by decide +kernel
theorem dX8_happens_69 : decode cX8_happens 69 = .ok (.iload_n 1, 1) := by decide +kernel
theorem dX8_happens_70 : decode cX8_happens 70 = .ok (.aload_n 2, 1) := by decide +kernel
theorem dX8_happens_71 : decode cX8_happens 71 = .ok (.invokestatic 32, 3) := by decide +kernel
theorem dX8_happens_74 : decode cX8_happens 74 = .ok (.ireturn, 1) := by decide +kernel
theorem dX8_happens_75 : decode cX8_happens 75 = .ok (.aload_n 2, 1) := by decide +kernel
theorem dX8_happens_76 : decode cX8_happens 76 = .ok (.aload_n 0, 1) := by decide +kernel
theorem dX8_happens_77 : decode cX8_happens 77 = .ok (.iload_n 1, 1) := by decide +kernel
theorem dX8_happens_78 : decode cX8_happens 78 = .ok (.iconst 1, 1) := by decide +kernel
theorem dX8_happens_79 : decode cX8_happens 79 = .ok (.iadd, 1) := by decide +kernel
theorem dX8_happens_80 : decode cX8_happens 80 = .ok (.invokestatic 36, 3) := by decide +kernel
theorem dX8_happens_83 : decode cX8_happens 83 = .ok (.aload_n 0, 1) := by decide +kernel
theorem dX8_happens_84 : decode cX8_happens 84 = .ok (.iload_n 1, 1) := by decide +kernel
theorem dX8_happens_85 : decode cX8_happens 85 = .ok (.iconst 2, 1) := by decide +kernel
theorem dX8_happens_86 : decode cX8_happens 86 = .ok (.iadd, 1) := by decide +kernel
theorem dX8_happens_87 : decode cX8_happens 87 = .ok (.invokestatic 24, 3) := by decide +kernel
theorem dX8_happens_90 : decode cX8_happens 90 = .ok (.invokestatic 39, 3) := by decide +kernel
theorem dX8_happens_93 : decode cX8_happens 93 = .ok (.ireturn, 1) := by decide +kernel
theorem dX8_happens_94 : decode cX8_happens 94 = .ok (.aload_n 2, 1) := by decide +kernel
theorem dX8_happens_95 : decode cX8_happens 95 = .ok (.aload_n 0, 1) := by decide +kernel
theorem dX8_happens_96 : decode cX8_happens 96 = .ok (.iload_n 1, 1) := by decide +kernel
theorem dX8_happens_97 : decode cX8_happens 97 = .ok (.iconst 1, 1) := by decide +kernel
theorem dX8_happens_98 : decode cX8_happens 98 = .ok (.iadd, 1) := by decide +kernel
theorem dX8_happens_99 : decode cX8_happens 99 = .ok (.invokestatic 36, 3) := by decide +kernel
theorem dX8_happens_102 : decode cX8_happens 102 = .ok (.invokevirtual 43, 3) := by decide +kernel
theorem dX8_happens_105 : decode cX8_happens 105 = .ok (.pop, 1) := by decide +kernel
theorem dX8_happens_106 : decode cX8_happens 106 = .ok (.iconst 1, 1) := by decide +kernel
theorem dX8_happens_107 : decode cX8_happens 107 = .ok (.ireturn, 1) := by decide +kernel
theorem dX8_happens_108 : decode cX8_happens 108 = .ok (.aload_n 2, 1) := by decide +kernel
theorem dX8_happens_109 : decode cX8_happens 109 = .ok (.aload_n 0, 1) := by decide +kernel
theorem dX8_happens_110 : decode cX8_happens 110 = .ok (.iload_n 1, 1) := by decide +kernel
theorem dX8_happens_111 : decode cX8_happens 111 = .ok (.iconst 1, 1) := by decide +kernel
theorem dX8_happens_112 : decode cX8_happens 112 = .ok (.iadd, 1) := by decide +kernel
theorem dX8_happens_113 : decode cX8_happens 113 = .ok (.invokestatic 24, 3) := by decide +kernel
theorem dX8_happens_116 : decode cX8_happens 116 = .ok (.invokestatic 48, 3) := by decide +kernel
theorem dX8_happens_119 : decode cX8_happens 119 = .ok (.ireturn, 1) := by decide +kernel
theorem dX8_happens_120 : decode cX8_happens 120 = .ok (.aload_n 2, 1) := by decide +kernel
theorem dX8_happens_121 : decode cX8_happens 121 = .ok (.aload_n 0, 1) := by decide +kernel
theorem dX8_happens_122 : decode cX8_happens 122 = .ok (.iload_n 1, 1) := by decide +kernel
theorem dX8_happens_123 : decode cX8_happens 123 = .ok (.iconst 1, 1) := by decide +kernel
theorem dX8_happens_124 : decode cX8_happens 124 = .ok (.iadd, 1) := by decide +kernel
theorem dX8_happens_125 : decode cX8_happens 125 = .ok (.invokestatic 36, 3) := by decide +kernel
theorem dX8_happens_128 : decode cX8_happens 128 = .ok (.invokestatic 51, 3) := by decide +kernel
theorem dX8_happens_131 : decode cX8_happens 131 = .ok (.ireturn, 1) := by decide +kernel
theorem dX8_digit_0 : decode cX8_digit 0 = .ok (.aload_n 0, 1) := by decide +kernel
theorem dX8_digit_1 : decode cX8_digit 1 = .ok (.iload_n 1, 1) := by decide +kernel
theorem dX8_digit_2 : decode cX8_digit 2 = .ok (.invokevirtual 15, 3) := by decide +kernel
theorem dX8_digit_5 : decode cX8_digit 5 = .ok (.bipush 48, 2) := by decide +kernel
theorem dX8_digit_7 : decode cX8_digit 7 = .ok (.isub, 1) := by decide +kernel
theorem dX8_digit_8 : decode cX8_digit 8 = .ok (.ireturn, 1) := by decide +kernel
theorem dX8_twoDigits_0 : decode cX8_twoDigits 0 = .ok (.bipush 10, 2) := by decide +kernel
theorem dX8_twoDigits_2 : decode cX8_twoDigits 2 = .ok (.aload_n 0, 1) := by decide +kernel
theorem dX8_twoDigits_3 : decode cX8_twoDigits 3 = .ok (.iload_n 1, 1) := by decide +kernel
theorem dX8_twoDigits_4 : decode cX8_twoDigits 4 = .ok (.invokestatic 36, 3) := by decide +kernel
theorem dX8_twoDigits_7 : decode cX8_twoDigits 7 = .ok (.imul, 1) := by decide +kernel
theorem dX8_twoDigits_8 : decode cX8_twoDigits 8 = .ok (.aload_n 0, 1) := by decide +kernel
theorem dX8_twoDigits_9 : decode cX8_twoDigits 9 = .ok (.iload_n 1, 1) := by decide +kernel
theorem dX8_twoDigits_10 : decode cX8_twoDigits 10 = .ok (.iconst 1, 1) := by decide +kernel
theorem dX8_twoDigits_11 : decode cX8_twoDigits 11 = .ok (.iadd, 1) := by decide +kernel
theorem dX8_twoDigits_12 : decode cX8_twoDigits 12 = .ok (.invokestatic 36, 3) := by decide +kernel
theorem dX8_twoDigits_15 : decode cX8_twoDigits 15 = .ok (.iadd, 1) := by decide +kernel
theorem dX8_twoDigits_16 : decode cX8_twoDigits 16 = .ok (.ireturn, 1) := by decide +kernel
theorem dX8_personComes_0 : decode cX8_personComes 0 = .ok (.iload_n 1, 1) := by decide +kernel
theorem dX8_personComes_1 : decode cX8_personComes 1 = .ok (.bipush 30, 2) := by decide +kernel
theorem dX8_personComes_3 : decode cX8_personComes 3 = .ok (.invokestatic 54, 3) := by decide +kernel
theorem dX8_personComes_6 : decode cX8_personComes 6 = .ok (.ifCond .eq 12, 3) := by decide +kernel
theorem dX8_personComes_9 : decode cX8_personComes 9 = .ok (.aload_n 0, 1) := by decide +kernel
theorem dX8_personComes_10 : decode cX8_personComes 10 = .ok (.getfield 58, 3) := by decide +kernel
theorem dX8_personComes_13 : decode cX8_personComes 13 = .ok (.bipush 7, 2) := by decide +kernel
theorem dX8_personComes_15 : decode cX8_personComes 15 = .ok (.if_icmp .lt 5, 3) := by decide +kernel
theorem dX8_personComes_18 : decode cX8_personComes 18 = .ok (.iconst 0, 1) := by decide +kernel
theorem dX8_personComes_19 : decode cX8_personComes 19 = .ok (.ireturn, 1) := by decide +kernel
theorem dX8_personComes_20 : decode cX8_personComes 20 = .ok (.aload_n 0, 1) := by decide +kernel
theorem dX8_personComes_21 : decode cX8_personComes 21 = .ok (.iload_n 1, 1) := by decide +kernel
theorem dX8_personComes_22 : decode cX8_personComes 22 = .ok (.invokevirtual 61, 3) := by decide +kernel
theorem dX8_personComes_25 : decode cX8_personComes 25 = .ok (.pop, 1) := by decide +kernel
theorem dX8_personComes_26 : decode cX8_personComes 26 = .ok (.iconst 1, 1) := by decide +kernel
theorem dX8_personComes_27 : decode cX8_personComes 27 = .ok (.ireturn, 1) := by decide +kernel
theorem dX8_bandComes_0 : decode cX8_bandComes 0 = .ok (.aload_n 0, 1) := by decide +kernel
theorem dX8_bandComes_1 : decode cX8_bandComes 1 = .ok (.iload_n 1, 1) := by decide +kernel
theorem dX8_bandComes_2 : decode cX8_bandComes 2 = .ok (.iconst 1, 1) := by decide +kernel
theorem dX8_bandComes_3 : decode cX8_bandComes 3 = .ok (.iadd, 1) := by decide +kernel
theorem dX8_bandComes_4 : decode cX8_bandComes 4 = .ok (.invokestatic 36, 3) := by decide +kernel
theorem dX8_bandComes_7 : decode cX8_bandComes 7 = .ok (.istore_n 3, 1) := by decide +kernel
theorem dX8_bandComes_8 : decode cX8_bandComes 8 = .ok (.aload_n 0, 1) := by decide +kernel
theorem dX8_bandComes_9 : decode cX8_bandComes 9 = .ok (.iload_n 1, 1) := by decide +kernel
theorem dX8_bandComes_10 : decode cX8_bandComes 10 = .ok (.iconst 3, 1) := by decide +kernel
theorem dX8_bandComes_11 : decode cX8_bandComes 11 = .ok (.iadd, 1) := by decide +kernel
theorem dX8_bandComes_12 : decode cX8_bandComes 12 = .ok (.invokestatic 36, 3) := by decide +kernel
theorem dX8_bandComes_15 : decode cX8_bandComes 15 = .ok (.istore 4, 2) := by decide +kernel
theorem dX8_bandComes_17 : decode cX8_bandComes 17 = .ok (.aload_n 0, 1) := by decide +kernel
theorem dX8_bandComes_18 : decode cX8_bandComes 18 = .ok (.iload_n 1, 1) := by decide +kernel
theorem dX8_bandComes_19 : decode cX8_bandComes 19 = .ok (.iconst 4, 1) := by decide +kernel
theorem dX8_bandComes_20 : decode cX8_bandComes 20 = .ok (.iadd, 1) := by decide +kernel
theorem dX8_bandComes_21 : decode cX8_bandComes 21 = .ok (.invokestatic 36, 3) := by decide +kernel
theorem dX8_bandComes_24 : decode cX8_bandComes 24 = .ok (.istore 5, 2) := by decide +kernel
theorem dX8_bandComes_26 : decode cX8_bandComes 26 = .ok (.iload_n 3, 1) := by decide +kernel
theorem dX8_bandComes_27 : decode cX8_bandComes 27 = .ok (.bipush 7, 2) := by decide +kernel
theorem dX8_bandComes_29 : decode cX8_bandComes 29 = .ok (.invokestatic 54, 3) := by decide +kernel
theorem dX8_bandComes_32 : decode cX8_bandComes 32 = .ok (.ifCond .eq 23, 3) := by decide +kernel
theorem dX8_bandComes_35 : decode cX8_bandComes 35 = .ok (.aload_n 2, 1) := by decide +kernel
theorem dX8_bandComes_36 : decode cX8_bandComes 36 = .ok (.iload 4, 2) := by decide +kernel
theorem dX8_bandComes_38 : decode cX8_bandComes 38 = .ok (.iload 5, 2) := by decide +kernel
theorem dX8_bandComes_40 : decode cX8_bandComes 40 = .ok (.invokevirtual 66, 3) := by decide +kernel
theorem dX8_bandComes_43 : decode cX8_bandComes 43 = .ok (.ifCond .eq 12, 3) := by decide +kernel
theorem dX8_bandComes_46 : decode cX8_bandComes 46 = .ok (.aload_n 2, 1) := by decide +kernel
theorem dX8_bandComes_47 : decode cX8_bandComes 47 = .ok (.getfield 69, 3) := by decide +kernel
theorem dX8_bandComes_50 : decode cX8_bandComes 50 = .ok (.bipush 10, 2) := by decide +kernel
theorem dX8_bandComes_52 : decode cX8_bandComes 52 = .ok (.if_icmp .lt 5, 3) := by decide +kernel
theorem dX8_bandComes_55 : decode cX8_bandComes 55 = .ok (.iconst 0, 1) := by decide +kernel
theorem dX8_bandComes_56 : decode cX8_bandComes 56 = .ok (.ireturn, 1) := by decide +kernel
theorem dX8_bandComes_57 : decode cX8_bandComes 57 = .ok (.aload_n 2, 1) := by decide +kernel
theorem dX8_bandComes_58 : decode cX8_bandComes 58 = .ok (.iload_n 3, 1) := by decide +kernel
theorem dX8_bandComes_59 : decode cX8_bandComes 59 = .ok (.aload_n 0, 1) := by decide +kernel
theorem dX8_bandComes_60 : decode cX8_bandComes 60 = .ok (.iload_n 1, 1) := by decide +kernel
theorem dX8_bandComes_61 : decode cX8_bandComes 61 = .ok (.iconst 2, 1) := by decide +kernel
theorem dX8_bandComes_62 : decode cX8_bandComes 62 = .ok (.iadd, 1) := by decide +kernel
theorem dX8_bandComes_63 : decode cX8_bandComes 63 = .ok (.invokestatic 36, 3) := by decide +kernel
theorem dX8_bandComes_66 : decode cX8_bandComes 66 = .ok (.iload 4, 2) := by decide +kernel
theorem dX8_bandComes_68 : decode cX8_bandComes 68 = .ok (.iload 5, 2) := by decide +kernel
theorem dX8_bandComes_70 : decode cX8_bandComes 70 = .ok (.invokevirtual 72, 3) := by decide +kernel
theorem dX8_bandComes_73 : decode cX8_bandComes 73 = .ok (.pop, 1) := by decide +kernel
theorem dX8_bandComes_74 : decode cX8_bandComes 74 = .ok (.iconst 1, 1) := by decide +kernel
theorem dX8_bandComes_75 : decode cX8_bandComes 75 = .ok (.ireturn, 1) := by decide +kernel
theorem dX8_personGoes_0 : decode cX8_personGoes 0 = .ok (.aload_n 0, 1) := by decide +kernel
theorem dX8_personGoes_1 : decode cX8_personGoes 1 = .ok (.iload_n 1, 1) := by decide +kernel
theorem dX8_personGoes_2 : decode cX8_personGoes 2 = .ok (.invokevirtual 76, 3) := by decide +kernel
theorem dX8_personGoes_5 : decode cX8_personGoes 5 = .ok (.ifCond .eq 12, 3) := by decide +kernel
theorem dX8_personGoes_8 : decode cX8_personGoes 8 = .ok (.iload_n 2, 1) := by decide +kernel
theorem dX8_personGoes_9 : decode cX8_personGoes 9 = .ok (.bipush 30, 2) := by decide +kernel
theorem dX8_personGoes_11 : decode cX8_personGoes 11 = .ok (.invokestatic 54, 3) := by decide +kernel
theorem dX8_personGoes_14 : decode cX8_personGoes 14 = .ok (.ifCond .ne 5, 3) := by decide +kernel
theorem dX8_personGoes_17 : decode cX8_personGoes 17 = .ok (.iconst 0, 1) := by decide +kernel
theorem dX8_personGoes_18 : decode cX8_personGoes 18 = .ok (.ireturn, 1) := by decide +kernel
theorem dX8_personGoes_19 : decode cX8_personGoes 19 = .ok (.aload_n 0, 1) := by decide +kernel
theorem dX8_personGoes_20 : decode cX8_personGoes 20 = .ok (.iload_n 1, 1) := by decide +kernel
theorem dX8_personGoes_21 : decode cX8_personGoes 21 = .ok (.iload_n 2, 1) := by decide +kernel
theorem dX8_personGoes_22 : decode cX8_personGoes 22 = .ok (.invokevirtual 80, 3) := by decide +kernel
theorem dX8_personGoes_25 : decode cX8_personGoes 25 = .ok (.pop, 1) := by decide +kernel
theorem dX8_personGoes_26 : decode cX8_personGoes 26 = .ok (.iconst 1, 1) := by decide +kernel
theorem dX8_personGoes_27 : decode cX8_personGoes 27 = .ok (.ireturn, 1) := by decide +kernel
theorem dX8_yearsPass_0 : decode cX8_yearsPass 0 = .ok (.iload_n 1, 1) := by decide +kernel
theorem dX8_yearsPass_1 : decode cX8_yearsPass 1 = .ok (.iconst 1, 1) := by decide +kernel
theorem dX8_yearsPass_2 : decode cX8_yearsPass 2 = .ok (.if_icmp .lt 21, 3) := by decide +kernel
theorem dX8_yearsPass_5 : decode cX8_yearsPass 5 = .ok (.iload_n 1, 1) := by decide +kernel
theorem dX8_yearsPass_6 : decode cX8_yearsPass 6 = .ok (.bipush 60, 2) := by decide +kernel
theorem dX8_yearsPass_8 : decode cX8_yearsPass 8 = .ok (.if_icmp .gt 15, 3) := by decide +kernel
theorem dX8_yearsPass_11 : decode cX8_yearsPass 11 = .ok (.aload_n 0, 1) := by decide +kernel
theorem dX8_yearsPass_12 : decode cX8_yearsPass 12 = .ok (.getfield 84, 3) := by decide +kernel
theorem dX8_yearsPass_15 : decode cX8_yearsPass 15 = .ok (.iload_n 1, 1) := by decide +kernel
theorem dX8_yearsPass_16 : decode cX8_yearsPass 16 = .ok (.iadd, 1) := by decide +kernel
theorem dX8_yearsPass_17 : decode cX8_yearsPass 17 = .ok (.sipush 999, 3) := by decide +kernel
theorem dX8_yearsPass_20 : decode cX8_yearsPass 20 = .ok (.if_icmp .le 5, 3) := by decide +kernel
theorem dX8_yearsPass_23 : decode cX8_yearsPass 23 = .ok (.iconst 0, 1) := by decide +kernel
theorem dX8_yearsPass_24 : decode cX8_yearsPass 24 = .ok (.ireturn, 1) := by decide +kernel
theorem dX8_yearsPass_25 : decode cX8_yearsPass 25 = .ok (.iconst 0, 1) := by decide +kernel
theorem dX8_yearsPass_26 : decode cX8_yearsPass 26 = .ok (.istore_n 2, 1) := by decide +kernel
theorem dX8_yearsPass_27 : decode cX8_yearsPass 27 = .ok (.iload_n 2, 1) := by decide +kernel
theorem dX8_yearsPass_28 : decode cX8_yearsPass 28 = .ok (.iload_n 1, 1) := by decide +kernel
theorem dX8_yearsPass_29 : decode cX8_yearsPass 29 = .ok (.if_icmp .ge 14, 3) := by decide +kernel
theorem dX8_yearsPass_32 : decode cX8_yearsPass 32 = .ok (.aload_n 0, 1) := by decide +kernel
theorem dX8_yearsPass_33 : decode cX8_yearsPass 33 = .ok (.invokevirtual 87, 3) := by decide +kernel
theorem dX8_yearsPass_36 : decode cX8_yearsPass 36 = .ok (.pop, 1) := by decide +kernel
theorem dX8_yearsPass_37 : decode cX8_yearsPass 37 = .ok (.iinc 2 1, 3) := by decide +kernel
theorem dX8_yearsPass_40 : decode cX8_yearsPass 40 = .ok (.goto (-13), 3) := by decide +kernel
theorem dX8_yearsPass_43 : decode cX8_yearsPass 43 = .ok (.iconst 1, 1) := by decide +kernel
theorem dX8_yearsPass_44 : decode cX8_yearsPass 44 = .ok (.ireturn, 1) := by decide +kernel
theorem dX8_bandIsCut_0 : decode cX8_bandIsCut 0 = .ok (.aload_n 0, 1) := by decide +kernel
theorem dX8_bandIsCut_1 : decode cX8_bandIsCut 1 = .ok (.iload_n 1, 1) := by decide +kernel
theorem dX8_bandIsCut_2 : decode cX8_bandIsCut 2 = .ok (.invokevirtual 91, 3) := by decide +kernel
theorem dX8_bandIsCut_5 : decode cX8_bandIsCut 5 = .ok (.ifCond .eq 11, 3) := by decide +kernel
theorem dX8_bandIsCut_8 : decode cX8_bandIsCut 8 = .ok (.aload_n 0, 1) := by decide +kernel
theorem dX8_bandIsCut_9 : decode cX8_bandIsCut 9 = .ok (.iload_n 1, 1) := by decide +kernel
theorem dX8_bandIsCut_10 : decode cX8_bandIsCut 10 = .ok (.invokevirtual 94, 3) := by decide +kernel
theorem dX8_bandIsCut_13 : decode cX8_bandIsCut 13 = .ok (.ifCond .eq 5, 3) := by decide +kernel
theorem dX8_bandIsCut_16 : decode cX8_bandIsCut 16 = .ok (.iconst 0, 1) := by decide +kernel
theorem dX8_bandIsCut_17 : decode cX8_bandIsCut 17 = .ok (.ireturn, 1) := by decide +kernel
theorem dX8_bandIsCut_18 : decode cX8_bandIsCut 18 = .ok (.aload_n 0, 1) := by decide +kernel
theorem dX8_bandIsCut_19 : decode cX8_bandIsCut 19 = .ok (.dup, 1) := by decide +kernel
theorem dX8_bandIsCut_20 : decode cX8_bandIsCut 20 = .ok (.getfield 97, 3) := by decide +kernel
theorem dX8_bandIsCut_23 : decode cX8_bandIsCut 23 = .ok (.iconst 1, 1) := by decide +kernel
theorem dX8_bandIsCut_24 : decode cX8_bandIsCut 24 = .ok (.iload_n 1, 1) := by decide +kernel
theorem dX8_bandIsCut_25 : decode cX8_bandIsCut 25 = .ok (.ishl, 1) := by decide +kernel
theorem dX8_bandIsCut_26 : decode cX8_bandIsCut 26 = .ok (.ior, 1) := by decide +kernel
theorem dX8_bandIsCut_27 : decode cX8_bandIsCut 27 = .ok (.putfield 97, 3) := by decide +kernel
theorem dX8_bandIsCut_30 : decode cX8_bandIsCut 30 = .ok (.iconst 1, 1) := by decide +kernel
theorem dX8_bandIsCut_31 : decode cX8_bandIsCut 31 = .ok (.ireturn, 1) := by decide +kernel
theorem dX9_init_0 : decode cX9_init 0 = .ok (.aload_n 0, 1) := by decide +kernel
theorem dX9_init_1 : decode cX9_init 1 = .ok (.invokespecial 3, 3) := by decide +kernel
theorem dX9_init_4 : decode cX9_init 4 = .ok (.aload_n 0, 1) := by decide +kernel
theorem dX9_init_5 : decode cX9_init 5 = .ok (.aload_n 1, 1) := by decide +kernel
theorem dX9_init_6 : decode cX9_init 6 = .ok (.putfield 9, 3) := by decide +kernel
theorem dX9_init_9 : decode cX9_init 9 = .ok (.aload_n 0, 1) := by decide +kernel
theorem dX9_init_10 : decode cX9_init 10 = .ok (.aload_n 2, 1) := by decide +kernel
theorem dX9_init_11 : decode cX9_init 11 = .ok (.putfield 15, 3) := by decide +kernel
theorem dX9_init_14 : decode cX9_init 14 = .ok (.return_, 1) := by decide +kernel
theorem dX9_townIn_0 : decode cX9_townIn 0 = .ok (.aload_n 0, 1) := by decide +kernel
theorem dX9_townIn_1 : decode cX9_townIn 1 = .ok (.getfield 15, 3) := by decide +kernel
theorem dX9_townIn_4 : decode cX9_townIn 4 = .ok (.aload_n 0, 1) := by decide +kernel
theorem dX9_townIn_5 : decode cX9_townIn 5 = .ok (.getfield 9, 3) := by decide +kernel
theorem dX9_townIn_8 : decode cX9_townIn 8 = .ok (.invokevirtual 18, 3) := by decide +kernel
theorem dX9_townIn_11 : decode cX9_townIn 11 = .ok (.aload_n 0, 1) := by decide +kernel
theorem dX9_townIn_12 : decode cX9_townIn 12 = .ok (.getfield 15, 3) := by decide +kernel
theorem dX9_townIn_15 : decode cX9_townIn 15 = .ok (.iload_n 1, 1) := by decide +kernel
theorem dX9_townIn_16 : decode cX9_townIn 16 = .ok (.invokevirtual 24, 3) := by decide +kernel
theorem dX9_townIn_19 : decode cX9_townIn 19 = .ok (.aload_n 0, 1) := by decide +kernel
theorem dX9_townIn_20 : decode cX9_townIn 20 = .ok (.getfield 15, 3) := by decide +kernel
theorem dX9_townIn_23 : decode cX9_townIn 23 = .ok (.areturn, 1) := by decide +kernel
theorem dX9_yearsToStillness_0 : decode cX9_yearsToStillness 0 = .ok (.aload_n 0, 1) := by decide +kernel
theorem dX9_yearsToStillness_1 : decode cX9_yearsToStillness 1 = .ok (.getfield 15, 3) := by decide +kernel
theorem dX9_yearsToStillness_4 : decode cX9_yearsToStillness 4 = .ok (.aload_n 0, 1) := by decide +kernel
theorem dX9_yearsToStillness_5 : decode cX9_yearsToStillness 5 = .ok (.getfield 9, 3) := by decide +kernel
theorem dX9_yearsToStillness_8 : decode cX9_yearsToStillness 8 = .ok (.invokevirtual 18, 3) := by decide +kernel
theorem dX9_yearsToStillness_11 : decode cX9_yearsToStillness 11 = .ok (.iconst 0, 1) := by decide +kernel
theorem dX9_yearsToStillness_12 : decode cX9_yearsToStillness 12 = .ok (.istore_n 1, 1) := by decide +kernel
theorem dX9_yearsToStillness_13 : decode cX9_yearsToStillness 13 = .ok (.iload_n 1, 1) := by decide +kernel
theorem dX9_yearsToStillness_14 : decode cX9_yearsToStillness 14 = .ok (.bipush 60, 2) := by decide +kernel
theorem dX9_yearsToStillness_16 : decode cX9_yearsToStillness 16 = .ok (.if_icmp .gt 21, 3) := by decide +kernel
theorem dX9_yearsToStillness_19 : decode cX9_yearsToStillness 19 = .ok (.aload_n 0, 1) := by decide +kernel
theorem dX9_yearsToStillness_20 : decode cX9_yearsToStillness 20 = .ok (.getfield 15, 3) := by decide +kernel
theorem dX9_yearsToStillness_23 : decode cX9_yearsToStillness 23 = .ok (.invokevirtual 28, 3) := by decide +kernel
theorem dX9_yearsToStillness_26 : decode cX9_yearsToStillness 26 = .ok (.ifCond .ne 5, 3) := by decide +kernel
theorem dX9_yearsToStillness_29 : decode cX9_yearsToStillness 29 = .ok (.iload_n 1, 1) := by decide +kernel
theorem dX9_yearsToStillness_30 : decode cX9_yearsToStillness 30 = .ok (.ireturn, 1) := by decide +kernel
theorem dX9_yearsToStillness_31 : decode cX9_yearsToStillness 31 = .ok (.iinc 1 1, 3) := by decide +kernel
theorem dX9_yearsToStillness_34 : decode cX9_yearsToStillness 34 = .ok (.goto (-21), 3) := by decide +kernel
theorem dX9_yearsToStillness_37 : decode cX9_yearsToStillness 37 = .ok (.bipush (-4), 2) := by decide +kernel
theorem dX9_yearsToStillness_39 : decode cX9_yearsToStillness 39 = .ok (.ireturn, 1) := by decide +kernel
theorem dX9_firstToSnap_0 : decode cX9_firstToSnap 0 = .ok (.aload_n 0, 1) := by decide +kernel
theorem dX9_firstToSnap_1 : decode cX9_firstToSnap 1 = .ok (.getfield 15, 3) := by decide +kernel
theorem dX9_firstToSnap_4 : decode cX9_firstToSnap 4 = .ok (.aload_n 0, 1) := by decide +kernel
theorem dX9_firstToSnap_5 : decode cX9_firstToSnap 5 = .ok (.getfield 9, 3) := by decide +kernel
theorem dX9_firstToSnap_8 : decode cX9_firstToSnap 8 = .ok (.invokevirtual 18, 3) := by decide +kernel
theorem dX9_firstToSnap_11 : decode cX9_firstToSnap 11 = .ok (.iconst 1, 1) := by decide +kernel
theorem dX9_firstToSnap_12 : decode cX9_firstToSnap 12 = .ok (.istore_n 2, 1) := by decide +kernel
theorem dX9_firstToSnap_13 : decode cX9_firstToSnap 13 = .ok (.iload_n 2, 1) := by decide +kernel
theorem dX9_firstToSnap_14 : decode cX9_firstToSnap 14 = .ok (.bipush 60, 2) := by decide +kernel
theorem dX9_firstToSnap_16 : decode cX9_firstToSnap 16 = .ok (.if_icmp .gt 63, 3) := by decide +kernel
theorem dX9_firstToSnap_19 : decode cX9_firstToSnap 19 = .ok (.aload_n 0, 1) := by decide +kernel
theorem dX9_firstToSnap_20 : decode cX9_firstToSnap 20 = .ok (.getfield 15, 3) := by decide +kernel
theorem dX9_firstToSnap_23 : decode cX9_firstToSnap 23 = .ok (.invokevirtual 28, 3) := by decide +kernel
theorem dX9_firstToSnap_26 : decode cX9_firstToSnap 26 = .ok (.pop, 1) := by decide +kernel
theorem dX9_firstToSnap_27 : decode cX9_firstToSnap 27 = .ok (.aload_n 0, 1) := by decide +kernel
theorem dX9_firstToSnap_28 : decode cX9_firstToSnap 28 = .ok (.getfield 15, 3) := by decide +kernel
theorem dX9_firstToSnap_31 : decode cX9_firstToSnap 31 = .ok (.getfield 32, 3) := by decide +kernel
theorem dX9_firstToSnap_34 : decode cX9_firstToSnap 34 = .ok (.aload_n 0, 1) := by decide +kernel
theorem dX9_firstToSnap_35 : decode cX9_firstToSnap 35 = .ok (.getfield 9, 3) := by decide +kernel
theorem dX9_firstToSnap_38 : decode cX9_firstToSnap 38 = .ok (.getfield 32, 3) := by decide +kernel
theorem dX9_firstToSnap_41 : decode cX9_firstToSnap 41 = .ok (.if_icmp .eq 32, 3) := by decide +kernel
theorem dX9_firstToSnap_44 : decode cX9_firstToSnap 44 = .ok (.iload_n 1, 1) := by decide +kernel
theorem dX9_firstToSnap_45 : decode cX9_firstToSnap 45 = .ok (.ifCond .eq 7, 3) := by decide +kernel
theorem dX9_firstToSnap_48 : decode cX9_firstToSnap 48 = .ok (.iload_n 2, 1) := by decide +kernel
theorem dX9_firstToSnap_49 : decode cX9_firstToSnap 49 = .ok (.goto 23, 3) := by decide +kernel
theorem dX9_firstToSnap_52 : decode cX9_firstToSnap 52 = .ok (.aload_n 0, 1) := by decide +kernel
theorem dX9_firstToSnap_53 : decode cX9_firstToSnap 53 = .ok (.getfield 15, 3) := by decide +kernel
theorem dX9_firstToSnap_56 : decode cX9_firstToSnap 56 = .ok (.getfield 32, 3) := by decide +kernel
theorem dX9_firstToSnap_59 : decode cX9_firstToSnap 59 = .ok (.aload_n 0, 1) := by decide +kernel
theorem dX9_firstToSnap_60 : decode cX9_firstToSnap 60 = .ok (.getfield 9, 3) := by decide +kernel
theorem dX9_firstToSnap_63 : decode cX9_firstToSnap 63 = .ok (.getfield 32, 3) := by decide +kernel
theorem dX9_firstToSnap_66 : decode cX9_firstToSnap 66 = .ok (.iconst (-1), 1) := by decide +kernel
theorem dX9_firstToSnap_67 : decode cX9_firstToSnap 67 = .ok (.ixor, 1) := by decide +kernel
theorem dX9_firstToSnap_68 : decode cX9_firstToSnap 68 = .ok (.iand, 1) := by decide +kernel
theorem dX9_firstToSnap_69 : decode cX9_firstToSnap 69 = .ok (.invokestatic 36, 3) := by decide +kernel
theorem dX9_firstToSnap_72 : decode cX9_firstToSnap 72 = .ok (.ireturn, 1) := by decide +kernel
theorem dX9_firstToSnap_73 : decode cX9_firstToSnap 73 = .ok (.iinc 2 1, 3) := by decide +kernel
theorem dX9_firstToSnap_76 : decode cX9_firstToSnap 76 = .ok (.goto (-63), 3) := by decide +kernel
theorem dX9_firstToSnap_79 : decode cX9_firstToSnap 79 = .ok (.bipush (-4), 2) := by decide +kernel
theorem dX9_firstToSnap_81 : decode cX9_firstToSnap 81 = .ok (.ireturn, 1) := by decide +kernel
theorem dX9_firstUntrue_0 : decode cX9_firstUntrue 0 = .ok (.aload_n 0, 1) := by decide +kernel
theorem dX9_firstUntrue_1 : decode cX9_firstUntrue 1 = .ok (.getfield 15, 3) := by decide +kernel
theorem dX9_firstUntrue_4 : decode cX9_firstUntrue 4 = .ok (.aload_n 0, 1) := by decide +kernel
theorem dX9_firstUntrue_5 : decode cX9_firstUntrue 5 = .ok (.getfield 9, 3) := by decide +kernel
theorem dX9_firstUntrue_8 : decode cX9_firstUntrue 8 = .ok (.invokevirtual 18, 3) := by decide +kernel
theorem dX9_firstUntrue_11 : decode cX9_firstUntrue 11 = .ok (.iconst 0, 1) := by decide +kernel
theorem dX9_firstUntrue_12 : decode cX9_firstUntrue 12 = .ok (.istore_n 2, 1) := by decide +kernel
theorem dX9_firstUntrue_13 : decode cX9_firstUntrue 13 = .ok (.iload_n 2, 1) := by decide +kernel
theorem dX9_firstUntrue_14 : decode cX9_firstUntrue 14 = .ok (.aload_n 1, 1) := by decide +kernel
theorem dX9_firstUntrue_15 : decode cX9_firstUntrue 15 = .ok (.getfield 40, 3) := by decide +kernel
theorem dX9_firstUntrue_18 : decode cX9_firstUntrue 18 = .ok (.if_icmp .ge 42, 3) := by decide +kernel
theorem dX9_firstUntrue_21 : decode cX9_firstUntrue 21 = .ok (.aload_n 1, 1) := by decide +kernel
theorem dX9_firstUntrue_22 : decode cX9_firstUntrue 22 = .ok (.iload_n 2, 1) := by decide +kernel
theorem dX9_firstUntrue_23 : decode cX9_firstUntrue 23 = .ok (.invokevirtual 45, 3) := by decide +kernel
theorem dX9_firstUntrue_26 : decode cX9_firstUntrue 26 = .ok (.ifCond .ne 20, 3) := by decide +kernel
theorem dX9_firstUntrue_29 : decode cX9_firstUntrue 29 = .ok (.aload_n 1, 1) := by decide +kernel
theorem dX9_firstUntrue_30 : decode cX9_firstUntrue 30 = .ok (.iload_n 2, 1) := by decide +kernel
theorem dX9_firstUntrue_31 : decode cX9_firstUntrue 31 = .ok (.invokevirtual 49, 3) := by decide +kernel
theorem dX9_firstUntrue_34 : decode cX9_firstUntrue 34 = .ok (.aload_n 0, 1) := by decide +kernel
theorem dX9_firstUntrue_35 : decode cX9_firstUntrue 35 = .ok (.getfield 15, 3) := by decide +kernel
theorem dX9_firstUntrue_38 : decode cX9_firstUntrue 38 = .ok (.invokevirtual 52, 3) := by decide +kernel
theorem dX9_firstUntrue_41 : decode cX9_firstUntrue 41 = .ok (.if_icmp .eq 5, 3) := by decide +kernel
theorem dX9_firstUntrue_44 : decode cX9_firstUntrue 44 = .ok (.iload_n 2, 1) := by decide +kernel
theorem dX9_firstUntrue_45 : decode cX9_firstUntrue 45 = .ok (.ireturn, 1) := by decide +kernel
theorem dX9_firstUntrue_46 : decode cX9_firstUntrue 46 = .ok (.aload_n 0, 1) := by decide +kernel
theorem dX9_firstUntrue_47 : decode cX9_firstUntrue 47 = .ok (.getfield 15, 3) := by decide +kernel
theorem dX9_firstUntrue_50 : decode cX9_firstUntrue 50 = .ok (.invokevirtual 28, 3) := by decide +kernel
theorem dX9_firstUntrue_53 : decode cX9_firstUntrue 53 = .ok (.pop, 1) := by decide +kernel
theorem dX9_firstUntrue_54 : decode cX9_firstUntrue 54 = .ok (.iinc 2 1, 3) := by decide +kernel
theorem dX9_firstUntrue_57 : decode cX9_firstUntrue 57 = .ok (.goto (-44), 3) := by decide +kernel
theorem dX9_firstUntrue_60 : decode cX9_firstUntrue 60 = .ok (.bipush (-4), 2) := by decide +kernel
theorem dX9_firstUntrue_62 : decode cX9_firstUntrue 62 = .ok (.ireturn, 1) := by decide +kernel
theorem dJ6_bitCount_0f7a4_0 : decode cJ6_bitCount_0f7a4 0 = .ok (.iload_n 0, 1) := by decide +kernel
theorem dJ6_bitCount_0f7a4_1 : decode cJ6_bitCount_0f7a4 1 = .ok (.iload_n 0, 1) := by decide +kernel
theorem dJ6_bitCount_0f7a4_2 : decode cJ6_bitCount_0f7a4 2 = .ok (.iconst 1, 1) := by decide +kernel
theorem dJ6_bitCount_0f7a4_3 : decode cJ6_bitCount_0f7a4 3 = .ok (.iushr, 1) := by decide +kernel
theorem dJ6_bitCount_0f7a4_4 : decode cJ6_bitCount_0f7a4 4 = .ok (.ldc_w 265, 3) := by decide +kernel
theorem dJ6_bitCount_0f7a4_7 : decode cJ6_bitCount_0f7a4 7 = .ok (.iand, 1) := by decide +kernel
theorem dJ6_bitCount_0f7a4_8 : decode cJ6_bitCount_0f7a4 8 = .ok (.isub, 1) := by decide +kernel
theorem dJ6_bitCount_0f7a4_9 : decode cJ6_bitCount_0f7a4 9 = .ok (.istore_n 0, 1) := by decide +kernel
theorem dJ6_bitCount_0f7a4_10 : decode cJ6_bitCount_0f7a4 10 = .ok (.iload_n 0, 1) := by decide +kernel
theorem dJ6_bitCount_0f7a4_11 : decode cJ6_bitCount_0f7a4 11 = .ok (.ldc_w 266, 3) := by decide +kernel
theorem dJ6_bitCount_0f7a4_14 : decode cJ6_bitCount_0f7a4 14 = .ok (.iand, 1) := by decide +kernel
theorem dJ6_bitCount_0f7a4_15 : decode cJ6_bitCount_0f7a4 15 = .ok (.iload_n 0, 1) := by decide +kernel
theorem dJ6_bitCount_0f7a4_16 : decode cJ6_bitCount_0f7a4 16 = .ok (.iconst 2, 1) := by decide +kernel
theorem dJ6_bitCount_0f7a4_17 : decode cJ6_bitCount_0f7a4 17 = .ok (.iushr, 1) := by decide +kernel
theorem dJ6_bitCount_0f7a4_18 : decode cJ6_bitCount_0f7a4 18 = .ok (.ldc_w 266, 3) := by decide +kernel
theorem dJ6_bitCount_0f7a4_21 : decode cJ6_bitCount_0f7a4 21 = .ok (.iand, 1) := by decide +kernel
theorem dJ6_bitCount_0f7a4_22 : decode cJ6_bitCount_0f7a4 22 = .ok (.iadd, 1) := by decide +kernel
theorem dJ6_bitCount_0f7a4_23 : decode cJ6_bitCount_0f7a4 23 = .ok (.istore_n 0, 1) := by decide +kernel
theorem dJ6_bitCount_0f7a4_24 : decode cJ6_bitCount_0f7a4 24 = .ok (.iload_n 0, 1) := by decide +kernel
theorem dJ6_bitCount_0f7a4_25 : decode cJ6_bitCount_0f7a4 25 = .ok (.iload_n 0, 1) := by decide +kernel
theorem dJ6_bitCount_0f7a4_26 : decode cJ6_bitCount_0f7a4 26 = .ok (.iconst 4, 1) := by decide +kernel
theorem dJ6_bitCount_0f7a4_27 : decode cJ6_bitCount_0f7a4 27 = .ok (.iushr, 1) := by decide +kernel
theorem dJ6_bitCount_0f7a4_28 : decode cJ6_bitCount_0f7a4 28 = .ok (.iadd, 1) := by decide +kernel
theorem dJ6_bitCount_0f7a4_29 : decode cJ6_bitCount_0f7a4 29 = .ok (.ldc_w 267, 3) := by decide +kernel
theorem dJ6_bitCount_0f7a4_32 : decode cJ6_bitCount_0f7a4 32 = .ok (.iand, 1) := by decide +kernel
theorem dJ6_bitCount_0f7a4_33 : decode cJ6_bitCount_0f7a4 33 = .ok (.istore_n 0, 1) := by decide +kernel
theorem dJ6_bitCount_0f7a4_34 : decode cJ6_bitCount_0f7a4 34 = .ok (.iload_n 0, 1) := by decide +kernel
theorem dJ6_bitCount_0f7a4_35 : decode cJ6_bitCount_0f7a4 35 = .ok (.iload_n 0, 1) := by decide +kernel
theorem dJ6_bitCount_0f7a4_36 : decode cJ6_bitCount_0f7a4 36 = .ok (.bipush 8, 2) := by decide +kernel
theorem dJ6_bitCount_0f7a4_38 : decode cJ6_bitCount_0f7a4 38 = .ok (.iushr, 1) := by decide +kernel
theorem dJ6_bitCount_0f7a4_39 : decode cJ6_bitCount_0f7a4 39 = .ok (.iadd, 1) := by decide +kernel
theorem dJ6_bitCount_0f7a4_40 : decode cJ6_bitCount_0f7a4 40 = .ok (.istore_n 0, 1) := by decide +kernel
theorem dJ6_bitCount_0f7a4_41 : decode cJ6_bitCount_0f7a4 41 = .ok (.iload_n 0, 1) := by decide +kernel
theorem dJ6_bitCount_0f7a4_42 : decode cJ6_bitCount_0f7a4 42 = .ok (.iload_n 0, 1) := by decide +kernel
theorem dJ6_bitCount_0f7a4_43 : decode cJ6_bitCount_0f7a4 43 = .ok (.bipush 16, 2) := by decide +kernel
theorem dJ6_bitCount_0f7a4_45 : decode cJ6_bitCount_0f7a4 45 = .ok (.iushr, 1) := by decide +kernel
theorem dJ6_bitCount_0f7a4_46 : decode cJ6_bitCount_0f7a4 46 = .ok (.iadd, 1) := by decide +kernel
theorem dJ6_bitCount_0f7a4_47 : decode cJ6_bitCount_0f7a4 47 = .ok (.istore_n 0, 1) := by decide +kernel
theorem dJ6_bitCount_0f7a4_48 : decode cJ6_bitCount_0f7a4 48 = .ok (.iload_n 0, 1) := by decide +kernel
theorem dJ6_bitCount_0f7a4_49 : decode cJ6_bitCount_0f7a4 49 = .ok (.bipush 63, 2) := by decide +kernel
theorem dJ6_bitCount_0f7a4_51 : decode cJ6_bitCount_0f7a4 51 = .ok (.iand, 1) := by decide +kernel
theorem dJ6_bitCount_0f7a4_52 : decode cJ6_bitCount_0f7a4 52 = .ok (.ireturn, 1) := by decide +kernel
theorem dJ9_abs_0f7a4_0 : decode cJ9_abs_0f7a4 0 = .ok (.iload_n 0, 1) := by decide +kernel
theorem dJ9_abs_0f7a4_1 : decode cJ9_abs_0f7a4 1 = .ok (.ifCond .ge 8, 3) := by decide +kernel
theorem dJ9_abs_0f7a4_4 : decode cJ9_abs_0f7a4 4 = .ok (.iload_n 0, 1) := by decide +kernel
theorem dJ9_abs_0f7a4_5 : decode cJ9_abs_0f7a4 5 = .ok (.ineg, 1) := by decide +kernel
theorem dJ9_abs_0f7a4_6 : decode cJ9_abs_0f7a4 6 = .ok (.goto 4, 3) := by decide +kernel
theorem dJ9_abs_0f7a4_9 : decode cJ9_abs_0f7a4 9 = .ok (.iload_n 0, 1) := by decide +kernel
theorem dJ9_abs_0f7a4_10 : decode cJ9_abs_0f7a4 10 = .ok (.ireturn, 1) := by decide +kernel
theorem dJ9_max_7cf53_0 : decode cJ9_max_7cf53 0 = .ok (.iload_n 0, 1) := by decide +kernel
theorem dJ9_max_7cf53_1 : decode cJ9_max_7cf53 1 = .ok (.iload_n 1, 1) := by decide +kernel
theorem dJ9_max_7cf53_2 : decode cJ9_max_7cf53 2 = .ok (.if_icmp .lt 7, 3) := by decide +kernel
theorem dJ9_max_7cf53_5 : decode cJ9_max_7cf53 5 = .ok (.iload_n 0, 1) := by decide +kernel
theorem dJ9_max_7cf53_6 : decode cJ9_max_7cf53 6 = .ok (.goto 4, 3) := by decide +kernel
theorem dJ9_max_7cf53_9 : decode cJ9_max_7cf53 9 = .ok (.iload_n 1, 1) := by decide +kernel
theorem dJ9_max_7cf53_10 : decode cJ9_max_7cf53 10 = .ok (.ireturn, 1) := by decide +kernel
theorem dJ9_min_7cf53_0 : decode cJ9_min_7cf53 0 = .ok (.iload_n 0, 1) := by decide +kernel
theorem dJ9_min_7cf53_1 : decode cJ9_min_7cf53 1 = .ok (.iload_n 1, 1) := by decide +kernel
theorem dJ9_min_7cf53_2 : decode cJ9_min_7cf53 2 = .ok (.if_icmp .gt 7, 3) := by decide +kernel
theorem dJ9_min_7cf53_5 : decode cJ9_min_7cf53 5 = .ok (.iload_n 0, 1) := by decide +kernel
theorem dJ9_min_7cf53_6 : decode cJ9_min_7cf53 6 = .ok (.goto 4, 3) := by decide +kernel
theorem dJ9_min_7cf53_9 : decode cJ9_min_7cf53 9 = .ok (.iload_n 1, 1) := by decide +kernel
theorem dJ9_min_7cf53_10 : decode cJ9_min_7cf53 10 = .ok (.ireturn, 1) := by decide +kernel
