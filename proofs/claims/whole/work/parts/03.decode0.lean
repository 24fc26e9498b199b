theorem dX0_init_0 : decode cX0_init 0 = .ok (.aload_n 0, 1) := by decide +kernel
theorem dX0_init_1 : decode cX0_init 1 = .ok (.invokespecial 3, 3) := by decide +kernel
theorem dX0_init_4 : decode cX0_init 4 = .ok (.aload_n 0, 1) := by decide +kernel
theorem dX0_init_5 : decode cX0_init 5 = .ok (.aload_n 1, 1) := by decide +kernel
theorem dX0_init_6 : decode cX0_init 6 = .ok (.putfield 9, 3) := by decide +kernel
theorem dX0_init_9 : decode cX0_init 9 = .ok (.return_, 1) := by decide +kernel
theorem dX0_howMany_0 : decode cX0_howMany 0 = .ok (.iconst 0, 1) := by decide +kernel
theorem dX0_howMany_1 : decode cX0_howMany 1 = .ok (.istore_n 1, 1) := by decide +kernel
theorem dX0_howMany_2 : decode cX0_howMany 2 = .ok (.iconst 0, 1) := by decide +kernel
theorem dX0_howMany_3 : decode cX0_howMany 3 = .ok (.istore_n 2, 1) := by decide +kernel
theorem dX0_howMany_4 : decode cX0_howMany 4 = .ok (.iconst 0, 1) := by decide +kernel
theorem dX0_howMany_5 : decode cX0_howMany 5 = .ok (.istore_n 3, 1) := by decide +kernel
theorem dX0_howMany_6 : decode cX0_howMany 6 = .ok (.iload_n 3, 1) := by decide +kernel
theorem dX0_howMany_7 : decode cX0_howMany 7 = .ok (.aload_n 0, 1) := by decide +kernel
theorem dX0_howMany_8 : decode cX0_howMany 8 = .ok (.getfield 9, 3) := by decide +kernel
theorem dX0_howMany_11 : decode cX0_howMany 11 = .ok (.getfield 15, 3) := by decide +kernel
theorem dX0_howMany_14 : decode cX0_howMany 14 = .ok (.if_icmp .ge 29, 3) := by decide +kernel
theorem dX0_howMany_17 : decode cX0_howMany 17 = .ok (.iload_n 1, 1) := by decide +kernel
theorem dX0_howMany_18 : decode cX0_howMany 18 = .ok (.iload_n 3, 1) := by decide +kernel
theorem dX0_howMany_19 : decode cX0_howMany 19 = .ok (.ishr, 1) := by decide +kernel
theorem dX0_howMany_20 : decode cX0_howMany 20 = .ok (.iconst 1, 1) := by decide +kernel
theorem dX0_howMany_21 : decode cX0_howMany 21 = .ok (.iand, 1) := by decide +kernel
theorem dX0_howMany_22 : decode cX0_howMany 22 = .ok (.ifCond .ne 15, 3) := by decide +kernel
theorem dX0_howMany_25 : decode cX0_howMany 25 = .ok (.iinc 2 1, 3) := by decide +kernel
theorem dX0_howMany_28 : decode cX0_howMany 28 = .ok (.iload_n 1, 1) := by decide +kernel
theorem dX0_howMany_29 : decode cX0_howMany 29 = .ok (.aload_n 0, 1) := by decide +kernel
theorem dX0_howMany_30 : decode cX0_howMany 30 = .ok (.iload_n 3, 1) := by decide +kernel
theorem dX0_howMany_31 : decode cX0_howMany 31 = .ok (.iconst 0, 1) := by decide +kernel
theorem dX0_howMany_32 : decode cX0_howMany 32 = .ok (.invokevirtual 21, 3) := by decide +kernel
theorem dX0_howMany_35 : decode cX0_howMany 35 = .ok (.ior, 1) := by decide +kernel
theorem dX0_howMany_36 : decode cX0_howMany 36 = .ok (.istore_n 1, 1) := by decide +kernel
theorem dX0_howMany_37 : decode cX0_howMany 37 = .ok (.iinc 3 1, 3) := by decide +kernel
theorem dX0_howMany_40 : decode cX0_howMany 40 = .ok (.goto (-34), 3) := by decide +kernel
theorem dX0_howMany_43 : decode cX0_howMany 43 = .ok (.iload_n 2, 1) := by decide +kernel
theorem dX0_howMany_44 : decode cX0_howMany 44 = .ok (.ireturn, 1) := by decide +kernel
theorem dX0_greatest_0 : decode cX0_greatest 0 = .ok (.iconst 0, 1) := by decide +kernel
theorem dX0_greatest_1 : decode cX0_greatest 1 = .ok (.istore_n 1, 1) := by decide +kernel
theorem dX0_greatest_2 : decode cX0_greatest 2 = .ok (.iconst 0, 1) := by decide +kernel
theorem dX0_greatest_3 : decode cX0_greatest 3 = .ok (.istore_n 2, 1) := by decide +kernel
theorem dX0_greatest_4 : decode cX0_greatest 4 = .ok (.iload_n 2, 1) := by decide +kernel
theorem dX0_greatest_5 : decode cX0_greatest 5 = .ok (.aload_n 0, 1) := by decide +kernel
theorem dX0_greatest_6 : decode cX0_greatest 6 = .ok (.getfield 9, 3) := by decide +kernel
theorem dX0_greatest_9 : decode cX0_greatest 9 = .ok (.getfield 15, 3) := by decide +kernel
theorem dX0_greatest_12 : decode cX0_greatest 12 = .ok (.if_icmp .ge 23, 3) := by decide +kernel
theorem dX0_greatest_15 : decode cX0_greatest 15 = .ok (.iload_n 1, 1) := by decide +kernel
theorem dX0_greatest_16 : decode cX0_greatest 16 = .ok (.aload_n 0, 1) := by decide +kernel
theorem dX0_greatest_17 : decode cX0_greatest 17 = .ok (.iload_n 2, 1) := by decide +kernel
theorem dX0_greatest_18 : decode cX0_greatest 18 = .ok (.iconst 0, 1) := by decide +kernel
theorem dX0_greatest_19 : decode cX0_greatest 19 = .ok (.invokevirtual 21, 3) := by decide +kernel
theorem dX0_greatest_22 : decode cX0_greatest 22 = .ok (.invokestatic 25, 3) := by decide +kernel
theorem dX0_greatest_25 : decode cX0_greatest 25 = .ok (.invokestatic 31, 3) := by decide +kernel
theorem dX0_greatest_28 : decode cX0_greatest 28 = .ok (.istore_n 1, 1) := by decide +kernel
theorem dX0_greatest_29 : decode cX0_greatest 29 = .ok (.iinc 2 1, 3) := by decide +kernel
theorem dX0_greatest_32 : decode cX0_greatest 32 = .ok (.goto (-28), 3) := by decide +kernel
theorem dX0_greatest_35 : decode cX0_greatest 35 = .ok (.iload_n 1, 1) := by decide +kernel
theorem dX0_greatest_36 : decode cX0_greatest 36 = .ok (.ireturn, 1) := by decide +kernel
theorem dX0_bandsBetween_0 : decode cX0_bandsBetween 0 = .ok (.iconst 1, 1) := by decide +kernel
theorem dX0_bandsBetween_1 : decode cX0_bandsBetween 1 = .ok (.iload_n 1, 1) := by decide +kernel
theorem dX0_bandsBetween_2 : decode cX0_bandsBetween 2 = .ok (.ishl, 1) := by decide +kernel
theorem dX0_bandsBetween_3 : decode cX0_bandsBetween 3 = .ok (.istore_n 3, 1) := by decide +kernel
theorem dX0_bandsBetween_4 : decode cX0_bandsBetween 4 = .ok (.iconst 1, 1) := by decide +kernel
theorem dX0_bandsBetween_5 : decode cX0_bandsBetween 5 = .ok (.istore 4, 2) := by decide +kernel
theorem dX0_bandsBetween_7 : decode cX0_bandsBetween 7 = .ok (.iload 4, 2) := by decide +kernel
theorem dX0_bandsBetween_9 : decode cX0_bandsBetween 9 = .ok (.aload_n 0, 1) := by decide +kernel
theorem dX0_bandsBetween_10 : decode cX0_bandsBetween 10 = .ok (.getfield 9, 3) := by decide +kernel
theorem dX0_bandsBetween_13 : decode cX0_bandsBetween 13 = .ok (.getfield 15, 3) := by decide +kernel
theorem dX0_bandsBetween_16 : decode cX0_bandsBetween 16 = .ok (.if_icmp .ge 28, 3) := by decide +kernel
theorem dX0_bandsBetween_19 : decode cX0_bandsBetween 19 = .ok (.aload_n 0, 1) := by decide +kernel
theorem dX0_bandsBetween_20 : decode cX0_bandsBetween 20 = .ok (.iload_n 3, 1) := by decide +kernel
theorem dX0_bandsBetween_21 : decode cX0_bandsBetween 21 = .ok (.iconst 0, 1) := by decide +kernel
theorem dX0_bandsBetween_22 : decode cX0_bandsBetween 22 = .ok (.invokevirtual 36, 3) := by decide +kernel
theorem dX0_bandsBetween_25 : decode cX0_bandsBetween 25 = .ok (.istore_n 3, 1) := by decide +kernel
theorem dX0_bandsBetween_26 : decode cX0_bandsBetween 26 = .ok (.iload_n 3, 1) := by decide +kernel
theorem dX0_bandsBetween_27 : decode cX0_bandsBetween 27 = .ok (.iload_n 2, 1) := by decide +kernel
theorem dX0_bandsBetween_28 : decode cX0_bandsBetween 28 = .ok (.ishr, 1) := by decide +kernel
theorem dX0_bandsBetween_29 : decode cX0_bandsBetween 29 = .ok (.iconst 1, 1) := by decide +kernel
theorem dX0_bandsBetween_30 : decode cX0_bandsBetween 30 = .ok (.iand, 1) := by decide +kernel
theorem dX0_bandsBetween_31 : decode cX0_bandsBetween 31 = .ok (.iconst 1, 1) := by decide +kernel
theorem dX0_bandsBetween_32 : decode cX0_bandsBetween 32 = .ok (.if_icmp .ne 6, 3) := by decide +kernel
theorem dX0_bandsBetween_35 : decode cX0_bandsBetween 35 = .ok (.iload 4, 2) := by decide +kernel
theorem dX0_bandsBetween_37 : decode cX0_bandsBetween 37 = .ok (.ireturn, 1) := by decide +kernel
theorem dX0_bandsBetween_38 : decode cX0_bandsBetween 38 = .ok (.iinc 4 1, 3) := by decide +kernel
theorem dX0_bandsBetween_41 : decode cX0_bandsBetween 41 = .ok (.goto (-34), 3) := by decide +kernel
theorem dX0_bandsBetween_44 : decode cX0_bandsBetween 44 = .ok (.bipush (-4), 2) := by decide +kernel
theorem dX0_bandsBetween_46 : decode cX0_bandsBetween 46 = .ok (.ireturn, 1) := by decide +kernel
theorem dX0_dividing_0 : decode cX0_dividing 0 = .ok (.iconst 0, 1) := by decide +kernel
theorem dX0_dividing_1 : decode cX0_dividing 1 = .ok (.istore_n 1, 1) := by decide +kernel
theorem dX0_dividing_2 : decode cX0_dividing 2 = .ok (.iconst 0, 1) := by decide +kernel
theorem dX0_dividing_3 : decode cX0_dividing 3 = .ok (.istore_n 2, 1) := by decide +kernel
theorem dX0_dividing_4 : decode cX0_dividing 4 = .ok (.iload_n 2, 1) := by decide +kernel
theorem dX0_dividing_5 : decode cX0_dividing 5 = .ok (.aload_n 0, 1) := by decide +kernel
theorem dX0_dividing_6 : decode cX0_dividing 6 = .ok (.getfield 9, 3) := by decide +kernel
theorem dX0_dividing_9 : decode cX0_dividing 9 = .ok (.getfield 39, 3) := by decide +kernel
theorem dX0_dividing_12 : decode cX0_dividing 12 = .ok (.if_icmp .ge 59, 3) := by decide +kernel
theorem dX0_dividing_15 : decode cX0_dividing 15 = .ok (.aload_n 0, 1) := by decide +kernel
theorem dX0_dividing_16 : decode cX0_dividing 16 = .ok (.aload_n 0, 1) := by decide +kernel
theorem dX0_dividing_17 : decode cX0_dividing 17 = .ok (.getfield 9, 3) := by decide +kernel
theorem dX0_dividing_20 : decode cX0_dividing 20 = .ok (.getfield 42, 3) := by decide +kernel
theorem dX0_dividing_23 : decode cX0_dividing 23 = .ok (.iload_n 2, 1) := by decide +kernel
theorem dX0_dividing_24 : decode cX0_dividing 24 = .ok (.iaload, 1) := by decide +kernel
theorem dX0_dividing_25 : decode cX0_dividing 25 = .ok (.iconst 1, 1) := by decide +kernel
theorem dX0_dividing_26 : decode cX0_dividing 26 = .ok (.iload_n 2, 1) := by decide +kernel
theorem dX0_dividing_27 : decode cX0_dividing 27 = .ok (.ishl, 1) := by decide +kernel
theorem dX0_dividing_28 : decode cX0_dividing 28 = .ok (.invokevirtual 21, 3) := by decide +kernel
theorem dX0_dividing_31 : decode cX0_dividing 31 = .ok (.istore_n 3, 1) := by decide +kernel
theorem dX0_dividing_32 : decode cX0_dividing 32 = .ok (.aload_n 0, 1) := by decide +kernel
theorem dX0_dividing_33 : decode cX0_dividing 33 = .ok (.getfield 9, 3) := by decide +kernel
theorem dX0_dividing_36 : decode cX0_dividing 36 = .ok (.iload_n 2, 1) := by decide +kernel
theorem dX0_dividing_37 : decode cX0_dividing 37 = .ok (.invokevirtual 46, 3) := by decide +kernel
theorem dX0_dividing_40 : decode cX0_dividing 40 = .ok (.ifCond .ne 25, 3) := by decide +kernel
theorem dX0_dividing_43 : decode cX0_dividing 43 = .ok (.iload_n 3, 1) := by decide +kernel
theorem dX0_dividing_44 : decode cX0_dividing 44 = .ok (.aload_n 0, 1) := by decide +kernel
theorem dX0_dividing_45 : decode cX0_dividing 45 = .ok (.getfield 9, 3) := by decide +kernel
theorem dX0_dividing_48 : decode cX0_dividing 48 = .ok (.getfield 50, 3) := by decide +kernel
theorem dX0_dividing_51 : decode cX0_dividing 51 = .ok (.iload_n 2, 1) := by decide +kernel
theorem dX0_dividing_52 : decode cX0_dividing 52 = .ok (.iaload, 1) := by decide +kernel
theorem dX0_dividing_53 : decode cX0_dividing 53 = .ok (.ishr, 1) := by decide +kernel
theorem dX0_dividing_54 : decode cX0_dividing 54 = .ok (.iconst 1, 1) := by decide +kernel
theorem dX0_dividing_55 : decode cX0_dividing 55 = .ok (.iand, 1) := by decide +kernel
theorem dX0_dividing_56 : decode cX0_dividing 56 = .ok (.ifCond .ne 9, 3) := by decide +kernel
theorem dX0_dividing_59 : decode cX0_dividing 59 = .ok (.iload_n 1, 1) := by decide +kernel
theorem dX0_dividing_60 : decode cX0_dividing 60 = .ok (.iconst 1, 1) := by decide +kernel
theorem dX0_dividing_61 : decode cX0_dividing 61 = .ok (.iload_n 2, 1) := by decide +kernel
theorem dX0_dividing_62 : decode cX0_dividing 62 = .ok (.ishl, 1) := by decide +kernel
theorem dX0_dividing_63 : decode cX0_dividing 63 = .ok (.ior, 1) := by decide +kernel
theorem dX0_dividing_64 : decode cX0_dividing 64 = .ok (.istore_n 1, 1) := by decide +kernel
theorem dX0_dividing_65 : decode cX0_dividing 65 = .ok (.iinc 2 1, 3) := by decide +kernel
theorem dX0_dividing_68 : decode cX0_dividing 68 = .ok (.goto (-64), 3) := by decide +kernel
theorem dX0_dividing_71 : decode cX0_dividing 71 = .ok (.iload_n 1, 1) := by decide +kernel
theorem dX0_dividing_72 : decode cX0_dividing 72 = .ok (.ireturn, 1) := by decide +kernel
theorem dX0_clanOf_0 : decode cX0_clanOf 0 = .ok (.iconst 1, 1) := by decide +kernel
theorem dX0_clanOf_1 : decode cX0_clanOf 1 = .ok (.iload_n 1, 1) := by decide +kernel
theorem dX0_clanOf_2 : decode cX0_clanOf 2 = .ok (.ishl, 1) := by decide +kernel
theorem dX0_clanOf_3 : decode cX0_clanOf 3 = .ok (.istore_n 3, 1) := by decide +kernel
theorem dX0_clanOf_4 : decode cX0_clanOf 4 = .ok (.iconst 1, 1) := by decide +kernel
theorem dX0_clanOf_5 : decode cX0_clanOf 5 = .ok (.istore 4, 2) := by decide +kernel
theorem dX0_clanOf_7 : decode cX0_clanOf 7 = .ok (.iload 4, 2) := by decide +kernel
theorem dX0_clanOf_9 : decode cX0_clanOf 9 = .ok (.aload_n 0, 1) := by decide +kernel
theorem dX0_clanOf_10 : decode cX0_clanOf 10 = .ok (.getfield 9, 3) := by decide +kernel
theorem dX0_clanOf_13 : decode cX0_clanOf 13 = .ok (.getfield 15, 3) := by decide +kernel
theorem dX0_clanOf_16 : decode cX0_clanOf 16 = .ok (.if_icmp .ge 16, 3) := by decide +kernel
theorem dX0_clanOf_19 : decode cX0_clanOf 19 = .ok (.aload_n 0, 1) := by decide +kernel
theorem dX0_clanOf_20 : decode cX0_clanOf 20 = .ok (.iload_n 3, 1) := by decide +kernel
theorem dX0_clanOf_21 : decode cX0_clanOf 21 = .ok (.iload_n 2, 1) := by decide +kernel
theorem dX0_clanOf_22 : decode cX0_clanOf 22 = .ok (.invokevirtual 36, 3) := by decide +kernel
theorem dX0_clanOf_25 : decode cX0_clanOf 25 = .ok (.istore_n 3, 1) := by decide +kernel
theorem dX0_clanOf_26 : decode cX0_clanOf 26 = .ok (.iinc 4 1, 3) := by decide +kernel
theorem dX0_clanOf_29 : decode cX0_clanOf 29 = .ok (.goto (-22), 3) := by decide +kernel
theorem dX0_clanOf_32 : decode cX0_clanOf 32 = .ok (.iload_n 3, 1) := by decide +kernel
theorem dX0_clanOf_33 : decode cX0_clanOf 33 = .ok (.ireturn, 1) := by decide +kernel
theorem dX0_tiedTo_0 : decode cX0_tiedTo 0 = .ok (.iload_n 1, 1) := by decide +kernel
theorem dX0_tiedTo_1 : decode cX0_tiedTo 1 = .ok (.istore_n 3, 1) := by decide +kernel
theorem dX0_tiedTo_2 : decode cX0_tiedTo 2 = .ok (.iconst 0, 1) := by decide +kernel
theorem dX0_tiedTo_3 : decode cX0_tiedTo 3 = .ok (.istore 4, 2) := by decide +kernel
theorem dX0_tiedTo_5 : decode cX0_tiedTo 5 = .ok (.iload 4, 2) := by decide +kernel
theorem dX0_tiedTo_7 : decode cX0_tiedTo 7 = .ok (.aload_n 0, 1) := by decide +kernel
theorem dX0_tiedTo_8 : decode cX0_tiedTo 8 = .ok (.getfield 9, 3) := by decide +kernel
theorem dX0_tiedTo_11 : decode cX0_tiedTo 11 = .ok (.getfield 39, 3) := by decide +kernel
theorem dX0_tiedTo_14 : decode cX0_tiedTo 14 = .ok (.if_icmp .ge 69, 3) := by decide +kernel
theorem dX0_tiedTo_17 : decode cX0_tiedTo 17 = .ok (.aload_n 0, 1) := by decide +kernel
theorem dX0_tiedTo_18 : decode cX0_tiedTo 18 = .ok (.getfield 9, 3) := by decide +kernel
theorem dX0_tiedTo_21 : decode cX0_tiedTo 21 = .ok (.getfield 53, 3) := by decide +kernel
theorem dX0_tiedTo_24 : decode cX0_tiedTo 24 = .ok (.iload_n 2, 1) := by decide +kernel
theorem dX0_tiedTo_25 : decode cX0_tiedTo 25 = .ok (.ior, 1) := by decide +kernel
theorem dX0_tiedTo_26 : decode cX0_tiedTo 26 = .ok (.iload 4, 2) := by decide +kernel
theorem dX0_tiedTo_28 : decode cX0_tiedTo 28 = .ok (.ishr, 1) := by decide +kernel
theorem dX0_tiedTo_29 : decode cX0_tiedTo 29 = .ok (.iconst 1, 1) := by decide +kernel
theorem dX0_tiedTo_30 : decode cX0_tiedTo 30 = .ok (.iand, 1) := by decide +kernel
theorem dX0_tiedTo_31 : decode cX0_tiedTo 31 = .ok (.ifCond .ne 46, 3) := by decide +kernel
theorem dX0_tiedTo_34 : decode cX0_tiedTo 34 = .ok (.iconst 1, 1) := by decide +kernel
theorem dX0_tiedTo_35 : decode cX0_tiedTo 35 = .ok (.aload_n 0, 1) := by decide +kernel
theorem dX0_tiedTo_36 : decode cX0_tiedTo 36 = .ok (.getfield 9, 3) := by decide +kernel
theorem dX0_tiedTo_39 : decode cX0_tiedTo 39 = .ok (.getfield 42, 3) := by decide +kernel
theorem dX0_tiedTo_42 : decode cX0_tiedTo 42 = .ok (.iload 4, 2) := by decide +kernel
theorem dX0_tiedTo_44 : decode cX0_tiedTo 44 = .ok (.iaload, 1) := by decide +kernel
theorem dX0_tiedTo_45 : decode cX0_tiedTo 45 = .ok (.ishl, 1) := by decide +kernel
theorem dX0_tiedTo_46 : decode cX0_tiedTo 46 = .ok (.iconst 1, 1) := by decide +kernel
theorem dX0_tiedTo_47 : decode cX0_tiedTo 47 = .ok (.aload_n 0, 1) := by decide +kernel
theorem dX0_tiedTo_48 : decode cX0_tiedTo 48 = .ok (.getfield 9, 3) := by decide +kernel
theorem dX0_tiedTo_51 : decode cX0_tiedTo 51 = .ok (.getfield 50, 3) := by decide +kernel
theorem dX0_tiedTo_54 : decode cX0_tiedTo 54 = .ok (.iload 4, 2) := by decide +kernel
theorem dX0_tiedTo_56 : decode cX0_tiedTo 56 = .ok (.iaload, 1) := by decide +kernel
theorem dX0_tiedTo_57 : decode cX0_tiedTo 57 = .ok (.ishl, 1) := by decide +kernel
theorem dX0_tiedTo_58 : decode cX0_tiedTo 58 = .ok (.ior, 1) := by decide +kernel
theorem dX0_tiedTo_59 : decode cX0_tiedTo 59 = .ok (.istore 5, 2) := by decide +kernel
theorem dX0_tiedTo_61 : decode cX0_tiedTo 61 = .ok (.iload_n 3, 1) := by decide +kernel
theorem dX0_tiedTo_62 : decode cX0_tiedTo 62 = .ok (.iload_n 1, 1) := by decide +kernel
theorem dX0_tiedTo_63 : decode cX0_tiedTo 63 = .ok (.iload 5, 2) := by decide +kernel
theorem dX0_tiedTo_65 : decode cX0_tiedTo 65 = .ok (.iand, 1) := by decide +kernel
theorem dX0_tiedTo_66 : decode cX0_tiedTo 66 = .ok (.ifCond .eq 8, 3) := by decide +kernel
theorem dX0_tiedTo_69 : decode cX0_tiedTo 69 = .ok (.iload 5, 2) := by decide +kernel
theorem dX0_tiedTo_71 : decode cX0_tiedTo 71 = .ok (.goto 4, 3) := by decide +kernel
theorem dX0_tiedTo_74 : decode cX0_tiedTo 74 = .ok (.iconst 0, 1) := by decide +kernel
theorem dX0_tiedTo_75 : decode cX0_tiedTo 75 = .ok (.ior, 1) := by decide +kernel
theorem dX0_tiedTo_76 : decode cX0_tiedTo 76 = .ok (.istore_n 3, 1) := by decide +kernel
theorem dX0_tiedTo_77 : decode cX0_tiedTo 77 = .ok (.iinc 4 1, 3) := by decide +kernel
theorem dX0_tiedTo_80 : decode cX0_tiedTo 80 = .ok (.goto (-75), 3) := by decide +kernel
theorem dX0_tiedTo_83 : decode cX0_tiedTo 83 = .ok (.iload_n 3, 1) := by decide +kernel
theorem dX0_tiedTo_84 : decode cX0_tiedTo 84 = .ok (.ireturn, 1) := by decide +kernel
theorem dX0_allWays_0 : decode cX0_allWays 0 = .ok (.iload_n 1, 1) := by decide +kernel
theorem dX0_allWays_1 : decode cX0_allWays 1 = .ok (.aload_n 0, 1) := by decide +kernel
theorem dX0_allWays_2 : decode cX0_allWays 2 = .ok (.getfield 9, 3) := by decide +kernel
theorem dX0_allWays_5 : decode cX0_allWays 5 = .ok (.getfield 39, 3) := by decide +kernel
theorem dX0_allWays_8 : decode cX0_allWays 8 = .ok (.aload_n 0, 1) := by decide +kernel
theorem dX0_allWays_9 : decode cX0_allWays 9 = .ok (.getfield 9, 3) := by decide +kernel
theorem dX0_allWays_12 : decode cX0_allWays 12 = .ok (.invokevirtual 56, 3) := by decide +kernel
theorem dX0_allWays_15 : decode cX0_allWays 15 = .ok (.isub, 1) := by decide +kernel
theorem dX0_allWays_16 : decode cX0_allWays 16 = .ok (.invokestatic 60, 3) := by decide +kernel
theorem dX0_allWays_19 : decode cX0_allWays 19 = .ok (.lreturn, 1) := by decide +kernel
theorem dX0_waysStillTied_0 : decode cX0_waysStillTied 0 = .ok (.iconst 0, 1) := by decide +kernel
theorem dX0_waysStillTied_1 : decode cX0_waysStillTied 1 = .ok (.istore 4, 2) := by decide +kernel
theorem dX0_waysStillTied_3 : decode cX0_waysStillTied 3 = .ok (.iconst 0, 1) := by decide +kernel
theorem dX0_waysStillTied_4 : decode cX0_waysStillTied 4 = .ok (.istore 5, 2) := by decide +kernel
theorem dX0_waysStillTied_6 : decode cX0_waysStillTied 6 = .ok (.iload 5, 2) := by decide +kernel
theorem dX0_waysStillTied_8 : decode cX0_waysStillTied 8 = .ok (.aload_n 0, 1) := by decide +kernel
theorem dX0_waysStillTied_9 : decode cX0_waysStillTied 9 = .ok (.getfield 9, 3) := by decide +kernel
theorem dX0_waysStillTied_12 : decode cX0_waysStillTied 12 = .ok (.getfield 15, 3) := by decide +kernel
theorem dX0_waysStillTied_15 : decode cX0_waysStillTied 15 = .ok (.if_icmp .ge 21, 3) := by decide +kernel
theorem dX0_waysStillTied_18 : decode cX0_waysStillTied 18 = .ok (.iload 4, 2) := by decide +kernel
theorem dX0_waysStillTied_20 : decode cX0_waysStillTied 20 = .ok (.iload 5, 2) := by decide +kernel
theorem dX0_waysStillTied_22 : decode cX0_waysStillTied 22 = .ok (.iconst 3, 1) := by decide +kernel
theorem dX0_waysStillTied_23 : decode cX0_waysStillTied 23 = .ok (.iload 5, 2) := by decide +kernel
theorem dX0_waysStillTied_25 : decode cX0_waysStillTied 25 = .ok (.imul, 1) := by decide +kernel
theorem dX0_waysStillTied_26 : decode cX0_waysStillTied 26 = .ok (.ishl, 1) := by decide +kernel
theorem dX0_waysStillTied_27 : decode cX0_waysStillTied 27 = .ok (.ior, 1) := by decide +kernel
theorem dX0_waysStillTied_28 : decode cX0_waysStillTied 28 = .ok (.istore 4, 2) := by decide +kernel
theorem dX0_waysStillTied_30 : decode cX0_waysStillTied 30 = .ok (.iinc 5 1, 3) := by decide +kernel
theorem dX0_waysStillTied_33 : decode cX0_waysStillTied 33 = .ok (.goto (-27), 3) := by decide +kernel
theorem dX0_waysStillTied_36 : decode cX0_waysStillTied 36 = .ok (.aload_n 0, 1) := by decide +kernel
theorem dX0_waysStillTied_37 : decode cX0_waysStillTied 37 = .ok (.getfield 9, 3) := by decide +kernel
theorem dX0_waysStillTied_40 : decode cX0_waysStillTied 40 = .ok (.iconst 0, 1) := by decide +kernel
theorem dX0_waysStillTied_41 : decode cX0_waysStillTied 41 = .ok (.iload 4, 2) := by decide +kernel
theorem dX0_waysStillTied_43 : decode cX0_waysStillTied 43 = .ok (.iconst 1, 1) := by decide +kernel
theorem dX0_waysStillTied_44 : decode cX0_waysStillTied 44 = .ok (.iload_n 1, 1) := by decide +kernel
theorem dX0_waysStillTied_45 : decode cX0_waysStillTied 45 = .ok (.ishl, 1) := by decide +kernel
theorem dX0_waysStillTied_46 : decode cX0_waysStillTied 46 = .ok (.iconst 1, 1) := by decide +kernel
theorem dX0_waysStillTied_47 : decode cX0_waysStillTied 47 = .ok (.iload_n 2, 1) := by decide +kernel
theorem dX0_waysStillTied_48 : decode cX0_waysStillTied 48 = .ok (.ishl, 1) := by decide +kernel
theorem dX0_waysStillTied_49 : decode cX0_waysStillTied 49 = .ok (.ior, 1) := by decide +kernel
theorem dX0_waysStillTied_50 : decode cX0_waysStillTied 50 = .ok (.iload_n 3, 1) := by decide +kernel
theorem dX0_waysStillTied_51 : decode cX0_waysStillTied 51 = .ok (.invokestatic 64, 3) := by decide +kernel
theorem dX0_waysStillTied_54 : decode cX0_waysStillTied 54 = .ok (.lreturn, 1) := by decide +kernel
theorem dX0_waysTied_0 : decode cX0_waysTied 0 = .ok (.iload_n 2, 1) := by decide +kernel
theorem dX0_waysTied_1 : decode cX0_waysTied 1 = .ok (.iload_n 3, 1) := by decide +kernel
theorem dX0_waysTied_2 : decode cX0_waysTied 2 = .ok (.invokestatic 68, 3) := by decide +kernel
theorem dX0_waysTied_5 : decode cX0_waysTied 5 = .ok (.ifCond .eq 25, 3) := by decide +kernel
theorem dX0_waysTied_8 : decode cX0_waysTied 8 = .ok (.iload 4, 2) := by decide +kernel
theorem dX0_waysTied_10 : decode cX0_waysTied 10 = .ok (.aload_n 0, 1) := by decide +kernel
theorem dX0_waysTied_11 : decode cX0_waysTied 11 = .ok (.getfield 39, 3) := by decide +kernel
theorem dX0_waysTied_14 : decode cX0_waysTied 14 = .ok (.iload_n 1, 1) := by decide +kernel
theorem dX0_waysTied_15 : decode cX0_waysTied 15 = .ok (.isub, 1) := by decide +kernel
theorem dX0_waysTied_16 : decode cX0_waysTied 16 = .ok (.aload_n 0, 1) := by decide +kernel
theorem dX0_waysTied_17 : decode cX0_waysTied 17 = .ok (.getfield 53, 3) := by decide +kernel
theorem dX0_waysTied_20 : decode cX0_waysTied 20 = .ok (.iload_n 1, 1) := by decide +kernel
theorem dX0_waysTied_21 : decode cX0_waysTied 21 = .ok (.ishr, 1) := by decide +kernel
theorem dX0_waysTied_22 : decode cX0_waysTied 22 = .ok (.invokestatic 25, 3) := by decide +kernel
theorem dX0_waysTied_25 : decode cX0_waysTied 25 = .ok (.isub, 1) := by decide +kernel
theorem dX0_waysTied_26 : decode cX0_waysTied 26 = .ok (.invokestatic 60, 3) := by decide +kernel
theorem dX0_waysTied_29 : decode cX0_waysTied 29 = .ok (.lreturn, 1) := by decide +kernel
theorem dX0_waysTied_30 : decode cX0_waysTied 30 = .ok (.iload_n 1, 1) := by decide +kernel
theorem dX0_waysTied_31 : decode cX0_waysTied 31 = .ok (.aload_n 0, 1) := by decide +kernel
theorem dX0_waysTied_32 : decode cX0_waysTied 32 = .ok (.getfield 39, 3) := by decide +kernel
theorem dX0_waysTied_35 : decode cX0_waysTied 35 = .ok (.if_icmp .lt 5, 3) := by decide +kernel
theorem dX0_waysTied_38 : decode cX0_waysTied 38 = .ok (.lconst 0, 1) := by decide +kernel
theorem dX0_waysTied_39 : decode cX0_waysTied 39 = .ok (.lreturn, 1) := by decide +kernel
theorem dX0_waysTied_40 : decode cX0_waysTied 40 = .ok (.aload_n 0, 1) := by decide +kernel
theorem dX0_waysTied_41 : decode cX0_waysTied 41 = .ok (.iload_n 1, 1) := by decide +kernel
theorem dX0_waysTied_42 : decode cX0_waysTied 42 = .ok (.iconst 1, 1) := by decide +kernel
theorem dX0_waysTied_43 : decode cX0_waysTied 43 = .ok (.iadd, 1) := by decide +kernel
theorem dX0_waysTied_44 : decode cX0_waysTied 44 = .ok (.iload_n 2, 1) := by decide +kernel
theorem dX0_waysTied_45 : decode cX0_waysTied 45 = .ok (.iload_n 3, 1) := by decide +kernel
theorem dX0_waysTied_46 : decode cX0_waysTied 46 = .ok (.iload 4, 2) := by decide +kernel
theorem dX0_waysTied_48 : decode cX0_waysTied 48 = .ok (.invokestatic 64, 3) := by decide +kernel
theorem dX0_waysTied_51 : decode cX0_waysTied 51 = .ok (.lstore 5, 2) := by decide +kernel
theorem dX0_waysTied_53 : decode cX0_waysTied 53 = .ok (.aload_n 0, 1) := by decide +kernel
theorem dX0_waysTied_54 : decode cX0_waysTied 54 = .ok (.iload_n 1, 1) := by decide +kernel
theorem dX0_waysTied_55 : decode cX0_waysTied 55 = .ok (.invokevirtual 46, 3) := by decide +kernel
theorem dX0_waysTied_58 : decode cX0_waysTied 58 = .ok (.ifCond .eq 6, 3) := by decide +kernel
theorem dX0_waysTied_61 : decode cX0_waysTied 61 = .ok (.lload 5, 2) := by decide +kernel
theorem dX0_waysTied_63 : decode cX0_waysTied 63 = .ok (.lreturn, 1) := by decide +kernel
theorem dX0_waysTied_64 : decode cX0_waysTied 64 = .ok (.iload_n 2, 1) := by decide +kernel
theorem dX0_waysTied_65 : decode cX0_waysTied 65 = .ok (.aload_n 0, 1) := by decide +kernel
theorem dX0_waysTied_66 : decode cX0_waysTied 66 = .ok (.getfield 42, 3) := by decide +kernel
theorem dX0_waysTied_69 : decode cX0_waysTied 69 = .ok (.iload_n 1, 1) := by decide +kernel
theorem dX0_waysTied_70 : decode cX0_waysTied 70 = .ok (.iaload, 1) := by decide +kernel
theorem dX0_waysTied_71 : decode cX0_waysTied 71 = .ok (.invokestatic 72, 3) := by decide +kernel
theorem dX0_waysTied_74 : decode cX0_waysTied 74 = .ok (.istore 7, 2) := by decide +kernel
theorem dX0_waysTied_76 : decode cX0_waysTied 76 = .ok (.iload_n 2, 1) := by decide +kernel
theorem dX0_waysTied_77 : decode cX0_waysTied 77 = .ok (.aload_n 0, 1) := by decide +kernel
theorem dX0_waysTied_78 : decode cX0_waysTied 78 = .ok (.getfield 50, 3) := by decide +kernel
theorem dX0_waysTied_81 : decode cX0_waysTied 81 = .ok (.iload_n 1, 1) := by decide +kernel
theorem dX0_waysTied_82 : decode cX0_waysTied 82 = .ok (.iaload, 1) := by decide +kernel
theorem dX0_waysTied_83 : decode cX0_waysTied 83 = .ok (.invokestatic 72, 3) := by decide +kernel
theorem dX0_waysTied_86 : decode cX0_waysTied 86 = .ok (.istore 8, 2) := by decide +kernel
theorem dX0_waysTied_88 : decode cX0_waysTied 88 = .ok (.iload 7, 2) := by decide +kernel
theorem dX0_waysTied_90 : decode cX0_waysTied 90 = .ok (.iload 8, 2) := by decide +kernel
theorem dX0_waysTied_92 : decode cX0_waysTied 92 = .ok (.if_icmp .ne 10, 3) := by decide +kernel
theorem dX0_waysTied_95 : decode cX0_waysTied 95 = .ok (.iload 4, 2) := by decide +kernel
theorem dX0_waysTied_97 : decode cX0_waysTied 97 = .ok (.i2l, 1) := by decide +kernel
theorem dX0_waysTied_98 : decode cX0_waysTied 98 = .ok (.lload 5, 2) := by decide +kernel
theorem dX0_waysTied_100 : decode cX0_waysTied 100 = .ok (.lmul, 1) := by decide +kernel
theorem dX0_waysTied_101 : decode cX0_waysTied 101 = .ok (.lreturn, 1) := by decide +kernel
theorem dX0_waysTied_102 : decode cX0_waysTied 102 = .ok (.lload 5, 2) := by decide +kernel
theorem dX0_waysTied_104 : decode cX0_waysTied 104 = .ok (.iload 4, 2) := by decide +kernel
theorem dX0_waysTied_106 : decode cX0_waysTied 106 = .ok (.iconst 1, 1) := by decide +kernel
theorem dX0_waysTied_107 : decode cX0_waysTied 107 = .ok (.isub, 1) := by decide +kernel
theorem dX0_waysTied_108 : decode cX0_waysTied 108 = .ok (.i2l, 1) := by decide +kernel
theorem dX0_waysTied_109 : decode cX0_waysTied 109 = .ok (.aload_n 0, 1) := by decide +kernel
theorem dX0_waysTied_110 : decode cX0_waysTied 110 = .ok (.iload_n 1, 1) := by decide +kernel
theorem dX0_waysTied_111 : decode cX0_waysTied 111 = .ok (.iconst 1, 1) := by decide +kernel
theorem dX0_waysTied_112 : decode cX0_waysTied 112 = .ok (.iadd, 1) := by decide +kernel
theorem dX0_waysTied_113 : decode cX0_waysTied 113 = .ok (.iload_n 2, 1) := by decide +kernel
theorem dX0_waysTied_114 : decode cX0_waysTied 114 = .ok (.iload 7, 2) := by decide +kernel
theorem dX0_waysTied_116 : decode cX0_waysTied 116 = .ok (.iload 8, 2) := by decide +kernel
theorem dX0_waysTied_118 : decode cX0_waysTied 118 = .ok (.invokestatic 75, 3) := by decide +kernel
theorem dX0_waysTied_121 : decode cX0_waysTied 121 = .ok (.iload_n 3, 1) := by decide +kernel
theorem dX0_waysTied_122 : decode cX0_waysTied 122 = .ok (.iload 4, 2) := by decide +kernel
theorem dX0_waysTied_124 : decode cX0_waysTied 124 = .ok (.invokestatic 64, 3) := by decide +kernel
theorem dX0_waysTied_127 : decode cX0_waysTied 127 = .ok (.lmul, 1) := by decide +kernel
theorem dX0_waysTied_128 : decode cX0_waysTied 128 = .ok (.ladd, 1) := by decide +kernel
theorem dX0_waysTied_129 : decode cX0_waysTied 129 = .ok (.lreturn, 1) := by decide +kernel
theorem dX0_isOneClan_0 : decode cX0_isOneClan 0 = .ok (.iload_n 1, 1) := by decide +kernel
theorem dX0_isOneClan_1 : decode cX0_isOneClan 1 = .ok (.invokestatic 79, 3) := by decide +kernel
theorem dX0_isOneClan_4 : decode cX0_isOneClan 4 = .ok (.istore_n 2, 1) := by decide +kernel
theorem dX0_isOneClan_5 : decode cX0_isOneClan 5 = .ok (.iload_n 1, 1) := by decide +kernel
theorem dX0_isOneClan_6 : decode cX0_isOneClan 6 = .ok (.iload_n 1, 1) := by decide +kernel
theorem dX0_isOneClan_7 : decode cX0_isOneClan 7 = .ok (.iconst 1, 1) := by decide +kernel
theorem dX0_isOneClan_8 : decode cX0_isOneClan 8 = .ok (.isub, 1) := by decide +kernel
theorem dX0_isOneClan_9 : decode cX0_isOneClan 9 = .ok (.iand, 1) := by decide +kernel
theorem dX0_isOneClan_10 : decode cX0_isOneClan 10 = .ok (.invokestatic 79, 3) := by decide +kernel
theorem dX0_isOneClan_13 : decode cX0_isOneClan 13 = .ok (.istore_n 3, 1) := by decide +kernel
theorem dX0_isOneClan_14 : decode cX0_isOneClan 14 = .ok (.iload_n 0, 1) := by decide +kernel
theorem dX0_isOneClan_15 : decode cX0_isOneClan 15 = .ok (.iload_n 2, 1) := by decide +kernel
theorem dX0_isOneClan_16 : decode cX0_isOneClan 16 = .ok (.invokestatic 72, 3) := by decide +kernel
theorem dX0_isOneClan_19 : decode cX0_isOneClan 19 = .ok (.iload_n 0, 1) := by decide +kernel
theorem dX0_isOneClan_20 : decode cX0_isOneClan 20 = .ok (.iload_n 3, 1) := by decide +kernel
theorem dX0_isOneClan_21 : decode cX0_isOneClan 21 = .ok (.invokestatic 72, 3) := by decide +kernel
theorem dX0_isOneClan_24 : decode cX0_isOneClan 24 = .ok (.if_icmp .ne 7, 3) := by decide +kernel
theorem dX0_isOneClan_27 : decode cX0_isOneClan 27 = .ok (.iconst 1, 1) := by decide +kernel
theorem dX0_isOneClan_28 : decode cX0_isOneClan 28 = .ok (.goto 4, 3) := by decide +kernel
theorem dX0_isOneClan_31 : decode cX0_isOneClan 31 = .ok (.iconst 0, 1) := by decide +kernel
theorem dX0_isOneClan_32 : decode cX0_isOneClan 32 = .ok (.ireturn, 1) := by decide +kernel
theorem dX0_labelOf_0 : decode cX0_labelOf 0 = .ok (.iload_n 0, 1) := by decide +kernel
theorem dX0_labelOf_1 : decode cX0_labelOf 1 = .ok (.iconst 3, 1) := by decide +kernel
theorem dX0_labelOf_2 : decode cX0_labelOf 2 = .ok (.iload_n 1, 1) := by decide +kernel
theorem dX0_labelOf_3 : decode cX0_labelOf 3 = .ok (.imul, 1) := by decide +kernel
theorem dX0_labelOf_4 : decode cX0_labelOf 4 = .ok (.ishr, 1) := by decide +kernel
theorem dX0_labelOf_5 : decode cX0_labelOf 5 = .ok (.bipush 7, 2) := by decide +kernel
theorem dX0_labelOf_7 : decode cX0_labelOf 7 = .ok (.iand, 1) := by decide +kernel
theorem dX0_labelOf_8 : decode cX0_labelOf 8 = .ok (.ireturn, 1) := by decide +kernel
theorem dX0_merged_0 : decode cX0_merged 0 = .ok (.iload_n 0, 1) := by decide +kernel
theorem dX0_merged_1 : decode cX0_merged 1 = .ok (.istore_n 3, 1) := by decide +kernel
theorem dX0_merged_2 : decode cX0_merged 2 = .ok (.iconst 0, 1) := by decide +kernel
theorem dX0_merged_3 : decode cX0_merged 3 = .ok (.istore 4, 2) := by decide +kernel
theorem dX0_merged_5 : decode cX0_merged 5 = .ok (.iload 4, 2) := by decide +kernel
theorem dX0_merged_7 : decode cX0_merged 7 = .ok (.bipush 7, 2) := by decide +kernel
theorem dX0_merged_9 : decode cX0_merged 9 = .ok (.if_icmp .ge 38, 3) := by decide +kernel
theorem dX0_merged_12 : decode cX0_merged 12 = .ok (.iload_n 0, 1) := by decide +kernel
theorem dX0_merged_13 : decode cX0_merged 13 = .ok (.iload 4, 2) := by decide +kernel
theorem dX0_merged_15 : decode cX0_merged 15 = .ok (.invokestatic 72, 3) := by decide +kernel
theorem dX0_merged_18 : decode cX0_merged 18 = .ok (.iload_n 2, 1) := by decide +kernel
theorem dX0_merged_19 : decode cX0_merged 19 = .ok (.if_icmp .ne 22, 3) := by decide +kernel
theorem dX0_merged_22 : decode cX0_merged 22 = .ok (.iload_n 3, 1) := by decide +kernel
theorem dX0_merged_23 : decode cX0_merged 23 = .ok (.bipush 7, 2) := by decide +kernel
theorem dX0_merged_25 : decode cX0_merged 25 = .ok (.iconst 3, 1) := by decide +kernel
theorem dX0_merged_26 : decode cX0_merged 26 = .ok (.iload 4, 2) := by decide +kernel
theorem dX0_merged_28 : decode cX0_merged 28 = .ok (.imul, 1) := by decide +kernel
theorem dX0_merged_29 : decode cX0_merged 29 = .ok (.ishl, 1) := by decide +kernel
theorem dX0_merged_30 : decode cX0_merged 30 = .ok (.iconst (-1), 1) := by decide +kernel
theorem dX0_merged_31 : decode cX0_merged 31 = .ok (.ixor, 1) := by decide +kernel
theorem dX0_merged_32 : decode cX0_merged 32 = .ok (.iand, 1) := by decide +kernel
theorem dX0_merged_33 : decode cX0_merged 33 = .ok (.iload_n 1, 1) := by decide +kernel
theorem dX0_merged_34 : decode cX0_merged 34 = .ok (.iconst 3, 1) := by decide +kernel
theorem dX0_merged_35 : decode cX0_merged 35 = .ok (.iload 4, 2) := by decide +kernel
theorem dX0_merged_37 : decode cX0_merged 37 = .ok (.imul, 1) := by decide +kernel
theorem dX0_merged_38 : decode cX0_merged 38 = .ok (.ishl, 1) := by decide +kernel
theorem dX0_merged_39 : decode cX0_merged 39 = .ok (.ior, 1) := by decide +kernel
theorem dX0_merged_40 : decode cX0_merged 40 = .ok (.istore_n 3, 1) := by decide +kernel
theorem dX0_merged_41 : decode cX0_merged 41 = .ok (.iinc 4 1, 3) := by decide +kernel
theorem dX0_merged_44 : decode cX0_merged 44 = .ok (.goto (-39), 3) := by decide +kernel
theorem dX0_merged_47 : decode cX0_merged 47 = .ok (.iload_n 3, 1) := by decide +kernel
theorem dX0_merged_48 : decode cX0_merged 48 = .ok (.ireturn, 1) := by decide +kernel
theorem dX0_power_0 : decode cX0_power 0 = .ok (.lconst 1, 1) := by decide +kernel
theorem dX0_power_1 : decode cX0_power 1 = .ok (.lstore_n 2, 1) := by decide +kernel
theorem dX0_power_2 : decode cX0_power 2 = .ok (.iconst 0, 1) := by decide +kernel
theorem dX0_power_3 : decode cX0_power 3 = .ok (.istore 4, 2) := by decide +kernel
theorem dX0_power_5 : decode cX0_power 5 = .ok (.iload 4, 2) := by decide +kernel
theorem dX0_power_7 : decode cX0_power 7 = .ok (.iload_n 1, 1) := by decide +kernel
theorem dX0_power_8 : decode cX0_power 8 = .ok (.if_icmp .ge 14, 3) := by decide +kernel
theorem dX0_power_11 : decode cX0_power 11 = .ok (.lload_n 2, 1) := by decide +kernel
theorem dX0_power_12 : decode cX0_power 12 = .ok (.iload_n 0, 1) := by decide +kernel
theorem dX0_power_13 : decode cX0_power 13 = .ok (.i2l, 1) := by decide +kernel
theorem dX0_power_14 : decode cX0_power 14 = .ok (.lmul, 1) := by decide +kernel
theorem dX0_power_15 : decode cX0_power 15 = .ok (.lstore_n 2, 1) := by decide +kernel
theorem dX0_power_16 : decode cX0_power 16 = .ok (.iinc 4 1, 3) := by decide +kernel
theorem dX0_power_19 : decode cX0_power 19 = .ok (.goto (-14), 3) := by decide +kernel
theorem dX0_power_22 : decode cX0_power 22 = .ok (.lload_n 2, 1) := by decide +kernel
theorem dX0_power_23 : decode cX0_power 23 = .ok (.lreturn, 1) := by decide +kernel
theorem dX1_init_0 : decode cX1_init 0 = .ok (.aload_n 0, 1) := by decide +kernel
theorem dX1_init_1 : decode cX1_init 1 = .ok (.invokespecial 3, 3) := by decide +kernel
theorem dX1_init_4 : decode cX1_init 4 = .ok (.aload_n 0, 1) := by decide +kernel
theorem dX1_init_5 : decode cX1_init 5 = .ok (.aload_n 1, 1) := by decide +kernel
theorem dX1_init_6 : decode cX1_init 6 = .ok (.putfield 9, 3) := by decide +kernel
theorem dX1_init_9 : decode cX1_init 9 = .ok (.aload_n 0, 1) := by decide +kernel
theorem dX1_init_10 : decode cX1_init 10 = .ok (.aload_n 2, 1) := by decide +kernel
theorem dX1_init_11 : decode cX1_init 11 = .ok (.putfield 15, 3) := by decide +kernel
theorem dX1_init_14 : decode cX1_init 14 = .ok (.return_, 1) := by decide +kernel
theorem dX1_areGoings_0 : decode cX1_areGoings 0 = .ok (.iconst 0, 1) := by decide +kernel
theorem dX1_areGoings_1 : decode cX1_areGoings 1 = .ok (.istore_n 2, 1) := by decide +kernel
theorem dX1_areGoings_2 : decode cX1_areGoings 2 = .ok (.iload_n 2, 1) := by decide +kernel
theorem dX1_areGoings_3 : decode cX1_areGoings 3 = .ok (.aload_n 1, 1) := by decide +kernel
theorem dX1_areGoings_4 : decode cX1_areGoings 4 = .ok (.getfield 18, 3) := by decide +kernel
theorem dX1_areGoings_7 : decode cX1_areGoings 7 = .ok (.if_icmp .ge 41, 3) := by decide +kernel
theorem dX1_areGoings_10 : decode cX1_areGoings 10 = .ok (.aload_n 0, 1) := by decide +kernel
theorem dX1_areGoings_11 : decode cX1_areGoings 11 = .ok (.getfield 9, 3) := by decide +kernel
theorem dX1_areGoings_14 : decode cX1_areGoings 14 = .ok (.aload_n 1, 1) := by decide +kernel
theorem dX1_areGoings_15 : decode cX1_areGoings 15 = .ok (.iload_n 2, 1) := by decide +kernel
theorem dX1_areGoings_16 : decode cX1_areGoings 16 = .ok (.invokevirtual 24, 3) := by decide +kernel
theorem dX1_areGoings_19 : decode cX1_areGoings 19 = .ok (.invokevirtual 28, 3) := by decide +kernel
theorem dX1_areGoings_22 : decode cX1_areGoings 22 = .ok (.ifCond .eq 18, 3) := by decide +kernel
theorem dX1_areGoings_25 : decode cX1_areGoings 25 = .ok (.aload_n 1, 1) := by decide +kernel
theorem dX1_areGoings_26 : decode cX1_areGoings 26 = .ok (.iload_n 2, 1) := by decide +kernel
theorem dX1_areGoings_27 : decode cX1_areGoings 27 = .ok (.iconst 1, 1) := by decide +kernel
theorem dX1_areGoings_28 : decode cX1_areGoings 28 = .ok (.iadd, 1) := by decide +kernel
theorem dX1_areGoings_29 : decode cX1_areGoings 29 = .ok (.invokevirtual 24, 3) := by decide +kernel
theorem dX1_areGoings_32 : decode cX1_areGoings 32 = .ok (.bipush 30, 2) := by decide +kernel
theorem dX1_areGoings_34 : decode cX1_areGoings 34 = .ok (.invokestatic 34, 3) := by decide +kernel
theorem dX1_areGoings_37 : decode cX1_areGoings 37 = .ok (.ifCond .ne 5, 3) := by decide +kernel
theorem dX1_areGoings_40 : decode cX1_areGoings 40 = .ok (.iconst 0, 1) := by decide +kernel
theorem dX1_areGoings_41 : decode cX1_areGoings 41 = .ok (.ireturn, 1) := by decide +kernel
theorem dX1_areGoings_42 : decode cX1_areGoings 42 = .ok (.iinc 2 2, 3) := by decide +kernel
theorem dX1_areGoings_45 : decode cX1_areGoings 45 = .ok (.goto (-43), 3) := by decide +kernel
theorem dX1_areGoings_48 : decode cX1_areGoings 48 = .ok (.aload_n 1, 1) := by decide +kernel
theorem dX1_areGoings_49 : decode cX1_areGoings 49 = .ok (.getfield 18, 3) := by decide +kernel
theorem dX1_areGoings_52 : decode cX1_areGoings 52 = .ok (.iconst 2, 1) := by decide +kernel
theorem dX1_areGoings_53 : decode cX1_areGoings 53 = .ok (.irem, 1) := by decide +kernel
theorem dX1_areGoings_54 : decode cX1_areGoings 54 = .ok (.ifCond .ne 7, 3) := by decide +kernel
theorem dX1_areGoings_57 : decode cX1_areGoings 57 = .ok (.iconst 1, 1) := by decide +kernel
theorem dX1_areGoings_58 : decode cX1_areGoings 58 = .ok (.goto 4, 3) := by decide +kernel
theorem dX1_areGoings_61 : decode cX1_areGoings 61 = .ok (.iconst 0, 1) := by decide +kernel
theorem dX1_areGoings_62 : decode cX1_areGoings 62 = .ok (.ireturn, 1) := by decide +kernel
theorem dX1_firstSnapping_0 : decode cX1_firstSnapping 0 = .ok (.aload_n 0, 1) := by decide +kernel
theorem dX1_firstSnapping_1 : decode cX1_firstSnapping 1 = .ok (.getfield 15, 3) := by decide +kernel
theorem dX1_firstSnapping_4 : decode cX1_firstSnapping 4 = .ok (.aload_n 0, 1) := by decide +kernel
theorem dX1_firstSnapping_5 : decode cX1_firstSnapping 5 = .ok (.getfield 9, 3) := by decide +kernel
theorem dX1_firstSnapping_8 : decode cX1_firstSnapping 8 = .ok (.invokevirtual 38, 3) := by decide +kernel
theorem dX1_firstSnapping_11 : decode cX1_firstSnapping 11 = .ok (.iconst 0, 1) := by decide +kernel
theorem dX1_firstSnapping_12 : decode cX1_firstSnapping 12 = .ok (.istore_n 2, 1) := by decide +kernel
theorem dX1_firstSnapping_13 : decode cX1_firstSnapping 13 = .ok (.iload_n 2, 1) := by decide +kernel
theorem dX1_firstSnapping_14 : decode cX1_firstSnapping 14 = .ok (.aload_n 1, 1) := by decide +kernel
theorem dX1_firstSnapping_15 : decode cX1_firstSnapping 15 = .ok (.getfield 18, 3) := by decide +kernel
theorem dX1_firstSnapping_18 : decode cX1_firstSnapping 18 = .ok (.iconst 2, 1) := by decide +kernel
theorem dX1_firstSnapping_19 : decode cX1_firstSnapping 19 = .ok (.idiv, 1) := by decide +kernel
theorem dX1_firstSnapping_20 : decode cX1_firstSnapping 20 = .ok (.if_icmp .ge 37, 3) := by decide +kernel
theorem dX1_firstSnapping_23 : decode cX1_firstSnapping 23 = .ok (.aload_n 0, 1) := by decide +kernel
theorem dX1_firstSnapping_24 : decode cX1_firstSnapping 24 = .ok (.getfield 15, 3) := by decide +kernel
theorem dX1_firstSnapping_27 : decode cX1_firstSnapping 27 = .ok (.aload_n 1, 1) := by decide +kernel
theorem dX1_firstSnapping_28 : decode cX1_firstSnapping 28 = .ok (.iconst 2, 1) := by decide +kernel
theorem dX1_firstSnapping_29 : decode cX1_firstSnapping 29 = .ok (.iload_n 2, 1) := by decide +kernel
theorem dX1_firstSnapping_30 : decode cX1_firstSnapping 30 = .ok (.imul, 1) := by decide +kernel
theorem dX1_firstSnapping_31 : decode cX1_firstSnapping 31 = .ok (.invokevirtual 24, 3) := by decide +kernel
theorem dX1_firstSnapping_34 : decode cX1_firstSnapping 34 = .ok (.aload_n 1, 1) := by decide +kernel
theorem dX1_firstSnapping_35 : decode cX1_firstSnapping 35 = .ok (.iconst 2, 1) := by decide +kernel
theorem dX1_firstSnapping_36 : decode cX1_firstSnapping 36 = .ok (.iload_n 2, 1) := by decide +kernel
theorem dX1_firstSnapping_37 : decode cX1_firstSnapping 37 = .ok (.imul, 1) := by decide +kernel
theorem dX1_firstSnapping_38 : decode cX1_firstSnapping 38 = .ok (.iconst 1, 1) := by decide +kernel
theorem dX1_firstSnapping_39 : decode cX1_firstSnapping 39 = .ok (.iadd, 1) := by decide +kernel
theorem dX1_firstSnapping_40 : decode cX1_firstSnapping 40 = .ok (.invokevirtual 24, 3) := by decide +kernel
theorem dX1_firstSnapping_43 : decode cX1_firstSnapping 43 = .ok (.invokevirtual 42, 3) := by decide +kernel
theorem dX1_firstSnapping_46 : decode cX1_firstSnapping 46 = .ok (.ifCond .le 5, 3) := by decide +kernel
theorem dX1_firstSnapping_49 : decode cX1_firstSnapping 49 = .ok (.iload_n 2, 1) := by decide +kernel
theorem dX1_firstSnapping_50 : decode cX1_firstSnapping 50 = .ok (.ireturn, 1) := by decide +kernel
theorem dX1_firstSnapping_51 : decode cX1_firstSnapping 51 = .ok (.iinc 2 1, 3) := by decide +kernel
theorem dX1_firstSnapping_54 : decode cX1_firstSnapping 54 = .ok (.goto (-41), 3) := by decide +kernel
theorem dX1_firstSnapping_57 : decode cX1_firstSnapping 57 = .ok (.bipush (-4), 2) := by decide +kernel
theorem dX1_firstSnapping_59 : decode cX1_firstSnapping 59 = .ok (.ireturn, 1) := by decide +kernel
theorem dX1_harmOf_0 : decode cX1_harmOf 0 = .ok (.aload_n 0, 1) := by decide +kernel
theorem dX1_harmOf_1 : decode cX1_harmOf 1 = .ok (.iload_n 2, 1) := by decide +kernel
theorem dX1_harmOf_2 : decode cX1_harmOf 2 = .ok (.putfield 46, 3) := by decide +kernel
theorem dX1_harmOf_5 : decode cX1_harmOf 5 = .ok (.iconst 0, 1) := by decide +kernel
theorem dX1_harmOf_6 : decode cX1_harmOf 6 = .ok (.istore 4, 2) := by decide +kernel
theorem dX1_harmOf_8 : decode cX1_harmOf 8 = .ok (.iconst 0, 1) := by decide +kernel
theorem dX1_harmOf_9 : decode cX1_harmOf 9 = .ok (.istore 5, 2) := by decide +kernel
theorem dX1_harmOf_11 : decode cX1_harmOf 11 = .ok (.iload 5, 2) := by decide +kernel
theorem dX1_harmOf_13 : decode cX1_harmOf 13 = .ok (.iload_n 1, 1) := by decide +kernel
theorem dX1_harmOf_14 : decode cX1_harmOf 14 = .ok (.if_icmp .ge 55, 3) := by decide +kernel
theorem dX1_harmOf_17 : decode cX1_harmOf 17 = .ok (.aload_n 0, 1) := by decide +kernel
theorem dX1_harmOf_18 : decode cX1_harmOf 18 = .ok (.invokevirtual 49, 3) := by decide +kernel
theorem dX1_harmOf_21 : decode cX1_harmOf 21 = .ok (.iload 4, 2) := by decide +kernel
theorem dX1_harmOf_23 : decode cX1_harmOf 23 = .ok (.iload_n 3, 1) := by decide +kernel
theorem dX1_harmOf_24 : decode cX1_harmOf 24 = .ok (.ifCond .eq 21, 3) := by decide +kernel
theorem dX1_harmOf_27 : decode cX1_harmOf 27 = .ok (.aload_n 0, 1) := by decide +kernel
theorem dX1_harmOf_28 : decode cX1_harmOf 28 = .ok (.getfield 15, 3) := by decide +kernel
theorem dX1_harmOf_31 : decode cX1_harmOf 31 = .ok (.invokevirtual 52, 3) := by decide +kernel
theorem dX1_harmOf_34 : decode cX1_harmOf 34 = .ok (.aload_n 0, 1) := by decide +kernel
theorem dX1_harmOf_35 : decode cX1_harmOf 35 = .ok (.getfield 9, 3) := by decide +kernel
theorem dX1_harmOf_38 : decode cX1_harmOf 38 = .ok (.invokevirtual 52, 3) := by decide +kernel
theorem dX1_harmOf_41 : decode cX1_harmOf 41 = .ok (.isub, 1) := by decide +kernel
theorem dX1_harmOf_42 : decode cX1_harmOf 42 = .ok (.goto 18, 3) := by decide +kernel
theorem dX1_harmOf_45 : decode cX1_harmOf 45 = .ok (.aload_n 0, 1) := by decide +kernel
theorem dX1_harmOf_46 : decode cX1_harmOf 46 = .ok (.getfield 15, 3) := by decide +kernel
theorem dX1_harmOf_49 : decode cX1_harmOf 49 = .ok (.invokevirtual 56, 3) := by decide +kernel
theorem dX1_harmOf_52 : decode cX1_harmOf 52 = .ok (.aload_n 0, 1) := by decide +kernel
theorem dX1_harmOf_53 : decode cX1_harmOf 53 = .ok (.getfield 9, 3) := by decide +kernel
theorem dX1_harmOf_56 : decode cX1_harmOf 56 = .ok (.invokevirtual 56, 3) := by decide +kernel
theorem dX1_harmOf_59 : decode cX1_harmOf 59 = .ok (.isub, 1) := by decide +kernel
theorem dX1_harmOf_60 : decode cX1_harmOf 60 = .ok (.iadd, 1) := by decide +kernel
theorem dX1_harmOf_61 : decode cX1_harmOf 61 = .ok (.istore 4, 2) := by decide +kernel
theorem dX1_harmOf_63 : decode cX1_harmOf 63 = .ok (.iinc 5 1, 3) := by decide +kernel
theorem dX1_harmOf_66 : decode cX1_harmOf 66 = .ok (.goto (-55), 3) := by decide +kernel
theorem dX1_harmOf_69 : decode cX1_harmOf 69 = .ok (.iload 4, 2) := by decide +kernel
theorem dX1_harmOf_71 : decode cX1_harmOf 71 = .ok (.ireturn, 1) := by decide +kernel
theorem dX1_liveOne_0 : decode cX1_liveOne 0 = .ok (.aload_n 0, 1) := by decide +kernel
theorem dX1_liveOne_1 : decode cX1_liveOne 1 = .ok (.getfield 15, 3) := by decide +kernel
theorem dX1_liveOne_4 : decode cX1_liveOne 4 = .ok (.aload_n 0, 1) := by decide +kernel
theorem dX1_liveOne_5 : decode cX1_liveOne 5 = .ok (.getfield 9, 3) := by decide +kernel
theorem dX1_liveOne_8 : decode cX1_liveOne 8 = .ok (.invokevirtual 38, 3) := by decide +kernel
theorem dX1_liveOne_11 : decode cX1_liveOne 11 = .ok (.iconst 0, 1) := by decide +kernel
theorem dX1_liveOne_12 : decode cX1_liveOne 12 = .ok (.istore_n 1, 1) := by decide +kernel
theorem dX1_liveOne_13 : decode cX1_liveOne 13 = .ok (.iload_n 1, 1) := by decide +kernel
theorem dX1_liveOne_14 : decode cX1_liveOne 14 = .ok (.bipush 10, 2) := by decide +kernel
theorem dX1_liveOne_16 : decode cX1_liveOne 16 = .ok (.if_icmp .ge 36, 3) := by decide +kernel
theorem dX1_liveOne_19 : decode cX1_liveOne 19 = .ok (.aload_n 0, 1) := by decide +kernel
theorem dX1_liveOne_20 : decode cX1_liveOne 20 = .ok (.aload_n 0, 1) := by decide +kernel
theorem dX1_liveOne_21 : decode cX1_liveOne 21 = .ok (.getfield 15, 3) := by decide +kernel
theorem dX1_liveOne_24 : decode cX1_liveOne 24 = .ok (.getfield 59, 3) := by decide +kernel
theorem dX1_liveOne_27 : decode cX1_liveOne 27 = .ok (.invokevirtual 62, 3) := by decide +kernel
theorem dX1_liveOne_30 : decode cX1_liveOne 30 = .ok (.istore_n 2, 1) := by decide +kernel
theorem dX1_liveOne_31 : decode cX1_liveOne 31 = .ok (.aload_n 0, 1) := by decide +kernel
theorem dX1_liveOne_32 : decode cX1_liveOne 32 = .ok (.getfield 15, 3) := by decide +kernel
theorem dX1_liveOne_35 : decode cX1_liveOne 35 = .ok (.iload_n 2, 1) := by decide +kernel
theorem dX1_liveOne_36 : decode cX1_liveOne 36 = .ok (.aload_n 0, 1) := by decide +kernel
theorem dX1_liveOne_37 : decode cX1_liveOne 37 = .ok (.bipush 31, 2) := by decide +kernel
theorem dX1_liveOne_39 : decode cX1_liveOne 39 = .ok (.invokevirtual 62, 3) := by decide +kernel
theorem dX1_liveOne_42 : decode cX1_liveOne 42 = .ok (.invokevirtual 42, 3) := by decide +kernel
theorem dX1_liveOne_45 : decode cX1_liveOne 45 = .ok (.pop, 1) := by decide +kernel
theorem dX1_liveOne_46 : decode cX1_liveOne 46 = .ok (.iinc 1 1, 3) := by decide +kernel
theorem dX1_liveOne_49 : decode cX1_liveOne 49 = .ok (.goto (-36), 3) := by decide +kernel
theorem dX1_liveOne_52 : decode cX1_liveOne 52 = .ok (.return_, 1) := by decide +kernel
theorem dX1_drawBelow_0 : decode cX1_drawBelow 0 = .ok (.aload_n 0, 1) := by decide +kernel
theorem dX1_drawBelow_1 : decode cX1_drawBelow 1 = .ok (.aload_n 0, 1) := by decide +kernel
theorem dX1_drawBelow_2 : decode cX1_drawBelow 2 = .ok (.getfield 46, 3) := by decide +kernel
theorem dX1_drawBelow_5 : decode cX1_drawBelow 5 = .ok (.ldc 65, 2) := by decide +kernel
theorem dX1_drawBelow_7 : decode cX1_drawBelow 7 = .ok (.imul, 1) := by decide +kernel
theorem dX1_drawBelow_8 : decode cX1_drawBelow 8 = .ok (.sipush 12345, 3) := by decide +kernel
theorem dX1_drawBelow_11 : decode cX1_drawBelow 11 = .ok (.iadd, 1) := by decide +kernel
theorem dX1_drawBelow_12 : decode cX1_drawBelow 12 = .ok (.putfield 46, 3) := by decide +kernel
theorem dX1_drawBelow_15 : decode cX1_drawBelow 15 = .ok (.iload_n 1, 1) := by decide +kernel
theorem dX1_drawBelow_16 : decode cX1_drawBelow 16 = .ok (.ifCond .le 18, 3) := by decide +kernel
theorem dX1_drawBelow_19 : decode cX1_drawBelow 19 = .ok (.aload_n 0, 1) := by decide +kernel
theorem dX1_drawBelow_20 : decode cX1_drawBelow 20 = .ok (.getfield 46, 3) := by decide +kernel
theorem dX1_drawBelow_23 : decode cX1_drawBelow 23 = .ok (.ldc 66, 2) := by decide +kernel
theorem dX1_drawBelow_25 : decode cX1_drawBelow 25 = .ok (.iand, 1) := by decide +kernel
theorem dX1_drawBelow_26 : decode cX1_drawBelow 26 = .ok (.ldc 67, 2) := by decide +kernel
theorem dX1_drawBelow_28 : decode cX1_drawBelow 28 = .ok (.idiv, 1) := by decide +kernel
theorem dX1_drawBelow_29 : decode cX1_drawBelow 29 = .ok (.iload_n 1, 1) := by decide +kernel
theorem dX1_drawBelow_30 : decode cX1_drawBelow 30 = .ok (.irem, 1) := by decide +kernel
theorem dX1_drawBelow_31 : decode cX1_drawBelow 31 = .ok (.goto 4, 3) := by decide +kernel
theorem dX1_drawBelow_34 : decode cX1_drawBelow 34 = .ok (.iconst 0, 1) := by decide +kernel
theorem dX1_drawBelow_35 : decode cX1_drawBelow 35 = .ok (.ireturn, 1) := by decide +kernel
theorem dX2_init_0 : decode cX2_init 0 = .ok (.aload_n 0, 1) := by decide +kernel
theorem dX2_init_1 : decode cX2_init 1 = .ok (.invokespecial 3, 3) := by decide +kernel
theorem dX2_init_4 : decode cX2_init 4 = .ok (.aload_n 0, 1) := by decide +kernel
theorem dX2_init_5 : decode cX2_init 5 = .ok (.bipush 10, 2) := by decide +kernel
theorem dX2_init_7 : decode cX2_init 7 = .ok (.newarray .int, 2) := by decide +kernel
theorem dX2_init_9 : decode cX2_init 9 = .ok (.putfield 9, 3) := by decide +kernel
theorem dX2_init_12 : decode cX2_init 12 = .ok (.aload_n 0, 1) := by decide +kernel
theorem dX2_init_13 : decode cX2_init 13 = .ok (.aload_n 1, 1) := by decide +kernel
theorem dX2_init_14 : decode cX2_init 14 = .ok (.putfield 15, 3) := by decide +kernel
theorem dX2_init_17 : decode cX2_init 17 = .ok (.aload_n 0, 1) := by decide +kernel
theorem dX2_init_18 : decode cX2_init 18 = .ok (.aload_n 2, 1) := by decide +kernel
theorem dX2_init_19 : decode cX2_init 19 = .ok (.putfield 19, 3) := by decide +kernel
theorem dX2_init_22 : decode cX2_init 22 = .ok (.return_, 1) := by decide +kernel
theorem dX2_bestRenewed_0 : decode cX2_bestRenewed 0 = .ok (.iconst 0, 1) := by decide +kernel
theorem dX2_bestRenewed_1 : decode cX2_bestRenewed 1 = .ok (.istore_n 2, 1) := by decide +kernel
theorem dX2_bestRenewed_2 : decode cX2_bestRenewed 2 = .ok (.iconst 0, 1) := by decide +kernel
theorem dX2_bestRenewed_3 : decode cX2_bestRenewed 3 = .ok (.istore_n 3, 1) := by decide +kernel
theorem dX2_bestRenewed_4 : decode cX2_bestRenewed 4 = .ok (.iconst 0, 1) := by decide +kernel
theorem dX2_bestRenewed_5 : decode cX2_bestRenewed 5 = .ok (.istore 4, 2) := by decide +kernel
theorem dX2_bestRenewed_7 : decode cX2_bestRenewed 7 = .ok (.iload 4, 2) := by decide +kernel
theorem dX2_bestRenewed_9 : decode cX2_bestRenewed 9 = .ok (.aload_n 0, 1) := by decide +kernel
theorem dX2_bestRenewed_10 : decode cX2_bestRenewed 10 = .ok (.getfield 15, 3) := by decide +kernel
theorem dX2_bestRenewed_13 : decode cX2_bestRenewed 13 = .ok (.getfield 22, 3) := by decide +kernel
theorem dX2_bestRenewed_16 : decode cX2_bestRenewed 16 = .ok (.if_icmp .ge 60, 3) := by decide +kernel
theorem dX2_bestRenewed_19 : decode cX2_bestRenewed 19 = .ok (.aload_n 0, 1) := by decide +kernel
theorem dX2_bestRenewed_20 : decode cX2_bestRenewed 20 = .ok (.getfield 9, 3) := by decide +kernel
theorem dX2_bestRenewed_23 : decode cX2_bestRenewed 23 = .ok (.iload 4, 2) := by decide +kernel
theorem dX2_bestRenewed_25 : decode cX2_bestRenewed 25 = .ok (.aload_n 0, 1) := by decide +kernel
theorem dX2_bestRenewed_26 : decode cX2_bestRenewed 26 = .ok (.getfield 15, 3) := by decide +kernel
theorem dX2_bestRenewed_29 : decode cX2_bestRenewed 29 = .ok (.iload 4, 2) := by decide +kernel
theorem dX2_bestRenewed_31 : decode cX2_bestRenewed 31 = .ok (.iconst 0, 1) := by decide +kernel
theorem dX2_bestRenewed_32 : decode cX2_bestRenewed 32 = .ok (.aload_n 0, 1) := by decide +kernel
theorem dX2_bestRenewed_33 : decode cX2_bestRenewed 33 = .ok (.getfield 15, 3) := by decide +kernel
theorem dX2_bestRenewed_36 : decode cX2_bestRenewed 36 = .ok (.getfield 28, 3) := by decide +kernel
theorem dX2_bestRenewed_39 : decode cX2_bestRenewed 39 = .ok (.invokevirtual 31, 3) := by decide +kernel
theorem dX2_bestRenewed_42 : decode cX2_bestRenewed 42 = .ok (.aload_n 0, 1) := by decide +kernel
theorem dX2_bestRenewed_43 : decode cX2_bestRenewed 43 = .ok (.getfield 15, 3) := by decide +kernel
theorem dX2_bestRenewed_46 : decode cX2_bestRenewed 46 = .ok (.iload 4, 2) := by decide +kernel
theorem dX2_bestRenewed_48 : decode cX2_bestRenewed 48 = .ok (.aload_n 0, 1) := by decide +kernel
theorem dX2_bestRenewed_49 : decode cX2_bestRenewed 49 = .ok (.getfield 15, 3) := by decide +kernel
theorem dX2_bestRenewed_52 : decode cX2_bestRenewed 52 = .ok (.getfield 35, 3) := by decide +kernel
theorem dX2_bestRenewed_55 : decode cX2_bestRenewed 55 = .ok (.iload 4, 2) := by decide +kernel
theorem dX2_bestRenewed_57 : decode cX2_bestRenewed 57 = .ok (.iaload, 1) := by decide +kernel
theorem dX2_bestRenewed_58 : decode cX2_bestRenewed 58 = .ok (.aload_n 0, 1) := by decide +kernel
theorem dX2_bestRenewed_59 : decode cX2_bestRenewed 59 = .ok (.getfield 15, 3) := by decide +kernel
theorem dX2_bestRenewed_62 : decode cX2_bestRenewed 62 = .ok (.getfield 28, 3) := by decide +kernel
theorem dX2_bestRenewed_65 : decode cX2_bestRenewed 65 = .ok (.invokevirtual 31, 3) := by decide +kernel
theorem dX2_bestRenewed_68 : decode cX2_bestRenewed 68 = .ok (.isub, 1) := by decide +kernel
theorem dX2_bestRenewed_69 : decode cX2_bestRenewed 69 = .ok (.iastore, 1) := by decide +kernel
theorem dX2_bestRenewed_70 : decode cX2_bestRenewed 70 = .ok (.iinc 4 1, 3) := by decide +kernel
theorem dX2_bestRenewed_73 : decode cX2_bestRenewed 73 = .ok (.goto (-66), 3) := by decide +kernel
theorem dX2_bestRenewed_76 : decode cX2_bestRenewed 76 = .ok (.iconst 0, 1) := by decide +kernel
theorem dX2_bestRenewed_77 : decode cX2_bestRenewed 77 = .ok (.istore 4, 2) := by decide +kernel
theorem dX2_bestRenewed_79 : decode cX2_bestRenewed 79 = .ok (.iload 4, 2) := by decide +kernel
theorem dX2_bestRenewed_81 : decode cX2_bestRenewed 81 = .ok (.iconst 1, 1) := by decide +kernel
theorem dX2_bestRenewed_82 : decode cX2_bestRenewed 82 = .ok (.aload_n 0, 1) := by decide +kernel
theorem dX2_bestRenewed_83 : decode cX2_bestRenewed 83 = .ok (.getfield 15, 3) := by decide +kernel
theorem dX2_bestRenewed_86 : decode cX2_bestRenewed 86 = .ok (.getfield 22, 3) := by decide +kernel
theorem dX2_bestRenewed_89 : decode cX2_bestRenewed 89 = .ok (.ishl, 1) := by decide +kernel
theorem dX2_bestRenewed_90 : decode cX2_bestRenewed 90 = .ok (.if_icmp .ge 51, 3) := by decide +kernel
theorem dX2_bestRenewed_93 : decode cX2_bestRenewed 93 = .ok (.iload 4, 2) := by decide +kernel
theorem dX2_bestRenewed_95 : decode cX2_bestRenewed 95 = .ok (.invokestatic 38, 3) := by decide +kernel
theorem dX2_bestRenewed_98 : decode cX2_bestRenewed 98 = .ok (.iload_n 1, 1) := by decide +kernel
theorem dX2_bestRenewed_99 : decode cX2_bestRenewed 99 = .ok (.if_icmp .gt 36, 3) := by decide +kernel
theorem dX2_bestRenewed_102 : decode cX2_bestRenewed 102 = .ok (.iload 4, 2) := by decide +kernel
theorem dX2_bestRenewed_104 : decode cX2_bestRenewed 104 = .ok (.aload_n 0, 1) := by decide +kernel
theorem dX2_bestRenewed_105 : decode cX2_bestRenewed 105 = .ok (.getfield 15, 3) := by decide +kernel
theorem dX2_bestRenewed_108 : decode cX2_bestRenewed 108 = .ok (.getfield 44, 3) := by decide +kernel
theorem dX2_bestRenewed_111 : decode cX2_bestRenewed 111 = .ok (.iand, 1) := by decide +kernel
theorem dX2_bestRenewed_112 : decode cX2_bestRenewed 112 = .ok (.ifCond .ne 23, 3) := by decide +kernel
theorem dX2_bestRenewed_115 : decode cX2_bestRenewed 115 = .ok (.aload_n 0, 1) := by decide +kernel
theorem dX2_bestRenewed_116 : decode cX2_bestRenewed 116 = .ok (.iload 4, 2) := by decide +kernel
theorem dX2_bestRenewed_118 : decode cX2_bestRenewed 118 = .ok (.invokevirtual 47, 3) := by decide +kernel
theorem dX2_bestRenewed_121 : decode cX2_bestRenewed 121 = .ok (.iload_n 3, 1) := by decide +kernel
theorem dX2_bestRenewed_122 : decode cX2_bestRenewed 122 = .ok (.if_icmp .le 13, 3) := by decide +kernel
theorem dX2_bestRenewed_125 : decode cX2_bestRenewed 125 = .ok (.iload 4, 2) := by decide +kernel
theorem dX2_bestRenewed_127 : decode cX2_bestRenewed 127 = .ok (.istore_n 2, 1) := by decide +kernel
theorem dX2_bestRenewed_128 : decode cX2_bestRenewed 128 = .ok (.aload_n 0, 1) := by decide +kernel
theorem dX2_bestRenewed_129 : decode cX2_bestRenewed 129 = .ok (.iload 4, 2) := by decide +kernel
theorem dX2_bestRenewed_131 : decode cX2_bestRenewed 131 = .ok (.invokevirtual 47, 3) := by decide +kernel
theorem dX2_bestRenewed_134 : decode cX2_bestRenewed 134 = .ok (.istore_n 3, 1) := by decide +kernel
theorem dX2_bestRenewed_135 : decode cX2_bestRenewed 135 = .ok (.iinc 4 1, 3) := by decide +kernel
theorem dX2_bestRenewed_138 : decode cX2_bestRenewed 138 = .ok (.goto (-59), 3) := by decide +kernel
theorem dX2_bestRenewed_141 : decode cX2_bestRenewed 141 = .ok (.iload_n 2, 1) := by decide +kernel
theorem dX2_bestRenewed_142 : decode cX2_bestRenewed 142 = .ok (.ireturn, 1) := by decide +kernel
theorem dX2_gainOf_0 : decode cX2_gainOf 0 = .ok (.iconst 0, 1) := by decide +kernel
theorem dX2_gainOf_1 : decode cX2_gainOf 1 = .ok (.istore_n 2, 1) := by decide +kernel
theorem dX2_gainOf_2 : decode cX2_gainOf 2 = .ok (.iconst 0, 1) := by decide +kernel
theorem dX2_gainOf_3 : decode cX2_gainOf 3 = .ok (.istore_n 3, 1) := by decide +kernel
theorem dX2_gainOf_4 : decode cX2_gainOf 4 = .ok (.iload_n 3, 1) := by decide +kernel
theorem dX2_gainOf_5 : decode cX2_gainOf 5 = .ok (.aload_n 0, 1) := by decide +kernel
theorem dX2_gainOf_6 : decode cX2_gainOf 6 = .ok (.getfield 15, 3) := by decide +kernel
theorem dX2_gainOf_9 : decode cX2_gainOf 9 = .ok (.getfield 22, 3) := by decide +kernel
theorem dX2_gainOf_12 : decode cX2_gainOf 12 = .ok (.if_icmp .ge 31, 3) := by decide +kernel
theorem dX2_gainOf_15 : decode cX2_gainOf 15 = .ok (.iload_n 2, 1) := by decide +kernel
theorem dX2_gainOf_16 : decode cX2_gainOf 16 = .ok (.iload_n 1, 1) := by decide +kernel
theorem dX2_gainOf_17 : decode cX2_gainOf 17 = .ok (.iload_n 3, 1) := by decide +kernel
theorem dX2_gainOf_18 : decode cX2_gainOf 18 = .ok (.ishr, 1) := by decide +kernel
theorem dX2_gainOf_19 : decode cX2_gainOf 19 = .ok (.iconst 1, 1) := by decide +kernel
theorem dX2_gainOf_20 : decode cX2_gainOf 20 = .ok (.iand, 1) := by decide +kernel
theorem dX2_gainOf_21 : decode cX2_gainOf 21 = .ok (.iconst 1, 1) := by decide +kernel
theorem dX2_gainOf_22 : decode cX2_gainOf 22 = .ok (.if_icmp .ne 12, 3) := by decide +kernel
theorem dX2_gainOf_25 : decode cX2_gainOf 25 = .ok (.aload_n 0, 1) := by decide +kernel
theorem dX2_gainOf_26 : decode cX2_gainOf 26 = .ok (.getfield 9, 3) := by decide +kernel
theorem dX2_gainOf_29 : decode cX2_gainOf 29 = .ok (.iload_n 3, 1) := by decide +kernel
theorem dX2_gainOf_30 : decode cX2_gainOf 30 = .ok (.iaload, 1) := by decide +kernel
theorem dX2_gainOf_31 : decode cX2_gainOf 31 = .ok (.goto 4, 3) := by decide +kernel
theorem dX2_gainOf_34 : decode cX2_gainOf 34 = .ok (.iconst 0, 1) := by decide +kernel
theorem dX2_gainOf_35 : decode cX2_gainOf 35 = .ok (.iadd, 1) := by decide +kernel
theorem dX2_gainOf_36 : decode cX2_gainOf 36 = .ok (.istore_n 2, 1) := by decide +kernel
theorem dX2_gainOf_37 : decode cX2_gainOf 37 = .ok (.iinc 3 1, 3) := by decide +kernel
theorem dX2_gainOf_40 : decode cX2_gainOf 40 = .ok (.goto (-36), 3) := by decide +kernel
theorem dX2_gainOf_43 : decode cX2_gainOf 43 = .ok (.iload_n 2, 1) := by decide +kernel
theorem dX2_gainOf_44 : decode cX2_gainOf 44 = .ok (.ireturn, 1) := by decide +kernel
theorem dX2_spareWith_0 : decode cX2_spareWith 0 = .ok (.iconst 0, 1) := by decide +kernel
theorem dX2_spareWith_1 : decode cX2_spareWith 1 = .ok (.istore_n 2, 1) := by decide +kernel
theorem dX2_spareWith_2 : decode cX2_spareWith 2 = .ok (.iconst 0, 1) := by decide +kernel
theorem dX2_spareWith_3 : decode cX2_spareWith 3 = .ok (.istore_n 3, 1) := by decide +kernel
theorem dX2_spareWith_4 : decode cX2_spareWith 4 = .ok (.iload_n 3, 1) := by decide +kernel
theorem dX2_spareWith_5 : decode cX2_spareWith 5 = .ok (.aload_n 0, 1) := by decide +kernel
theorem dX2_spareWith_6 : decode cX2_spareWith 6 = .ok (.getfield 15, 3) := by decide +kernel
theorem dX2_spareWith_9 : decode cX2_spareWith 9 = .ok (.getfield 22, 3) := by decide +kernel
theorem dX2_spareWith_12 : decode cX2_spareWith 12 = .ok (.if_icmp .ge 73, 3) := by decide +kernel
theorem dX2_spareWith_15 : decode cX2_spareWith 15 = .ok (.aload_n 0, 1) := by decide +kernel
theorem dX2_spareWith_16 : decode cX2_spareWith 16 = .ok (.getfield 15, 3) := by decide +kernel
theorem dX2_spareWith_19 : decode cX2_spareWith 19 = .ok (.iload_n 3, 1) := by decide +kernel
theorem dX2_spareWith_20 : decode cX2_spareWith 20 = .ok (.invokevirtual 50, 3) := by decide +kernel
theorem dX2_spareWith_23 : decode cX2_spareWith 23 = .ok (.ifCond .ne 56, 3) := by decide +kernel
theorem dX2_spareWith_26 : decode cX2_spareWith 26 = .ok (.iload_n 1, 1) := by decide +kernel
theorem dX2_spareWith_27 : decode cX2_spareWith 27 = .ok (.iload_n 3, 1) := by decide +kernel
theorem dX2_spareWith_28 : decode cX2_spareWith 28 = .ok (.ishr, 1) := by decide +kernel
theorem dX2_spareWith_29 : decode cX2_spareWith 29 = .ok (.iconst 1, 1) := by decide +kernel
theorem dX2_spareWith_30 : decode cX2_spareWith 30 = .ok (.iand, 1) := by decide +kernel
theorem dX2_spareWith_31 : decode cX2_spareWith 31 = .ok (.iconst 1, 1) := by decide +kernel
theorem dX2_spareWith_32 : decode cX2_spareWith 32 = .ok (.if_icmp .ne 7, 3) := by decide +kernel
theorem dX2_spareWith_35 : decode cX2_spareWith 35 = .ok (.iconst 0, 1) := by decide +kernel
theorem dX2_spareWith_36 : decode cX2_spareWith 36 = .ok (.goto 12, 3) := by decide +kernel
theorem dX2_spareWith_39 : decode cX2_spareWith 39 = .ok (.aload_n 0, 1) := by decide +kernel
theorem dX2_spareWith_40 : decode cX2_spareWith 40 = .ok (.getfield 15, 3) := by decide +kernel
theorem dX2_spareWith_43 : decode cX2_spareWith 43 = .ok (.getfield 35, 3) := by decide +kernel
theorem dX2_spareWith_46 : decode cX2_spareWith 46 = .ok (.iload_n 3, 1) := by decide +kernel
theorem dX2_spareWith_47 : decode cX2_spareWith 47 = .ok (.iaload, 1) := by decide +kernel
theorem dX2_spareWith_48 : decode cX2_spareWith 48 = .ok (.istore 4, 2) := by decide +kernel
theorem dX2_spareWith_50 : decode cX2_spareWith 50 = .ok (.iload_n 2, 1) := by decide +kernel
theorem dX2_spareWith_51 : decode cX2_spareWith 51 = .ok (.aload_n 0, 1) := by decide +kernel
theorem dX2_spareWith_52 : decode cX2_spareWith 52 = .ok (.getfield 15, 3) := by decide +kernel
theorem dX2_spareWith_55 : decode cX2_spareWith 55 = .ok (.iload_n 3, 1) := by decide +kernel
theorem dX2_spareWith_56 : decode cX2_spareWith 56 = .ok (.iload 4, 2) := by decide +kernel
theorem dX2_spareWith_58 : decode cX2_spareWith 58 = .ok (.aload_n 0, 1) := by decide +kernel
theorem dX2_spareWith_59 : decode cX2_spareWith 59 = .ok (.getfield 15, 3) := by decide +kernel
theorem dX2_spareWith_62 : decode cX2_spareWith 62 = .ok (.getfield 28, 3) := by decide +kernel
theorem dX2_spareWith_65 : decode cX2_spareWith 65 = .ok (.invokevirtual 31, 3) := by decide +kernel
theorem dX2_spareWith_68 : decode cX2_spareWith 68 = .ok (.aload_n 0, 1) := by decide +kernel
theorem dX2_spareWith_69 : decode cX2_spareWith 69 = .ok (.getfield 15, 3) := by decide +kernel
theorem dX2_spareWith_72 : decode cX2_spareWith 72 = .ok (.iload_n 3, 1) := by decide +kernel
theorem dX2_spareWith_73 : decode cX2_spareWith 73 = .ok (.invokevirtual 54, 3) := by decide +kernel
theorem dX2_spareWith_76 : decode cX2_spareWith 76 = .ok (.isub, 1) := by decide +kernel
theorem dX2_spareWith_77 : decode cX2_spareWith 77 = .ok (.iadd, 1) := by decide +kernel
theorem dX2_spareWith_78 : decode cX2_spareWith 78 = .ok (.istore_n 2, 1) := by decide +kernel
theorem dX2_spareWith_79 : decode cX2_spareWith 79 = .ok (.iinc 3 1, 3) := by decide +kernel
theorem dX2_spareWith_82 : decode cX2_spareWith 82 = .ok (.goto (-78), 3) := by decide +kernel
theorem dX2_spareWith_85 : decode cX2_spareWith 85 = .ok (.iload_n 2, 1) := by decide +kernel
theorem dX2_spareWith_86 : decode cX2_spareWith 86 = .ok (.ireturn, 1) := by decide +kernel
theorem dX2_firstFrost_0 : decode cX2_firstFrost 0 = .ok (.iconst 0, 1) := by decide +kernel
theorem dX2_firstFrost_1 : decode cX2_firstFrost 1 = .ok (.istore_n 2, 1) := by decide +kernel
theorem dX2_firstFrost_2 : decode cX2_firstFrost 2 = .ok (.iload_n 2, 1) := by decide +kernel
theorem dX2_firstFrost_3 : decode cX2_firstFrost 3 = .ok (.bipush 9, 2) := by decide +kernel
theorem dX2_firstFrost_5 : decode cX2_firstFrost 5 = .ok (.if_icmp .gt 35, 3) := by decide +kernel
theorem dX2_firstFrost_8 : decode cX2_firstFrost 8 = .ok (.aload_n 0, 1) := by decide +kernel
theorem dX2_firstFrost_9 : decode cX2_firstFrost 9 = .ok (.getfield 15, 3) := by decide +kernel
theorem dX2_firstFrost_12 : decode cX2_firstFrost 12 = .ok (.iload_n 2, 1) := by decide +kernel
theorem dX2_firstFrost_13 : decode cX2_firstFrost 13 = .ok (.invokevirtual 57, 3) := by decide +kernel
theorem dX2_firstFrost_16 : decode cX2_firstFrost 16 = .ok (.istore_n 3, 1) := by decide +kernel
theorem dX2_firstFrost_17 : decode cX2_firstFrost 17 = .ok (.iload_n 3, 1) := by decide +kernel
theorem dX2_firstFrost_18 : decode cX2_firstFrost 18 = .ok (.ifCond .eq 16, 3) := by decide +kernel
theorem dX2_firstFrost_21 : decode cX2_firstFrost 21 = .ok (.iload_n 1, 1) := by decide +kernel
theorem dX2_firstFrost_22 : decode cX2_firstFrost 22 = .ok (.ifCond .eq 7, 3) := by decide +kernel
theorem dX2_firstFrost_25 : decode cX2_firstFrost 25 = .ok (.iload_n 2, 1) := by decide +kernel
theorem dX2_firstFrost_26 : decode cX2_firstFrost 26 = .ok (.goto 7, 3) := by decide +kernel
theorem dX2_firstFrost_29 : decode cX2_firstFrost 29 = .ok (.iload_n 3, 1) := by decide +kernel
theorem dX2_firstFrost_30 : decode cX2_firstFrost 30 = .ok (.invokestatic 60, 3) := by decide +kernel
theorem dX2_firstFrost_33 : decode cX2_firstFrost 33 = .ok (.ireturn, 1) := by decide +kernel
theorem dX2_firstFrost_34 : decode cX2_firstFrost 34 = .ok (.iinc 2 1, 3) := by decide +kernel
theorem dX2_firstFrost_37 : decode cX2_firstFrost 37 = .ok (.goto (-35), 3) := by decide +kernel
theorem dX2_firstFrost_40 : decode cX2_firstFrost 40 = .ok (.bipush (-4), 2) := by decide +kernel
theorem dX2_firstFrost_42 : decode cX2_firstFrost 42 = .ok (.ireturn, 1) := by decide +kernel
theorem dX2_goneBy_0 : decode cX2_goneBy 0 = .ok (.iconst 0, 1) := by decide +kernel
theorem dX2_goneBy_1 : decode cX2_goneBy 1 = .ok (.istore_n 2, 1) := by decide +kernel
theorem dX2_goneBy_2 : decode cX2_goneBy 2 = .ok (.aload_n 0, 1) := by decide +kernel
theorem dX2_goneBy_3 : decode cX2_goneBy 3 = .ok (.getfield 19, 3) := by decide +kernel
theorem dX2_goneBy_6 : decode cX2_goneBy 6 = .ok (.aload_n 0, 1) := by decide +kernel
theorem dX2_goneBy_7 : decode cX2_goneBy 7 = .ok (.getfield 15, 3) := by decide +kernel
theorem dX2_goneBy_10 : decode cX2_goneBy 10 = .ok (.invokevirtual 63, 3) := by decide +kernel
theorem dX2_goneBy_13 : decode cX2_goneBy 13 = .ok (.iconst 0, 1) := by decide +kernel
theorem dX2_goneBy_14 : decode cX2_goneBy 14 = .ok (.istore_n 3, 1) := by decide +kernel
theorem dX2_goneBy_15 : decode cX2_goneBy 15 = .ok (.iload_n 3, 1) := by decide +kernel
theorem dX2_goneBy_16 : decode cX2_goneBy 16 = .ok (.aload_n 0, 1) := by decide +kernel
theorem dX2_goneBy_17 : decode cX2_goneBy 17 = .ok (.getfield 15, 3) := by decide +kernel
theorem dX2_goneBy_20 : decode cX2_goneBy 20 = .ok (.getfield 22, 3) := by decide +kernel
theorem dX2_goneBy_23 : decode cX2_goneBy 23 = .ok (.if_icmp .ge 63, 3) := by decide +kernel
theorem dX2_goneBy_26 : decode cX2_goneBy 26 = .ok (.aload_n 0, 1) := by decide +kernel
theorem dX2_goneBy_27 : decode cX2_goneBy 27 = .ok (.getfield 15, 3) := by decide +kernel
theorem dX2_goneBy_30 : decode cX2_goneBy 30 = .ok (.iload_n 3, 1) := by decide +kernel
theorem dX2_goneBy_31 : decode cX2_goneBy 31 = .ok (.invokevirtual 50, 3) := by decide +kernel
theorem dX2_goneBy_34 : decode cX2_goneBy 34 = .ok (.ifCond .ne 46, 3) := by decide +kernel
theorem dX2_goneBy_37 : decode cX2_goneBy 37 = .ok (.aload_n 0, 1) := by decide +kernel
theorem dX2_goneBy_38 : decode cX2_goneBy 38 = .ok (.getfield 19, 3) := by decide +kernel
theorem dX2_goneBy_41 : decode cX2_goneBy 41 = .ok (.aload_n 0, 1) := by decide +kernel
theorem dX2_goneBy_42 : decode cX2_goneBy 42 = .ok (.getfield 15, 3) := by decide +kernel
theorem dX2_goneBy_45 : decode cX2_goneBy 45 = .ok (.getfield 44, 3) := by decide +kernel
theorem dX2_goneBy_48 : decode cX2_goneBy 48 = .ok (.iconst 1, 1) := by decide +kernel
theorem dX2_goneBy_49 : decode cX2_goneBy 49 = .ok (.iload_n 3, 1) := by decide +kernel
theorem dX2_goneBy_50 : decode cX2_goneBy 50 = .ok (.ishl, 1) := by decide +kernel
theorem dX2_goneBy_51 : decode cX2_goneBy 51 = .ok (.ior, 1) := by decide +kernel
theorem dX2_goneBy_52 : decode cX2_goneBy 52 = .ok (.putfield 44, 3) := by decide +kernel
theorem dX2_goneBy_55 : decode cX2_goneBy 55 = .ok (.aload_n 0, 1) := by decide +kernel
theorem dX2_goneBy_56 : decode cX2_goneBy 56 = .ok (.getfield 19, 3) := by decide +kernel
theorem dX2_goneBy_59 : decode cX2_goneBy 59 = .ok (.invokevirtual 67, 3) := by decide +kernel
theorem dX2_goneBy_62 : decode cX2_goneBy 62 = .ok (.iload_n 2, 1) := by decide +kernel
theorem dX2_goneBy_63 : decode cX2_goneBy 63 = .ok (.aload_n 0, 1) := by decide +kernel
theorem dX2_goneBy_64 : decode cX2_goneBy 64 = .ok (.aload_n 1, 1) := by decide +kernel
theorem dX2_goneBy_65 : decode cX2_goneBy 65 = .ok (.invokevirtual 70, 3) := by decide +kernel
theorem dX2_goneBy_68 : decode cX2_goneBy 68 = .ok (.ifCond .eq 9, 3) := by decide +kernel
theorem dX2_goneBy_71 : decode cX2_goneBy 71 = .ok (.iconst 1, 1) := by decide +kernel
theorem dX2_goneBy_72 : decode cX2_goneBy 72 = .ok (.iload_n 3, 1) := by decide +kernel
theorem dX2_goneBy_73 : decode cX2_goneBy 73 = .ok (.ishl, 1) := by decide +kernel
theorem dX2_goneBy_74 : decode cX2_goneBy 74 = .ok (.goto 4, 3) := by decide +kernel
theorem dX2_goneBy_77 : decode cX2_goneBy 77 = .ok (.iconst 0, 1) := by decide +kernel
theorem dX2_goneBy_78 : decode cX2_goneBy 78 = .ok (.ior, 1) := by decide +kernel
theorem dX2_goneBy_79 : decode cX2_goneBy 79 = .ok (.istore_n 2, 1) := by decide +kernel
theorem dX2_goneBy_80 : decode cX2_goneBy 80 = .ok (.iinc 3 1, 3) := by decide +kernel
theorem dX2_goneBy_83 : decode cX2_goneBy 83 = .ok (.goto (-68), 3) := by decide +kernel
theorem dX2_goneBy_86 : decode cX2_goneBy 86 = .ok (.iload_n 2, 1) := by decide +kernel
theorem dX2_goneBy_87 : decode cX2_goneBy 87 = .ok (.ireturn, 1) := by decide +kernel
theorem dX2_leansAs_0 : decode cX2_leansAs 0 = .ok (.iconst 0, 1) := by decide +kernel
theorem dX2_leansAs_1 : decode cX2_leansAs 1 = .ok (.istore_n 2, 1) := by decide +kernel
theorem dX2_leansAs_2 : decode cX2_leansAs 2 = .ok (.iload_n 2, 1) := by decide +kernel
theorem dX2_leansAs_3 : decode cX2_leansAs 3 = .ok (.aload_n 1, 1) := by decide +kernel
theorem dX2_leansAs_4 : decode cX2_leansAs 4 = .ok (.getfield 74, 3) := by decide +kernel
theorem dX2_leansAs_7 : decode cX2_leansAs 7 = .ok (.if_icmp .ge 47, 3) := by decide +kernel
theorem dX2_leansAs_10 : decode cX2_leansAs 10 = .ok (.iload_n 2, 1) := by decide +kernel
theorem dX2_leansAs_11 : decode cX2_leansAs 11 = .ok (.aload_n 0, 1) := by decide +kernel
theorem dX2_leansAs_12 : decode cX2_leansAs 12 = .ok (.getfield 19, 3) := by decide +kernel
theorem dX2_leansAs_15 : decode cX2_leansAs 15 = .ok (.getfield 79, 3) := by decide +kernel
theorem dX2_leansAs_18 : decode cX2_leansAs 18 = .ok (.if_icmp .ge 36, 3) := by decide +kernel
theorem dX2_leansAs_21 : decode cX2_leansAs 21 = .ok (.aload_n 1, 1) := by decide +kernel
theorem dX2_leansAs_22 : decode cX2_leansAs 22 = .ok (.iload_n 2, 1) := by decide +kernel
theorem dX2_leansAs_23 : decode cX2_leansAs 23 = .ok (.invokevirtual 82, 3) := by decide +kernel
theorem dX2_leansAs_26 : decode cX2_leansAs 26 = .ok (.ifCond .ne 22, 3) := by decide +kernel
theorem dX2_leansAs_29 : decode cX2_leansAs 29 = .ok (.aload_n 1, 1) := by decide +kernel
theorem dX2_leansAs_30 : decode cX2_leansAs 30 = .ok (.iload_n 2, 1) := by decide +kernel
theorem dX2_leansAs_31 : decode cX2_leansAs 31 = .ok (.invokevirtual 85, 3) := by decide +kernel
theorem dX2_leansAs_34 : decode cX2_leansAs 34 = .ok (.aload_n 0, 1) := by decide +kernel
theorem dX2_leansAs_35 : decode cX2_leansAs 35 = .ok (.getfield 19, 3) := by decide +kernel
theorem dX2_leansAs_38 : decode cX2_leansAs 38 = .ok (.getfield 88, 3) := by decide +kernel
theorem dX2_leansAs_41 : decode cX2_leansAs 41 = .ok (.iload_n 2, 1) := by decide +kernel
theorem dX2_leansAs_42 : decode cX2_leansAs 42 = .ok (.iaload, 1) := by decide +kernel
theorem dX2_leansAs_43 : decode cX2_leansAs 43 = .ok (.if_icmp .eq 5, 3) := by decide +kernel
theorem dX2_leansAs_46 : decode cX2_leansAs 46 = .ok (.iconst 0, 1) := by decide +kernel
theorem dX2_leansAs_47 : decode cX2_leansAs 47 = .ok (.ireturn, 1) := by decide +kernel
theorem dX2_leansAs_48 : decode cX2_leansAs 48 = .ok (.iinc 2 1, 3) := by decide +kernel
theorem dX2_leansAs_51 : decode cX2_leansAs 51 = .ok (.goto (-49), 3) := by decide +kernel
theorem dX2_leansAs_54 : decode cX2_leansAs 54 = .ok (.iconst 1, 1) := by decide +kernel
theorem dX2_leansAs_55 : decode cX2_leansAs 55 = .ok (.ireturn, 1) := by decide +kernel
theorem dX2_kindsPullingAs_0 : decode cX2_kindsPullingAs 0 = .ok (.iconst 0, 1) := by decide +kernel
theorem dX2_kindsPullingAs_1 : decode cX2_kindsPullingAs 1 = .ok (.istore_n 3, 1) := by decide +kernel
theorem dX2_kindsPullingAs_2 : decode cX2_kindsPullingAs 2 = .ok (.iconst 0, 1) := by decide +kernel
theorem dX2_kindsPullingAs_3 : decode cX2_kindsPullingAs 3 = .ok (.istore 4, 2) := by decide +kernel
theorem dX2_kindsPullingAs_5 : decode cX2_kindsPullingAs 5 = .ok (.iload 4, 2) := by decide +kernel
theorem dX2_kindsPullingAs_7 : decode cX2_kindsPullingAs 7 = .ok (.bipush 7, 2) := by decide +kernel
theorem dX2_kindsPullingAs_9 : decode cX2_kindsPullingAs 9 = .ok (.if_icmp .gt 30, 3) := by decide +kernel
theorem dX2_kindsPullingAs_12 : decode cX2_kindsPullingAs 12 = .ok (.iload_n 3, 1) := by decide +kernel
theorem dX2_kindsPullingAs_13 : decode cX2_kindsPullingAs 13 = .ok (.aload_n 1, 1) := by decide +kernel
theorem dX2_kindsPullingAs_14 : decode cX2_kindsPullingAs 14 = .ok (.iload 4, 2) := by decide +kernel
theorem dX2_kindsPullingAs_16 : decode cX2_kindsPullingAs 16 = .ok (.iload_n 2, 1) := by decide +kernel
theorem dX2_kindsPullingAs_17 : decode cX2_kindsPullingAs 17 = .ok (.invokestatic 93, 3) := by decide +kernel
theorem dX2_kindsPullingAs_20 : decode cX2_kindsPullingAs 20 = .ok (.ifCond .eq 10, 3) := by decide +kernel
theorem dX2_kindsPullingAs_23 : decode cX2_kindsPullingAs 23 = .ok (.iconst 1, 1) := by decide +kernel
theorem dX2_kindsPullingAs_24 : decode cX2_kindsPullingAs 24 = .ok (.iload 4, 2) := by decide +kernel
theorem dX2_kindsPullingAs_26 : decode cX2_kindsPullingAs 26 = .ok (.ishl, 1) := by decide +kernel
theorem dX2_kindsPullingAs_27 : decode cX2_kindsPullingAs 27 = .ok (.goto 4, 3) := by decide +kernel
theorem dX2_kindsPullingAs_30 : decode cX2_kindsPullingAs 30 = .ok (.iconst 0, 1) := by decide +kernel
theorem dX2_kindsPullingAs_31 : decode cX2_kindsPullingAs 31 = .ok (.ior, 1) := by decide +kernel
theorem dX2_kindsPullingAs_32 : decode cX2_kindsPullingAs 32 = .ok (.istore_n 3, 1) := by decide +kernel
theorem dX2_kindsPullingAs_33 : decode cX2_kindsPullingAs 33 = .ok (.iinc 4 1, 3) := by decide +kernel
theorem dX2_kindsPullingAs_36 : decode cX2_kindsPullingAs 36 = .ok (.goto (-31), 3) := by decide +kernel
theorem dX2_kindsPullingAs_39 : decode cX2_kindsPullingAs 39 = .ok (.iload_n 3, 1) := by decide +kernel
theorem dX2_kindsPullingAs_40 : decode cX2_kindsPullingAs 40 = .ok (.ireturn, 1) := by decide +kernel
theorem dX2_pullsAs_0 : decode cX2_pullsAs 0 = .ok (.iconst 0, 1) := by decide +kernel
theorem dX2_pullsAs_1 : decode cX2_pullsAs 1 = .ok (.istore_n 3, 1) := by decide +kernel
theorem dX2_pullsAs_2 : decode cX2_pullsAs 2 = .ok (.iload_n 3, 1) := by decide +kernel
theorem dX2_pullsAs_3 : decode cX2_pullsAs 3 = .ok (.aload_n 0, 1) := by decide +kernel
theorem dX2_pullsAs_4 : decode cX2_pullsAs 4 = .ok (.getfield 74, 3) := by decide +kernel
theorem dX2_pullsAs_7 : decode cX2_pullsAs 7 = .ok (.if_icmp .ge 33, 3) := by decide +kernel
theorem dX2_pullsAs_10 : decode cX2_pullsAs 10 = .ok (.aload_n 0, 1) := by decide +kernel
theorem dX2_pullsAs_11 : decode cX2_pullsAs 11 = .ok (.iload_n 3, 1) := by decide +kernel
theorem dX2_pullsAs_12 : decode cX2_pullsAs 12 = .ok (.invokevirtual 82, 3) := by decide +kernel
theorem dX2_pullsAs_15 : decode cX2_pullsAs 15 = .ok (.ifCond .ne 19, 3) := by decide +kernel
theorem dX2_pullsAs_18 : decode cX2_pullsAs 18 = .ok (.aload_n 0, 1) := by decide +kernel
theorem dX2_pullsAs_19 : decode cX2_pullsAs 19 = .ok (.iload_n 3, 1) := by decide +kernel
theorem dX2_pullsAs_20 : decode cX2_pullsAs 20 = .ok (.invokevirtual 85, 3) := by decide +kernel
theorem dX2_pullsAs_23 : decode cX2_pullsAs 23 = .ok (.iload_n 1, 1) := by decide +kernel
theorem dX2_pullsAs_24 : decode cX2_pullsAs 24 = .ok (.iload_n 2, 1) := by decide +kernel
theorem dX2_pullsAs_25 : decode cX2_pullsAs 25 = .ok (.iload_n 3, 1) := by decide +kernel
theorem dX2_pullsAs_26 : decode cX2_pullsAs 26 = .ok (.invokestatic 97, 3) := by decide +kernel
theorem dX2_pullsAs_29 : decode cX2_pullsAs 29 = .ok (.if_icmp .eq 5, 3) := by decide +kernel
theorem dX2_pullsAs_32 : decode cX2_pullsAs 32 = .ok (.iconst 0, 1) := by decide +kernel
theorem dX2_pullsAs_33 : decode cX2_pullsAs 33 = .ok (.ireturn, 1) := by decide +kernel
theorem dX2_pullsAs_34 : decode cX2_pullsAs 34 = .ok (.iinc 3 1, 3) := by decide +kernel
theorem dX2_pullsAs_37 : decode cX2_pullsAs 37 = .ok (.goto (-35), 3) := by decide +kernel
theorem dX2_pullsAs_40 : decode cX2_pullsAs 40 = .ok (.iconst 1, 1) := by decide +kernel
theorem dX2_pullsAs_41 : decode cX2_pullsAs 41 = .ok (.ireturn, 1) := by decide +kernel
theorem dX2_restingChoices_0 : decode cX2_restingChoices 0 = .ok (.iconst 0, 1) := by decide +kernel
theorem dX2_restingChoices_1 : decode cX2_restingChoices 1 = .ok (.istore_n 3, 1) := by decide +kernel
theorem dX2_restingChoices_2 : decode cX2_restingChoices 2 = .ok (.iload_n 3, 1) := by decide +kernel
theorem dX2_restingChoices_3 : decode cX2_restingChoices 3 = .ok (.iconst 4, 1) := by decide +kernel
theorem dX2_restingChoices_4 : decode cX2_restingChoices 4 = .ok (.if_icmp .ge 54, 3) := by decide +kernel
theorem dX2_restingChoices_7 : decode cX2_restingChoices 7 = .ok (.iload_n 3, 1) := by decide +kernel
theorem dX2_restingChoices_8 : decode cX2_restingChoices 8 = .ok (.iconst 2, 1) := by decide +kernel
theorem dX2_restingChoices_9 : decode cX2_restingChoices 9 = .ok (.idiv, 1) := by decide +kernel
theorem dX2_restingChoices_10 : decode cX2_restingChoices 10 = .ok (.istore 4, 2) := by decide +kernel
theorem dX2_restingChoices_12 : decode cX2_restingChoices 12 = .ok (.iload_n 3, 1) := by decide +kernel
theorem dX2_restingChoices_13 : decode cX2_restingChoices 13 = .ok (.iconst 2, 1) := by decide +kernel
theorem dX2_restingChoices_14 : decode cX2_restingChoices 14 = .ok (.irem, 1) := by decide +kernel
theorem dX2_restingChoices_15 : decode cX2_restingChoices 15 = .ok (.istore 5, 2) := by decide +kernel
theorem dX2_restingChoices_17 : decode cX2_restingChoices 17 = .ok (.aload_n 0, 1) := by decide +kernel
theorem dX2_restingChoices_18 : decode cX2_restingChoices 18 = .ok (.iload_n 1, 1) := by decide +kernel
theorem dX2_restingChoices_19 : decode cX2_restingChoices 19 = .ok (.iload_n 2, 1) := by decide +kernel
theorem dX2_restingChoices_20 : decode cX2_restingChoices 20 = .ok (.iload 4, 2) := by decide +kernel
theorem dX2_restingChoices_22 : decode cX2_restingChoices 22 = .ok (.iload 5, 2) := by decide +kernel
theorem dX2_restingChoices_24 : decode cX2_restingChoices 24 = .ok (.invokevirtual 100, 3) := by decide +kernel
theorem dX2_restingChoices_27 : decode cX2_restingChoices 27 = .ok (.ifCond .eq 25, 3) := by decide +kernel
theorem dX2_restingChoices_30 : decode cX2_restingChoices 30 = .ok (.aload_n 0, 1) := by decide +kernel
theorem dX2_restingChoices_31 : decode cX2_restingChoices 31 = .ok (.iload_n 2, 1) := by decide +kernel
theorem dX2_restingChoices_32 : decode cX2_restingChoices 32 = .ok (.iload_n 1, 1) := by decide +kernel
theorem dX2_restingChoices_33 : decode cX2_restingChoices 33 = .ok (.iload 5, 2) := by decide +kernel
theorem dX2_restingChoices_35 : decode cX2_restingChoices 35 = .ok (.iload 4, 2) := by decide +kernel
theorem dX2_restingChoices_37 : decode cX2_restingChoices 37 = .ok (.invokevirtual 100, 3) := by decide +kernel
theorem dX2_restingChoices_40 : decode cX2_restingChoices 40 = .ok (.ifCond .eq 12, 3) := by decide +kernel
theorem dX2_restingChoices_43 : decode cX2_restingChoices 43 = .ok (.bipush 10, 2) := by decide +kernel
theorem dX2_restingChoices_45 : decode cX2_restingChoices 45 = .ok (.iload 4, 2) := by decide +kernel
theorem dX2_restingChoices_47 : decode cX2_restingChoices 47 = .ok (.imul, 1) := by decide +kernel
theorem dX2_restingChoices_48 : decode cX2_restingChoices 48 = .ok (.iload 5, 2) := by decide +kernel
theorem dX2_restingChoices_50 : decode cX2_restingChoices 50 = .ok (.iadd, 1) := by decide +kernel
theorem dX2_restingChoices_51 : decode cX2_restingChoices 51 = .ok (.ireturn, 1) := by decide +kernel
theorem dX2_restingChoices_52 : decode cX2_restingChoices 52 = .ok (.iinc 3 1, 3) := by decide +kernel
theorem dX2_restingChoices_55 : decode cX2_restingChoices 55 = .ok (.goto (-53), 3) := by decide +kernel
theorem dX2_restingChoices_58 : decode cX2_restingChoices 58 = .ok (.bipush (-4), 2) := by decide +kernel
theorem dX2_restingChoices_60 : decode cX2_restingChoices 60 = .ok (.ireturn, 1) := by decide +kernel
theorem dX2_hasMost_0 : decode cX2_hasMost 0 = .ok (.aload_n 0, 1) := by decide +kernel
theorem dX2_hasMost_1 : decode cX2_hasMost 1 = .ok (.iload_n 1, 1) := by decide +kernel
theorem dX2_hasMost_2 : decode cX2_hasMost 2 = .ok (.iload_n 2, 1) := by decide +kernel
theorem dX2_hasMost_3 : decode cX2_hasMost 3 = .ok (.iload_n 3, 1) := by decide +kernel
theorem dX2_hasMost_4 : decode cX2_hasMost 4 = .ok (.iload 4, 2) := by decide +kernel
theorem dX2_hasMost_6 : decode cX2_hasMost 6 = .ok (.invokevirtual 104, 3) := by decide +kernel
theorem dX2_hasMost_9 : decode cX2_hasMost 9 = .ok (.aload_n 0, 1) := by decide +kernel
theorem dX2_hasMost_10 : decode cX2_hasMost 10 = .ok (.iload_n 1, 1) := by decide +kernel
theorem dX2_hasMost_11 : decode cX2_hasMost 11 = .ok (.iload_n 2, 1) := by decide +kernel
theorem dX2_hasMost_12 : decode cX2_hasMost 12 = .ok (.iconst 1, 1) := by decide +kernel
theorem dX2_hasMost_13 : decode cX2_hasMost 13 = .ok (.iload_n 3, 1) := by decide +kernel
theorem dX2_hasMost_14 : decode cX2_hasMost 14 = .ok (.isub, 1) := by decide +kernel
theorem dX2_hasMost_15 : decode cX2_hasMost 15 = .ok (.iload 4, 2) := by decide +kernel
theorem dX2_hasMost_17 : decode cX2_hasMost 17 = .ok (.invokevirtual 104, 3) := by decide +kernel
theorem dX2_hasMost_20 : decode cX2_hasMost 20 = .ok (.if_icmp .lt 7, 3) := by decide +kernel
theorem dX2_hasMost_23 : decode cX2_hasMost 23 = .ok (.iconst 1, 1) := by decide +kernel
theorem dX2_hasMost_24 : decode cX2_hasMost 24 = .ok (.goto 4, 3) := by decide +kernel
theorem dX2_hasMost_27 : decode cX2_hasMost 27 = .ok (.iconst 0, 1) := by decide +kernel
theorem dX2_hasMost_28 : decode cX2_hasMost 28 = .ok (.ireturn, 1) := by decide +kernel
theorem dX2_has_0 : decode cX2_has 0 = .ok (.aload_n 0, 1) := by decide +kernel
theorem dX2_has_1 : decode cX2_has 1 = .ok (.iload_n 1, 1) := by decide +kernel
theorem dX2_has_2 : decode cX2_has 2 = .ok (.iload_n 2, 1) := by decide +kernel
theorem dX2_has_3 : decode cX2_has 3 = .ok (.iload_n 3, 1) := by decide +kernel
theorem dX2_has_4 : decode cX2_has 4 = .ok (.invokevirtual 108, 3) := by decide +kernel
theorem dX2_has_7 : decode cX2_has 7 = .ok (.istore 5, 2) := by decide +kernel
theorem dX2_has_9 : decode cX2_has 9 = .ok (.iconst 3, 1) := by decide +kernel
theorem dX2_has_10 : decode cX2_has 10 = .ok (.iload 5, 2) := by decide +kernel
theorem dX2_has_12 : decode cX2_has 12 = .ok (.imul, 1) := by decide +kernel
theorem dX2_has_13 : decode cX2_has 13 = .ok (.aload_n 0, 1) := by decide +kernel
theorem dX2_has_14 : decode cX2_has 14 = .ok (.iload_n 1, 1) := by decide +kernel
theorem dX2_has_15 : decode cX2_has 15 = .ok (.iload_n 2, 1) := by decide +kernel
theorem dX2_has_16 : decode cX2_has 16 = .ok (.aload_n 0, 1) := by decide +kernel
theorem dX2_has_17 : decode cX2_has 17 = .ok (.getfield 15, 3) := by decide +kernel
theorem dX2_has_20 : decode cX2_has 20 = .ok (.iload_n 1, 1) := by decide +kernel
theorem dX2_has_21 : decode cX2_has 21 = .ok (.iload_n 2, 1) := by decide +kernel
theorem dX2_has_22 : decode cX2_has 22 = .ok (.invokevirtual 111, 3) := by decide +kernel
theorem dX2_has_25 : decode cX2_has 25 = .ok (.iload 5, 2) := by decide +kernel
theorem dX2_has_27 : decode cX2_has 27 = .ok (.iadd, 1) := by decide +kernel
theorem dX2_has_28 : decode cX2_has 28 = .ok (.aload_n 0, 1) := by decide +kernel
theorem dX2_has_29 : decode cX2_has 29 = .ok (.iload_n 2, 1) := by decide +kernel
theorem dX2_has_30 : decode cX2_has 30 = .ok (.iload_n 1, 1) := by decide +kernel
theorem dX2_has_31 : decode cX2_has 31 = .ok (.iload 4, 2) := by decide +kernel
theorem dX2_has_33 : decode cX2_has 33 = .ok (.invokevirtual 108, 3) := by decide +kernel
theorem dX2_has_36 : decode cX2_has 36 = .ok (.iadd, 1) := by decide +kernel
theorem dX2_has_37 : decode cX2_has 37 = .ok (.invokevirtual 115, 3) := by decide +kernel
theorem dX2_has_40 : decode cX2_has 40 = .ok (.isub, 1) := by decide +kernel
theorem dX2_has_41 : decode cX2_has 41 = .ok (.ireturn, 1) := by decide +kernel
theorem dX2_stepsAway_0 : decode cX2_stepsAway 0 = .ok (.aload_n 0, 1) := by decide +kernel
theorem dX2_stepsAway_1 : decode cX2_stepsAway 1 = .ok (.getfield 15, 3) := by decide +kernel
theorem dX2_stepsAway_4 : decode cX2_stepsAway 4 = .ok (.getfield 118, 3) := by decide +kernel
theorem dX2_stepsAway_7 : decode cX2_stepsAway 7 = .ok (.iload_n 1, 1) := by decide +kernel
theorem dX2_stepsAway_8 : decode cX2_stepsAway 8 = .ok (.iaload, 1) := by decide +kernel
theorem dX2_stepsAway_9 : decode cX2_stepsAway 9 = .ok (.aload_n 0, 1) := by decide +kernel
theorem dX2_stepsAway_10 : decode cX2_stepsAway 10 = .ok (.getfield 15, 3) := by decide +kernel
theorem dX2_stepsAway_13 : decode cX2_stepsAway 13 = .ok (.getfield 118, 3) := by decide +kernel
theorem dX2_stepsAway_16 : decode cX2_stepsAway 16 = .ok (.iload_n 2, 1) := by decide +kernel
theorem dX2_stepsAway_17 : decode cX2_stepsAway 17 = .ok (.iaload, 1) := by decide +kernel
theorem dX2_stepsAway_18 : decode cX2_stepsAway 18 = .ok (.if_icmp .ge 17, 3) := by decide +kernel
theorem dX2_stepsAway_21 : decode cX2_stepsAway 21 = .ok (.aload_n 0, 1) := by decide +kernel
theorem dX2_stepsAway_22 : decode cX2_stepsAway 22 = .ok (.getfield 15, 3) := by decide +kernel
theorem dX2_stepsAway_25 : decode cX2_stepsAway 25 = .ok (.getfield 118, 3) := by decide +kernel
theorem dX2_stepsAway_28 : decode cX2_stepsAway 28 = .ok (.iload_n 1, 1) := by decide +kernel
theorem dX2_stepsAway_29 : decode cX2_stepsAway 29 = .ok (.iaload, 1) := by decide +kernel
theorem dX2_stepsAway_30 : decode cX2_stepsAway 30 = .ok (.iconst 1, 1) := by decide +kernel
theorem dX2_stepsAway_31 : decode cX2_stepsAway 31 = .ok (.isub, 1) := by decide +kernel
theorem dX2_stepsAway_32 : decode cX2_stepsAway 32 = .ok (.goto 14, 3) := by decide +kernel
theorem dX2_stepsAway_35 : decode cX2_stepsAway 35 = .ok (.aload_n 0, 1) := by decide +kernel
theorem dX2_stepsAway_36 : decode cX2_stepsAway 36 = .ok (.getfield 15, 3) := by decide +kernel
theorem dX2_stepsAway_39 : decode cX2_stepsAway 39 = .ok (.getfield 118, 3) := by decide +kernel
theorem dX2_stepsAway_42 : decode cX2_stepsAway 42 = .ok (.iload_n 1, 1) := by decide +kernel
theorem dX2_stepsAway_43 : decode cX2_stepsAway 43 = .ok (.iaload, 1) := by decide +kernel
theorem dX2_stepsAway_44 : decode cX2_stepsAway 44 = .ok (.iconst 1, 1) := by decide +kernel
theorem dX2_stepsAway_45 : decode cX2_stepsAway 45 = .ok (.iadd, 1) := by decide +kernel
theorem dX2_stepsAway_46 : decode cX2_stepsAway 46 = .ok (.istore 4, 2) := by decide +kernel
theorem dX2_stepsAway_48 : decode cX2_stepsAway 48 = .ok (.iload 4, 2) := by decide +kernel
theorem dX2_stepsAway_50 : decode cX2_stepsAway 50 = .ok (.bipush 30, 2) := by decide +kernel
theorem dX2_stepsAway_52 : decode cX2_stepsAway 52 = .ok (.invokestatic 121, 3) := by decide +kernel
theorem dX2_stepsAway_55 : decode cX2_stepsAway 55 = .ok (.ifCond .eq 7, 3) := by decide +kernel
theorem dX2_stepsAway_58 : decode cX2_stepsAway 58 = .ok (.iload_n 3, 1) := by decide +kernel
theorem dX2_stepsAway_59 : decode cX2_stepsAway 59 = .ok (.goto 4, 3) := by decide +kernel
theorem dX2_stepsAway_62 : decode cX2_stepsAway 62 = .ok (.iconst 0, 1) := by decide +kernel
theorem dX2_stepsAway_63 : decode cX2_stepsAway 63 = .ok (.ireturn, 1) := by decide +kernel
theorem dX2_pullOfBoth_0 : decode cX2_pullOfBoth 0 = .ok (.iconst 0, 1) := by decide +kernel
theorem dX2_pullOfBoth_1 : decode cX2_pullOfBoth 1 = .ok (.istore 4, 2) := by decide +kernel
theorem dX2_pullOfBoth_3 : decode cX2_pullOfBoth 3 = .ok (.iconst 0, 1) := by decide +kernel
theorem dX2_pullOfBoth_4 : decode cX2_pullOfBoth 4 = .ok (.istore 5, 2) := by decide +kernel
theorem dX2_pullOfBoth_6 : decode cX2_pullOfBoth 6 = .ok (.iload 5, 2) := by decide +kernel
theorem dX2_pullOfBoth_8 : decode cX2_pullOfBoth 8 = .ok (.aload_n 0, 1) := by decide +kernel
theorem dX2_pullOfBoth_9 : decode cX2_pullOfBoth 9 = .ok (.getfield 15, 3) := by decide +kernel
theorem dX2_pullOfBoth_12 : decode cX2_pullOfBoth 12 = .ok (.getfield 22, 3) := by decide +kernel
theorem dX2_pullOfBoth_15 : decode cX2_pullOfBoth 15 = .ok (.if_icmp .ge 64, 3) := by decide +kernel
theorem dX2_pullOfBoth_18 : decode cX2_pullOfBoth 18 = .ok (.aload_n 0, 1) := by decide +kernel
theorem dX2_pullOfBoth_19 : decode cX2_pullOfBoth 19 = .ok (.getfield 15, 3) := by decide +kernel
theorem dX2_pullOfBoth_22 : decode cX2_pullOfBoth 22 = .ok (.iload 5, 2) := by decide +kernel
theorem dX2_pullOfBoth_24 : decode cX2_pullOfBoth 24 = .ok (.invokevirtual 50, 3) := by decide +kernel
theorem dX2_pullOfBoth_27 : decode cX2_pullOfBoth 27 = .ok (.ifCond .ne 46, 3) := by decide +kernel
theorem dX2_pullOfBoth_30 : decode cX2_pullOfBoth 30 = .ok (.aload_n 0, 1) := by decide +kernel
theorem dX2_pullOfBoth_31 : decode cX2_pullOfBoth 31 = .ok (.getfield 15, 3) := by decide +kernel
theorem dX2_pullOfBoth_34 : decode cX2_pullOfBoth 34 = .ok (.iload 5, 2) := by decide +kernel
theorem dX2_pullOfBoth_36 : decode cX2_pullOfBoth 36 = .ok (.iload_n 1, 1) := by decide +kernel
theorem dX2_pullOfBoth_37 : decode cX2_pullOfBoth 37 = .ok (.iload_n 2, 1) := by decide +kernel
theorem dX2_pullOfBoth_38 : decode cX2_pullOfBoth 38 = .ok (.invokevirtual 125, 3) := by decide +kernel
theorem dX2_pullOfBoth_41 : decode cX2_pullOfBoth 41 = .ok (.ifCond .eq 32, 3) := by decide +kernel
theorem dX2_pullOfBoth_44 : decode cX2_pullOfBoth 44 = .ok (.iload 4, 2) := by decide +kernel
theorem dX2_pullOfBoth_46 : decode cX2_pullOfBoth 46 = .ok (.aload_n 0, 1) := by decide +kernel
theorem dX2_pullOfBoth_47 : decode cX2_pullOfBoth 47 = .ok (.getfield 15, 3) := by decide +kernel
theorem dX2_pullOfBoth_50 : decode cX2_pullOfBoth 50 = .ok (.getfield 129, 3) := by decide +kernel
theorem dX2_pullOfBoth_53 : decode cX2_pullOfBoth 53 = .ok (.iload 5, 2) := by decide +kernel
theorem dX2_pullOfBoth_55 : decode cX2_pullOfBoth 55 = .ok (.iaload, 1) := by decide +kernel
theorem dX2_pullOfBoth_56 : decode cX2_pullOfBoth 56 = .ok (.aload_n 0, 1) := by decide +kernel
theorem dX2_pullOfBoth_57 : decode cX2_pullOfBoth 57 = .ok (.getfield 15, 3) := by decide +kernel
theorem dX2_pullOfBoth_60 : decode cX2_pullOfBoth 60 = .ok (.getfield 132, 3) := by decide +kernel
theorem dX2_pullOfBoth_63 : decode cX2_pullOfBoth 63 = .ok (.iload 5, 2) := by decide +kernel
theorem dX2_pullOfBoth_65 : decode cX2_pullOfBoth 65 = .ok (.iaload, 1) := by decide +kernel
theorem dX2_pullOfBoth_66 : decode cX2_pullOfBoth 66 = .ok (.iload_n 3, 1) := by decide +kernel
theorem dX2_pullOfBoth_67 : decode cX2_pullOfBoth 67 = .ok (.invokestatic 97, 3) := by decide +kernel
theorem dX2_pullOfBoth_70 : decode cX2_pullOfBoth 70 = .ok (.iadd, 1) := by decide +kernel
theorem dX2_pullOfBoth_71 : decode cX2_pullOfBoth 71 = .ok (.istore 4, 2) := by decide +kernel
theorem dX2_pullOfBoth_73 : decode cX2_pullOfBoth 73 = .ok (.iinc 5 1, 3) := by decide +kernel
theorem dX2_pullOfBoth_76 : decode cX2_pullOfBoth 76 = .ok (.goto (-70), 3) := by decide +kernel
theorem dX2_pullOfBoth_79 : decode cX2_pullOfBoth 79 = .ok (.iload 4, 2) := by decide +kernel
theorem dX2_pullOfBoth_81 : decode cX2_pullOfBoth 81 = .ok (.ireturn, 1) := by decide +kernel
theorem dX3_slack_0 : decode cX3_slack 0 = .ok (.iload_n 1, 1) := by decide +kernel
theorem dX3_slack_1 : decode cX3_slack 1 = .ok (.iconst 2, 1) := by decide +kernel
theorem dX3_slack_2 : decode cX3_slack 2 = .ok (.iadd, 1) := by decide +kernel
theorem dX3_slack_3 : decode cX3_slack 3 = .ok (.istore_n 2, 1) := by decide +kernel
theorem dX3_slack_4 : decode cX3_slack 4 = .ok (.iload_n 2, 1) := by decide +kernel
theorem dX3_slack_5 : decode cX3_slack 5 = .ok (.iconst 2, 1) := by decide +kernel
theorem dX3_slack_6 : decode cX3_slack 6 = .ok (.idiv, 1) := by decide +kernel
theorem dX3_slack_7 : decode cX3_slack 7 = .ok (.istore_n 3, 1) := by decide +kernel
theorem dX3_slack_8 : decode cX3_slack 8 = .ok (.iload_n 0, 1) := by decide +kernel
theorem dX3_slack_9 : decode cX3_slack 9 = .ok (.tableswitch 65 1 7 #[43, 45, 49, 51, 55, 57, 61], 43) := by decide +kernel
theorem dX3_slack_52 : decode cX3_slack 52 = .ok (.iload_n 3, 1) := by decide +kernel
theorem dX3_slack_53 : decode cX3_slack 53 = .ok (.ireturn, 1) := by decide +kernel
theorem dX3_slack_54 : decode cX3_slack 54 = .ok (.iload_n 3, 1) := by decide +kernel
theorem dX3_slack_55 : decode cX3_slack 55 = .ok (.iconst 1, 1) := by decide +kernel
theorem dX3_slack_56 : decode cX3_slack 56 = .ok (.iadd, 1) := by decide +kernel
theorem dX3_slack_57 : decode cX3_slack 57 = .ok (.ireturn, 1) := by decide +kernel
theorem dX3_slack_58 : decode cX3_slack 58 = .ok (.iload_n 1, 1) := by decide +kernel
theorem dX3_slack_59 : decode cX3_slack 59 = .ok (.ireturn, 1) := by decide +kernel
theorem dX3_slack_60 : decode cX3_slack 60 = .ok (.iload_n 2, 1) := by decide +kernel
theorem dX3_slack_61 : decode cX3_slack 61 = .ok (.iconst 1, 1) := by decide +kernel
theorem dX3_slack_62 : decode cX3_slack 62 = .ok (.isub, 1) := by decide +kernel
theorem dX3_slack_63 : decode cX3_slack 63 = .ok (.ireturn, 1) := by decide +kernel
theorem dX3_slack_64 : decode cX3_slack 64 = .ok (.iconst 0, 1) := by decide +kernel
theorem dX3_slack_65 : decode cX3_slack 65 = .ok (.ireturn, 1) := by decide +kernel
theorem dX3_slack_66 : decode cX3_slack 66 = .ok (.iload_n 2, 1) := by decide +kernel
theorem dX3_slack_67 : decode cX3_slack 67 = .ok (.iconst 4, 1) := by decide +kernel
theorem dX3_slack_68 : decode cX3_slack 68 = .ok (.iadd, 1) := by decide +kernel
theorem dX3_slack_69 : decode cX3_slack 69 = .ok (.ireturn, 1) := by decide +kernel
theorem dX3_slack_70 : decode cX3_slack 70 = .ok (.iconst 2, 1) := by decide +kernel
theorem dX3_slack_71 : decode cX3_slack 71 = .ok (.iload_n 1, 1) := by decide +kernel
theorem dX3_slack_72 : decode cX3_slack 72 = .ok (.imul, 1) := by decide +kernel
theorem dX3_slack_73 : decode cX3_slack 73 = .ok (.ireturn, 1) := by decide +kernel
theorem dX3_slack_74 : decode cX3_slack 74 = .ok (.iload_n 2, 1) := by decide +kernel
theorem dX3_slack_75 : decode cX3_slack 75 = .ok (.ireturn, 1) := by decide +kernel
theorem dX3_gauge_0 : decode cX3_gauge 0 = .ok (.iconst 1, 1) := by decide +kernel
theorem dX3_gauge_1 : decode cX3_gauge 1 = .ok (.istore_n 1, 1) := by decide +kernel
theorem dX3_gauge_2 : decode cX3_gauge 2 = .ok (.iload_n 1, 1) := by decide +kernel
theorem dX3_gauge_3 : decode cX3_gauge 3 = .ok (.iconst 1, 1) := by decide +kernel
theorem dX3_gauge_4 : decode cX3_gauge 4 = .ok (.iadd, 1) := by decide +kernel
theorem dX3_gauge_5 : decode cX3_gauge 5 = .ok (.istore_n 2, 1) := by decide +kernel
theorem dX3_gauge_6 : decode cX3_gauge 6 = .ok (.iload_n 0, 1) := by decide +kernel
theorem dX3_gauge_7 : decode cX3_gauge 7 = .ok (.tableswitch 55 1 7 #[41, 43, 55, 47, 51, 55, 53], 41) := by decide +kernel
theorem dX3_gauge_48 : decode cX3_gauge 48 = .ok (.iload_n 2, 1) := by decide +kernel
theorem dX3_gauge_49 : decode cX3_gauge 49 = .ok (.ireturn, 1) := by decide +kernel
theorem dX3_gauge_50 : decode cX3_gauge 50 = .ok (.iload_n 2, 1) := by decide +kernel
theorem dX3_gauge_51 : decode cX3_gauge 51 = .ok (.iconst 1, 1) := by decide +kernel
theorem dX3_gauge_52 : decode cX3_gauge 52 = .ok (.iadd, 1) := by decide +kernel
theorem dX3_gauge_53 : decode cX3_gauge 53 = .ok (.ireturn, 1) := by decide +kernel
theorem dX3_gauge_54 : decode cX3_gauge 54 = .ok (.iload_n 1, 1) := by decide +kernel
theorem dX3_gauge_55 : decode cX3_gauge 55 = .ok (.iconst 2, 1) := by decide +kernel
theorem dX3_gauge_56 : decode cX3_gauge 56 = .ok (.iadd, 1) := by decide +kernel
theorem dX3_gauge_57 : decode cX3_gauge 57 = .ok (.ireturn, 1) := by decide +kernel
theorem dX3_gauge_58 : decode cX3_gauge 58 = .ok (.iload_n 2, 1) := by decide +kernel
theorem dX3_gauge_59 : decode cX3_gauge 59 = .ok (.ireturn, 1) := by decide +kernel
theorem dX3_gauge_60 : decode cX3_gauge 60 = .ok (.iconst 4, 1) := by decide +kernel
theorem dX3_gauge_61 : decode cX3_gauge 61 = .ok (.ireturn, 1) := by decide +kernel
theorem dX3_gauge_62 : decode cX3_gauge 62 = .ok (.iload_n 1, 1) := by decide +kernel
theorem dX3_gauge_63 : decode cX3_gauge 63 = .ok (.ireturn, 1) := by decide +kernel
theorem dX3_holds_0 : decode cX3_holds 0 = .ok (.iload_n 1, 1) := by decide +kernel
theorem dX3_holds_1 : decode cX3_holds 1 = .ok (.bipush 8, 2) := by decide +kernel
theorem dX3_holds_3 : decode cX3_holds 3 = .ok (.iadd, 1) := by decide +kernel
theorem dX3_holds_4 : decode cX3_holds 4 = .ok (.istore_n 2, 1) := by decide +kernel
theorem dX3_holds_5 : decode cX3_holds 5 = .ok (.iload_n 2, 1) := by decide +kernel
theorem dX3_holds_6 : decode cX3_holds 6 = .ok (.iconst 4, 1) := by decide +kernel
theorem dX3_holds_7 : decode cX3_holds 7 = .ok (.iadd, 1) := by decide +kernel
theorem dX3_holds_8 : decode cX3_holds 8 = .ok (.istore_n 3, 1) := by decide +kernel
theorem dX3_holds_9 : decode cX3_holds 9 = .ok (.iconst 3, 1) := by decide +kernel
theorem dX3_holds_10 : decode cX3_holds 10 = .ok (.istore 4, 2) := by decide +kernel
theorem dX3_holds_12 : decode cX3_holds 12 = .ok (.iload_n 0, 1) := by decide +kernel
theorem dX3_holds_13 : decode cX3_holds 13 = .ok (.tableswitch 64 1 7 #[43, 45, 49, 52, 56, 64, 59], 43) := by decide +kernel
theorem dX3_holds_56 : decode cX3_holds 56 = .ok (.iload_n 3, 1) := by decide +kernel
theorem dX3_holds_57 : decode cX3_holds 57 = .ok (.ireturn, 1) := by decide +kernel
theorem dX3_holds_58 : decode cX3_holds 58 = .ok (.iconst 2, 1) := by decide +kernel
theorem dX3_holds_59 : decode cX3_holds 59 = .ok (.iload_n 3, 1) := by decide +kernel
theorem dX3_holds_60 : decode cX3_holds 60 = .ok (.imul, 1) := by decide +kernel
theorem dX3_holds_61 : decode cX3_holds 61 = .ok (.ireturn, 1) := by decide +kernel
theorem dX3_holds_62 : decode cX3_holds 62 = .ok (.iload 4, 2) := by decide +kernel
theorem dX3_holds_64 : decode cX3_holds 64 = .ok (.ireturn, 1) := by decide +kernel
theorem dX3_holds_65 : decode cX3_holds 65 = .ok (.iload_n 2, 1) := by decide +kernel
theorem dX3_holds_66 : decode cX3_holds 66 = .ok (.iconst 2, 1) := by decide +kernel
theorem dX3_holds_67 : decode cX3_holds 67 = .ok (.idiv, 1) := by decide +kernel
theorem dX3_holds_68 : decode cX3_holds 68 = .ok (.ireturn, 1) := by decide +kernel
theorem dX3_holds_69 : decode cX3_holds 69 = .ok (.bipush 30, 2) := by decide +kernel
theorem dX3_holds_71 : decode cX3_holds 71 = .ok (.ireturn, 1) := by decide +kernel
theorem dX3_holds_72 : decode cX3_holds 72 = .ok (.iload 4, 2) := by decide +kernel
theorem dX3_holds_74 : decode cX3_holds 74 = .ok (.iconst 2, 1) := by decide +kernel
theorem dX3_holds_75 : decode cX3_holds 75 = .ok (.iadd, 1) := by decide +kernel
theorem dX3_holds_76 : decode cX3_holds 76 = .ok (.ireturn, 1) := by decide +kernel
theorem dX3_holds_77 : decode cX3_holds 77 = .ok (.iload_n 2, 1) := by decide +kernel
theorem dX3_holds_78 : decode cX3_holds 78 = .ok (.ireturn, 1) := by decide +kernel
theorem dX3_costs_0 : decode cX3_costs 0 = .ok (.iconst 2, 1) := by decide +kernel
theorem dX3_costs_1 : decode cX3_costs 1 = .ok (.istore_n 2, 1) := by decide +kernel
theorem dX3_costs_2 : decode cX3_costs 2 = .ok (.iload_n 2, 1) := by decide +kernel
theorem dX3_costs_3 : decode cX3_costs 3 = .ok (.iload_n 1, 1) := by decide +kernel
theorem dX3_costs_4 : decode cX3_costs 4 = .ok (.iadd, 1) := by decide +kernel
theorem dX3_costs_5 : decode cX3_costs 5 = .ok (.istore_n 3, 1) := by decide +kernel
theorem dX3_costs_6 : decode cX3_costs 6 = .ok (.iconst 1, 1) := by decide +kernel
theorem dX3_costs_7 : decode cX3_costs 7 = .ok (.istore 4, 2) := by decide +kernel
theorem dX3_costs_9 : decode cX3_costs 9 = .ok (.iload_n 0, 1) := by decide +kernel
theorem dX3_costs_10 : decode cX3_costs 10 = .ok (.tableswitch 68 1 7 #[42, 44, 48, 51, 55, 59, 63], 42) := by decide +kernel
theorem dX3_costs_52 : decode cX3_costs 52 = .ok (.iload_n 3, 1) := by decide +kernel
theorem dX3_costs_53 : decode cX3_costs 53 = .ok (.ireturn, 1) := by decide +kernel
theorem dX3_costs_54 : decode cX3_costs 54 = .ok (.iconst 2, 1) := by decide +kernel
theorem dX3_costs_55 : decode cX3_costs 55 = .ok (.iload_n 3, 1) := by decide +kernel
theorem dX3_costs_56 : decode cX3_costs 56 = .ok (.imul, 1) := by decide +kernel
theorem dX3_costs_57 : decode cX3_costs 57 = .ok (.ireturn, 1) := by decide +kernel
theorem dX3_costs_58 : decode cX3_costs 58 = .ok (.iload 4, 2) := by decide +kernel
theorem dX3_costs_60 : decode cX3_costs 60 = .ok (.ireturn, 1) := by decide +kernel
theorem dX3_costs_61 : decode cX3_costs 61 = .ok (.iload_n 2, 1) := by decide +kernel
theorem dX3_costs_62 : decode cX3_costs 62 = .ok (.iconst 3, 1) := by decide +kernel
theorem dX3_costs_63 : decode cX3_costs 63 = .ok (.iadd, 1) := by decide +kernel
theorem dX3_costs_64 : decode cX3_costs 64 = .ok (.ireturn, 1) := by decide +kernel
theorem dX3_costs_65 : decode cX3_costs 65 = .ok (.iload_n 3, 1) := by decide +kernel
theorem dX3_costs_66 : decode cX3_costs 66 = .ok (.iconst 2, 1) := by decide +kernel
theorem dX3_costs_67 : decode cX3_costs 67 = .ok (.isub, 1) := by decide +kernel
theorem dX3_costs_68 : decode cX3_costs 68 = .ok (.ireturn, 1) := by decide +kernel
theorem dX3_costs_69 : decode cX3_costs 69 = .ok (.iload_n 2, 1) := by decide +kernel
theorem dX3_costs_70 : decode cX3_costs 70 = .ok (.iconst 5, 1) := by decide +kernel
theorem dX3_costs_71 : decode cX3_costs 71 = .ok (.iadd, 1) := by decide +kernel
theorem dX3_costs_72 : decode cX3_costs 72 = .ok (.ireturn, 1) := by decide +kernel
theorem dX3_costs_73 : decode cX3_costs 73 = .ok (.iload 4, 2) := by decide +kernel
theorem dX3_costs_75 : decode cX3_costs 75 = .ok (.iload_n 1, 1) := by decide +kernel
theorem dX3_costs_76 : decode cX3_costs 76 = .ok (.iadd, 1) := by decide +kernel
theorem dX3_costs_77 : decode cX3_costs 77 = .ok (.ireturn, 1) := by decide +kernel
theorem dX3_costs_78 : decode cX3_costs 78 = .ok (.iload_n 2, 1) := by decide +kernel
theorem dX3_costs_79 : decode cX3_costs 79 = .ok (.ireturn, 1) := by decide +kernel
theorem dX3_stretch_0 : decode cX3_stretch 0 = .ok (.iload_n 2, 1) := by decide +kernel
theorem dX3_stretch_1 : decode cX3_stretch 1 = .ok (.iload_n 0, 1) := by decide +kernel
theorem dX3_stretch_2 : decode cX3_stretch 2 = .ok (.iload_n 1, 1) := by decide +kernel
theorem dX3_stretch_3 : decode cX3_stretch 3 = .ok (.invokestatic 7, 3) := by decide +kernel
theorem dX3_stretch_6 : decode cX3_stretch 6 = .ok (.isub, 1) := by decide +kernel
theorem dX3_stretch_7 : decode cX3_stretch 7 = .ok (.istore_n 3, 1) := by decide +kernel
theorem dX3_stretch_8 : decode cX3_stretch 8 = .ok (.iload_n 3, 1) := by decide +kernel
theorem dX3_stretch_9 : decode cX3_stretch 9 = .ok (.ifCond .le 7, 3) := by decide +kernel
theorem dX3_stretch_12 : decode cX3_stretch 12 = .ok (.iload_n 3, 1) := by decide +kernel
theorem dX3_stretch_13 : decode cX3_stretch 13 = .ok (.goto 4, 3) := by decide +kernel
theorem dX3_stretch_16 : decode cX3_stretch 16 = .ok (.iconst 0, 1) := by decide +kernel
theorem dX3_stretch_17 : decode cX3_stretch 17 = .ok (.ireturn, 1) := by decide +kernel
theorem dX3_pull_0 : decode cX3_pull 0 = .ok (.iload_n 0, 1) := by decide +kernel
theorem dX3_pull_1 : decode cX3_pull 1 = .ok (.iload_n 1, 1) := by decide +kernel
theorem dX3_pull_2 : decode cX3_pull 2 = .ok (.iload_n 2, 1) := by decide +kernel
theorem dX3_pull_3 : decode cX3_pull 3 = .ok (.invokestatic 13, 3) := by decide +kernel
theorem dX3_pull_6 : decode cX3_pull 6 = .ok (.iload_n 0, 1) := by decide +kernel
theorem dX3_pull_7 : decode cX3_pull 7 = .ok (.invokestatic 17, 3) := by decide +kernel
theorem dX3_pull_10 : decode cX3_pull 10 = .ok (.imul, 1) := by decide +kernel
theorem dX3_pull_11 : decode cX3_pull 11 = .ok (.ireturn, 1) := by decide +kernel
theorem dX3_fail_0 : decode cX3_fail 0 = .ok (.iload_n 1, 1) := by decide +kernel
theorem dX3_fail_1 : decode cX3_fail 1 = .ok (.ifCond .eq 14, 3) := by decide +kernel
theorem dX3_fail_4 : decode cX3_fail 4 = .ok (.iload_n 0, 1) := by decide +kernel
theorem dX3_fail_5 : decode cX3_fail 5 = .ok (.iconst 3, 1) := by decide +kernel
theorem dX3_fail_6 : decode cX3_fail 6 = .ok (.if_icmp .eq 9, 3) := by decide +kernel
theorem dX3_fail_9 : decode cX3_fail 9 = .ok (.iload_n 0, 1) := by decide +kernel
theorem dX3_fail_10 : decode cX3_fail 10 = .ok (.bipush 7, 2) := by decide +kernel
theorem dX3_fail_12 : decode cX3_fail 12 = .ok (.if_icmp .ne 4, 3) := by decide +kernel
theorem dX3_fail_15 : decode cX3_fail 15 = .ok (.return_, 1) := by decide +kernel
theorem dX3_fail_16 : decode cX3_fail 16 = .ok (.iload_n 0, 1) := by decide +kernel
theorem dX3_fail_17 : decode cX3_fail 17 = .ok (.iconst 2, 1) := by decide +kernel
theorem dX3_fail_18 : decode cX3_fail 18 = .ok (.if_icmp .ne 13, 3) := by decide +kernel
theorem dX3_fail_21 : decode cX3_fail 21 = .ok (.new 21, 3) := by decide +kernel
theorem dX3_fail_24 : decode cX3_fail 24 = .ok (.dup, 1) := by decide +kernel
theorem dX3_fail_25 : decode cX3_fail 25 = .ok (.ldc 23, 2) := by decide +kernel
theorem dX3_fail_27 : decode cX3_fail 27 = .ok (.invokespecial 25, 3) := by decide +kernel
theorem dX3_fail_30 : decode cX3_fail 30 = .ok (.athrow, 1) := by decide +kernel
theorem dX3_fail_31 : decode cX3_fail 31 = .ok (.iload_n 0, 1) := by decide +kernel
theorem dX3_fail_32 : decode cX3_fail 32 = .ok (.iconst 1, 1) := by decide +kernel
theorem dX3_fail_33 : decode cX3_fail 33 = .ok (.if_icmp .eq 8, 3) := by decide +kernel
theorem dX3_fail_36 : decode cX3_fail 36 = .ok (.iload_n 0, 1) := by decide +kernel
theorem dX3_fail_37 : decode cX3_fail 37 = .ok (.iconst 5, 1) := by decide +kernel
theorem dX3_fail_38 : decode cX3_fail 38 = .ok (.if_icmp .ne 13, 3) := by decide +kernel
theorem dX3_fail_41 : decode cX3_fail 41 = .ok (.new 28, 3) := by decide +kernel
theorem dX3_fail_44 : decode cX3_fail 44 = .ok (.dup, 1) := by decide +kernel
theorem dX3_fail_45 : decode cX3_fail 45 = .ok (.ldc 30, 2) := by decide +kernel
theorem dX3_fail_47 : decode cX3_fail 47 = .ok (.invokespecial 32, 3) := by decide +kernel
theorem dX3_fail_50 : decode cX3_fail 50 = .ok (.athrow, 1) := by decide +kernel
theorem dX3_fail_51 : decode cX3_fail 51 = .ok (.new 33, 3) := by decide +kernel
theorem dX3_fail_54 : decode cX3_fail 54 = .ok (.dup, 1) := by decide +kernel
theorem dX3_fail_55 : decode cX3_fail 55 = .ok (.ldc 35, 2) := by decide +kernel
theorem dX3_fail_57 : decode cX3_fail 57 = .ok (.invokespecial 37, 3) := by decide +kernel
theorem dX3_fail_60 : decode cX3_fail 60 = .ok (.athrow, 1) := by decide +kernel
theorem dX4_init_0 : decode cX4_init 0 = .ok (.aload_n 0, 1) := by decide +kernel
theorem dX4_init_1 : decode cX4_init 1 = .ok (.invokespecial 3, 3) := by decide +kernel
theorem dX4_init_4 : decode cX4_init 4 = .ok (.aload_n 0, 1) := by decide +kernel
theorem dX4_init_5 : decode cX4_init 5 = .ok (.bipush 7, 2) := by decide +kernel
theorem dX4_init_7 : decode cX4_init 7 = .ok (.bipush 7, 2) := by decide +kernel
theorem dX4_init_9 : decode cX4_init 9 = .ok (.multianewarray 9 2, 4) := by decide +kernel
theorem dX4_init_13 : decode cX4_init 13 = .ok (.putfield 11, 3) := by decide +kernel
theorem dX4_init_16 : decode cX4_init 16 = .ok (.aload_n 0, 1) := by decide +kernel
theorem dX4_init_17 : decode cX4_init 17 = .ok (.sipush 128, 3) := by decide +kernel
theorem dX4_init_20 : decode cX4_init 20 = .ok (.newarray .int, 2) := by decide +kernel
theorem dX4_init_22 : decode cX4_init 22 = .ok (.putfield 16, 3) := by decide +kernel
theorem dX4_init_25 : decode cX4_init 25 = .ok (.aload_n 0, 1) := by decide +kernel
theorem dX4_init_26 : decode cX4_init 26 = .ok (.aload_n 1, 1) := by decide +kernel
theorem dX4_init_27 : decode cX4_init 27 = .ok (.putfield 20, 3) := by decide +kernel
theorem dX4_init_30 : decode cX4_init 30 = .ok (.aload_n 0, 1) := by decide +kernel
theorem dX4_init_31 : decode cX4_init 31 = .ok (.aload_n 2, 1) := by decide +kernel
theorem dX4_init_32 : decode cX4_init 32 = .ok (.putfield 24, 3) := by decide +kernel
theorem dX4_init_35 : decode cX4_init 35 = .ok (.return_, 1) := by decide +kernel
theorem dX4_endOfTheRoad_0 : decode cX4_endOfTheRoad 0 = .ok (.aload_n 0, 1) := by decide +kernel
theorem dX4_endOfTheRoad_1 : decode cX4_endOfTheRoad 1 = .ok (.getfield 24, 3) := by decide +kernel
theorem dX4_endOfTheRoad_4 : decode cX4_endOfTheRoad 4 = .ok (.aload_n 0, 1) := by decide +kernel
theorem dX4_endOfTheRoad_5 : decode cX4_endOfTheRoad 5 = .ok (.getfield 20, 3) := by decide +kernel
theorem dX4_endOfTheRoad_8 : decode cX4_endOfTheRoad 8 = .ok (.invokevirtual 27, 3) := by decide +kernel
theorem dX4_endOfTheRoad_11 : decode cX4_endOfTheRoad 11 = .ok (.aload_n 0, 1) := by decide +kernel
theorem dX4_endOfTheRoad_12 : decode cX4_endOfTheRoad 12 = .ok (.getfield 20, 3) := by decide +kernel
theorem dX4_endOfTheRoad_15 : decode cX4_endOfTheRoad 15 = .ok (.getfield 33, 3) := by decide +kernel
theorem dX4_endOfTheRoad_18 : decode cX4_endOfTheRoad 18 = .ok (.iload_n 1, 1) := by decide +kernel
theorem dX4_endOfTheRoad_19 : decode cX4_endOfTheRoad 19 = .ok (.iaload, 1) := by decide +kernel
theorem dX4_endOfTheRoad_20 : decode cX4_endOfTheRoad 20 = .ok (.istore_n 3, 1) := by decide +kernel
theorem dX4_endOfTheRoad_21 : decode cX4_endOfTheRoad 21 = .ok (.iconst 1, 1) := by decide +kernel
theorem dX4_endOfTheRoad_22 : decode cX4_endOfTheRoad 22 = .ok (.istore 4, 2) := by decide +kernel
theorem dX4_endOfTheRoad_24 : decode cX4_endOfTheRoad 24 = .ok (.iload 4, 2) := by decide +kernel
theorem dX4_endOfTheRoad_26 : decode cX4_endOfTheRoad 26 = .ok (.bipush 30, 2) := by decide +kernel
theorem dX4_endOfTheRoad_28 : decode cX4_endOfTheRoad 28 = .ok (.if_icmp .gt 59, 3) := by decide +kernel
theorem dX4_endOfTheRoad_31 : decode cX4_endOfTheRoad 31 = .ok (.iload_n 3, 1) := by decide +kernel
theorem dX4_endOfTheRoad_32 : decode cX4_endOfTheRoad 32 = .ok (.iload_n 2, 1) := by decide +kernel
theorem dX4_endOfTheRoad_33 : decode cX4_endOfTheRoad 33 = .ok (.iadd, 1) := by decide +kernel
theorem dX4_endOfTheRoad_34 : decode cX4_endOfTheRoad 34 = .ok (.istore 5, 2) := by decide +kernel
theorem dX4_endOfTheRoad_36 : decode cX4_endOfTheRoad 36 = .ok (.iload 5, 2) := by decide +kernel
theorem dX4_endOfTheRoad_38 : decode cX4_endOfTheRoad 38 = .ok (.bipush 30, 2) := by decide +kernel
theorem dX4_endOfTheRoad_40 : decode cX4_endOfTheRoad 40 = .ok (.invokestatic 36, 3) := by decide +kernel
theorem dX4_endOfTheRoad_43 : decode cX4_endOfTheRoad 43 = .ok (.ifCond .ne 5, 3) := by decide +kernel
theorem dX4_endOfTheRoad_46 : decode cX4_endOfTheRoad 46 = .ok (.iload_n 3, 1) := by decide +kernel
theorem dX4_endOfTheRoad_47 : decode cX4_endOfTheRoad 47 = .ok (.ireturn, 1) := by decide +kernel
theorem dX4_endOfTheRoad_48 : decode cX4_endOfTheRoad 48 = .ok (.aload_n 0, 1) := by decide +kernel
theorem dX4_endOfTheRoad_49 : decode cX4_endOfTheRoad 49 = .ok (.getfield 24, 3) := by decide +kernel
theorem dX4_endOfTheRoad_52 : decode cX4_endOfTheRoad 52 = .ok (.getfield 33, 3) := by decide +kernel
theorem dX4_endOfTheRoad_55 : decode cX4_endOfTheRoad 55 = .ok (.iload_n 1, 1) := by decide +kernel
theorem dX4_endOfTheRoad_56 : decode cX4_endOfTheRoad 56 = .ok (.iload 5, 2) := by decide +kernel
theorem dX4_endOfTheRoad_58 : decode cX4_endOfTheRoad 58 = .ok (.iastore, 1) := by decide +kernel
theorem dX4_endOfTheRoad_59 : decode cX4_endOfTheRoad 59 = .ok (.aload_n 0, 1) := by decide +kernel
theorem dX4_endOfTheRoad_60 : decode cX4_endOfTheRoad 60 = .ok (.getfield 24, 3) := by decide +kernel
theorem dX4_endOfTheRoad_63 : decode cX4_endOfTheRoad 63 = .ok (.aload_n 0, 1) := by decide +kernel
theorem dX4_endOfTheRoad_64 : decode cX4_endOfTheRoad 64 = .ok (.getfield 24, 3) := by decide +kernel
theorem dX4_endOfTheRoad_67 : decode cX4_endOfTheRoad 67 = .ok (.getfield 40, 3) := by decide +kernel
theorem dX4_endOfTheRoad_70 : decode cX4_endOfTheRoad 70 = .ok (.invokevirtual 44, 3) := by decide +kernel
theorem dX4_endOfTheRoad_73 : decode cX4_endOfTheRoad 73 = .ok (.ifCond .eq 5, 3) := by decide +kernel
theorem dX4_endOfTheRoad_76 : decode cX4_endOfTheRoad 76 = .ok (.iload_n 3, 1) := by decide +kernel
theorem dX4_endOfTheRoad_77 : decode cX4_endOfTheRoad 77 = .ok (.ireturn, 1) := by decide +kernel
theorem dX4_endOfTheRoad_78 : decode cX4_endOfTheRoad 78 = .ok (.iload 5, 2) := by decide +kernel
theorem dX4_endOfTheRoad_80 : decode cX4_endOfTheRoad 80 = .ok (.istore_n 3, 1) := by decide +kernel
theorem dX4_endOfTheRoad_81 : decode cX4_endOfTheRoad 81 = .ok (.iinc 4 1, 3) := by decide +kernel
theorem dX4_endOfTheRoad_84 : decode cX4_endOfTheRoad 84 = .ok (.goto (-60), 3) := by decide +kernel
theorem dX4_endOfTheRoad_87 : decode cX4_endOfTheRoad 87 = .ok (.iload_n 3, 1) := by decide +kernel
theorem dX4_endOfTheRoad_88 : decode cX4_endOfTheRoad 88 = .ok (.ireturn, 1) := by decide +kernel
theorem dX4_restingPlace_0 : decode cX4_restingPlace 0 = .ok (.aload_n 0, 1) := by decide +kernel
theorem dX4_restingPlace_1 : decode cX4_restingPlace 1 = .ok (.iload_n 1, 1) := by decide +kernel
theorem dX4_restingPlace_2 : decode cX4_restingPlace 2 = .ok (.iconst (-1), 1) := by decide +kernel
theorem dX4_restingPlace_3 : decode cX4_restingPlace 3 = .ok (.invokevirtual 48, 3) := by decide +kernel
theorem dX4_restingPlace_6 : decode cX4_restingPlace 6 = .ok (.istore_n 2, 1) := by decide +kernel
theorem dX4_restingPlace_7 : decode cX4_restingPlace 7 = .ok (.aload_n 0, 1) := by decide +kernel
theorem dX4_restingPlace_8 : decode cX4_restingPlace 8 = .ok (.iload_n 1, 1) := by decide +kernel
theorem dX4_restingPlace_9 : decode cX4_restingPlace 9 = .ok (.iconst 1, 1) := by decide +kernel
theorem dX4_restingPlace_10 : decode cX4_restingPlace 10 = .ok (.invokevirtual 48, 3) := by decide +kernel
theorem dX4_restingPlace_13 : decode cX4_restingPlace 13 = .ok (.istore_n 3, 1) := by decide +kernel
theorem dX4_restingPlace_14 : decode cX4_restingPlace 14 = .ok (.aload_n 0, 1) := by decide +kernel
theorem dX4_restingPlace_15 : decode cX4_restingPlace 15 = .ok (.getfield 24, 3) := by decide +kernel
theorem dX4_restingPlace_18 : decode cX4_restingPlace 18 = .ok (.aload_n 0, 1) := by decide +kernel
theorem dX4_restingPlace_19 : decode cX4_restingPlace 19 = .ok (.getfield 20, 3) := by decide +kernel
theorem dX4_restingPlace_22 : decode cX4_restingPlace 22 = .ok (.invokevirtual 27, 3) := by decide +kernel
theorem dX4_restingPlace_25 : decode cX4_restingPlace 25 = .ok (.iload_n 2, 1) := by decide +kernel
theorem dX4_restingPlace_26 : decode cX4_restingPlace 26 = .ok (.istore 4, 2) := by decide +kernel
theorem dX4_restingPlace_28 : decode cX4_restingPlace 28 = .ok (.ldc 52, 2) := by decide +kernel
theorem dX4_restingPlace_30 : decode cX4_restingPlace 30 = .ok (.istore 5, 2) := by decide +kernel
theorem dX4_restingPlace_32 : decode cX4_restingPlace 32 = .ok (.iload_n 2, 1) := by decide +kernel
theorem dX4_restingPlace_33 : decode cX4_restingPlace 33 = .ok (.istore 6, 2) := by decide +kernel
theorem dX4_restingPlace_35 : decode cX4_restingPlace 35 = .ok (.iload 6, 2) := by decide +kernel
theorem dX4_restingPlace_37 : decode cX4_restingPlace 37 = .ok (.iload_n 3, 1) := by decide +kernel
theorem dX4_restingPlace_38 : decode cX4_restingPlace 38 = .ok (.if_icmp .gt 56, 3) := by decide +kernel
theorem dX4_restingPlace_41 : decode cX4_restingPlace 41 = .ok (.aload_n 0, 1) := by decide +kernel
theorem dX4_restingPlace_42 : decode cX4_restingPlace 42 = .ok (.getfield 24, 3) := by decide +kernel
theorem dX4_restingPlace_45 : decode cX4_restingPlace 45 = .ok (.getfield 33, 3) := by decide +kernel
theorem dX4_restingPlace_48 : decode cX4_restingPlace 48 = .ok (.iload_n 1, 1) := by decide +kernel
theorem dX4_restingPlace_49 : decode cX4_restingPlace 49 = .ok (.iload 6, 2) := by decide +kernel
theorem dX4_restingPlace_51 : decode cX4_restingPlace 51 = .ok (.iastore, 1) := by decide +kernel
theorem dX4_restingPlace_52 : decode cX4_restingPlace 52 = .ok (.aload_n 0, 1) := by decide +kernel
theorem dX4_restingPlace_53 : decode cX4_restingPlace 53 = .ok (.getfield 24, 3) := by decide +kernel
theorem dX4_restingPlace_56 : decode cX4_restingPlace 56 = .ok (.invokevirtual 53, 3) := by decide +kernel
theorem dX4_restingPlace_59 : decode cX4_restingPlace 59 = .ok (.aload_n 0, 1) := by decide +kernel
theorem dX4_restingPlace_60 : decode cX4_restingPlace 60 = .ok (.getfield 24, 3) := by decide +kernel
theorem dX4_restingPlace_63 : decode cX4_restingPlace 63 = .ok (.getfield 56, 3) := by decide +kernel
theorem dX4_restingPlace_66 : decode cX4_restingPlace 66 = .ok (.iload_n 1, 1) := by decide +kernel
theorem dX4_restingPlace_67 : decode cX4_restingPlace 67 = .ok (.iaload, 1) := by decide +kernel
theorem dX4_restingPlace_68 : decode cX4_restingPlace 68 = .ok (.invokestatic 59, 3) := by decide +kernel
theorem dX4_restingPlace_71 : decode cX4_restingPlace 71 = .ok (.istore 7, 2) := by decide +kernel
theorem dX4_restingPlace_73 : decode cX4_restingPlace 73 = .ok (.iload 7, 2) := by decide +kernel
theorem dX4_restingPlace_75 : decode cX4_restingPlace 75 = .ok (.iload 5, 2) := by decide +kernel
theorem dX4_restingPlace_77 : decode cX4_restingPlace 77 = .ok (.if_icmp .ge 11, 3) := by decide +kernel
theorem dX4_restingPlace_80 : decode cX4_restingPlace 80 = .ok (.iload 7, 2) := by decide +kernel
theorem dX4_restingPlace_82 : decode cX4_restingPlace 82 = .ok (.istore 5, 2) := by decide +kernel
theorem dX4_restingPlace_84 : decode cX4_restingPlace 84 = .ok (.iload 6, 2) := by decide +kernel
theorem dX4_restingPlace_86 : decode cX4_restingPlace 86 = .ok (.istore 4, 2) := by decide +kernel
theorem dX4_restingPlace_88 : decode cX4_restingPlace 88 = .ok (.iinc 6 1, 3) := by decide +kernel
theorem dX4_restingPlace_91 : decode cX4_restingPlace 91 = .ok (.goto (-56), 3) := by decide +kernel
theorem dX4_restingPlace_94 : decode cX4_restingPlace 94 = .ok (.iload 4, 2) := by decide +kernel
theorem dX4_restingPlace_96 : decode cX4_restingPlace 96 = .ok (.ireturn, 1) := by decide +kernel
theorem dX4_snappedByGoing_0 : decode cX4_snappedByGoing 0 = .ok (.aload_n 0, 1) := by decide +kernel
theorem dX4_snappedByGoing_1 : decode cX4_snappedByGoing 1 = .ok (.getfield 24, 3) := by decide +kernel
theorem dX4_snappedByGoing_4 : decode cX4_snappedByGoing 4 = .ok (.aload_n 0, 1) := by decide +kernel
theorem dX4_snappedByGoing_5 : decode cX4_snappedByGoing 5 = .ok (.getfield 20, 3) := by decide +kernel
theorem dX4_snappedByGoing_8 : decode cX4_snappedByGoing 8 = .ok (.invokevirtual 27, 3) := by decide +kernel
theorem dX4_snappedByGoing_11 : decode cX4_snappedByGoing 11 = .ok (.aload_n 0, 1) := by decide +kernel
theorem dX4_snappedByGoing_12 : decode cX4_snappedByGoing 12 = .ok (.getfield 24, 3) := by decide +kernel
theorem dX4_snappedByGoing_15 : decode cX4_snappedByGoing 15 = .ok (.getfield 33, 3) := by decide +kernel
theorem dX4_snappedByGoing_18 : decode cX4_snappedByGoing 18 = .ok (.iload_n 1, 1) := by decide +kernel
theorem dX4_snappedByGoing_19 : decode cX4_snappedByGoing 19 = .ok (.iload_n 2, 1) := by decide +kernel
theorem dX4_snappedByGoing_20 : decode cX4_snappedByGoing 20 = .ok (.iastore, 1) := by decide +kernel
theorem dX4_snappedByGoing_21 : decode cX4_snappedByGoing 21 = .ok (.aload_n 0, 1) := by decide +kernel
theorem dX4_snappedByGoing_22 : decode cX4_snappedByGoing 22 = .ok (.getfield 24, 3) := by decide +kernel
theorem dX4_snappedByGoing_25 : decode cX4_snappedByGoing 25 = .ok (.aload_n 0, 1) := by decide +kernel
theorem dX4_snappedByGoing_26 : decode cX4_snappedByGoing 26 = .ok (.getfield 24, 3) := by decide +kernel
theorem dX4_snappedByGoing_29 : decode cX4_snappedByGoing 29 = .ok (.getfield 40, 3) := by decide +kernel
theorem dX4_snappedByGoing_32 : decode cX4_snappedByGoing 32 = .ok (.invokevirtual 44, 3) := by decide +kernel
theorem dX4_snappedByGoing_35 : decode cX4_snappedByGoing 35 = .ok (.ireturn, 1) := by decide +kernel
theorem dX4_farTo_0 : decode cX4_farTo 0 = .ok (.iconst 0, 1) := by decide +kernel
theorem dX4_farTo_1 : decode cX4_farTo 1 = .ok (.istore_n 2, 1) := by decide +kernel
theorem dX4_farTo_2 : decode cX4_farTo 2 = .ok (.iconst 0, 1) := by decide +kernel
theorem dX4_farTo_3 : decode cX4_farTo 3 = .ok (.istore_n 3, 1) := by decide +kernel
theorem dX4_farTo_4 : decode cX4_farTo 4 = .ok (.iload_n 3, 1) := by decide +kernel
theorem dX4_farTo_5 : decode cX4_farTo 5 = .ok (.aload_n 0, 1) := by decide +kernel
theorem dX4_farTo_6 : decode cX4_farTo 6 = .ok (.getfield 20, 3) := by decide +kernel
theorem dX4_farTo_9 : decode cX4_farTo 9 = .ok (.getfield 64, 3) := by decide +kernel
theorem dX4_farTo_12 : decode cX4_farTo 12 = .ok (.if_icmp .ge 26, 3) := by decide +kernel
theorem dX4_farTo_15 : decode cX4_farTo 15 = .ok (.iload_n 2, 1) := by decide +kernel
theorem dX4_farTo_16 : decode cX4_farTo 16 = .ok (.aload_n 0, 1) := by decide +kernel
theorem dX4_farTo_17 : decode cX4_farTo 17 = .ok (.getfield 20, 3) := by decide +kernel
theorem dX4_farTo_20 : decode cX4_farTo 20 = .ok (.getfield 33, 3) := by decide +kernel
theorem dX4_farTo_23 : decode cX4_farTo 23 = .ok (.iload_n 3, 1) := by decide +kernel
theorem dX4_farTo_24 : decode cX4_farTo 24 = .ok (.iaload, 1) := by decide +kernel
theorem dX4_farTo_25 : decode cX4_farTo 25 = .ok (.iload_n 1, 1) := by decide +kernel
theorem dX4_farTo_26 : decode cX4_farTo 26 = .ok (.isub, 1) := by decide +kernel
theorem dX4_farTo_27 : decode cX4_farTo 27 = .ok (.invokestatic 59, 3) := by decide +kernel
theorem dX4_farTo_30 : decode cX4_farTo 30 = .ok (.iadd, 1) := by decide +kernel
theorem dX4_farTo_31 : decode cX4_farTo 31 = .ok (.istore_n 2, 1) := by decide +kernel
theorem dX4_farTo_32 : decode cX4_farTo 32 = .ok (.iinc 3 1, 3) := by decide +kernel
theorem dX4_farTo_35 : decode cX4_farTo 35 = .ok (.goto (-31), 3) := by decide +kernel
theorem dX4_farTo_38 : decode cX4_farTo 38 = .ok (.iload_n 2, 1) := by decide +kernel
theorem dX4_farTo_39 : decode cX4_farTo 39 = .ok (.ireturn, 1) := by decide +kernel
theorem dX4_meetingPlace_0 : decode cX4_meetingPlace 0 = .ok (.iconst 0, 1) := by decide +kernel
theorem dX4_meetingPlace_1 : decode cX4_meetingPlace 1 = .ok (.istore_n 1, 1) := by decide +kernel
theorem dX4_meetingPlace_2 : decode cX4_meetingPlace 2 = .ok (.iconst 1, 1) := by decide +kernel
theorem dX4_meetingPlace_3 : decode cX4_meetingPlace 3 = .ok (.istore_n 2, 1) := by decide +kernel
theorem dX4_meetingPlace_4 : decode cX4_meetingPlace 4 = .ok (.iload_n 2, 1) := by decide +kernel
theorem dX4_meetingPlace_5 : decode cX4_meetingPlace 5 = .ok (.bipush 30, 2) := by decide +kernel
theorem dX4_meetingPlace_7 : decode cX4_meetingPlace 7 = .ok (.if_icmp .gt 24, 3) := by decide +kernel
theorem dX4_meetingPlace_10 : decode cX4_meetingPlace 10 = .ok (.aload_n 0, 1) := by decide +kernel
theorem dX4_meetingPlace_11 : decode cX4_meetingPlace 11 = .ok (.iload_n 2, 1) := by decide +kernel
theorem dX4_meetingPlace_12 : decode cX4_meetingPlace 12 = .ok (.invokevirtual 67, 3) := by decide +kernel
theorem dX4_meetingPlace_15 : decode cX4_meetingPlace 15 = .ok (.aload_n 0, 1) := by decide +kernel
theorem dX4_meetingPlace_16 : decode cX4_meetingPlace 16 = .ok (.iload_n 1, 1) := by decide +kernel
theorem dX4_meetingPlace_17 : decode cX4_meetingPlace 17 = .ok (.invokevirtual 67, 3) := by decide +kernel
theorem dX4_meetingPlace_20 : decode cX4_meetingPlace 20 = .ok (.if_icmp .ge 5, 3) := by decide +kernel
theorem dX4_meetingPlace_23 : decode cX4_meetingPlace 23 = .ok (.iload_n 2, 1) := by decide +kernel
theorem dX4_meetingPlace_24 : decode cX4_meetingPlace 24 = .ok (.istore_n 1, 1) := by decide +kernel
theorem dX4_meetingPlace_25 : decode cX4_meetingPlace 25 = .ok (.iinc 2 1, 3) := by decide +kernel
theorem dX4_meetingPlace_28 : decode cX4_meetingPlace 28 = .ok (.goto (-24), 3) := by decide +kernel
theorem dX4_meetingPlace_31 : decode cX4_meetingPlace 31 = .ok (.iload_n 1, 1) := by decide +kernel
theorem dX4_meetingPlace_32 : decode cX4_meetingPlace 32 = .ok (.ireturn, 1) := by decide +kernel
theorem dX4_snappedByMeeting_0 : decode cX4_snappedByMeeting 0 = .ok (.aload_n 0, 1) := by decide +kernel
theorem dX4_snappedByMeeting_1 : decode cX4_snappedByMeeting 1 = .ok (.invokevirtual 70, 3) := by decide +kernel
theorem dX4_snappedByMeeting_4 : decode cX4_snappedByMeeting 4 = .ok (.istore_n 1, 1) := by decide +kernel
theorem dX4_snappedByMeeting_5 : decode cX4_snappedByMeeting 5 = .ok (.aload_n 0, 1) := by decide +kernel
theorem dX4_snappedByMeeting_6 : decode cX4_snappedByMeeting 6 = .ok (.getfield 24, 3) := by decide +kernel
theorem dX4_snappedByMeeting_9 : decode cX4_snappedByMeeting 9 = .ok (.aload_n 0, 1) := by decide +kernel
theorem dX4_snappedByMeeting_10 : decode cX4_snappedByMeeting 10 = .ok (.getfield 20, 3) := by decide +kernel
theorem dX4_snappedByMeeting_13 : decode cX4_snappedByMeeting 13 = .ok (.invokevirtual 27, 3) := by decide +kernel
theorem dX4_snappedByMeeting_16 : decode cX4_snappedByMeeting 16 = .ok (.iconst 0, 1) := by decide +kernel
theorem dX4_snappedByMeeting_17 : decode cX4_snappedByMeeting 17 = .ok (.istore_n 2, 1) := by decide +kernel
theorem dX4_snappedByMeeting_18 : decode cX4_snappedByMeeting 18 = .ok (.iconst 0, 1) := by decide +kernel
theorem dX4_snappedByMeeting_19 : decode cX4_snappedByMeeting 19 = .ok (.istore_n 3, 1) := by decide +kernel
theorem dX4_snappedByMeeting_20 : decode cX4_snappedByMeeting 20 = .ok (.iload_n 3, 1) := by decide +kernel
theorem dX4_snappedByMeeting_21 : decode cX4_snappedByMeeting 21 = .ok (.aload_n 0, 1) := by decide +kernel
theorem dX4_snappedByMeeting_22 : decode cX4_snappedByMeeting 22 = .ok (.getfield 24, 3) := by decide +kernel
theorem dX4_snappedByMeeting_25 : decode cX4_snappedByMeeting 25 = .ok (.getfield 64, 3) := by decide +kernel
theorem dX4_snappedByMeeting_28 : decode cX4_snappedByMeeting 28 = .ok (.if_icmp .ge 21, 3) := by decide +kernel
theorem dX4_snappedByMeeting_31 : decode cX4_snappedByMeeting 31 = .ok (.iload_n 2, 1) := by decide +kernel
theorem dX4_snappedByMeeting_32 : decode cX4_snappedByMeeting 32 = .ok (.aload_n 0, 1) := by decide +kernel
theorem dX4_snappedByMeeting_33 : decode cX4_snappedByMeeting 33 = .ok (.getfield 24, 3) := by decide +kernel
theorem dX4_snappedByMeeting_36 : decode cX4_snappedByMeeting 36 = .ok (.iload_n 3, 1) := by decide +kernel
theorem dX4_snappedByMeeting_37 : decode cX4_snappedByMeeting 37 = .ok (.iload_n 1, 1) := by decide +kernel
theorem dX4_snappedByMeeting_38 : decode cX4_snappedByMeeting 38 = .ok (.invokevirtual 74, 3) := by decide +kernel
theorem dX4_snappedByMeeting_41 : decode cX4_snappedByMeeting 41 = .ok (.iadd, 1) := by decide +kernel
theorem dX4_snappedByMeeting_42 : decode cX4_snappedByMeeting 42 = .ok (.istore_n 2, 1) := by decide +kernel
theorem dX4_snappedByMeeting_43 : decode cX4_snappedByMeeting 43 = .ok (.iinc 3 1, 3) := by decide +kernel
theorem dX4_snappedByMeeting_46 : decode cX4_snappedByMeeting 46 = .ok (.goto (-26), 3) := by decide +kernel
theorem dX4_snappedByMeeting_49 : decode cX4_snappedByMeeting 49 = .ok (.iload_n 2, 1) := by decide +kernel
theorem dX4_snappedByMeeting_50 : decode cX4_snappedByMeeting 50 = .ok (.ireturn, 1) := by decide +kernel
theorem dX4_weighOrders_0 : decode cX4_weighOrders 0 = .ok (.aload_n 0, 1) := by decide +kernel
theorem dX4_weighOrders_1 : decode cX4_weighOrders 1 = .ok (.aload_n 0, 1) := by decide +kernel
theorem dX4_weighOrders_2 : decode cX4_weighOrders 2 = .ok (.invokevirtual 70, 3) := by decide +kernel
theorem dX4_weighOrders_5 : decode cX4_weighOrders 5 = .ok (.invokevirtual 77, 3) := by decide +kernel
theorem dX4_weighOrders_8 : decode cX4_weighOrders 8 = .ok (.iconst 1, 1) := by decide +kernel
theorem dX4_weighOrders_9 : decode cX4_weighOrders 9 = .ok (.aload_n 0, 1) := by decide +kernel
theorem dX4_weighOrders_10 : decode cX4_weighOrders 10 = .ok (.getfield 20, 3) := by decide +kernel
theorem dX4_weighOrders_13 : decode cX4_weighOrders 13 = .ok (.getfield 64, 3) := by decide +kernel
theorem dX4_weighOrders_16 : decode cX4_weighOrders 16 = .ok (.ishl, 1) := by decide +kernel
theorem dX4_weighOrders_17 : decode cX4_weighOrders 17 = .ok (.iconst 1, 1) := by decide +kernel
theorem dX4_weighOrders_18 : decode cX4_weighOrders 18 = .ok (.isub, 1) := by decide +kernel
theorem dX4_weighOrders_19 : decode cX4_weighOrders 19 = .ok (.istore_n 1, 1) := by decide +kernel
theorem dX4_weighOrders_20 : decode cX4_weighOrders 20 = .ok (.iload_n 1, 1) := by decide +kernel
theorem dX4_weighOrders_21 : decode cX4_weighOrders 21 = .ok (.istore_n 2, 1) := by decide +kernel
theorem dX4_weighOrders_22 : decode cX4_weighOrders 22 = .ok (.iload_n 2, 1) := by decide +kernel
theorem dX4_weighOrders_23 : decode cX4_weighOrders 23 = .ok (.ifCond .lt 70, 3) := by decide +kernel
theorem dX4_weighOrders_26 : decode cX4_weighOrders 26 = .ok (.iload_n 2, 1) := by decide +kernel
theorem dX4_weighOrders_27 : decode cX4_weighOrders 27 = .ok (.iload_n 1, 1) := by decide +kernel
theorem dX4_weighOrders_28 : decode cX4_weighOrders 28 = .ok (.if_icmp .ne 7, 3) := by decide +kernel
theorem dX4_weighOrders_31 : decode cX4_weighOrders 31 = .ok (.iconst 0, 1) := by decide +kernel
theorem dX4_weighOrders_32 : decode cX4_weighOrders 32 = .ok (.goto 5, 3) := by decide +kernel
theorem dX4_weighOrders_35 : decode cX4_weighOrders 35 = .ok (.ldc 52, 2) := by decide +kernel
theorem dX4_weighOrders_37 : decode cX4_weighOrders 37 = .ok (.istore_n 3, 1) := by decide +kernel
theorem dX4_weighOrders_38 : decode cX4_weighOrders 38 = .ok (.iconst 0, 1) := by decide +kernel
theorem dX4_weighOrders_39 : decode cX4_weighOrders 39 = .ok (.istore 4, 2) := by decide +kernel
theorem dX4_weighOrders_41 : decode cX4_weighOrders 41 = .ok (.iload 4, 2) := by decide +kernel
theorem dX4_weighOrders_43 : decode cX4_weighOrders 43 = .ok (.aload_n 0, 1) := by decide +kernel
theorem dX4_weighOrders_44 : decode cX4_weighOrders 44 = .ok (.getfield 20, 3) := by decide +kernel
theorem dX4_weighOrders_47 : decode cX4_weighOrders 47 = .ok (.getfield 64, 3) := by decide +kernel
theorem dX4_weighOrders_50 : decode cX4_weighOrders 50 = .ok (.if_icmp .ge 30, 3) := by decide +kernel
theorem dX4_weighOrders_53 : decode cX4_weighOrders 53 = .ok (.iload_n 2, 1) := by decide +kernel
theorem dX4_weighOrders_54 : decode cX4_weighOrders 54 = .ok (.iload 4, 2) := by decide +kernel
theorem dX4_weighOrders_56 : decode cX4_weighOrders 56 = .ok (.ishr, 1) := by decide +kernel
theorem dX4_weighOrders_57 : decode cX4_weighOrders 57 = .ok (.iconst 1, 1) := by decide +kernel
theorem dX4_weighOrders_58 : decode cX4_weighOrders 58 = .ok (.iand, 1) := by decide +kernel
theorem dX4_weighOrders_59 : decode cX4_weighOrders 59 = .ok (.ifCond .ne 15, 3) := by decide +kernel
theorem dX4_weighOrders_62 : decode cX4_weighOrders 62 = .ok (.iload_n 3, 1) := by decide +kernel
theorem dX4_weighOrders_63 : decode cX4_weighOrders 63 = .ok (.aload_n 0, 1) := by decide +kernel
theorem dX4_weighOrders_64 : decode cX4_weighOrders 64 = .ok (.iload_n 2, 1) := by decide +kernel
theorem dX4_weighOrders_65 : decode cX4_weighOrders 65 = .ok (.iload 4, 2) := by decide +kernel
theorem dX4_weighOrders_67 : decode cX4_weighOrders 67 = .ok (.invokevirtual 81, 3) := by decide +kernel
theorem dX4_weighOrders_70 : decode cX4_weighOrders 70 = .ok (.invokestatic 84, 3) := by decide +kernel
theorem dX4_weighOrders_73 : decode cX4_weighOrders 73 = .ok (.istore_n 3, 1) := by decide +kernel
theorem dX4_weighOrders_74 : decode cX4_weighOrders 74 = .ok (.iinc 4 1, 3) := by decide +kernel
theorem dX4_weighOrders_77 : decode cX4_weighOrders 77 = .ok (.goto (-36), 3) := by decide +kernel
theorem dX4_weighOrders_80 : decode cX4_weighOrders 80 = .ok (.aload_n 0, 1) := by decide +kernel
theorem dX4_weighOrders_81 : decode cX4_weighOrders 81 = .ok (.getfield 16, 3) := by decide +kernel
theorem dX4_weighOrders_84 : decode cX4_weighOrders 84 = .ok (.iload_n 2, 1) := by decide +kernel
theorem dX4_weighOrders_85 : decode cX4_weighOrders 85 = .ok (.iload_n 3, 1) := by decide +kernel
theorem dX4_weighOrders_86 : decode cX4_weighOrders 86 = .ok (.iastore, 1) := by decide +kernel
theorem dX4_weighOrders_87 : decode cX4_weighOrders 87 = .ok (.iinc 2 (-1), 3) := by decide +kernel
theorem dX4_weighOrders_90 : decode cX4_weighOrders 90 = .ok (.goto (-68), 3) := by decide +kernel
theorem dX4_weighOrders_93 : decode cX4_weighOrders 93 = .ok (.return_, 1) := by decide +kernel
theorem dX4_fewestSnapped_0 : decode cX4_fewestSnapped 0 = .ok (.aload_n 0, 1) := by decide +kernel
theorem dX4_fewestSnapped_1 : decode cX4_fewestSnapped 1 = .ok (.getfield 16, 3) := by decide +kernel
theorem dX4_fewestSnapped_4 : decode cX4_fewestSnapped 4 = .ok (.iconst 0, 1) := by decide +kernel
theorem dX4_fewestSnapped_5 : decode cX4_fewestSnapped 5 = .ok (.iaload, 1) := by decide +kernel
theorem dX4_fewestSnapped_6 : decode cX4_fewestSnapped 6 = .ok (.ireturn, 1) := by decide +kernel
theorem dX4_inOrder_0 : decode cX4_inOrder 0 = .ok (.iconst 0, 1) := by decide +kernel
theorem dX4_inOrder_1 : decode cX4_inOrder 1 = .ok (.istore_n 2, 1) := by decide +kernel
theorem dX4_inOrder_2 : decode cX4_inOrder 2 = .ok (.iconst 0, 1) := by decide +kernel
theorem dX4_inOrder_3 : decode cX4_inOrder 3 = .ok (.istore_n 3, 1) := by decide +kernel
theorem dX4_inOrder_4 : decode cX4_inOrder 4 = .ok (.iconst 0, 1) := by decide +kernel
theorem dX4_inOrder_5 : decode cX4_inOrder 5 = .ok (.istore 4, 2) := by decide +kernel
theorem dX4_inOrder_7 : decode cX4_inOrder 7 = .ok (.iload 4, 2) := by decide +kernel
theorem dX4_inOrder_9 : decode cX4_inOrder 9 = .ok (.iload_n 1, 1) := by decide +kernel
theorem dX4_inOrder_10 : decode cX4_inOrder 10 = .ok (.if_icmp .gt 21, 3) := by decide +kernel
theorem dX4_inOrder_13 : decode cX4_inOrder 13 = .ok (.aload_n 0, 1) := by decide +kernel
theorem dX4_inOrder_14 : decode cX4_inOrder 14 = .ok (.iload_n 2, 1) := by decide +kernel
theorem dX4_inOrder_15 : decode cX4_inOrder 15 = .ok (.invokevirtual 87, 3) := by decide +kernel
theorem dX4_inOrder_18 : decode cX4_inOrder 18 = .ok (.istore_n 3, 1) := by decide +kernel
theorem dX4_inOrder_19 : decode cX4_inOrder 19 = .ok (.iload_n 2, 1) := by decide +kernel
theorem dX4_inOrder_20 : decode cX4_inOrder 20 = .ok (.iconst 1, 1) := by decide +kernel
theorem dX4_inOrder_21 : decode cX4_inOrder 21 = .ok (.iload_n 3, 1) := by decide +kernel
theorem dX4_inOrder_22 : decode cX4_inOrder 22 = .ok (.ishl, 1) := by decide +kernel
theorem dX4_inOrder_23 : decode cX4_inOrder 23 = .ok (.ior, 1) := by decide +kernel
theorem dX4_inOrder_24 : decode cX4_inOrder 24 = .ok (.istore_n 2, 1) := by decide +kernel
theorem dX4_inOrder_25 : decode cX4_inOrder 25 = .ok (.iinc 4 1, 3) := by decide +kernel
theorem dX4_inOrder_28 : decode cX4_inOrder 28 = .ok (.goto (-21), 3) := by decide +kernel
theorem dX4_inOrder_31 : decode cX4_inOrder 31 = .ok (.iload_n 3, 1) := by decide +kernel
theorem dX4_inOrder_32 : decode cX4_inOrder 32 = .ok (.ireturn, 1) := by decide +kernel
theorem dX4_nextInOrder_0 : decode cX4_nextInOrder 0 = .ok (.iconst 0, 1) := by decide +kernel
theorem dX4_nextInOrder_1 : decode cX4_nextInOrder 1 = .ok (.istore_n 2, 1) := by decide +kernel
theorem dX4_nextInOrder_2 : decode cX4_nextInOrder 2 = .ok (.iload_n 2, 1) := by decide +kernel
theorem dX4_nextInOrder_3 : decode cX4_nextInOrder 3 = .ok (.aload_n 0, 1) := by decide +kernel
theorem dX4_nextInOrder_4 : decode cX4_nextInOrder 4 = .ok (.getfield 20, 3) := by decide +kernel
theorem dX4_nextInOrder_7 : decode cX4_nextInOrder 7 = .ok (.getfield 64, 3) := by decide +kernel
theorem dX4_nextInOrder_10 : decode cX4_nextInOrder 10 = .ok (.if_icmp .ge 34, 3) := by decide +kernel
theorem dX4_nextInOrder_13 : decode cX4_nextInOrder 13 = .ok (.iload_n 1, 1) := by decide +kernel
theorem dX4_nextInOrder_14 : decode cX4_nextInOrder 14 = .ok (.iload_n 2, 1) := by decide +kernel
theorem dX4_nextInOrder_15 : decode cX4_nextInOrder 15 = .ok (.ishr, 1) := by decide +kernel
theorem dX4_nextInOrder_16 : decode cX4_nextInOrder 16 = .ok (.iconst 1, 1) := by decide +kernel
theorem dX4_nextInOrder_17 : decode cX4_nextInOrder 17 = .ok (.iand, 1) := by decide +kernel
theorem dX4_nextInOrder_18 : decode cX4_nextInOrder 18 = .ok (.ifCond .ne 20, 3) := by decide +kernel
theorem dX4_nextInOrder_21 : decode cX4_nextInOrder 21 = .ok (.aload_n 0, 1) := by decide +kernel
theorem dX4_nextInOrder_22 : decode cX4_nextInOrder 22 = .ok (.iload_n 1, 1) := by decide +kernel
theorem dX4_nextInOrder_23 : decode cX4_nextInOrder 23 = .ok (.iload_n 2, 1) := by decide +kernel
theorem dX4_nextInOrder_24 : decode cX4_nextInOrder 24 = .ok (.invokevirtual 81, 3) := by decide +kernel
theorem dX4_nextInOrder_27 : decode cX4_nextInOrder 27 = .ok (.aload_n 0, 1) := by decide +kernel
theorem dX4_nextInOrder_28 : decode cX4_nextInOrder 28 = .ok (.getfield 16, 3) := by decide +kernel
theorem dX4_nextInOrder_31 : decode cX4_nextInOrder 31 = .ok (.iload_n 1, 1) := by decide +kernel
theorem dX4_nextInOrder_32 : decode cX4_nextInOrder 32 = .ok (.iaload, 1) := by decide +kernel
theorem dX4_nextInOrder_33 : decode cX4_nextInOrder 33 = .ok (.if_icmp .ne 5, 3) := by decide +kernel
theorem dX4_nextInOrder_36 : decode cX4_nextInOrder 36 = .ok (.iload_n 2, 1) := by decide +kernel
theorem dX4_nextInOrder_37 : decode cX4_nextInOrder 37 = .ok (.ireturn, 1) := by decide +kernel
theorem dX4_nextInOrder_38 : decode cX4_nextInOrder 38 = .ok (.iinc 2 1, 3) := by decide +kernel
theorem dX4_nextInOrder_41 : decode cX4_nextInOrder 41 = .ok (.goto (-39), 3) := by decide +kernel
theorem dX4_nextInOrder_44 : decode cX4_nextInOrder 44 = .ok (.iconst 0, 1) := by decide +kernel
theorem dX4_nextInOrder_45 : decode cX4_nextInOrder 45 = .ok (.ireturn, 1) := by decide +kernel
theorem dX4_snappedIfNext_0 : decode cX4_snappedIfNext 0 = .ok (.aload_n 0, 1) := by decide +kernel
theorem dX4_snappedIfNext_1 : decode cX4_snappedIfNext 1 = .ok (.getfield 16, 3) := by decide +kernel
theorem dX4_snappedIfNext_4 : decode cX4_snappedIfNext 4 = .ok (.iload_n 1, 1) := by decide +kernel
theorem dX4_snappedIfNext_5 : decode cX4_snappedIfNext 5 = .ok (.iconst 1, 1) := by decide +kernel
theorem dX4_snappedIfNext_6 : decode cX4_snappedIfNext 6 = .ok (.iload_n 2, 1) := by decide +kernel
theorem dX4_snappedIfNext_7 : decode cX4_snappedIfNext 7 = .ok (.ishl, 1) := by decide +kernel
theorem dX4_snappedIfNext_8 : decode cX4_snappedIfNext 8 = .ok (.ior, 1) := by decide +kernel
theorem dX4_snappedIfNext_9 : decode cX4_snappedIfNext 9 = .ok (.iaload, 1) := by decide +kernel
theorem dX4_snappedIfNext_10 : decode cX4_snappedIfNext 10 = .ok (.istore_n 3, 1) := by decide +kernel
theorem dX4_snappedIfNext_11 : decode cX4_snappedIfNext 11 = .ok (.iconst 0, 1) := by decide +kernel
theorem dX4_snappedIfNext_12 : decode cX4_snappedIfNext 12 = .ok (.istore 4, 2) := by decide +kernel
theorem dX4_snappedIfNext_14 : decode cX4_snappedIfNext 14 = .ok (.iload 4, 2) := by decide +kernel
theorem dX4_snappedIfNext_16 : decode cX4_snappedIfNext 16 = .ok (.aload_n 0, 1) := by decide +kernel
theorem dX4_snappedIfNext_17 : decode cX4_snappedIfNext 17 = .ok (.getfield 20, 3) := by decide +kernel
theorem dX4_snappedIfNext_20 : decode cX4_snappedIfNext 20 = .ok (.getfield 64, 3) := by decide +kernel
theorem dX4_snappedIfNext_23 : decode cX4_snappedIfNext 23 = .ok (.if_icmp .ge 30, 3) := by decide +kernel
theorem dX4_snappedIfNext_26 : decode cX4_snappedIfNext 26 = .ok (.iload_n 1, 1) := by decide +kernel
theorem dX4_snappedIfNext_27 : decode cX4_snappedIfNext 27 = .ok (.iload 4, 2) := by decide +kernel
theorem dX4_snappedIfNext_29 : decode cX4_snappedIfNext 29 = .ok (.ishr, 1) := by decide +kernel
theorem dX4_snappedIfNext_30 : decode cX4_snappedIfNext 30 = .ok (.iconst 1, 1) := by decide +kernel
theorem dX4_snappedIfNext_31 : decode cX4_snappedIfNext 31 = .ok (.iand, 1) := by decide +kernel
theorem dX4_snappedIfNext_32 : decode cX4_snappedIfNext 32 = .ok (.ifCond .ne 15, 3) := by decide +kernel
theorem dX4_snappedIfNext_35 : decode cX4_snappedIfNext 35 = .ok (.iload_n 3, 1) := by decide +kernel
theorem dX4_snappedIfNext_36 : decode cX4_snappedIfNext 36 = .ok (.aload_n 0, 1) := by decide +kernel
theorem dX4_snappedIfNext_37 : decode cX4_snappedIfNext 37 = .ok (.getfield 11, 3) := by decide +kernel
theorem dX4_snappedIfNext_40 : decode cX4_snappedIfNext 40 = .ok (.iload_n 2, 1) := by decide +kernel
theorem dX4_snappedIfNext_41 : decode cX4_snappedIfNext 41 = .ok (.aaload, 1) := by decide +kernel
theorem dX4_snappedIfNext_42 : decode cX4_snappedIfNext 42 = .ok (.iload 4, 2) := by decide +kernel
theorem dX4_snappedIfNext_44 : decode cX4_snappedIfNext 44 = .ok (.iaload, 1) := by decide +kernel
theorem dX4_snappedIfNext_45 : decode cX4_snappedIfNext 45 = .ok (.iadd, 1) := by decide +kernel
theorem dX4_snappedIfNext_46 : decode cX4_snappedIfNext 46 = .ok (.istore_n 3, 1) := by decide +kernel
theorem dX4_snappedIfNext_47 : decode cX4_snappedIfNext 47 = .ok (.iinc 4 1, 3) := by decide +kernel
theorem dX4_snappedIfNext_50 : decode cX4_snappedIfNext 50 = .ok (.goto (-36), 3) := by decide +kernel
theorem dX4_snappedIfNext_53 : decode cX4_snappedIfNext 53 = .ok (.iload_n 3, 1) := by decide +kernel
theorem dX4_snappedIfNext_54 : decode cX4_snappedIfNext 54 = .ok (.ireturn, 1) := by decide +kernel
theorem dX4_findFirstBreaks_0 : decode cX4_findFirstBreaks 0 = .ok (.iconst 0, 1) := by decide +kernel
theorem dX4_findFirstBreaks_1 : decode cX4_findFirstBreaks 1 = .ok (.istore_n 2, 1) := by decide +kernel
theorem dX4_findFirstBreaks_2 : decode cX4_findFirstBreaks 2 = .ok (.iload_n 2, 1) := by decide +kernel
theorem dX4_findFirstBreaks_3 : decode cX4_findFirstBreaks 3 = .ok (.bipush 7, 2) := by decide +kernel
theorem dX4_findFirstBreaks_5 : decode cX4_findFirstBreaks 5 = .ok (.if_icmp .ge 32, 3) := by decide +kernel
theorem dX4_findFirstBreaks_8 : decode cX4_findFirstBreaks 8 = .ok (.iconst 0, 1) := by decide +kernel
theorem dX4_findFirstBreaks_9 : decode cX4_findFirstBreaks 9 = .ok (.istore_n 3, 1) := by decide +kernel
theorem dX4_findFirstBreaks_10 : decode cX4_findFirstBreaks 10 = .ok (.iload_n 3, 1) := by decide +kernel
theorem dX4_findFirstBreaks_11 : decode cX4_findFirstBreaks 11 = .ok (.bipush 7, 2) := by decide +kernel
theorem dX4_findFirstBreaks_13 : decode cX4_findFirstBreaks 13 = .ok (.if_icmp .ge 18, 3) := by decide +kernel
theorem dX4_findFirstBreaks_16 : decode cX4_findFirstBreaks 16 = .ok (.aload_n 0, 1) := by decide +kernel
theorem dX4_findFirstBreaks_17 : decode cX4_findFirstBreaks 17 = .ok (.getfield 11, 3) := by decide +kernel
theorem dX4_findFirstBreaks_20 : decode cX4_findFirstBreaks 20 = .ok (.iload_n 2, 1) := by decide +kernel
theorem dX4_findFirstBreaks_21 : decode cX4_findFirstBreaks 21 = .ok (.aaload, 1) := by decide +kernel
theorem dX4_findFirstBreaks_22 : decode cX4_findFirstBreaks 22 = .ok (.iload_n 3, 1) := by decide +kernel
theorem dX4_findFirstBreaks_23 : decode cX4_findFirstBreaks 23 = .ok (.iconst 0, 1) := by decide +kernel
theorem dX4_findFirstBreaks_24 : decode cX4_findFirstBreaks 24 = .ok (.iastore, 1) := by decide +kernel
theorem dX4_findFirstBreaks_25 : decode cX4_findFirstBreaks 25 = .ok (.iinc 3 1, 3) := by decide +kernel
theorem dX4_findFirstBreaks_28 : decode cX4_findFirstBreaks 28 = .ok (.goto (-18), 3) := by decide +kernel
theorem dX4_findFirstBreaks_31 : decode cX4_findFirstBreaks 31 = .ok (.iinc 2 1, 3) := by decide +kernel
theorem dX4_findFirstBreaks_34 : decode cX4_findFirstBreaks 34 = .ok (.goto (-32), 3) := by decide +kernel
theorem dX4_findFirstBreaks_37 : decode cX4_findFirstBreaks 37 = .ok (.iconst 0, 1) := by decide +kernel
theorem dX4_findFirstBreaks_38 : decode cX4_findFirstBreaks 38 = .ok (.istore_n 2, 1) := by decide +kernel
theorem dX4_findFirstBreaks_39 : decode cX4_findFirstBreaks 39 = .ok (.iload_n 2, 1) := by decide +kernel
theorem dX4_findFirstBreaks_40 : decode cX4_findFirstBreaks 40 = .ok (.aload_n 0, 1) := by decide +kernel
theorem dX4_findFirstBreaks_41 : decode cX4_findFirstBreaks 41 = .ok (.getfield 20, 3) := by decide +kernel
theorem dX4_findFirstBreaks_44 : decode cX4_findFirstBreaks 44 = .ok (.getfield 90, 3) := by decide +kernel
theorem dX4_findFirstBreaks_47 : decode cX4_findFirstBreaks 47 = .ok (.if_icmp .ge 98, 3) := by decide +kernel
theorem dX4_findFirstBreaks_50 : decode cX4_findFirstBreaks 50 = .ok (.aload_n 0, 1) := by decide +kernel
theorem dX4_findFirstBreaks_51 : decode cX4_findFirstBreaks 51 = .ok (.getfield 20, 3) := by decide +kernel
theorem dX4_findFirstBreaks_54 : decode cX4_findFirstBreaks 54 = .ok (.iload_n 2, 1) := by decide +kernel
theorem dX4_findFirstBreaks_55 : decode cX4_findFirstBreaks 55 = .ok (.invokevirtual 93, 3) := by decide +kernel
theorem dX4_findFirstBreaks_58 : decode cX4_findFirstBreaks 58 = .ok (.ifCond .ne 81, 3) := by decide +kernel
theorem dX4_findFirstBreaks_61 : decode cX4_findFirstBreaks 61 = .ok (.aload_n 0, 1) := by decide +kernel
theorem dX4_findFirstBreaks_62 : decode cX4_findFirstBreaks 62 = .ok (.getfield 20, 3) := by decide +kernel
theorem dX4_findFirstBreaks_65 : decode cX4_findFirstBreaks 65 = .ok (.getfield 97, 3) := by decide +kernel
theorem dX4_findFirstBreaks_68 : decode cX4_findFirstBreaks 68 = .ok (.iload_n 2, 1) := by decide +kernel
theorem dX4_findFirstBreaks_69 : decode cX4_findFirstBreaks 69 = .ok (.iaload, 1) := by decide +kernel
theorem dX4_findFirstBreaks_70 : decode cX4_findFirstBreaks 70 = .ok (.istore_n 3, 1) := by decide +kernel
theorem dX4_findFirstBreaks_71 : decode cX4_findFirstBreaks 71 = .ok (.aload_n 0, 1) := by decide +kernel
theorem dX4_findFirstBreaks_72 : decode cX4_findFirstBreaks 72 = .ok (.getfield 20, 3) := by decide +kernel
theorem dX4_findFirstBreaks_75 : decode cX4_findFirstBreaks 75 = .ok (.getfield 100, 3) := by decide +kernel
theorem dX4_findFirstBreaks_78 : decode cX4_findFirstBreaks 78 = .ok (.iload_n 2, 1) := by decide +kernel
theorem dX4_findFirstBreaks_79 : decode cX4_findFirstBreaks 79 = .ok (.iaload, 1) := by decide +kernel
theorem dX4_findFirstBreaks_80 : decode cX4_findFirstBreaks 80 = .ok (.istore 4, 2) := by decide +kernel
theorem dX4_findFirstBreaks_82 : decode cX4_findFirstBreaks 82 = .ok (.aload_n 0, 1) := by decide +kernel
theorem dX4_findFirstBreaks_83 : decode cX4_findFirstBreaks 83 = .ok (.getfield 11, 3) := by decide +kernel
theorem dX4_findFirstBreaks_86 : decode cX4_findFirstBreaks 86 = .ok (.iload_n 3, 1) := by decide +kernel
theorem dX4_findFirstBreaks_87 : decode cX4_findFirstBreaks 87 = .ok (.aaload, 1) := by decide +kernel
theorem dX4_findFirstBreaks_88 : decode cX4_findFirstBreaks 88 = .ok (.iload 4, 2) := by decide +kernel
theorem dX4_findFirstBreaks_90 : decode cX4_findFirstBreaks 90 = .ok (.dup2, 1) := by decide +kernel
theorem dX4_findFirstBreaks_91 : decode cX4_findFirstBreaks 91 = .ok (.iaload, 1) := by decide +kernel
theorem dX4_findFirstBreaks_92 : decode cX4_findFirstBreaks 92 = .ok (.aload_n 0, 1) := by decide +kernel
theorem dX4_findFirstBreaks_93 : decode cX4_findFirstBreaks 93 = .ok (.iload_n 2, 1) := by decide +kernel
theorem dX4_findFirstBreaks_94 : decode cX4_findFirstBreaks 94 = .ok (.aload_n 0, 1) := by decide +kernel
theorem dX4_findFirstBreaks_95 : decode cX4_findFirstBreaks 95 = .ok (.getfield 20, 3) := by decide +kernel
theorem dX4_findFirstBreaks_98 : decode cX4_findFirstBreaks 98 = .ok (.getfield 33, 3) := by decide +kernel
theorem dX4_findFirstBreaks_101 : decode cX4_findFirstBreaks 101 = .ok (.iload 4, 2) := by decide +kernel
theorem dX4_findFirstBreaks_103 : decode cX4_findFirstBreaks 103 = .ok (.iaload, 1) := by decide +kernel
theorem dX4_findFirstBreaks_104 : decode cX4_findFirstBreaks 104 = .ok (.iload_n 1, 1) := by decide +kernel
theorem dX4_findFirstBreaks_105 : decode cX4_findFirstBreaks 105 = .ok (.isub, 1) := by decide +kernel
theorem dX4_findFirstBreaks_106 : decode cX4_findFirstBreaks 106 = .ok (.invokevirtual 103, 3) := by decide +kernel
theorem dX4_findFirstBreaks_109 : decode cX4_findFirstBreaks 109 = .ok (.iadd, 1) := by decide +kernel
theorem dX4_findFirstBreaks_110 : decode cX4_findFirstBreaks 110 = .ok (.iastore, 1) := by decide +kernel
theorem dX4_findFirstBreaks_111 : decode cX4_findFirstBreaks 111 = .ok (.aload_n 0, 1) := by decide +kernel
theorem dX4_findFirstBreaks_112 : decode cX4_findFirstBreaks 112 = .ok (.getfield 11, 3) := by decide +kernel
theorem dX4_findFirstBreaks_115 : decode cX4_findFirstBreaks 115 = .ok (.iload 4, 2) := by decide +kernel
theorem dX4_findFirstBreaks_117 : decode cX4_findFirstBreaks 117 = .ok (.aaload, 1) := by decide +kernel
theorem dX4_findFirstBreaks_118 : decode cX4_findFirstBreaks 118 = .ok (.iload_n 3, 1) := by decide +kernel
theorem dX4_findFirstBreaks_119 : decode cX4_findFirstBreaks 119 = .ok (.dup2, 1) := by decide +kernel
theorem dX4_findFirstBreaks_120 : decode cX4_findFirstBreaks 120 = .ok (.iaload, 1) := by decide +kernel
theorem dX4_findFirstBreaks_121 : decode cX4_findFirstBreaks 121 = .ok (.aload_n 0, 1) := by decide +kernel
theorem dX4_findFirstBreaks_122 : decode cX4_findFirstBreaks 122 = .ok (.iload_n 2, 1) := by decide +kernel
theorem dX4_findFirstBreaks_123 : decode cX4_findFirstBreaks 123 = .ok (.aload_n 0, 1) := by decide +kernel
theorem dX4_findFirstBreaks_124 : decode cX4_findFirstBreaks 124 = .ok (.getfield 20, 3) := by decide +kernel
theorem dX4_findFirstBreaks_127 : decode cX4_findFirstBreaks 127 = .ok (.getfield 33, 3) := by decide +kernel
theorem dX4_findFirstBreaks_130 : decode cX4_findFirstBreaks 130 = .ok (.iload_n 3, 1) := by decide +kernel
theorem dX4_findFirstBreaks_131 : decode cX4_findFirstBreaks 131 = .ok (.iaload, 1) := by decide +kernel
theorem dX4_findFirstBreaks_132 : decode cX4_findFirstBreaks 132 = .ok (.iload_n 1, 1) := by decide +kernel
theorem dX4_findFirstBreaks_133 : decode cX4_findFirstBreaks 133 = .ok (.isub, 1) := by decide +kernel
theorem dX4_findFirstBreaks_134 : decode cX4_findFirstBreaks 134 = .ok (.invokevirtual 103, 3) := by decide +kernel
theorem dX4_findFirstBreaks_137 : decode cX4_findFirstBreaks 137 = .ok (.iadd, 1) := by decide +kernel
theorem dX4_findFirstBreaks_138 : decode cX4_findFirstBreaks 138 = .ok (.iastore, 1) := by decide +kernel
theorem dX4_findFirstBreaks_139 : decode cX4_findFirstBreaks 139 = .ok (.iinc 2 1, 3) := by decide +kernel
theorem dX4_findFirstBreaks_142 : decode cX4_findFirstBreaks 142 = .ok (.goto (-103), 3) := by decide +kernel
theorem dX4_findFirstBreaks_145 : decode cX4_findFirstBreaks 145 = .ok (.return_, 1) := by decide +kernel
theorem dX4_breaksTo_0 : decode cX4_breaksTo 0 = .ok (.aload_n 0, 1) := by decide +kernel
theorem dX4_breaksTo_1 : decode cX4_breaksTo 1 = .ok (.getfield 20, 3) := by decide +kernel
theorem dX4_breaksTo_4 : decode cX4_breaksTo 4 = .ok (.getfield 106, 3) := by decide +kernel
theorem dX4_breaksTo_7 : decode cX4_breaksTo 7 = .ok (.iload_n 1, 1) := by decide +kernel
theorem dX4_breaksTo_8 : decode cX4_breaksTo 8 = .ok (.iaload, 1) := by decide +kernel
theorem dX4_breaksTo_9 : decode cX4_breaksTo 9 = .ok (.aload_n 0, 1) := by decide +kernel
theorem dX4_breaksTo_10 : decode cX4_breaksTo 10 = .ok (.getfield 20, 3) := by decide +kernel
theorem dX4_breaksTo_13 : decode cX4_breaksTo 13 = .ok (.getfield 109, 3) := by decide +kernel
theorem dX4_breaksTo_16 : decode cX4_breaksTo 16 = .ok (.iload_n 1, 1) := by decide +kernel
theorem dX4_breaksTo_17 : decode cX4_breaksTo 17 = .ok (.iaload, 1) := by decide +kernel
theorem dX4_breaksTo_18 : decode cX4_breaksTo 18 = .ok (.iload_n 2, 1) := by decide +kernel
theorem dX4_breaksTo_19 : decode cX4_breaksTo 19 = .ok (.invokestatic 59, 3) := by decide +kernel
theorem dX4_breaksTo_22 : decode cX4_breaksTo 22 = .ok (.invokestatic 112, 3) := by decide +kernel
theorem dX4_breaksTo_25 : decode cX4_breaksTo 25 = .ok (.istore_n 3, 1) := by decide +kernel
theorem dX4_breaksTo_26 : decode cX4_breaksTo 26 = .ok (.iload_n 3, 1) := by decide +kernel
theorem dX4_breaksTo_27 : decode cX4_breaksTo 27 = .ok (.aload_n 0, 1) := by decide +kernel
theorem dX4_breaksTo_28 : decode cX4_breaksTo 28 = .ok (.getfield 20, 3) := by decide +kernel
theorem dX4_breaksTo_31 : decode cX4_breaksTo 31 = .ok (.iload_n 1, 1) := by decide +kernel
theorem dX4_breaksTo_32 : decode cX4_breaksTo 32 = .ok (.aload_n 0, 1) := by decide +kernel
theorem dX4_breaksTo_33 : decode cX4_breaksTo 33 = .ok (.getfield 20, 3) := by decide +kernel
theorem dX4_breaksTo_36 : decode cX4_breaksTo 36 = .ok (.getfield 118, 3) := by decide +kernel
theorem dX4_breaksTo_39 : decode cX4_breaksTo 39 = .ok (.iload_n 1, 1) := by decide +kernel
theorem dX4_breaksTo_40 : decode cX4_breaksTo 40 = .ok (.iaload, 1) := by decide +kernel
theorem dX4_breaksTo_41 : decode cX4_breaksTo 41 = .ok (.aload_n 0, 1) := by decide +kernel
theorem dX4_breaksTo_42 : decode cX4_breaksTo 42 = .ok (.getfield 20, 3) := by decide +kernel
theorem dX4_breaksTo_45 : decode cX4_breaksTo 45 = .ok (.getfield 40, 3) := by decide +kernel
theorem dX4_breaksTo_48 : decode cX4_breaksTo 48 = .ok (.invokevirtual 121, 3) := by decide +kernel
theorem dX4_breaksTo_51 : decode cX4_breaksTo 51 = .ok (.if_icmp .le 7, 3) := by decide +kernel
theorem dX4_breaksTo_54 : decode cX4_breaksTo 54 = .ok (.iconst 1, 1) := by decide +kernel
theorem dX4_breaksTo_55 : decode cX4_breaksTo 55 = .ok (.goto 4, 3) := by decide +kernel
theorem dX4_breaksTo_58 : decode cX4_breaksTo 58 = .ok (.iconst 0, 1) := by decide +kernel
theorem dX4_breaksTo_59 : decode cX4_breaksTo 59 = .ok (.ireturn, 1) := by decide +kernel
theorem dX4_farthestTwo_0 : decode cX4_farthestTwo 0 = .ok (.bipush (-4), 2) := by decide +kernel
theorem dX4_farthestTwo_2 : decode cX4_farthestTwo 2 = .ok (.istore_n 2, 1) := by decide +kernel
theorem dX4_farthestTwo_3 : decode cX4_farthestTwo 3 = .ok (.bipush (-4), 2) := by decide +kernel
theorem dX4_farthestTwo_5 : decode cX4_farthestTwo 5 = .ok (.istore_n 3, 1) := by decide +kernel
theorem dX4_farthestTwo_6 : decode cX4_farthestTwo 6 = .ok (.iconst 0, 1) := by decide +kernel
theorem dX4_farthestTwo_7 : decode cX4_farthestTwo 7 = .ok (.istore 4, 2) := by decide +kernel
theorem dX4_farthestTwo_9 : decode cX4_farthestTwo 9 = .ok (.iload 4, 2) := by decide +kernel
theorem dX4_farthestTwo_11 : decode cX4_farthestTwo 11 = .ok (.aload_n 0, 1) := by decide +kernel
theorem dX4_farthestTwo_12 : decode cX4_farthestTwo 12 = .ok (.getfield 20, 3) := by decide +kernel
theorem dX4_farthestTwo_15 : decode cX4_farthestTwo 15 = .ok (.getfield 64, 3) := by decide +kernel
theorem dX4_farthestTwo_18 : decode cX4_farthestTwo 18 = .ok (.if_icmp .ge 69, 3) := by decide +kernel
theorem dX4_farthestTwo_21 : decode cX4_farthestTwo 21 = .ok (.iload 4, 2) := by decide +kernel
theorem dX4_farthestTwo_23 : decode cX4_farthestTwo 23 = .ok (.iconst 1, 1) := by decide +kernel
theorem dX4_farthestTwo_24 : decode cX4_farthestTwo 24 = .ok (.iadd, 1) := by decide +kernel
theorem dX4_farthestTwo_25 : decode cX4_farthestTwo 25 = .ok (.istore 5, 2) := by decide +kernel
theorem dX4_farthestTwo_27 : decode cX4_farthestTwo 27 = .ok (.iload 5, 2) := by decide +kernel
theorem dX4_farthestTwo_29 : decode cX4_farthestTwo 29 = .ok (.aload_n 0, 1) := by decide +kernel
theorem dX4_farthestTwo_30 : decode cX4_farthestTwo 30 = .ok (.getfield 20, 3) := by decide +kernel
theorem dX4_farthestTwo_33 : decode cX4_farthestTwo 33 = .ok (.getfield 64, 3) := by decide +kernel
theorem dX4_farthestTwo_36 : decode cX4_farthestTwo 36 = .ok (.if_icmp .ge 45, 3) := by decide +kernel
theorem dX4_farthestTwo_39 : decode cX4_farthestTwo 39 = .ok (.aload_n 0, 1) := by decide +kernel
theorem dX4_farthestTwo_40 : decode cX4_farthestTwo 40 = .ok (.getfield 20, 3) := by decide +kernel
theorem dX4_farthestTwo_43 : decode cX4_farthestTwo 43 = .ok (.iload 4, 2) := by decide +kernel
theorem dX4_farthestTwo_45 : decode cX4_farthestTwo 45 = .ok (.iload 5, 2) := by decide +kernel
theorem dX4_farthestTwo_47 : decode cX4_farthestTwo 47 = .ok (.invokevirtual 124, 3) := by decide +kernel
theorem dX4_farthestTwo_50 : decode cX4_farthestTwo 50 = .ok (.iload_n 2, 1) := by decide +kernel
theorem dX4_farthestTwo_51 : decode cX4_farthestTwo 51 = .ok (.if_icmp .le 24, 3) := by decide +kernel
theorem dX4_farthestTwo_54 : decode cX4_farthestTwo 54 = .ok (.aload_n 0, 1) := by decide +kernel
theorem dX4_farthestTwo_55 : decode cX4_farthestTwo 55 = .ok (.getfield 20, 3) := by decide +kernel
theorem dX4_farthestTwo_58 : decode cX4_farthestTwo 58 = .ok (.iload 4, 2) := by decide +kernel
theorem dX4_farthestTwo_60 : decode cX4_farthestTwo 60 = .ok (.iload 5, 2) := by decide +kernel
theorem dX4_farthestTwo_62 : decode cX4_farthestTwo 62 = .ok (.invokevirtual 124, 3) := by decide +kernel
theorem dX4_farthestTwo_65 : decode cX4_farthestTwo 65 = .ok (.istore_n 2, 1) := by decide +kernel
theorem dX4_farthestTwo_66 : decode cX4_farthestTwo 66 = .ok (.bipush 10, 2) := by decide +kernel
theorem dX4_farthestTwo_68 : decode cX4_farthestTwo 68 = .ok (.iload 4, 2) := by decide +kernel
theorem dX4_farthestTwo_70 : decode cX4_farthestTwo 70 = .ok (.imul, 1) := by decide +kernel
theorem dX4_farthestTwo_71 : decode cX4_farthestTwo 71 = .ok (.iload 5, 2) := by decide +kernel
theorem dX4_farthestTwo_73 : decode cX4_farthestTwo 73 = .ok (.iadd, 1) := by decide +kernel
theorem dX4_farthestTwo_74 : decode cX4_farthestTwo 74 = .ok (.istore_n 3, 1) := by decide +kernel
theorem dX4_farthestTwo_75 : decode cX4_farthestTwo 75 = .ok (.iinc 5 1, 3) := by decide +kernel
theorem dX4_farthestTwo_78 : decode cX4_farthestTwo 78 = .ok (.goto (-51), 3) := by decide +kernel
theorem dX4_farthestTwo_81 : decode cX4_farthestTwo 81 = .ok (.iinc 4 1, 3) := by decide +kernel
theorem dX4_farthestTwo_84 : decode cX4_farthestTwo 84 = .ok (.goto (-75), 3) := by decide +kernel
theorem dX4_farthestTwo_87 : decode cX4_farthestTwo 87 = .ok (.iload_n 1, 1) := by decide +kernel
theorem dX4_farthestTwo_88 : decode cX4_farthestTwo 88 = .ok (.ifCond .eq 7, 3) := by decide +kernel
theorem dX4_farthestTwo_91 : decode cX4_farthestTwo 91 = .ok (.iload_n 3, 1) := by decide +kernel
theorem dX4_farthestTwo_92 : decode cX4_farthestTwo 92 = .ok (.goto 4, 3) := by decide +kernel
theorem dX4_farthestTwo_95 : decode cX4_farthestTwo 95 = .ok (.iload_n 2, 1) := by decide +kernel
theorem dX4_farthestTwo_96 : decode cX4_farthestTwo 96 = .ok (.ireturn, 1) := by decide +kernel
