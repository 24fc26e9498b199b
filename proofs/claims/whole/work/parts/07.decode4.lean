theorem dX11_doCross_1 : decode cX11_doCross 1 = .ok (.iload_n 1, 1) := by decide +kernel
theorem dX11_doCross_2 : decode cX11_doCross 2 = .ok (.iload_n 2, 1) := by decide +kernel
theorem dX11_doCross_3 : decode cX11_doCross 3 = .ok (.invokevirtual 206, 3) := by decide +kernel
theorem dX11_doCross_6 : decode cX11_doCross 6 = .ok (.iconst 1, 1) := by decide +kernel
theorem dX11_doCross_7 : decode cX11_doCross 7 = .ok (.if_icmp .ne 17, 3) := by decide +kernel
theorem dX11_doCross_10 : decode cX11_doCross 10 = .ok (.aload_n 0, 1) := by decide +kernel
theorem dX11_doCross_11 : decode cX11_doCross 11 = .ok (.iload_n 2, 1) := by decide +kernel
theorem dX11_doCross_12 : decode cX11_doCross 12 = .ok (.iload_n 1, 1) := by decide +kernel
theorem dX11_doCross_13 : decode cX11_doCross 13 = .ok (.invokevirtual 206, 3) := by decide +kernel
theorem dX11_doCross_16 : decode cX11_doCross 16 = .ok (.iconst 1, 1) := by decide +kernel
theorem dX11_doCross_17 : decode cX11_doCross 17 = .ok (.if_icmp .ne 7, 3) := by decide +kernel
theorem dX11_doCross_20 : decode cX11_doCross 20 = .ok (.iconst 1, 1) := by decide +kernel
theorem dX11_doCross_21 : decode cX11_doCross 21 = .ok (.goto 4, 3) := by decide +kernel
theorem dX11_doCross_24 : decode cX11_doCross 24 = .ok (.iconst 0, 1) := by decide +kernel
theorem dX11_doCross_25 : decode cX11_doCross 25 = .ok (.ireturn, 1) := by decide +kernel
theorem dX11_crossing_0 : decode cX11_crossing 0 = .ok (.iload_n 1, 1) := by decide +kernel
theorem dX11_crossing_1 : decode cX11_crossing 1 = .ok (.iconst 0, 1) := by decide +kernel
theorem dX11_crossing_2 : decode cX11_crossing 2 = .ok (.iconst 1, 1) := by decide +kernel
theorem dX11_crossing_3 : decode cX11_crossing 3 = .ok (.invokestatic 52, 3) := by decide +kernel
theorem dX11_crossing_6 : decode cX11_crossing 6 = .ok (.ifCond .ne 5, 3) := by decide +kernel
theorem dX11_crossing_9 : decode cX11_crossing 9 = .ok (.iconst (-1), 1) := by decide +kernel
theorem dX11_crossing_10 : decode cX11_crossing 10 = .ok (.ireturn, 1) := by decide +kernel
theorem dX11_crossing_11 : decode cX11_crossing 11 = .ok (.iconst 0, 1) := by decide +kernel
theorem dX11_crossing_12 : decode cX11_crossing 12 = .ok (.istore_n 2, 1) := by decide +kernel
theorem dX11_crossing_13 : decode cX11_crossing 13 = .ok (.bipush (-4), 2) := by decide +kernel
theorem dX11_crossing_15 : decode cX11_crossing 15 = .ok (.istore_n 3, 1) := by decide +kernel
theorem dX11_crossing_16 : decode cX11_crossing 16 = .ok (.iconst 0, 1) := by decide +kernel
theorem dX11_crossing_17 : decode cX11_crossing 17 = .ok (.istore 4, 2) := by decide +kernel
theorem dX11_crossing_19 : decode cX11_crossing 19 = .ok (.iload 4, 2) := by decide +kernel
theorem dX11_crossing_21 : decode cX11_crossing 21 = .ok (.aload_n 0, 1) := by decide +kernel
theorem dX11_crossing_22 : decode cX11_crossing 22 = .ok (.getfield 9, 3) := by decide +kernel
theorem dX11_crossing_25 : decode cX11_crossing 25 = .ok (.iconst 1, 1) := by decide +kernel
theorem dX11_crossing_26 : decode cX11_crossing 26 = .ok (.iaload, 1) := by decide +kernel
theorem dX11_crossing_27 : decode cX11_crossing 27 = .ok (.if_icmp .ge 90, 3) := by decide +kernel
theorem dX11_crossing_30 : decode cX11_crossing 30 = .ok (.iload 4, 2) := by decide +kernel
theorem dX11_crossing_32 : decode cX11_crossing 32 = .ok (.iconst 1, 1) := by decide +kernel
theorem dX11_crossing_33 : decode cX11_crossing 33 = .ok (.iadd, 1) := by decide +kernel
theorem dX11_crossing_34 : decode cX11_crossing 34 = .ok (.istore 5, 2) := by decide +kernel
theorem dX11_crossing_36 : decode cX11_crossing 36 = .ok (.iload 5, 2) := by decide +kernel
theorem dX11_crossing_38 : decode cX11_crossing 38 = .ok (.aload_n 0, 1) := by decide +kernel
theorem dX11_crossing_39 : decode cX11_crossing 39 = .ok (.getfield 9, 3) := by decide +kernel
theorem dX11_crossing_42 : decode cX11_crossing 42 = .ok (.iconst 1, 1) := by decide +kernel
theorem dX11_crossing_43 : decode cX11_crossing 43 = .ok (.iaload, 1) := by decide +kernel
theorem dX11_crossing_44 : decode cX11_crossing 44 = .ok (.if_icmp .ge 67, 3) := by decide +kernel
theorem dX11_crossing_47 : decode cX11_crossing 47 = .ok (.aload_n 0, 1) := by decide +kernel
theorem dX11_crossing_48 : decode cX11_crossing 48 = .ok (.getfield 9, 3) := by decide +kernel
theorem dX11_crossing_51 : decode cX11_crossing 51 = .ok (.iload 4, 2) := by decide +kernel
theorem dX11_crossing_53 : decode cX11_crossing 53 = .ok (.invokestatic 69, 3) := by decide +kernel
theorem dX11_crossing_56 : decode cX11_crossing 56 = .ok (.ifCond .eq 49, 3) := by decide +kernel
theorem dX11_crossing_59 : decode cX11_crossing 59 = .ok (.aload_n 0, 1) := by decide +kernel
theorem dX11_crossing_60 : decode cX11_crossing 60 = .ok (.getfield 9, 3) := by decide +kernel
theorem dX11_crossing_63 : decode cX11_crossing 63 = .ok (.iload 5, 2) := by decide +kernel
theorem dX11_crossing_65 : decode cX11_crossing 65 = .ok (.invokestatic 69, 3) := by decide +kernel
theorem dX11_crossing_68 : decode cX11_crossing 68 = .ok (.ifCond .eq 37, 3) := by decide +kernel
theorem dX11_crossing_71 : decode cX11_crossing 71 = .ok (.aload_n 0, 1) := by decide +kernel
theorem dX11_crossing_72 : decode cX11_crossing 72 = .ok (.iload 4, 2) := by decide +kernel
theorem dX11_crossing_74 : decode cX11_crossing 74 = .ok (.iload 5, 2) := by decide +kernel
theorem dX11_crossing_76 : decode cX11_crossing 76 = .ok (.invokevirtual 209, 3) := by decide +kernel
theorem dX11_crossing_79 : decode cX11_crossing 79 = .ok (.ifCond .ne 6, 3) := by decide +kernel
theorem dX11_crossing_82 : decode cX11_crossing 82 = .ok (.goto 23, 3) := by decide +kernel
theorem dX11_crossing_85 : decode cX11_crossing 85 = .ok (.iload_n 2, 1) := by decide +kernel
theorem dX11_crossing_86 : decode cX11_crossing 86 = .ok (.ifCond .ne 14, 3) := by decide +kernel
theorem dX11_crossing_89 : decode cX11_crossing 89 = .ok (.bipush 10, 2) := by decide +kernel
theorem dX11_crossing_91 : decode cX11_crossing 91 = .ok (.iload 4, 2) := by decide +kernel
theorem dX11_crossing_93 : decode cX11_crossing 93 = .ok (.imul, 1) := by decide +kernel
theorem dX11_crossing_94 : decode cX11_crossing 94 = .ok (.iload 5, 2) := by decide +kernel
theorem dX11_crossing_96 : decode cX11_crossing 96 = .ok (.iadd, 1) := by decide +kernel
theorem dX11_crossing_97 : decode cX11_crossing 97 = .ok (.goto 4, 3) := by decide +kernel
theorem dX11_crossing_100 : decode cX11_crossing 100 = .ok (.iload_n 3, 1) := by decide +kernel
theorem dX11_crossing_101 : decode cX11_crossing 101 = .ok (.istore_n 3, 1) := by decide +kernel
theorem dX11_crossing_102 : decode cX11_crossing 102 = .ok (.iinc 2 1, 3) := by decide +kernel
theorem dX11_crossing_105 : decode cX11_crossing 105 = .ok (.iinc 5 1, 3) := by decide +kernel
theorem dX11_crossing_108 : decode cX11_crossing 108 = .ok (.goto (-72), 3) := by decide +kernel
theorem dX11_crossing_111 : decode cX11_crossing 111 = .ok (.iinc 4 1, 3) := by decide +kernel
theorem dX11_crossing_114 : decode cX11_crossing 114 = .ok (.goto (-95), 3) := by decide +kernel
theorem dX11_crossing_117 : decode cX11_crossing 117 = .ok (.iload_n 1, 1) := by decide +kernel
theorem dX11_crossing_118 : decode cX11_crossing 118 = .ok (.ifCond .ne 7, 3) := by decide +kernel
theorem dX11_crossing_121 : decode cX11_crossing 121 = .ok (.iload_n 2, 1) := by decide +kernel
theorem dX11_crossing_122 : decode cX11_crossing 122 = .ok (.goto 4, 3) := by decide +kernel
theorem dX11_crossing_125 : decode cX11_crossing 125 = .ok (.iload_n 3, 1) := by decide +kernel
theorem dX11_crossing_126 : decode cX11_crossing 126 = .ok (.ireturn, 1) := by decide +kernel
theorem dX11_isTangled_0 : decode cX11_isTangled 0 = .ok (.iconst 0, 1) := by decide +kernel
theorem dX11_isTangled_1 : decode cX11_isTangled 1 = .ok (.istore_n 2, 1) := by decide +kernel
theorem dX11_isTangled_2 : decode cX11_isTangled 2 = .ok (.iload_n 2, 1) := by decide +kernel
theorem dX11_isTangled_3 : decode cX11_isTangled 3 = .ok (.aload_n 0, 1) := by decide +kernel
theorem dX11_isTangled_4 : decode cX11_isTangled 4 = .ok (.getfield 9, 3) := by decide +kernel
theorem dX11_isTangled_7 : decode cX11_isTangled 7 = .ok (.iconst 1, 1) := by decide +kernel
theorem dX11_isTangled_8 : decode cX11_isTangled 8 = .ok (.iaload, 1) := by decide +kernel
theorem dX11_isTangled_9 : decode cX11_isTangled 9 = .ok (.if_icmp .ge 90, 3) := by decide +kernel
theorem dX11_isTangled_12 : decode cX11_isTangled 12 = .ok (.iload_n 2, 1) := by decide +kernel
theorem dX11_isTangled_13 : decode cX11_isTangled 13 = .ok (.iconst 1, 1) := by decide +kernel
theorem dX11_isTangled_14 : decode cX11_isTangled 14 = .ok (.iadd, 1) := by decide +kernel
theorem dX11_isTangled_15 : decode cX11_isTangled 15 = .ok (.istore_n 3, 1) := by decide +kernel
theorem dX11_isTangled_16 : decode cX11_isTangled 16 = .ok (.iload_n 3, 1) := by decide +kernel
theorem dX11_isTangled_17 : decode cX11_isTangled 17 = .ok (.aload_n 0, 1) := by decide +kernel
theorem dX11_isTangled_18 : decode cX11_isTangled 18 = .ok (.getfield 9, 3) := by decide +kernel
theorem dX11_isTangled_21 : decode cX11_isTangled 21 = .ok (.iconst 1, 1) := by decide +kernel
theorem dX11_isTangled_22 : decode cX11_isTangled 22 = .ok (.iaload, 1) := by decide +kernel
theorem dX11_isTangled_23 : decode cX11_isTangled 23 = .ok (.if_icmp .ge 70, 3) := by decide +kernel
theorem dX11_isTangled_26 : decode cX11_isTangled 26 = .ok (.aload_n 0, 1) := by decide +kernel
theorem dX11_isTangled_27 : decode cX11_isTangled 27 = .ok (.getfield 9, 3) := by decide +kernel
theorem dX11_isTangled_30 : decode cX11_isTangled 30 = .ok (.iload_n 2, 1) := by decide +kernel
theorem dX11_isTangled_31 : decode cX11_isTangled 31 = .ok (.invokestatic 69, 3) := by decide +kernel
theorem dX11_isTangled_34 : decode cX11_isTangled 34 = .ok (.ifCond .eq 34, 3) := by decide +kernel
theorem dX11_isTangled_37 : decode cX11_isTangled 37 = .ok (.aload_n 0, 1) := by decide +kernel
theorem dX11_isTangled_38 : decode cX11_isTangled 38 = .ok (.getfield 9, 3) := by decide +kernel
theorem dX11_isTangled_41 : decode cX11_isTangled 41 = .ok (.iload_n 3, 1) := by decide +kernel
theorem dX11_isTangled_42 : decode cX11_isTangled 42 = .ok (.invokestatic 69, 3) := by decide +kernel
theorem dX11_isTangled_45 : decode cX11_isTangled 45 = .ok (.ifCond .eq 23, 3) := by decide +kernel
theorem dX11_isTangled_48 : decode cX11_isTangled 48 = .ok (.iload_n 1, 1) := by decide +kernel
theorem dX11_isTangled_49 : decode cX11_isTangled 49 = .ok (.iload_n 2, 1) := by decide +kernel
theorem dX11_isTangled_50 : decode cX11_isTangled 50 = .ok (.invokestatic 93, 3) := by decide +kernel
theorem dX11_isTangled_53 : decode cX11_isTangled 53 = .ok (.ifCond .ne 15, 3) := by decide +kernel
theorem dX11_isTangled_56 : decode cX11_isTangled 56 = .ok (.iload_n 1, 1) := by decide +kernel
theorem dX11_isTangled_57 : decode cX11_isTangled 57 = .ok (.iload_n 3, 1) := by decide +kernel
theorem dX11_isTangled_58 : decode cX11_isTangled 58 = .ok (.invokestatic 93, 3) := by decide +kernel
theorem dX11_isTangled_61 : decode cX11_isTangled 61 = .ok (.ifCond .ne 7, 3) := by decide +kernel
theorem dX11_isTangled_64 : decode cX11_isTangled 64 = .ok (.iconst 1, 1) := by decide +kernel
theorem dX11_isTangled_65 : decode cX11_isTangled 65 = .ok (.goto 4, 3) := by decide +kernel
theorem dX11_isTangled_68 : decode cX11_isTangled 68 = .ok (.iconst 0, 1) := by decide +kernel
theorem dX11_isTangled_69 : decode cX11_isTangled 69 = .ok (.istore 4, 2) := by decide +kernel
theorem dX11_isTangled_71 : decode cX11_isTangled 71 = .ok (.iload 4, 2) := by decide +kernel
theorem dX11_isTangled_73 : decode cX11_isTangled 73 = .ok (.ifCond .eq 14, 3) := by decide +kernel
theorem dX11_isTangled_76 : decode cX11_isTangled 76 = .ok (.aload_n 0, 1) := by decide +kernel
theorem dX11_isTangled_77 : decode cX11_isTangled 77 = .ok (.iload_n 2, 1) := by decide +kernel
theorem dX11_isTangled_78 : decode cX11_isTangled 78 = .ok (.iload_n 3, 1) := by decide +kernel
theorem dX11_isTangled_79 : decode cX11_isTangled 79 = .ok (.invokevirtual 209, 3) := by decide +kernel
theorem dX11_isTangled_82 : decode cX11_isTangled 82 = .ok (.ifCond .eq 5, 3) := by decide +kernel
theorem dX11_isTangled_85 : decode cX11_isTangled 85 = .ok (.iconst 1, 1) := by decide +kernel
theorem dX11_isTangled_86 : decode cX11_isTangled 86 = .ok (.ireturn, 1) := by decide +kernel
theorem dX11_isTangled_87 : decode cX11_isTangled 87 = .ok (.iinc 3 1, 3) := by decide +kernel
theorem dX11_isTangled_90 : decode cX11_isTangled 90 = .ok (.goto (-74), 3) := by decide +kernel
theorem dX11_isTangled_93 : decode cX11_isTangled 93 = .ok (.iinc 2 1, 3) := by decide +kernel
theorem dX11_isTangled_96 : decode cX11_isTangled 96 = .ok (.goto (-94), 3) := by decide +kernel
theorem dX11_isTangled_99 : decode cX11_isTangled 99 = .ok (.iconst 0, 1) := by decide +kernel
theorem dX11_isTangled_100 : decode cX11_isTangled 100 = .ok (.ireturn, 1) := by decide +kernel
theorem dX11_untangle_0 : decode cX11_untangle 0 = .ok (.aload_n 0, 1) := by decide +kernel
theorem dX11_untangle_1 : decode cX11_untangle 1 = .ok (.getfield 9, 3) := by decide +kernel
theorem dX11_untangle_4 : decode cX11_untangle 4 = .ok (.invokestatic 212, 3) := by decide +kernel
theorem dX11_untangle_7 : decode cX11_untangle 7 = .ok (.istore_n 1, 1) := by decide +kernel
theorem dX11_untangle_8 : decode cX11_untangle 8 = .ok (.iconst 0, 1) := by decide +kernel
theorem dX11_untangle_9 : decode cX11_untangle 9 = .ok (.istore_n 2, 1) := by decide +kernel
theorem dX11_untangle_10 : decode cX11_untangle 10 = .ok (.iload_n 2, 1) := by decide +kernel
theorem dX11_untangle_11 : decode cX11_untangle 11 = .ok (.iconst 1, 1) := by decide +kernel
theorem dX11_untangle_12 : decode cX11_untangle 12 = .ok (.aload_n 0, 1) := by decide +kernel
theorem dX11_untangle_13 : decode cX11_untangle 13 = .ok (.getfield 9, 3) := by decide +kernel
theorem dX11_untangle_16 : decode cX11_untangle 16 = .ok (.iconst 1, 1) := by decide +kernel
theorem dX11_untangle_17 : decode cX11_untangle 17 = .ok (.iaload, 1) := by decide +kernel
theorem dX11_untangle_18 : decode cX11_untangle 18 = .ok (.ishl, 1) := by decide +kernel
theorem dX11_untangle_19 : decode cX11_untangle 19 = .ok (.if_icmp .ge 30, 3) := by decide +kernel
theorem dX11_untangle_22 : decode cX11_untangle 22 = .ok (.iload_n 2, 1) := by decide +kernel
theorem dX11_untangle_23 : decode cX11_untangle 23 = .ok (.invokestatic 180, 3) := by decide +kernel
theorem dX11_untangle_26 : decode cX11_untangle 26 = .ok (.iload_n 1, 1) := by decide +kernel
theorem dX11_untangle_27 : decode cX11_untangle 27 = .ok (.invokestatic 180, 3) := by decide +kernel
theorem dX11_untangle_30 : decode cX11_untangle 30 = .ok (.if_icmp .ge 13, 3) := by decide +kernel
theorem dX11_untangle_33 : decode cX11_untangle 33 = .ok (.aload_n 0, 1) := by decide +kernel
theorem dX11_untangle_34 : decode cX11_untangle 34 = .ok (.iload_n 2, 1) := by decide +kernel
theorem dX11_untangle_35 : decode cX11_untangle 35 = .ok (.invokevirtual 215, 3) := by decide +kernel
theorem dX11_untangle_38 : decode cX11_untangle 38 = .ok (.ifCond .ne 5, 3) := by decide +kernel
theorem dX11_untangle_41 : decode cX11_untangle 41 = .ok (.iload_n 2, 1) := by decide +kernel
theorem dX11_untangle_42 : decode cX11_untangle 42 = .ok (.istore_n 1, 1) := by decide +kernel
theorem dX11_untangle_43 : decode cX11_untangle 43 = .ok (.iinc 2 1, 3) := by decide +kernel
theorem dX11_untangle_46 : decode cX11_untangle 46 = .ok (.goto (-36), 3) := by decide +kernel
theorem dX11_untangle_49 : decode cX11_untangle 49 = .ok (.iload_n 1, 1) := by decide +kernel
theorem dX11_untangle_50 : decode cX11_untangle 50 = .ok (.ireturn, 1) := by decide +kernel
theorem dX11_clanOf_0 : decode cX11_clanOf 0 = .ok (.iconst 1, 1) := by decide +kernel
theorem dX11_clanOf_1 : decode cX11_clanOf 1 = .ok (.iload_n 1, 1) := by decide +kernel
theorem dX11_clanOf_2 : decode cX11_clanOf 2 = .ok (.ishl, 1) := by decide +kernel
theorem dX11_clanOf_3 : decode cX11_clanOf 3 = .ok (.istore_n 3, 1) := by decide +kernel
theorem dX11_clanOf_4 : decode cX11_clanOf 4 = .ok (.iconst 0, 1) := by decide +kernel
theorem dX11_clanOf_5 : decode cX11_clanOf 5 = .ok (.istore 4, 2) := by decide +kernel
theorem dX11_clanOf_7 : decode cX11_clanOf 7 = .ok (.iload 4, 2) := by decide +kernel
theorem dX11_clanOf_9 : decode cX11_clanOf 9 = .ok (.bipush 7, 2) := by decide +kernel
theorem dX11_clanOf_11 : decode cX11_clanOf 11 = .ok (.if_icmp .ge 104, 3) := by decide +kernel
theorem dX11_clanOf_14 : decode cX11_clanOf 14 = .ok (.iconst 0, 1) := by decide +kernel
theorem dX11_clanOf_15 : decode cX11_clanOf 15 = .ok (.istore 5, 2) := by decide +kernel
theorem dX11_clanOf_17 : decode cX11_clanOf 17 = .ok (.iload 5, 2) := by decide +kernel
theorem dX11_clanOf_19 : decode cX11_clanOf 19 = .ok (.aload_n 0, 1) := by decide +kernel
theorem dX11_clanOf_20 : decode cX11_clanOf 20 = .ok (.getfield 9, 3) := by decide +kernel
theorem dX11_clanOf_23 : decode cX11_clanOf 23 = .ok (.iconst 1, 1) := by decide +kernel
theorem dX11_clanOf_24 : decode cX11_clanOf 24 = .ok (.iaload, 1) := by decide +kernel
theorem dX11_clanOf_25 : decode cX11_clanOf 25 = .ok (.if_icmp .ge 84, 3) := by decide +kernel
theorem dX11_clanOf_28 : decode cX11_clanOf 28 = .ok (.iload_n 2, 1) := by decide +kernel
theorem dX11_clanOf_29 : decode cX11_clanOf 29 = .ok (.iload 5, 2) := by decide +kernel
theorem dX11_clanOf_31 : decode cX11_clanOf 31 = .ok (.invokestatic 93, 3) := by decide +kernel
theorem dX11_clanOf_34 : decode cX11_clanOf 34 = .ok (.ifCond .eq 69, 3) := by decide +kernel
theorem dX11_clanOf_37 : decode cX11_clanOf 37 = .ok (.iload_n 3, 1) := by decide +kernel
theorem dX11_clanOf_38 : decode cX11_clanOf 38 = .ok (.aload_n 0, 1) := by decide +kernel
theorem dX11_clanOf_39 : decode cX11_clanOf 39 = .ok (.getfield 9, 3) := by decide +kernel
theorem dX11_clanOf_42 : decode cX11_clanOf 42 = .ok (.iload 5, 2) := by decide +kernel
theorem dX11_clanOf_44 : decode cX11_clanOf 44 = .ok (.iconst 2, 1) := by decide +kernel
theorem dX11_clanOf_45 : decode cX11_clanOf 45 = .ok (.invokestatic 56, 3) := by decide +kernel
theorem dX11_clanOf_48 : decode cX11_clanOf 48 = .ok (.iaload, 1) := by decide +kernel
theorem dX11_clanOf_49 : decode cX11_clanOf 49 = .ok (.invokestatic 93, 3) := by decide +kernel
theorem dX11_clanOf_52 : decode cX11_clanOf 52 = .ok (.ifCond .ne 21, 3) := by decide +kernel
theorem dX11_clanOf_55 : decode cX11_clanOf 55 = .ok (.iload_n 3, 1) := by decide +kernel
theorem dX11_clanOf_56 : decode cX11_clanOf 56 = .ok (.aload_n 0, 1) := by decide +kernel
theorem dX11_clanOf_57 : decode cX11_clanOf 57 = .ok (.getfield 9, 3) := by decide +kernel
theorem dX11_clanOf_60 : decode cX11_clanOf 60 = .ok (.iload 5, 2) := by decide +kernel
theorem dX11_clanOf_62 : decode cX11_clanOf 62 = .ok (.iconst 3, 1) := by decide +kernel
theorem dX11_clanOf_63 : decode cX11_clanOf 63 = .ok (.invokestatic 56, 3) := by decide +kernel
theorem dX11_clanOf_66 : decode cX11_clanOf 66 = .ok (.iaload, 1) := by decide +kernel
theorem dX11_clanOf_67 : decode cX11_clanOf 67 = .ok (.invokestatic 93, 3) := by decide +kernel
theorem dX11_clanOf_70 : decode cX11_clanOf 70 = .ok (.ifCond .eq 33, 3) := by decide +kernel
theorem dX11_clanOf_73 : decode cX11_clanOf 73 = .ok (.iload_n 3, 1) := by decide +kernel
theorem dX11_clanOf_74 : decode cX11_clanOf 74 = .ok (.iconst 1, 1) := by decide +kernel
theorem dX11_clanOf_75 : decode cX11_clanOf 75 = .ok (.aload_n 0, 1) := by decide +kernel
theorem dX11_clanOf_76 : decode cX11_clanOf 76 = .ok (.getfield 9, 3) := by decide +kernel
theorem dX11_clanOf_79 : decode cX11_clanOf 79 = .ok (.iload 5, 2) := by decide +kernel
theorem dX11_clanOf_81 : decode cX11_clanOf 81 = .ok (.iconst 2, 1) := by decide +kernel
theorem dX11_clanOf_82 : decode cX11_clanOf 82 = .ok (.invokestatic 56, 3) := by decide +kernel
theorem dX11_clanOf_85 : decode cX11_clanOf 85 = .ok (.iaload, 1) := by decide +kernel
theorem dX11_clanOf_86 : decode cX11_clanOf 86 = .ok (.ishl, 1) := by decide +kernel
theorem dX11_clanOf_87 : decode cX11_clanOf 87 = .ok (.iconst 1, 1) := by decide +kernel
theorem dX11_clanOf_88 : decode cX11_clanOf 88 = .ok (.aload_n 0, 1) := by decide +kernel
theorem dX11_clanOf_89 : decode cX11_clanOf 89 = .ok (.getfield 9, 3) := by decide +kernel
theorem dX11_clanOf_92 : decode cX11_clanOf 92 = .ok (.iload 5, 2) := by decide +kernel
theorem dX11_clanOf_94 : decode cX11_clanOf 94 = .ok (.iconst 3, 1) := by decide +kernel
theorem dX11_clanOf_95 : decode cX11_clanOf 95 = .ok (.invokestatic 56, 3) := by decide +kernel
theorem dX11_clanOf_98 : decode cX11_clanOf 98 = .ok (.iaload, 1) := by decide +kernel
theorem dX11_clanOf_99 : decode cX11_clanOf 99 = .ok (.ishl, 1) := by decide +kernel
theorem dX11_clanOf_100 : decode cX11_clanOf 100 = .ok (.ior, 1) := by decide +kernel
theorem dX11_clanOf_101 : decode cX11_clanOf 101 = .ok (.ior, 1) := by decide +kernel
theorem dX11_clanOf_102 : decode cX11_clanOf 102 = .ok (.istore_n 3, 1) := by decide +kernel
theorem dX11_clanOf_103 : decode cX11_clanOf 103 = .ok (.iinc 5 1, 3) := by decide +kernel
theorem dX11_clanOf_106 : decode cX11_clanOf 106 = .ok (.goto (-89), 3) := by decide +kernel
theorem dX11_clanOf_109 : decode cX11_clanOf 109 = .ok (.iinc 4 1, 3) := by decide +kernel
theorem dX11_clanOf_112 : decode cX11_clanOf 112 = .ok (.goto (-105), 3) := by decide +kernel
theorem dX11_clanOf_115 : decode cX11_clanOf 115 = .ok (.iload_n 3, 1) := by decide +kernel
theorem dX11_clanOf_116 : decode cX11_clanOf 116 = .ok (.ireturn, 1) := by decide +kernel
theorem dX11_clans_0 : decode cX11_clans 0 = .ok (.iload_n 1, 1) := by decide +kernel
theorem dX11_clans_1 : decode cX11_clans 1 = .ok (.iconst 0, 1) := by decide +kernel
theorem dX11_clans_2 : decode cX11_clans 2 = .ok (.iconst 1, 1) := by decide +kernel
theorem dX11_clans_3 : decode cX11_clans 3 = .ok (.invokestatic 52, 3) := by decide +kernel
theorem dX11_clans_6 : decode cX11_clans 6 = .ok (.ifCond .ne 5, 3) := by decide +kernel
theorem dX11_clans_9 : decode cX11_clans 9 = .ok (.iconst (-1), 1) := by decide +kernel
theorem dX11_clans_10 : decode cX11_clans 10 = .ok (.ireturn, 1) := by decide +kernel
theorem dX11_clans_11 : decode cX11_clans 11 = .ok (.iconst 0, 1) := by decide +kernel
theorem dX11_clans_12 : decode cX11_clans 12 = .ok (.istore_n 2, 1) := by decide +kernel
theorem dX11_clans_13 : decode cX11_clans 13 = .ok (.iconst 0, 1) := by decide +kernel
theorem dX11_clans_14 : decode cX11_clans 14 = .ok (.istore_n 3, 1) := by decide +kernel
theorem dX11_clans_15 : decode cX11_clans 15 = .ok (.iconst 0, 1) := by decide +kernel
theorem dX11_clans_16 : decode cX11_clans 16 = .ok (.istore 4, 2) := by decide +kernel
theorem dX11_clans_18 : decode cX11_clans 18 = .ok (.iconst 0, 1) := by decide +kernel
theorem dX11_clans_19 : decode cX11_clans 19 = .ok (.istore 5, 2) := by decide +kernel
theorem dX11_clans_21 : decode cX11_clans 21 = .ok (.iload 5, 2) := by decide +kernel
theorem dX11_clans_23 : decode cX11_clans 23 = .ok (.aload_n 0, 1) := by decide +kernel
theorem dX11_clans_24 : decode cX11_clans 24 = .ok (.getfield 9, 3) := by decide +kernel
theorem dX11_clans_27 : decode cX11_clans 27 = .ok (.iconst 0, 1) := by decide +kernel
theorem dX11_clans_28 : decode cX11_clans 28 = .ok (.iaload, 1) := by decide +kernel
theorem dX11_clans_29 : decode cX11_clans 29 = .ok (.if_icmp .ge 57, 3) := by decide +kernel
theorem dX11_clans_32 : decode cX11_clans 32 = .ok (.iload 4, 2) := by decide +kernel
theorem dX11_clans_34 : decode cX11_clans 34 = .ok (.iload 5, 2) := by decide +kernel
theorem dX11_clans_36 : decode cX11_clans 36 = .ok (.invokestatic 93, 3) := by decide +kernel
theorem dX11_clans_39 : decode cX11_clans 39 = .ok (.ifCond .eq 6, 3) := by decide +kernel
theorem dX11_clans_42 : decode cX11_clans 42 = .ok (.goto 38, 3) := by decide +kernel
theorem dX11_clans_45 : decode cX11_clans 45 = .ok (.aload_n 0, 1) := by decide +kernel
theorem dX11_clans_46 : decode cX11_clans 46 = .ok (.iload 5, 2) := by decide +kernel
theorem dX11_clans_48 : decode cX11_clans 48 = .ok (.aload_n 0, 1) := by decide +kernel
theorem dX11_clans_49 : decode cX11_clans 49 = .ok (.getfield 9, 3) := by decide +kernel
theorem dX11_clans_52 : decode cX11_clans 52 = .ok (.invokestatic 212, 3) := by decide +kernel
theorem dX11_clans_55 : decode cX11_clans 55 = .ok (.invokevirtual 218, 3) := by decide +kernel
theorem dX11_clans_58 : decode cX11_clans 58 = .ok (.istore 6, 2) := by decide +kernel
theorem dX11_clans_60 : decode cX11_clans 60 = .ok (.iload 4, 2) := by decide +kernel
theorem dX11_clans_62 : decode cX11_clans 62 = .ok (.iload 6, 2) := by decide +kernel
theorem dX11_clans_64 : decode cX11_clans 64 = .ok (.ior, 1) := by decide +kernel
theorem dX11_clans_65 : decode cX11_clans 65 = .ok (.istore 4, 2) := by decide +kernel
theorem dX11_clans_67 : decode cX11_clans 67 = .ok (.iinc 2 1, 3) := by decide +kernel
theorem dX11_clans_70 : decode cX11_clans 70 = .ok (.iload_n 3, 1) := by decide +kernel
theorem dX11_clans_71 : decode cX11_clans 71 = .ok (.iload 6, 2) := by decide +kernel
theorem dX11_clans_73 : decode cX11_clans 73 = .ok (.invokestatic 180, 3) := by decide +kernel
theorem dX11_clans_76 : decode cX11_clans 76 = .ok (.invokestatic 66, 3) := by decide +kernel
theorem dX11_clans_79 : decode cX11_clans 79 = .ok (.istore_n 3, 1) := by decide +kernel
theorem dX11_clans_80 : decode cX11_clans 80 = .ok (.iinc 5 1, 3) := by decide +kernel
theorem dX11_clans_83 : decode cX11_clans 83 = .ok (.goto (-62), 3) := by decide +kernel
theorem dX11_clans_86 : decode cX11_clans 86 = .ok (.iload_n 1, 1) := by decide +kernel
theorem dX11_clans_87 : decode cX11_clans 87 = .ok (.ifCond .ne 7, 3) := by decide +kernel
theorem dX11_clans_90 : decode cX11_clans 90 = .ok (.iload_n 2, 1) := by decide +kernel
theorem dX11_clans_91 : decode cX11_clans 91 = .ok (.goto 4, 3) := by decide +kernel
theorem dX11_clans_94 : decode cX11_clans 94 = .ok (.iload_n 3, 1) := by decide +kernel
theorem dX11_clans_95 : decode cX11_clans 95 = .ok (.ireturn, 1) := by decide +kernel
theorem dX11_cousins_0 : decode cX11_cousins 0 = .ok (.aload_n 0, 1) := by decide +kernel
theorem dX11_cousins_1 : decode cX11_cousins 1 = .ok (.iload_n 1, 1) := by decide +kernel
theorem dX11_cousins_2 : decode cX11_cousins 2 = .ok (.iload_n 2, 1) := by decide +kernel
theorem dX11_cousins_3 : decode cX11_cousins 3 = .ok (.invokevirtual 151, 3) := by decide +kernel
theorem dX11_cousins_6 : decode cX11_cousins 6 = .ok (.ifCond .ne 5, 3) := by decide +kernel
theorem dX11_cousins_9 : decode cX11_cousins 9 = .ok (.iconst (-1), 1) := by decide +kernel
theorem dX11_cousins_10 : decode cX11_cousins 10 = .ok (.ireturn, 1) := by decide +kernel
theorem dX11_cousins_11 : decode cX11_cousins 11 = .ok (.iconst 1, 1) := by decide +kernel
theorem dX11_cousins_12 : decode cX11_cousins 12 = .ok (.iload_n 1, 1) := by decide +kernel
theorem dX11_cousins_13 : decode cX11_cousins 13 = .ok (.ishl, 1) := by decide +kernel
theorem dX11_cousins_14 : decode cX11_cousins 14 = .ok (.istore_n 3, 1) := by decide +kernel
theorem dX11_cousins_15 : decode cX11_cousins 15 = .ok (.iconst 1, 1) := by decide +kernel
theorem dX11_cousins_16 : decode cX11_cousins 16 = .ok (.istore 4, 2) := by decide +kernel
theorem dX11_cousins_18 : decode cX11_cousins 18 = .ok (.iload 4, 2) := by decide +kernel
theorem dX11_cousins_20 : decode cX11_cousins 20 = .ok (.bipush 7, 2) := by decide +kernel
theorem dX11_cousins_22 : decode cX11_cousins 22 = .ok (.if_icmp .ge 126, 3) := by decide +kernel
theorem dX11_cousins_25 : decode cX11_cousins 25 = .ok (.iload_n 3, 1) := by decide +kernel
theorem dX11_cousins_26 : decode cX11_cousins 26 = .ok (.istore 5, 2) := by decide +kernel
theorem dX11_cousins_28 : decode cX11_cousins 28 = .ok (.iconst 0, 1) := by decide +kernel
theorem dX11_cousins_29 : decode cX11_cousins 29 = .ok (.istore 6, 2) := by decide +kernel
theorem dX11_cousins_31 : decode cX11_cousins 31 = .ok (.iload 6, 2) := by decide +kernel
theorem dX11_cousins_33 : decode cX11_cousins 33 = .ok (.aload_n 0, 1) := by decide +kernel
theorem dX11_cousins_34 : decode cX11_cousins 34 = .ok (.getfield 9, 3) := by decide +kernel
theorem dX11_cousins_37 : decode cX11_cousins 37 = .ok (.iconst 1, 1) := by decide +kernel
theorem dX11_cousins_38 : decode cX11_cousins 38 = .ok (.iaload, 1) := by decide +kernel
theorem dX11_cousins_39 : decode cX11_cousins 39 = .ok (.if_icmp .ge 89, 3) := by decide +kernel
theorem dX11_cousins_42 : decode cX11_cousins 42 = .ok (.aload_n 0, 1) := by decide +kernel
theorem dX11_cousins_43 : decode cX11_cousins 43 = .ok (.getfield 9, 3) := by decide +kernel
theorem dX11_cousins_46 : decode cX11_cousins 46 = .ok (.iload 6, 2) := by decide +kernel
theorem dX11_cousins_48 : decode cX11_cousins 48 = .ok (.invokestatic 69, 3) := by decide +kernel
theorem dX11_cousins_51 : decode cX11_cousins 51 = .ok (.ifCond .eq 71, 3) := by decide +kernel
theorem dX11_cousins_54 : decode cX11_cousins 54 = .ok (.iload_n 3, 1) := by decide +kernel
theorem dX11_cousins_55 : decode cX11_cousins 55 = .ok (.aload_n 0, 1) := by decide +kernel
theorem dX11_cousins_56 : decode cX11_cousins 56 = .ok (.getfield 9, 3) := by decide +kernel
theorem dX11_cousins_59 : decode cX11_cousins 59 = .ok (.iload 6, 2) := by decide +kernel
theorem dX11_cousins_61 : decode cX11_cousins 61 = .ok (.iconst 2, 1) := by decide +kernel
theorem dX11_cousins_62 : decode cX11_cousins 62 = .ok (.invokestatic 56, 3) := by decide +kernel
theorem dX11_cousins_65 : decode cX11_cousins 65 = .ok (.iaload, 1) := by decide +kernel
theorem dX11_cousins_66 : decode cX11_cousins 66 = .ok (.invokestatic 93, 3) := by decide +kernel
theorem dX11_cousins_69 : decode cX11_cousins 69 = .ok (.ifCond .ne 21, 3) := by decide +kernel
theorem dX11_cousins_72 : decode cX11_cousins 72 = .ok (.iload_n 3, 1) := by decide +kernel
theorem dX11_cousins_73 : decode cX11_cousins 73 = .ok (.aload_n 0, 1) := by decide +kernel
theorem dX11_cousins_74 : decode cX11_cousins 74 = .ok (.getfield 9, 3) := by decide +kernel
theorem dX11_cousins_77 : decode cX11_cousins 77 = .ok (.iload 6, 2) := by decide +kernel
theorem dX11_cousins_79 : decode cX11_cousins 79 = .ok (.iconst 3, 1) := by decide +kernel
theorem dX11_cousins_80 : decode cX11_cousins 80 = .ok (.invokestatic 56, 3) := by decide +kernel
theorem dX11_cousins_83 : decode cX11_cousins 83 = .ok (.iaload, 1) := by decide +kernel
theorem dX11_cousins_84 : decode cX11_cousins 84 = .ok (.invokestatic 93, 3) := by decide +kernel
theorem dX11_cousins_87 : decode cX11_cousins 87 = .ok (.ifCond .eq 35, 3) := by decide +kernel
theorem dX11_cousins_90 : decode cX11_cousins 90 = .ok (.iload 5, 2) := by decide +kernel
theorem dX11_cousins_92 : decode cX11_cousins 92 = .ok (.iconst 1, 1) := by decide +kernel
theorem dX11_cousins_93 : decode cX11_cousins 93 = .ok (.aload_n 0, 1) := by decide +kernel
theorem dX11_cousins_94 : decode cX11_cousins 94 = .ok (.getfield 9, 3) := by decide +kernel
theorem dX11_cousins_97 : decode cX11_cousins 97 = .ok (.iload 6, 2) := by decide +kernel
theorem dX11_cousins_99 : decode cX11_cousins 99 = .ok (.iconst 2, 1) := by decide +kernel
theorem dX11_cousins_100 : decode cX11_cousins 100 = .ok (.invokestatic 56, 3) := by decide +kernel
theorem dX11_cousins_103 : decode cX11_cousins 103 = .ok (.iaload, 1) := by decide +kernel
theorem dX11_cousins_104 : decode cX11_cousins 104 = .ok (.ishl, 1) := by decide +kernel
theorem dX11_cousins_105 : decode cX11_cousins 105 = .ok (.iconst 1, 1) := by decide +kernel
theorem dX11_cousins_106 : decode cX11_cousins 106 = .ok (.aload_n 0, 1) := by decide +kernel
theorem dX11_cousins_107 : decode cX11_cousins 107 = .ok (.getfield 9, 3) := by decide +kernel
theorem dX11_cousins_110 : decode cX11_cousins 110 = .ok (.iload 6, 2) := by decide +kernel
theorem dX11_cousins_112 : decode cX11_cousins 112 = .ok (.iconst 3, 1) := by decide +kernel
theorem dX11_cousins_113 : decode cX11_cousins 113 = .ok (.invokestatic 56, 3) := by decide +kernel
theorem dX11_cousins_116 : decode cX11_cousins 116 = .ok (.iaload, 1) := by decide +kernel
theorem dX11_cousins_117 : decode cX11_cousins 117 = .ok (.ishl, 1) := by decide +kernel
theorem dX11_cousins_118 : decode cX11_cousins 118 = .ok (.ior, 1) := by decide +kernel
theorem dX11_cousins_119 : decode cX11_cousins 119 = .ok (.ior, 1) := by decide +kernel
theorem dX11_cousins_120 : decode cX11_cousins 120 = .ok (.istore 5, 2) := by decide +kernel
theorem dX11_cousins_122 : decode cX11_cousins 122 = .ok (.iinc 6 1, 3) := by decide +kernel
theorem dX11_cousins_125 : decode cX11_cousins 125 = .ok (.goto (-94), 3) := by decide +kernel
theorem dX11_cousins_128 : decode cX11_cousins 128 = .ok (.iload 5, 2) := by decide +kernel
theorem dX11_cousins_130 : decode cX11_cousins 130 = .ok (.istore_n 3, 1) := by decide +kernel
theorem dX11_cousins_131 : decode cX11_cousins 131 = .ok (.iload_n 3, 1) := by decide +kernel
theorem dX11_cousins_132 : decode cX11_cousins 132 = .ok (.iload_n 2, 1) := by decide +kernel
theorem dX11_cousins_133 : decode cX11_cousins 133 = .ok (.invokestatic 93, 3) := by decide +kernel
theorem dX11_cousins_136 : decode cX11_cousins 136 = .ok (.ifCond .eq 6, 3) := by decide +kernel
theorem dX11_cousins_139 : decode cX11_cousins 139 = .ok (.iload 4, 2) := by decide +kernel
theorem dX11_cousins_141 : decode cX11_cousins 141 = .ok (.ireturn, 1) := by decide +kernel
theorem dX11_cousins_142 : decode cX11_cousins 142 = .ok (.iinc 4 1, 3) := by decide +kernel
theorem dX11_cousins_145 : decode cX11_cousins 145 = .ok (.goto (-127), 3) := by decide +kernel
theorem dX11_cousins_148 : decode cX11_cousins 148 = .ok (.bipush (-4), 2) := by decide +kernel
theorem dX11_cousins_150 : decode cX11_cousins 150 = .ok (.ireturn, 1) := by decide +kernel
theorem dX11_bridges_0 : decode cX11_bridges 0 = .ok (.iconst 0, 1) := by decide +kernel
theorem dX11_bridges_1 : decode cX11_bridges 1 = .ok (.istore_n 1, 1) := by decide +kernel
theorem dX11_bridges_2 : decode cX11_bridges 2 = .ok (.aload_n 0, 1) := by decide +kernel
theorem dX11_bridges_3 : decode cX11_bridges 3 = .ok (.getfield 9, 3) := by decide +kernel
theorem dX11_bridges_6 : decode cX11_bridges 6 = .ok (.invokestatic 212, 3) := by decide +kernel
theorem dX11_bridges_9 : decode cX11_bridges 9 = .ok (.istore_n 2, 1) := by decide +kernel
theorem dX11_bridges_10 : decode cX11_bridges 10 = .ok (.iconst 0, 1) := by decide +kernel
theorem dX11_bridges_11 : decode cX11_bridges 11 = .ok (.istore_n 3, 1) := by decide +kernel
theorem dX11_bridges_12 : decode cX11_bridges 12 = .ok (.iload_n 3, 1) := by decide +kernel
theorem dX11_bridges_13 : decode cX11_bridges 13 = .ok (.aload_n 0, 1) := by decide +kernel
theorem dX11_bridges_14 : decode cX11_bridges 14 = .ok (.getfield 9, 3) := by decide +kernel
theorem dX11_bridges_17 : decode cX11_bridges 17 = .ok (.iconst 1, 1) := by decide +kernel
theorem dX11_bridges_18 : decode cX11_bridges 18 = .ok (.iaload, 1) := by decide +kernel
theorem dX11_bridges_19 : decode cX11_bridges 19 = .ok (.if_icmp .ge 64, 3) := by decide +kernel
theorem dX11_bridges_22 : decode cX11_bridges 22 = .ok (.iload_n 1, 1) := by decide +kernel
theorem dX11_bridges_23 : decode cX11_bridges 23 = .ok (.iload_n 2, 1) := by decide +kernel
theorem dX11_bridges_24 : decode cX11_bridges 24 = .ok (.iload_n 3, 1) := by decide +kernel
theorem dX11_bridges_25 : decode cX11_bridges 25 = .ok (.invokestatic 93, 3) := by decide +kernel
theorem dX11_bridges_28 : decode cX11_bridges 28 = .ok (.ifCond .eq 46, 3) := by decide +kernel
theorem dX11_bridges_31 : decode cX11_bridges 31 = .ok (.aload_n 0, 1) := by decide +kernel
theorem dX11_bridges_32 : decode cX11_bridges 32 = .ok (.aload_n 0, 1) := by decide +kernel
theorem dX11_bridges_33 : decode cX11_bridges 33 = .ok (.getfield 9, 3) := by decide +kernel
theorem dX11_bridges_36 : decode cX11_bridges 36 = .ok (.iload_n 3, 1) := by decide +kernel
theorem dX11_bridges_37 : decode cX11_bridges 37 = .ok (.iconst 2, 1) := by decide +kernel
theorem dX11_bridges_38 : decode cX11_bridges 38 = .ok (.invokestatic 56, 3) := by decide +kernel
theorem dX11_bridges_41 : decode cX11_bridges 41 = .ok (.iaload, 1) := by decide +kernel
theorem dX11_bridges_42 : decode cX11_bridges 42 = .ok (.iload_n 2, 1) := by decide +kernel
theorem dX11_bridges_43 : decode cX11_bridges 43 = .ok (.iconst 1, 1) := by decide +kernel
theorem dX11_bridges_44 : decode cX11_bridges 44 = .ok (.iload_n 3, 1) := by decide +kernel
theorem dX11_bridges_45 : decode cX11_bridges 45 = .ok (.ishl, 1) := by decide +kernel
theorem dX11_bridges_46 : decode cX11_bridges 46 = .ok (.iconst (-1), 1) := by decide +kernel
theorem dX11_bridges_47 : decode cX11_bridges 47 = .ok (.ixor, 1) := by decide +kernel
theorem dX11_bridges_48 : decode cX11_bridges 48 = .ok (.iand, 1) := by decide +kernel
theorem dX11_bridges_49 : decode cX11_bridges 49 = .ok (.invokevirtual 218, 3) := by decide +kernel
theorem dX11_bridges_52 : decode cX11_bridges 52 = .ok (.aload_n 0, 1) := by decide +kernel
theorem dX11_bridges_53 : decode cX11_bridges 53 = .ok (.getfield 9, 3) := by decide +kernel
theorem dX11_bridges_56 : decode cX11_bridges 56 = .ok (.iload_n 3, 1) := by decide +kernel
theorem dX11_bridges_57 : decode cX11_bridges 57 = .ok (.iconst 3, 1) := by decide +kernel
theorem dX11_bridges_58 : decode cX11_bridges 58 = .ok (.invokestatic 56, 3) := by decide +kernel
theorem dX11_bridges_61 : decode cX11_bridges 61 = .ok (.iaload, 1) := by decide +kernel
theorem dX11_bridges_62 : decode cX11_bridges 62 = .ok (.invokestatic 93, 3) := by decide +kernel
theorem dX11_bridges_65 : decode cX11_bridges 65 = .ok (.ifCond .ne 9, 3) := by decide +kernel
theorem dX11_bridges_68 : decode cX11_bridges 68 = .ok (.iconst 1, 1) := by decide +kernel
theorem dX11_bridges_69 : decode cX11_bridges 69 = .ok (.iload_n 3, 1) := by decide +kernel
theorem dX11_bridges_70 : decode cX11_bridges 70 = .ok (.ishl, 1) := by decide +kernel
theorem dX11_bridges_71 : decode cX11_bridges 71 = .ok (.goto 4, 3) := by decide +kernel
theorem dX11_bridges_74 : decode cX11_bridges 74 = .ok (.iconst 0, 1) := by decide +kernel
theorem dX11_bridges_75 : decode cX11_bridges 75 = .ok (.ior, 1) := by decide +kernel
theorem dX11_bridges_76 : decode cX11_bridges 76 = .ok (.istore_n 1, 1) := by decide +kernel
theorem dX11_bridges_77 : decode cX11_bridges 77 = .ok (.iinc 3 1, 3) := by decide +kernel
theorem dX11_bridges_80 : decode cX11_bridges 80 = .ok (.goto (-68), 3) := by decide +kernel
theorem dX11_bridges_83 : decode cX11_bridges 83 = .ok (.iload_n 1, 1) := by decide +kernel
theorem dX11_bridges_84 : decode cX11_bridges 84 = .ok (.ireturn, 1) := by decide +kernel
theorem dX11_sumWith_0 : decode cX11_sumWith 0 = .ok (.aload_n 0, 1) := by decide +kernel
theorem dX11_sumWith_1 : decode cX11_sumWith 1 = .ok (.getfield 9, 3) := by decide +kernel
theorem dX11_sumWith_4 : decode cX11_sumWith 4 = .ok (.aload_n 0, 1) := by decide +kernel
theorem dX11_sumWith_5 : decode cX11_sumWith 5 = .ok (.getfield 13, 3) := by decide +kernel
theorem dX11_sumWith_8 : decode cX11_sumWith 8 = .ok (.invokestatic 112, 3) := by decide +kernel
theorem dX11_sumWith_11 : decode cX11_sumWith 11 = .ok (.iconst 0, 1) := by decide +kernel
theorem dX11_sumWith_12 : decode cX11_sumWith 12 = .ok (.istore_n 2, 1) := by decide +kernel
theorem dX11_sumWith_13 : decode cX11_sumWith 13 = .ok (.iconst 0, 1) := by decide +kernel
theorem dX11_sumWith_14 : decode cX11_sumWith 14 = .ok (.istore_n 3, 1) := by decide +kernel
theorem dX11_sumWith_15 : decode cX11_sumWith 15 = .ok (.iload_n 3, 1) := by decide +kernel
theorem dX11_sumWith_16 : decode cX11_sumWith 16 = .ok (.aload_n 0, 1) := by decide +kernel
theorem dX11_sumWith_17 : decode cX11_sumWith 17 = .ok (.getfield 13, 3) := by decide +kernel
theorem dX11_sumWith_20 : decode cX11_sumWith 20 = .ok (.iconst 1, 1) := by decide +kernel
theorem dX11_sumWith_21 : decode cX11_sumWith 21 = .ok (.iaload, 1) := by decide +kernel
theorem dX11_sumWith_22 : decode cX11_sumWith 22 = .ok (.if_icmp .ge 76, 3) := by decide +kernel
theorem dX11_sumWith_25 : decode cX11_sumWith 25 = .ok (.aload_n 0, 1) := by decide +kernel
theorem dX11_sumWith_26 : decode cX11_sumWith 26 = .ok (.getfield 13, 3) := by decide +kernel
theorem dX11_sumWith_29 : decode cX11_sumWith 29 = .ok (.iload_n 3, 1) := by decide +kernel
theorem dX11_sumWith_30 : decode cX11_sumWith 30 = .ok (.iconst 4, 1) := by decide +kernel
theorem dX11_sumWith_31 : decode cX11_sumWith 31 = .ok (.invokestatic 56, 3) := by decide +kernel
theorem dX11_sumWith_34 : decode cX11_sumWith 34 = .ok (.iload_n 1, 1) := by decide +kernel
theorem dX11_sumWith_35 : decode cX11_sumWith 35 = .ok (.iload_n 3, 1) := by decide +kernel
theorem dX11_sumWith_36 : decode cX11_sumWith 36 = .ok (.invokestatic 93, 3) := by decide +kernel
theorem dX11_sumWith_39 : decode cX11_sumWith 39 = .ok (.ifCond .eq 7, 3) := by decide +kernel
theorem dX11_sumWith_42 : decode cX11_sumWith 42 = .ok (.iconst 0, 1) := by decide +kernel
theorem dX11_sumWith_43 : decode cX11_sumWith 43 = .ok (.goto 13, 3) := by decide +kernel
theorem dX11_sumWith_46 : decode cX11_sumWith 46 = .ok (.aload_n 0, 1) := by decide +kernel
theorem dX11_sumWith_47 : decode cX11_sumWith 47 = .ok (.getfield 13, 3) := by decide +kernel
theorem dX11_sumWith_50 : decode cX11_sumWith 50 = .ok (.iload_n 3, 1) := by decide +kernel
theorem dX11_sumWith_51 : decode cX11_sumWith 51 = .ok (.iconst 4, 1) := by decide +kernel
theorem dX11_sumWith_52 : decode cX11_sumWith 52 = .ok (.invokestatic 56, 3) := by decide +kernel
theorem dX11_sumWith_55 : decode cX11_sumWith 55 = .ok (.iaload, 1) := by decide +kernel
theorem dX11_sumWith_56 : decode cX11_sumWith 56 = .ok (.iastore, 1) := by decide +kernel
theorem dX11_sumWith_57 : decode cX11_sumWith 57 = .ok (.iload_n 2, 1) := by decide +kernel
theorem dX11_sumWith_58 : decode cX11_sumWith 58 = .ok (.aload_n 0, 1) := by decide +kernel
theorem dX11_sumWith_59 : decode cX11_sumWith 59 = .ok (.getfield 13, 3) := by decide +kernel
theorem dX11_sumWith_62 : decode cX11_sumWith 62 = .ok (.iload_n 3, 1) := by decide +kernel
theorem dX11_sumWith_63 : decode cX11_sumWith 63 = .ok (.invokestatic 69, 3) := by decide +kernel
theorem dX11_sumWith_66 : decode cX11_sumWith 66 = .ok (.ifCond .eq 23, 3) := by decide +kernel
theorem dX11_sumWith_69 : decode cX11_sumWith 69 = .ok (.aload_n 0, 1) := by decide +kernel
theorem dX11_sumWith_70 : decode cX11_sumWith 70 = .ok (.getfield 13, 3) := by decide +kernel
theorem dX11_sumWith_73 : decode cX11_sumWith 73 = .ok (.iload_n 3, 1) := by decide +kernel
theorem dX11_sumWith_74 : decode cX11_sumWith 74 = .ok (.invokestatic 84, 3) := by decide +kernel
theorem dX11_sumWith_77 : decode cX11_sumWith 77 = .ok (.aload_n 0, 1) := by decide +kernel
theorem dX11_sumWith_78 : decode cX11_sumWith 78 = .ok (.getfield 13, 3) := by decide +kernel
theorem dX11_sumWith_81 : decode cX11_sumWith 81 = .ok (.iload_n 3, 1) := by decide +kernel
theorem dX11_sumWith_82 : decode cX11_sumWith 82 = .ok (.invokestatic 73, 3) := by decide +kernel
theorem dX11_sumWith_85 : decode cX11_sumWith 85 = .ok (.isub, 1) := by decide +kernel
theorem dX11_sumWith_86 : decode cX11_sumWith 86 = .ok (.goto 4, 3) := by decide +kernel
theorem dX11_sumWith_89 : decode cX11_sumWith 89 = .ok (.iconst 0, 1) := by decide +kernel
theorem dX11_sumWith_90 : decode cX11_sumWith 90 = .ok (.iadd, 1) := by decide +kernel
theorem dX11_sumWith_91 : decode cX11_sumWith 91 = .ok (.istore_n 2, 1) := by decide +kernel
theorem dX11_sumWith_92 : decode cX11_sumWith 92 = .ok (.iinc 3 1, 3) := by decide +kernel
theorem dX11_sumWith_95 : decode cX11_sumWith 95 = .ok (.goto (-80), 3) := by decide +kernel
theorem dX11_sumWith_98 : decode cX11_sumWith 98 = .ok (.iload_n 2, 1) := by decide +kernel
theorem dX11_sumWith_99 : decode cX11_sumWith 99 = .ok (.ireturn, 1) := by decide +kernel
theorem dX11_renew_0 : decode cX11_renew 0 = .ok (.iload_n 1, 1) := by decide +kernel
theorem dX11_renew_1 : decode cX11_renew 1 = .ok (.iconst 0, 1) := by decide +kernel
theorem dX11_renew_2 : decode cX11_renew 2 = .ok (.iconst 4, 1) := by decide +kernel
theorem dX11_renew_3 : decode cX11_renew 3 = .ok (.invokestatic 52, 3) := by decide +kernel
theorem dX11_renew_6 : decode cX11_renew 6 = .ok (.ifCond .eq 12, 3) := by decide +kernel
theorem dX11_renew_9 : decode cX11_renew 9 = .ok (.iload_n 2, 1) := by decide +kernel
theorem dX11_renew_10 : decode cX11_renew 10 = .ok (.iconst 0, 1) := by decide +kernel
theorem dX11_renew_11 : decode cX11_renew 11 = .ok (.iconst 1, 1) := by decide +kernel
theorem dX11_renew_12 : decode cX11_renew 12 = .ok (.invokestatic 52, 3) := by decide +kernel
theorem dX11_renew_15 : decode cX11_renew 15 = .ok (.ifCond .ne 5, 3) := by decide +kernel
theorem dX11_renew_18 : decode cX11_renew 18 = .ok (.iconst (-1), 1) := by decide +kernel
theorem dX11_renew_19 : decode cX11_renew 19 = .ok (.ireturn, 1) := by decide +kernel
theorem dX11_renew_20 : decode cX11_renew 20 = .ok (.iconst 0, 1) := by decide +kernel
theorem dX11_renew_21 : decode cX11_renew 21 = .ok (.istore_n 3, 1) := by decide +kernel
theorem dX11_renew_22 : decode cX11_renew 22 = .ok (.aload_n 0, 1) := by decide +kernel
theorem dX11_renew_23 : decode cX11_renew 23 = .ok (.iconst 0, 1) := by decide +kernel
theorem dX11_renew_24 : decode cX11_renew 24 = .ok (.invokevirtual 221, 3) := by decide +kernel
theorem dX11_renew_27 : decode cX11_renew 27 = .ok (.istore 4, 2) := by decide +kernel
theorem dX11_renew_29 : decode cX11_renew 29 = .ok (.iconst 1, 1) := by decide +kernel
theorem dX11_renew_30 : decode cX11_renew 30 = .ok (.istore 5, 2) := by decide +kernel
theorem dX11_renew_32 : decode cX11_renew 32 = .ok (.iload 5, 2) := by decide +kernel
theorem dX11_renew_34 : decode cX11_renew 34 = .ok (.iconst 1, 1) := by decide +kernel
theorem dX11_renew_35 : decode cX11_renew 35 = .ok (.aload_n 0, 1) := by decide +kernel
theorem dX11_renew_36 : decode cX11_renew 36 = .ok (.getfield 9, 3) := by decide +kernel
theorem dX11_renew_39 : decode cX11_renew 39 = .ok (.iconst 1, 1) := by decide +kernel
theorem dX11_renew_40 : decode cX11_renew 40 = .ok (.iaload, 1) := by decide +kernel
theorem dX11_renew_41 : decode cX11_renew 41 = .ok (.ishl, 1) := by decide +kernel
theorem dX11_renew_42 : decode cX11_renew 42 = .ok (.if_icmp .ge 58, 3) := by decide +kernel
theorem dX11_renew_45 : decode cX11_renew 45 = .ok (.iload 5, 2) := by decide +kernel
theorem dX11_renew_47 : decode cX11_renew 47 = .ok (.invokestatic 180, 3) := by decide +kernel
theorem dX11_renew_50 : decode cX11_renew 50 = .ok (.iload_n 1, 1) := by decide +kernel
theorem dX11_renew_51 : decode cX11_renew 51 = .ok (.if_icmp .gt 43, 3) := by decide +kernel
theorem dX11_renew_54 : decode cX11_renew 54 = .ok (.iload 5, 2) := by decide +kernel
theorem dX11_renew_56 : decode cX11_renew 56 = .ok (.aload_n 0, 1) := by decide +kernel
theorem dX11_renew_57 : decode cX11_renew 57 = .ok (.getfield 9, 3) := by decide +kernel
theorem dX11_renew_60 : decode cX11_renew 60 = .ok (.invokestatic 212, 3) := by decide +kernel
theorem dX11_renew_63 : decode cX11_renew 63 = .ok (.iconst (-1), 1) := by decide +kernel
theorem dX11_renew_64 : decode cX11_renew 64 = .ok (.ixor, 1) := by decide +kernel
theorem dX11_renew_65 : decode cX11_renew 65 = .ok (.iand, 1) := by decide +kernel
theorem dX11_renew_66 : decode cX11_renew 66 = .ok (.ifCond .ne 28, 3) := by decide +kernel
theorem dX11_renew_69 : decode cX11_renew 69 = .ok (.aload_n 0, 1) := by decide +kernel
theorem dX11_renew_70 : decode cX11_renew 70 = .ok (.iload 5, 2) := by decide +kernel
theorem dX11_renew_72 : decode cX11_renew 72 = .ok (.invokevirtual 221, 3) := by decide +kernel
theorem dX11_renew_75 : decode cX11_renew 75 = .ok (.iload 4, 2) := by decide +kernel
theorem dX11_renew_77 : decode cX11_renew 77 = .ok (.if_icmp .gt 6, 3) := by decide +kernel
theorem dX11_renew_80 : decode cX11_renew 80 = .ok (.goto 14, 3) := by decide +kernel
theorem dX11_renew_83 : decode cX11_renew 83 = .ok (.iload 5, 2) := by decide +kernel
theorem dX11_renew_85 : decode cX11_renew 85 = .ok (.istore_n 3, 1) := by decide +kernel
theorem dX11_renew_86 : decode cX11_renew 86 = .ok (.aload_n 0, 1) := by decide +kernel
theorem dX11_renew_87 : decode cX11_renew 87 = .ok (.iload 5, 2) := by decide +kernel
theorem dX11_renew_89 : decode cX11_renew 89 = .ok (.invokevirtual 221, 3) := by decide +kernel
theorem dX11_renew_92 : decode cX11_renew 92 = .ok (.istore 4, 2) := by decide +kernel
theorem dX11_renew_94 : decode cX11_renew 94 = .ok (.iinc 5 1, 3) := by decide +kernel
theorem dX11_renew_97 : decode cX11_renew 97 = .ok (.goto (-65), 3) := by decide +kernel
theorem dX11_renew_100 : decode cX11_renew 100 = .ok (.iload_n 2, 1) := by decide +kernel
theorem dX11_renew_101 : decode cX11_renew 101 = .ok (.ifCond .ne 7, 3) := by decide +kernel
theorem dX11_renew_104 : decode cX11_renew 104 = .ok (.iload_n 3, 1) := by decide +kernel
theorem dX11_renew_105 : decode cX11_renew 105 = .ok (.goto 5, 3) := by decide +kernel
theorem dX11_renew_108 : decode cX11_renew 108 = .ok (.iload 4, 2) := by decide +kernel
theorem dX11_renew_110 : decode cX11_renew 110 = .ok (.ireturn, 1) := by decide +kernel
theorem dX11_frost_0 : decode cX11_frost 0 = .ok (.iload_n 1, 1) := by decide +kernel
theorem dX11_frost_1 : decode cX11_frost 1 = .ok (.iconst 0, 1) := by decide +kernel
theorem dX11_frost_2 : decode cX11_frost 2 = .ok (.iconst 1, 1) := by decide +kernel
theorem dX11_frost_3 : decode cX11_frost 3 = .ok (.invokestatic 52, 3) := by decide +kernel
theorem dX11_frost_6 : decode cX11_frost 6 = .ok (.ifCond .ne 5, 3) := by decide +kernel
theorem dX11_frost_9 : decode cX11_frost 9 = .ok (.iconst (-1), 1) := by decide +kernel
theorem dX11_frost_10 : decode cX11_frost 10 = .ok (.ireturn, 1) := by decide +kernel
theorem dX11_frost_11 : decode cX11_frost 11 = .ok (.aload_n 0, 1) := by decide +kernel
theorem dX11_frost_12 : decode cX11_frost 12 = .ok (.getfield 9, 3) := by decide +kernel
theorem dX11_frost_15 : decode cX11_frost 15 = .ok (.aload_n 0, 1) := by decide +kernel
theorem dX11_frost_16 : decode cX11_frost 16 = .ok (.getfield 13, 3) := by decide +kernel
theorem dX11_frost_19 : decode cX11_frost 19 = .ok (.invokestatic 112, 3) := by decide +kernel
theorem dX11_frost_22 : decode cX11_frost 22 = .ok (.iconst 0, 1) := by decide +kernel
theorem dX11_frost_23 : decode cX11_frost 23 = .ok (.istore_n 2, 1) := by decide +kernel
theorem dX11_frost_24 : decode cX11_frost 24 = .ok (.iload_n 2, 1) := by decide +kernel
theorem dX11_frost_25 : decode cX11_frost 25 = .ok (.bipush 10, 2) := by decide +kernel
theorem dX11_frost_27 : decode cX11_frost 27 = .ok (.if_icmp .ge 55, 3) := by decide +kernel
theorem dX11_frost_30 : decode cX11_frost 30 = .ok (.aload_n 0, 1) := by decide +kernel
theorem dX11_frost_31 : decode cX11_frost 31 = .ok (.getfield 13, 3) := by decide +kernel
theorem dX11_frost_34 : decode cX11_frost 34 = .ok (.iconst 3, 1) := by decide +kernel
theorem dX11_frost_35 : decode cX11_frost 35 = .ok (.iload_n 2, 1) := by decide +kernel
theorem dX11_frost_36 : decode cX11_frost 36 = .ok (.iastore, 1) := by decide +kernel
theorem dX11_frost_37 : decode cX11_frost 37 = .ok (.iconst 0, 1) := by decide +kernel
theorem dX11_frost_38 : decode cX11_frost 38 = .ok (.istore_n 3, 1) := by decide +kernel
theorem dX11_frost_39 : decode cX11_frost 39 = .ok (.iload_n 3, 1) := by decide +kernel
theorem dX11_frost_40 : decode cX11_frost 40 = .ok (.aload_n 0, 1) := by decide +kernel
theorem dX11_frost_41 : decode cX11_frost 41 = .ok (.getfield 13, 3) := by decide +kernel
theorem dX11_frost_44 : decode cX11_frost 44 = .ok (.iconst 1, 1) := by decide +kernel
theorem dX11_frost_45 : decode cX11_frost 45 = .ok (.iaload, 1) := by decide +kernel
theorem dX11_frost_46 : decode cX11_frost 46 = .ok (.if_icmp .ge 30, 3) := by decide +kernel
theorem dX11_frost_49 : decode cX11_frost 49 = .ok (.aload_n 0, 1) := by decide +kernel
theorem dX11_frost_50 : decode cX11_frost 50 = .ok (.getfield 13, 3) := by decide +kernel
theorem dX11_frost_53 : decode cX11_frost 53 = .ok (.iload_n 3, 1) := by decide +kernel
theorem dX11_frost_54 : decode cX11_frost 54 = .ok (.invokestatic 90, 3) := by decide +kernel
theorem dX11_frost_57 : decode cX11_frost 57 = .ok (.ifCond .eq 13, 3) := by decide +kernel
theorem dX11_frost_60 : decode cX11_frost 60 = .ok (.iload_n 1, 1) := by decide +kernel
theorem dX11_frost_61 : decode cX11_frost 61 = .ok (.ifCond .ne 7, 3) := by decide +kernel
theorem dX11_frost_64 : decode cX11_frost 64 = .ok (.iload_n 2, 1) := by decide +kernel
theorem dX11_frost_65 : decode cX11_frost 65 = .ok (.goto 4, 3) := by decide +kernel
theorem dX11_frost_68 : decode cX11_frost 68 = .ok (.iload_n 3, 1) := by decide +kernel
theorem dX11_frost_69 : decode cX11_frost 69 = .ok (.ireturn, 1) := by decide +kernel
theorem dX11_frost_70 : decode cX11_frost 70 = .ok (.iinc 3 1, 3) := by decide +kernel
theorem dX11_frost_73 : decode cX11_frost 73 = .ok (.goto (-34), 3) := by decide +kernel
theorem dX11_frost_76 : decode cX11_frost 76 = .ok (.iinc 2 1, 3) := by decide +kernel
theorem dX11_frost_79 : decode cX11_frost 79 = .ok (.goto (-55), 3) := by decide +kernel
theorem dX11_frost_82 : decode cX11_frost 82 = .ok (.bipush (-4), 2) := by decide +kernel
theorem dX11_frost_84 : decode cX11_frost 84 = .ok (.ireturn, 1) := by decide +kernel
theorem dX11_leastOf_0 : decode cX11_leastOf 0 = .ok (.iload_n 0, 1) := by decide +kernel
theorem dX11_leastOf_1 : decode cX11_leastOf 1 = .ok (.ifCond .ne 8, 3) := by decide +kernel
theorem dX11_leastOf_4 : decode cX11_leastOf 4 = .ok (.bipush (-128), 2) := by decide +kernel
theorem dX11_leastOf_6 : decode cX11_leastOf 6 = .ok (.goto 16, 3) := by decide +kernel
theorem dX11_leastOf_9 : decode cX11_leastOf 9 = .ok (.iload_n 0, 1) := by decide +kernel
theorem dX11_leastOf_10 : decode cX11_leastOf 10 = .ok (.iconst 1, 1) := by decide +kernel
theorem dX11_leastOf_11 : decode cX11_leastOf 11 = .ok (.if_icmp .ne 9, 3) := by decide +kernel
theorem dX11_leastOf_14 : decode cX11_leastOf 14 = .ok (.sipush (-32768), 3) := by decide +kernel
theorem dX11_leastOf_17 : decode cX11_leastOf 17 = .ok (.goto 5, 3) := by decide +kernel
theorem dX11_leastOf_20 : decode cX11_leastOf 20 = .ok (.ldc 224, 2) := by decide +kernel
theorem dX11_leastOf_22 : decode cX11_leastOf 22 = .ok (.ireturn, 1) := by decide +kernel
theorem dX11_isLurching_0 : decode cX11_isLurching 0 = .ok (.iconst 0, 1) := by decide +kernel
theorem dX11_isLurching_1 : decode cX11_isLurching 1 = .ok (.istore_n 2, 1) := by decide +kernel
theorem dX11_isLurching_2 : decode cX11_isLurching 2 = .ok (.iload_n 2, 1) := by decide +kernel
theorem dX11_isLurching_3 : decode cX11_isLurching 3 = .ok (.aload_n 0, 1) := by decide +kernel
theorem dX11_isLurching_4 : decode cX11_isLurching 4 = .ok (.getfield 46, 3) := by decide +kernel
theorem dX11_isLurching_7 : decode cX11_isLurching 7 = .ok (.iload_n 1, 1) := by decide +kernel
theorem dX11_isLurching_8 : decode cX11_isLurching 8 = .ok (.iaload, 1) := by decide +kernel
theorem dX11_isLurching_9 : decode cX11_isLurching 9 = .ok (.if_icmp .ge 59, 3) := by decide +kernel
theorem dX11_isLurching_12 : decode cX11_isLurching 12 = .ok (.aload_n 0, 1) := by decide +kernel
theorem dX11_isLurching_13 : decode cX11_isLurching 13 = .ok (.getfield 49, 3) := by decide +kernel
theorem dX11_isLurching_16 : decode cX11_isLurching 16 = .ok (.bipush 100, 2) := by decide +kernel
theorem dX11_isLurching_18 : decode cX11_isLurching 18 = .ok (.iload_n 1, 1) := by decide +kernel
theorem dX11_isLurching_19 : decode cX11_isLurching 19 = .ok (.imul, 1) := by decide +kernel
theorem dX11_isLurching_20 : decode cX11_isLurching 20 = .ok (.iload_n 2, 1) := by decide +kernel
theorem dX11_isLurching_21 : decode cX11_isLurching 21 = .ok (.iadd, 1) := by decide +kernel
theorem dX11_isLurching_22 : decode cX11_isLurching 22 = .ok (.iaload, 1) := by decide +kernel
theorem dX11_isLurching_23 : decode cX11_isLurching 23 = .ok (.istore_n 3, 1) := by decide +kernel
theorem dX11_isLurching_24 : decode cX11_isLurching 24 = .ok (.iload_n 3, 1) := by decide +kernel
theorem dX11_isLurching_25 : decode cX11_isLurching 25 = .ok (.aload_n 0, 1) := by decide +kernel
theorem dX11_isLurching_26 : decode cX11_isLurching 26 = .ok (.getfield 43, 3) := by decide +kernel
theorem dX11_isLurching_29 : decode cX11_isLurching 29 = .ok (.iload_n 1, 1) := by decide +kernel
theorem dX11_isLurching_30 : decode cX11_isLurching 30 = .ok (.iaload, 1) := by decide +kernel
theorem dX11_isLurching_31 : decode cX11_isLurching 31 = .ok (.invokestatic 225, 3) := by decide +kernel
theorem dX11_isLurching_34 : decode cX11_isLurching 34 = .ok (.if_icmp .eq 28, 3) := by decide +kernel
theorem dX11_isLurching_37 : decode cX11_isLurching 37 = .ok (.iload_n 3, 1) := by decide +kernel
theorem dX11_isLurching_38 : decode cX11_isLurching 38 = .ok (.aload_n 0, 1) := by decide +kernel
theorem dX11_isLurching_39 : decode cX11_isLurching 39 = .ok (.getfield 13, 3) := by decide +kernel
theorem dX11_isLurching_42 : decode cX11_isLurching 42 = .ok (.iload_n 2, 1) := by decide +kernel
theorem dX11_isLurching_43 : decode cX11_isLurching 43 = .ok (.iconst 1, 1) := by decide +kernel
theorem dX11_isLurching_44 : decode cX11_isLurching 44 = .ok (.invokestatic 116, 3) := by decide +kernel
theorem dX11_isLurching_47 : decode cX11_isLurching 47 = .ok (.aload_n 0, 1) := by decide +kernel
theorem dX11_isLurching_48 : decode cX11_isLurching 48 = .ok (.getfield 13, 3) := by decide +kernel
theorem dX11_isLurching_51 : decode cX11_isLurching 51 = .ok (.iload_n 2, 1) := by decide +kernel
theorem dX11_isLurching_52 : decode cX11_isLurching 52 = .ok (.iconst (-1), 1) := by decide +kernel
theorem dX11_isLurching_53 : decode cX11_isLurching 53 = .ok (.invokestatic 116, 3) := by decide +kernel
theorem dX11_isLurching_56 : decode cX11_isLurching 56 = .ok (.isub, 1) := by decide +kernel
theorem dX11_isLurching_57 : decode cX11_isLurching 57 = .ok (.if_icmp .eq 5, 3) := by decide +kernel
theorem dX11_isLurching_60 : decode cX11_isLurching 60 = .ok (.iconst 0, 1) := by decide +kernel
theorem dX11_isLurching_61 : decode cX11_isLurching 61 = .ok (.ireturn, 1) := by decide +kernel
theorem dX11_isLurching_62 : decode cX11_isLurching 62 = .ok (.iinc 2 1, 3) := by decide +kernel
theorem dX11_isLurching_65 : decode cX11_isLurching 65 = .ok (.goto (-63), 3) := by decide +kernel
theorem dX11_isLurching_68 : decode cX11_isLurching 68 = .ok (.iconst 1, 1) := by decide +kernel
theorem dX11_isLurching_69 : decode cX11_isLurching 69 = .ok (.ireturn, 1) := by decide +kernel
theorem dX11_lurch_0 : decode cX11_lurch 0 = .ok (.iload_n 2, 1) := by decide +kernel
theorem dX11_lurch_1 : decode cX11_lurch 1 = .ok (.iconst 0, 1) := by decide +kernel
theorem dX11_lurch_2 : decode cX11_lurch 2 = .ok (.iconst 1, 1) := by decide +kernel
theorem dX11_lurch_3 : decode cX11_lurch 3 = .ok (.invokestatic 52, 3) := by decide +kernel
theorem dX11_lurch_6 : decode cX11_lurch 6 = .ok (.ifCond .ne 5, 3) := by decide +kernel
theorem dX11_lurch_9 : decode cX11_lurch 9 = .ok (.iconst (-1), 1) := by decide +kernel
theorem dX11_lurch_10 : decode cX11_lurch 10 = .ok (.ireturn, 1) := by decide +kernel
theorem dX11_lurch_11 : decode cX11_lurch 11 = .ok (.aload_n 0, 1) := by decide +kernel
theorem dX11_lurch_12 : decode cX11_lurch 12 = .ok (.iload_n 1, 1) := by decide +kernel
theorem dX11_lurch_13 : decode cX11_lurch 13 = .ok (.iconst (-1), 1) := by decide +kernel
theorem dX11_lurch_14 : decode cX11_lurch 14 = .ok (.invokevirtual 167, 3) := by decide +kernel
theorem dX11_lurch_17 : decode cX11_lurch 17 = .ok (.istore_n 3, 1) := by decide +kernel
theorem dX11_lurch_18 : decode cX11_lurch 18 = .ok (.iload_n 3, 1) := by decide +kernel
theorem dX11_lurch_19 : decode cX11_lurch 19 = .ok (.ifCond .ne 21, 3) := by decide +kernel
theorem dX11_lurch_22 : decode cX11_lurch 22 = .ok (.aload_n 0, 1) := by decide +kernel
theorem dX11_lurch_23 : decode cX11_lurch 23 = .ok (.getfield 46, 3) := by decide +kernel
theorem dX11_lurch_26 : decode cX11_lurch 26 = .ok (.iload_n 1, 1) := by decide +kernel
theorem dX11_lurch_27 : decode cX11_lurch 27 = .ok (.iaload, 1) := by decide +kernel
theorem dX11_lurch_28 : decode cX11_lurch 28 = .ok (.aload_n 0, 1) := by decide +kernel
theorem dX11_lurch_29 : decode cX11_lurch 29 = .ok (.getfield 9, 3) := by decide +kernel
theorem dX11_lurch_32 : decode cX11_lurch 32 = .ok (.iconst 0, 1) := by decide +kernel
theorem dX11_lurch_33 : decode cX11_lurch 33 = .ok (.iaload, 1) := by decide +kernel
theorem dX11_lurch_34 : decode cX11_lurch 34 = .ok (.if_icmp .le 6, 3) := by decide +kernel
theorem dX11_lurch_37 : decode cX11_lurch 37 = .ok (.bipush (-13), 2) := by decide +kernel
theorem dX11_lurch_39 : decode cX11_lurch 39 = .ok (.istore_n 3, 1) := by decide +kernel
theorem dX11_lurch_40 : decode cX11_lurch 40 = .ok (.iload_n 3, 1) := by decide +kernel
theorem dX11_lurch_41 : decode cX11_lurch 41 = .ok (.ifCond .eq 5, 3) := by decide +kernel
theorem dX11_lurch_44 : decode cX11_lurch 44 = .ok (.iload_n 3, 1) := by decide +kernel
theorem dX11_lurch_45 : decode cX11_lurch 45 = .ok (.ireturn, 1) := by decide +kernel
theorem dX11_lurch_46 : decode cX11_lurch 46 = .ok (.iconst 0, 1) := by decide +kernel
theorem dX11_lurch_47 : decode cX11_lurch 47 = .ok (.istore 4, 2) := by decide +kernel
theorem dX11_lurch_49 : decode cX11_lurch 49 = .ok (.iconst 0, 1) := by decide +kernel
theorem dX11_lurch_50 : decode cX11_lurch 50 = .ok (.istore 5, 2) := by decide +kernel
theorem dX11_lurch_52 : decode cX11_lurch 52 = .ok (.iload 5, 2) := by decide +kernel
theorem dX11_lurch_54 : decode cX11_lurch 54 = .ok (.aload_n 0, 1) := by decide +kernel
theorem dX11_lurch_55 : decode cX11_lurch 55 = .ok (.getfield 9, 3) := by decide +kernel
theorem dX11_lurch_58 : decode cX11_lurch 58 = .ok (.iconst 1, 1) := by decide +kernel
theorem dX11_lurch_59 : decode cX11_lurch 59 = .ok (.iaload, 1) := by decide +kernel
theorem dX11_lurch_60 : decode cX11_lurch 60 = .ok (.if_icmp .ge 65, 3) := by decide +kernel
theorem dX11_lurch_63 : decode cX11_lurch 63 = .ok (.aload_n 0, 1) := by decide +kernel
theorem dX11_lurch_64 : decode cX11_lurch 64 = .ok (.getfield 9, 3) := by decide +kernel
theorem dX11_lurch_67 : decode cX11_lurch 67 = .ok (.aload_n 0, 1) := by decide +kernel
theorem dX11_lurch_68 : decode cX11_lurch 68 = .ok (.getfield 13, 3) := by decide +kernel
theorem dX11_lurch_71 : decode cX11_lurch 71 = .ok (.invokestatic 112, 3) := by decide +kernel
theorem dX11_lurch_74 : decode cX11_lurch 74 = .ok (.aload_n 0, 1) := by decide +kernel
theorem dX11_lurch_75 : decode cX11_lurch 75 = .ok (.getfield 13, 3) := by decide +kernel
theorem dX11_lurch_78 : decode cX11_lurch 78 = .ok (.iload 5, 2) := by decide +kernel
theorem dX11_lurch_80 : decode cX11_lurch 80 = .ok (.iconst 5, 1) := by decide +kernel
theorem dX11_lurch_81 : decode cX11_lurch 81 = .ok (.invokestatic 56, 3) := by decide +kernel
theorem dX11_lurch_84 : decode cX11_lurch 84 = .ok (.iconst 1, 1) := by decide +kernel
theorem dX11_lurch_85 : decode cX11_lurch 85 = .ok (.iastore, 1) := by decide +kernel
theorem dX11_lurch_86 : decode cX11_lurch 86 = .ok (.iload 4, 2) := by decide +kernel
theorem dX11_lurch_88 : decode cX11_lurch 88 = .ok (.aload_n 0, 1) := by decide +kernel
theorem dX11_lurch_89 : decode cX11_lurch 89 = .ok (.getfield 9, 3) := by decide +kernel
theorem dX11_lurch_92 : decode cX11_lurch 92 = .ok (.iload 5, 2) := by decide +kernel
theorem dX11_lurch_94 : decode cX11_lurch 94 = .ok (.invokestatic 69, 3) := by decide +kernel
theorem dX11_lurch_97 : decode cX11_lurch 97 = .ok (.ifCond .eq 18, 3) := by decide +kernel
theorem dX11_lurch_100 : decode cX11_lurch 100 = .ok (.aload_n 0, 1) := by decide +kernel
theorem dX11_lurch_101 : decode cX11_lurch 101 = .ok (.iload_n 1, 1) := by decide +kernel
theorem dX11_lurch_102 : decode cX11_lurch 102 = .ok (.invokevirtual 228, 3) := by decide +kernel
theorem dX11_lurch_105 : decode cX11_lurch 105 = .ok (.ifCond .eq 10, 3) := by decide +kernel
theorem dX11_lurch_108 : decode cX11_lurch 108 = .ok (.iconst 1, 1) := by decide +kernel
theorem dX11_lurch_109 : decode cX11_lurch 109 = .ok (.iload 5, 2) := by decide +kernel
theorem dX11_lurch_111 : decode cX11_lurch 111 = .ok (.ishl, 1) := by decide +kernel
theorem dX11_lurch_112 : decode cX11_lurch 112 = .ok (.goto 4, 3) := by decide +kernel
theorem dX11_lurch_115 : decode cX11_lurch 115 = .ok (.iconst 0, 1) := by decide +kernel
theorem dX11_lurch_116 : decode cX11_lurch 116 = .ok (.ior, 1) := by decide +kernel
theorem dX11_lurch_117 : decode cX11_lurch 117 = .ok (.istore 4, 2) := by decide +kernel
theorem dX11_lurch_119 : decode cX11_lurch 119 = .ok (.iinc 5 1, 3) := by decide +kernel
theorem dX11_lurch_122 : decode cX11_lurch 122 = .ok (.goto (-70), 3) := by decide +kernel
theorem dX11_lurch_125 : decode cX11_lurch 125 = .ok (.iload_n 2, 1) := by decide +kernel
theorem dX11_lurch_126 : decode cX11_lurch 126 = .ok (.ifCond .ne 8, 3) := by decide +kernel
theorem dX11_lurch_129 : decode cX11_lurch 129 = .ok (.iload 4, 2) := by decide +kernel
theorem dX11_lurch_131 : decode cX11_lurch 131 = .ok (.goto 8, 3) := by decide +kernel
theorem dX11_lurch_134 : decode cX11_lurch 134 = .ok (.iload 4, 2) := by decide +kernel
theorem dX11_lurch_136 : decode cX11_lurch 136 = .ok (.invokestatic 180, 3) := by decide +kernel
theorem dX11_lurch_139 : decode cX11_lurch 139 = .ok (.ireturn, 1) := by decide +kernel
theorem dX11_gauges_0 : decode cX11_gauges 0 = .ok (.iload_n 2, 1) := by decide +kernel
theorem dX11_gauges_1 : decode cX11_gauges 1 = .ok (.iconst 0, 1) := by decide +kernel
theorem dX11_gauges_2 : decode cX11_gauges 2 = .ok (.bipush 9, 2) := by decide +kernel
theorem dX11_gauges_4 : decode cX11_gauges 4 = .ok (.invokestatic 52, 3) := by decide +kernel
theorem dX11_gauges_7 : decode cX11_gauges 7 = .ok (.ifCond .eq 12, 3) := by decide +kernel
theorem dX11_gauges_10 : decode cX11_gauges 10 = .ok (.iload_n 3, 1) := by decide +kernel
theorem dX11_gauges_11 : decode cX11_gauges 11 = .ok (.iconst 0, 1) := by decide +kernel
theorem dX11_gauges_12 : decode cX11_gauges 12 = .ok (.iconst 1, 1) := by decide +kernel
theorem dX11_gauges_13 : decode cX11_gauges 13 = .ok (.invokestatic 52, 3) := by decide +kernel
theorem dX11_gauges_16 : decode cX11_gauges 16 = .ok (.ifCond .ne 5, 3) := by decide +kernel
theorem dX11_gauges_19 : decode cX11_gauges 19 = .ok (.iconst (-1), 1) := by decide +kernel
theorem dX11_gauges_20 : decode cX11_gauges 20 = .ok (.ireturn, 1) := by decide +kernel
theorem dX11_gauges_21 : decode cX11_gauges 21 = .ok (.aload_n 0, 1) := by decide +kernel
theorem dX11_gauges_22 : decode cX11_gauges 22 = .ok (.iload_n 1, 1) := by decide +kernel
theorem dX11_gauges_23 : decode cX11_gauges 23 = .ok (.iconst (-1), 1) := by decide +kernel
theorem dX11_gauges_24 : decode cX11_gauges 24 = .ok (.invokevirtual 167, 3) := by decide +kernel
theorem dX11_gauges_27 : decode cX11_gauges 27 = .ok (.istore 4, 2) := by decide +kernel
theorem dX11_gauges_29 : decode cX11_gauges 29 = .ok (.iload 4, 2) := by decide +kernel
theorem dX11_gauges_31 : decode cX11_gauges 31 = .ok (.ifCond .eq 6, 3) := by decide +kernel
theorem dX11_gauges_34 : decode cX11_gauges 34 = .ok (.iload 4, 2) := by decide +kernel
theorem dX11_gauges_36 : decode cX11_gauges 36 = .ok (.ireturn, 1) := by decide +kernel
theorem dX11_gauges_37 : decode cX11_gauges 37 = .ok (.iconst 0, 1) := by decide +kernel
theorem dX11_gauges_38 : decode cX11_gauges 38 = .ok (.istore 5, 2) := by decide +kernel
theorem dX11_gauges_40 : decode cX11_gauges 40 = .ok (.iconst 0, 1) := by decide +kernel
theorem dX11_gauges_41 : decode cX11_gauges 41 = .ok (.istore 6, 2) := by decide +kernel
theorem dX11_gauges_43 : decode cX11_gauges 43 = .ok (.iload 6, 2) := by decide +kernel
theorem dX11_gauges_45 : decode cX11_gauges 45 = .ok (.bipush 8, 2) := by decide +kernel
theorem dX11_gauges_47 : decode cX11_gauges 47 = .ok (.if_icmp .ge 112, 3) := by decide +kernel
theorem dX11_gauges_50 : decode cX11_gauges 50 = .ok (.iconst 1, 1) := by decide +kernel
theorem dX11_gauges_51 : decode cX11_gauges 51 = .ok (.istore 7, 2) := by decide +kernel
theorem dX11_gauges_53 : decode cX11_gauges 53 = .ok (.iconst 0, 1) := by decide +kernel
theorem dX11_gauges_54 : decode cX11_gauges 54 = .ok (.istore 8, 2) := by decide +kernel
theorem dX11_gauges_56 : decode cX11_gauges 56 = .ok (.iload 8, 2) := by decide +kernel
theorem dX11_gauges_58 : decode cX11_gauges 58 = .ok (.aload_n 0, 1) := by decide +kernel
theorem dX11_gauges_59 : decode cX11_gauges 59 = .ok (.getfield 46, 3) := by decide +kernel
theorem dX11_gauges_62 : decode cX11_gauges 62 = .ok (.iload_n 1, 1) := by decide +kernel
theorem dX11_gauges_63 : decode cX11_gauges 63 = .ok (.iaload, 1) := by decide +kernel
theorem dX11_gauges_64 : decode cX11_gauges 64 = .ok (.if_icmp .ge 71, 3) := by decide +kernel
theorem dX11_gauges_67 : decode cX11_gauges 67 = .ok (.aload_n 0, 1) := by decide +kernel
theorem dX11_gauges_68 : decode cX11_gauges 68 = .ok (.getfield 49, 3) := by decide +kernel
theorem dX11_gauges_71 : decode cX11_gauges 71 = .ok (.bipush 100, 2) := by decide +kernel
theorem dX11_gauges_73 : decode cX11_gauges 73 = .ok (.iload_n 1, 1) := by decide +kernel
theorem dX11_gauges_74 : decode cX11_gauges 74 = .ok (.imul, 1) := by decide +kernel
theorem dX11_gauges_75 : decode cX11_gauges 75 = .ok (.iload 8, 2) := by decide +kernel
theorem dX11_gauges_77 : decode cX11_gauges 77 = .ok (.iadd, 1) := by decide +kernel
theorem dX11_gauges_78 : decode cX11_gauges 78 = .ok (.iaload, 1) := by decide +kernel
theorem dX11_gauges_79 : decode cX11_gauges 79 = .ok (.istore 9, 2) := by decide +kernel
theorem dX11_gauges_81 : decode cX11_gauges 81 = .ok (.iload 7, 2) := by decide +kernel
theorem dX11_gauges_83 : decode cX11_gauges 83 = .ok (.iload 9, 2) := by decide +kernel
theorem dX11_gauges_85 : decode cX11_gauges 85 = .ok (.aload_n 0, 1) := by decide +kernel
theorem dX11_gauges_86 : decode cX11_gauges 86 = .ok (.getfield 43, 3) := by decide +kernel
theorem dX11_gauges_89 : decode cX11_gauges 89 = .ok (.iload_n 1, 1) := by decide +kernel
theorem dX11_gauges_90 : decode cX11_gauges 90 = .ok (.iaload, 1) := by decide +kernel
theorem dX11_gauges_91 : decode cX11_gauges 91 = .ok (.invokestatic 225, 3) := by decide +kernel
theorem dX11_gauges_94 : decode cX11_gauges 94 = .ok (.if_icmp .eq 27, 3) := by decide +kernel
theorem dX11_gauges_97 : decode cX11_gauges 97 = .ok (.iload 9, 2) := by decide +kernel
theorem dX11_gauges_99 : decode cX11_gauges 99 = .ok (.iconst 0, 1) := by decide +kernel
theorem dX11_gauges_100 : decode cX11_gauges 100 = .ok (.iload 8, 2) := by decide +kernel
theorem dX11_gauges_102 : decode cX11_gauges 102 = .ok (.iload 6, 2) := by decide +kernel
theorem dX11_gauges_104 : decode cX11_gauges 104 = .ok (.iload_n 2, 1) := by decide +kernel
theorem dX11_gauges_105 : decode cX11_gauges 105 = .ok (.invokestatic 63, 3) := by decide +kernel
theorem dX11_gauges_108 : decode cX11_gauges 108 = .ok (.isub, 1) := by decide +kernel
theorem dX11_gauges_109 : decode cX11_gauges 109 = .ok (.invokestatic 66, 3) := by decide +kernel
theorem dX11_gauges_112 : decode cX11_gauges 112 = .ok (.iload 6, 2) := by decide +kernel
theorem dX11_gauges_114 : decode cX11_gauges 114 = .ok (.invokestatic 77, 3) := by decide +kernel
theorem dX11_gauges_117 : decode cX11_gauges 117 = .ok (.imul, 1) := by decide +kernel
theorem dX11_gauges_118 : decode cX11_gauges 118 = .ok (.if_icmp .ne 7, 3) := by decide +kernel
theorem dX11_gauges_121 : decode cX11_gauges 121 = .ok (.iconst 1, 1) := by decide +kernel
theorem dX11_gauges_122 : decode cX11_gauges 122 = .ok (.goto 4, 3) := by decide +kernel
theorem dX11_gauges_125 : decode cX11_gauges 125 = .ok (.iconst 0, 1) := by decide +kernel
theorem dX11_gauges_126 : decode cX11_gauges 126 = .ok (.iand, 1) := by decide +kernel
theorem dX11_gauges_127 : decode cX11_gauges 127 = .ok (.istore 7, 2) := by decide +kernel
theorem dX11_gauges_129 : decode cX11_gauges 129 = .ok (.iinc 8 1, 3) := by decide +kernel
theorem dX11_gauges_132 : decode cX11_gauges 132 = .ok (.goto (-76), 3) := by decide +kernel
theorem dX11_gauges_135 : decode cX11_gauges 135 = .ok (.iload 5, 2) := by decide +kernel
theorem dX11_gauges_137 : decode cX11_gauges 137 = .ok (.iload 7, 2) := by decide +kernel
theorem dX11_gauges_139 : decode cX11_gauges 139 = .ok (.ifCond .eq 10, 3) := by decide +kernel
theorem dX11_gauges_142 : decode cX11_gauges 142 = .ok (.iconst 1, 1) := by decide +kernel
theorem dX11_gauges_143 : decode cX11_gauges 143 = .ok (.iload 6, 2) := by decide +kernel
theorem dX11_gauges_145 : decode cX11_gauges 145 = .ok (.ishl, 1) := by decide +kernel
theorem dX11_gauges_146 : decode cX11_gauges 146 = .ok (.goto 4, 3) := by decide +kernel
theorem dX11_gauges_149 : decode cX11_gauges 149 = .ok (.iconst 0, 1) := by decide +kernel
theorem dX11_gauges_150 : decode cX11_gauges 150 = .ok (.ior, 1) := by decide +kernel
theorem dX11_gauges_151 : decode cX11_gauges 151 = .ok (.istore 5, 2) := by decide +kernel
theorem dX11_gauges_153 : decode cX11_gauges 153 = .ok (.iinc 6 1, 3) := by decide +kernel
theorem dX11_gauges_156 : decode cX11_gauges 156 = .ok (.goto (-113), 3) := by decide +kernel
theorem dX11_gauges_159 : decode cX11_gauges 159 = .ok (.iload_n 3, 1) := by decide +kernel
theorem dX11_gauges_160 : decode cX11_gauges 160 = .ok (.ifCond .ne 8, 3) := by decide +kernel
theorem dX11_gauges_163 : decode cX11_gauges 163 = .ok (.iload 5, 2) := by decide +kernel
theorem dX11_gauges_165 : decode cX11_gauges 165 = .ok (.goto 8, 3) := by decide +kernel
theorem dX11_gauges_168 : decode cX11_gauges 168 = .ok (.iload 5, 2) := by decide +kernel
theorem dX11_gauges_170 : decode cX11_gauges 170 = .ok (.invokestatic 180, 3) := by decide +kernel
theorem dX11_gauges_173 : decode cX11_gauges 173 = .ok (.ireturn, 1) := by decide +kernel
theorem dX11_hasBy_0 : decode cX11_hasBy 0 = .ok (.aload_n 0, 1) := by decide +kernel
theorem dX11_hasBy_1 : decode cX11_hasBy 1 = .ok (.getfield 9, 3) := by decide +kernel
theorem dX11_hasBy_4 : decode cX11_hasBy 4 = .ok (.aload_n 0, 1) := by decide +kernel
theorem dX11_hasBy_5 : decode cX11_hasBy 5 = .ok (.getfield 13, 3) := by decide +kernel
theorem dX11_hasBy_8 : decode cX11_hasBy 8 = .ok (.invokestatic 112, 3) := by decide +kernel
theorem dX11_hasBy_11 : decode cX11_hasBy 11 = .ok (.aload_n 0, 1) := by decide +kernel
theorem dX11_hasBy_12 : decode cX11_hasBy 12 = .ok (.getfield 9, 3) := by decide +kernel
theorem dX11_hasBy_15 : decode cX11_hasBy 15 = .ok (.iconst 4, 1) := by decide +kernel
theorem dX11_hasBy_16 : decode cX11_hasBy 16 = .ok (.iload_n 1, 1) := by decide +kernel
theorem dX11_hasBy_17 : decode cX11_hasBy 17 = .ok (.iadd, 1) := by decide +kernel
theorem dX11_hasBy_18 : decode cX11_hasBy 18 = .ok (.iaload, 1) := by decide +kernel
theorem dX11_hasBy_19 : decode cX11_hasBy 19 = .ok (.aload_n 0, 1) := by decide +kernel
theorem dX11_hasBy_20 : decode cX11_hasBy 20 = .ok (.getfield 9, 3) := by decide +kernel
theorem dX11_hasBy_23 : decode cX11_hasBy 23 = .ok (.iconst 4, 1) := by decide +kernel
theorem dX11_hasBy_24 : decode cX11_hasBy 24 = .ok (.iload_n 2, 1) := by decide +kernel
theorem dX11_hasBy_25 : decode cX11_hasBy 25 = .ok (.iadd, 1) := by decide +kernel
theorem dX11_hasBy_26 : decode cX11_hasBy 26 = .ok (.iaload, 1) := by decide +kernel
theorem dX11_hasBy_27 : decode cX11_hasBy 27 = .ok (.if_icmp .ge 7, 3) := by decide +kernel
theorem dX11_hasBy_30 : decode cX11_hasBy 30 = .ok (.iconst (-1), 1) := by decide +kernel
theorem dX11_hasBy_31 : decode cX11_hasBy 31 = .ok (.goto 4, 3) := by decide +kernel
theorem dX11_hasBy_34 : decode cX11_hasBy 34 = .ok (.iconst 1, 1) := by decide +kernel
theorem dX11_hasBy_35 : decode cX11_hasBy 35 = .ok (.istore 5, 2) := by decide +kernel
theorem dX11_hasBy_37 : decode cX11_hasBy 37 = .ok (.aload_n 0, 1) := by decide +kernel
theorem dX11_hasBy_38 : decode cX11_hasBy 38 = .ok (.getfield 9, 3) := by decide +kernel
theorem dX11_hasBy_41 : decode cX11_hasBy 41 = .ok (.iconst 4, 1) := by decide +kernel
theorem dX11_hasBy_42 : decode cX11_hasBy 42 = .ok (.iload_n 1, 1) := by decide +kernel
theorem dX11_hasBy_43 : decode cX11_hasBy 43 = .ok (.iadd, 1) := by decide +kernel
theorem dX11_hasBy_44 : decode cX11_hasBy 44 = .ok (.iaload, 1) := by decide +kernel
theorem dX11_hasBy_45 : decode cX11_hasBy 45 = .ok (.iload 5, 2) := by decide +kernel
theorem dX11_hasBy_47 : decode cX11_hasBy 47 = .ok (.iadd, 1) := by decide +kernel
theorem dX11_hasBy_48 : decode cX11_hasBy 48 = .ok (.invokestatic 144, 3) := by decide +kernel
theorem dX11_hasBy_51 : decode cX11_hasBy 51 = .ok (.istore 6, 2) := by decide +kernel
theorem dX11_hasBy_53 : decode cX11_hasBy 53 = .ok (.aload_n 0, 1) := by decide +kernel
theorem dX11_hasBy_54 : decode cX11_hasBy 54 = .ok (.getfield 13, 3) := by decide +kernel
theorem dX11_hasBy_57 : decode cX11_hasBy 57 = .ok (.iconst 4, 1) := by decide +kernel
theorem dX11_hasBy_58 : decode cX11_hasBy 58 = .ok (.iload_n 1, 1) := by decide +kernel
theorem dX11_hasBy_59 : decode cX11_hasBy 59 = .ok (.iadd, 1) := by decide +kernel
theorem dX11_hasBy_60 : decode cX11_hasBy 60 = .ok (.dup2, 1) := by decide +kernel
theorem dX11_hasBy_61 : decode cX11_hasBy 61 = .ok (.iaload, 1) := by decide +kernel
theorem dX11_hasBy_62 : decode cX11_hasBy 62 = .ok (.iload_n 3, 1) := by decide +kernel
theorem dX11_hasBy_63 : decode cX11_hasBy 63 = .ok (.iconst 1, 1) := by decide +kernel
theorem dX11_hasBy_64 : decode cX11_hasBy 64 = .ok (.if_icmp .ne 13, 3) := by decide +kernel
theorem dX11_hasBy_67 : decode cX11_hasBy 67 = .ok (.iload 6, 2) := by decide +kernel
theorem dX11_hasBy_69 : decode cX11_hasBy 69 = .ok (.ifCond .eq 8, 3) := by decide +kernel
theorem dX11_hasBy_72 : decode cX11_hasBy 72 = .ok (.iload 5, 2) := by decide +kernel
theorem dX11_hasBy_74 : decode cX11_hasBy 74 = .ok (.goto 4, 3) := by decide +kernel
theorem dX11_hasBy_77 : decode cX11_hasBy 77 = .ok (.iconst 0, 1) := by decide +kernel
theorem dX11_hasBy_78 : decode cX11_hasBy 78 = .ok (.iadd, 1) := by decide +kernel
theorem dX11_hasBy_79 : decode cX11_hasBy 79 = .ok (.iastore, 1) := by decide +kernel
theorem dX11_hasBy_80 : decode cX11_hasBy 80 = .ok (.aload_n 0, 1) := by decide +kernel
theorem dX11_hasBy_81 : decode cX11_hasBy 81 = .ok (.getfield 13, 3) := by decide +kernel
theorem dX11_hasBy_84 : decode cX11_hasBy 84 = .ok (.iconst 4, 1) := by decide +kernel
theorem dX11_hasBy_85 : decode cX11_hasBy 85 = .ok (.iload_n 2, 1) := by decide +kernel
theorem dX11_hasBy_86 : decode cX11_hasBy 86 = .ok (.iadd, 1) := by decide +kernel
theorem dX11_hasBy_87 : decode cX11_hasBy 87 = .ok (.dup2, 1) := by decide +kernel
theorem dX11_hasBy_88 : decode cX11_hasBy 88 = .ok (.iaload, 1) := by decide +kernel
theorem dX11_hasBy_89 : decode cX11_hasBy 89 = .ok (.iload 4, 2) := by decide +kernel
theorem dX11_hasBy_91 : decode cX11_hasBy 91 = .ok (.iconst 1, 1) := by decide +kernel
theorem dX11_hasBy_92 : decode cX11_hasBy 92 = .ok (.if_icmp .ne 25, 3) := by decide +kernel
theorem dX11_hasBy_95 : decode cX11_hasBy 95 = .ok (.aload_n 0, 1) := by decide +kernel
theorem dX11_hasBy_96 : decode cX11_hasBy 96 = .ok (.getfield 9, 3) := by decide +kernel
theorem dX11_hasBy_99 : decode cX11_hasBy 99 = .ok (.iconst 4, 1) := by decide +kernel
theorem dX11_hasBy_100 : decode cX11_hasBy 100 = .ok (.iload_n 2, 1) := by decide +kernel
theorem dX11_hasBy_101 : decode cX11_hasBy 101 = .ok (.iadd, 1) := by decide +kernel
theorem dX11_hasBy_102 : decode cX11_hasBy 102 = .ok (.iaload, 1) := by decide +kernel
theorem dX11_hasBy_103 : decode cX11_hasBy 103 = .ok (.iload 5, 2) := by decide +kernel
theorem dX11_hasBy_105 : decode cX11_hasBy 105 = .ok (.isub, 1) := by decide +kernel
theorem dX11_hasBy_106 : decode cX11_hasBy 106 = .ok (.invokestatic 144, 3) := by decide +kernel
theorem dX11_hasBy_109 : decode cX11_hasBy 109 = .ok (.ifCond .eq 8, 3) := by decide +kernel
theorem dX11_hasBy_112 : decode cX11_hasBy 112 = .ok (.iload 5, 2) := by decide +kernel
theorem dX11_hasBy_114 : decode cX11_hasBy 114 = .ok (.goto 4, 3) := by decide +kernel
theorem dX11_hasBy_117 : decode cX11_hasBy 117 = .ok (.iconst 0, 1) := by decide +kernel
theorem dX11_hasBy_118 : decode cX11_hasBy 118 = .ok (.isub, 1) := by decide +kernel
theorem dX11_hasBy_119 : decode cX11_hasBy 119 = .ok (.iastore, 1) := by decide +kernel
theorem dX11_hasBy_120 : decode cX11_hasBy 120 = .ok (.iload_n 3, 1) := by decide +kernel
theorem dX11_hasBy_121 : decode cX11_hasBy 121 = .ok (.iconst 1, 1) := by decide +kernel
theorem dX11_hasBy_122 : decode cX11_hasBy 122 = .ok (.if_icmp .ne 12, 3) := by decide +kernel
theorem dX11_hasBy_125 : decode cX11_hasBy 125 = .ok (.iload 6, 2) := by decide +kernel
theorem dX11_hasBy_127 : decode cX11_hasBy 127 = .ok (.ifCond .eq 7, 3) := by decide +kernel
theorem dX11_hasBy_130 : decode cX11_hasBy 130 = .ok (.iconst 3, 1) := by decide +kernel
theorem dX11_hasBy_131 : decode cX11_hasBy 131 = .ok (.goto 4, 3) := by decide +kernel
theorem dX11_hasBy_134 : decode cX11_hasBy 134 = .ok (.iconst 0, 1) := by decide +kernel
theorem dX11_hasBy_135 : decode cX11_hasBy 135 = .ok (.istore 7, 2) := by decide +kernel
theorem dX11_hasBy_137 : decode cX11_hasBy 137 = .ok (.iconst 0, 1) := by decide +kernel
theorem dX11_hasBy_138 : decode cX11_hasBy 138 = .ok (.istore 8, 2) := by decide +kernel
theorem dX11_hasBy_140 : decode cX11_hasBy 140 = .ok (.iload 8, 2) := by decide +kernel
theorem dX11_hasBy_142 : decode cX11_hasBy 142 = .ok (.aload_n 0, 1) := by decide +kernel
theorem dX11_hasBy_143 : decode cX11_hasBy 143 = .ok (.getfield 13, 3) := by decide +kernel
theorem dX11_hasBy_146 : decode cX11_hasBy 146 = .ok (.iconst 1, 1) := by decide +kernel
theorem dX11_hasBy_147 : decode cX11_hasBy 147 = .ok (.iaload, 1) := by decide +kernel
theorem dX11_hasBy_148 : decode cX11_hasBy 148 = .ok (.if_icmp .ge 53, 3) := by decide +kernel
theorem dX11_hasBy_151 : decode cX11_hasBy 151 = .ok (.iload 7, 2) := by decide +kernel
theorem dX11_hasBy_153 : decode cX11_hasBy 153 = .ok (.aload_n 0, 1) := by decide +kernel
theorem dX11_hasBy_154 : decode cX11_hasBy 154 = .ok (.getfield 13, 3) := by decide +kernel
theorem dX11_hasBy_157 : decode cX11_hasBy 157 = .ok (.iload 8, 2) := by decide +kernel
theorem dX11_hasBy_159 : decode cX11_hasBy 159 = .ok (.iload_n 1, 1) := by decide +kernel
theorem dX11_hasBy_160 : decode cX11_hasBy 160 = .ok (.invokestatic 101, 3) := by decide +kernel
theorem dX11_hasBy_163 : decode cX11_hasBy 163 = .ok (.ifCond .eq 28, 3) := by decide +kernel
theorem dX11_hasBy_166 : decode cX11_hasBy 166 = .ok (.aload_n 0, 1) := by decide +kernel
theorem dX11_hasBy_167 : decode cX11_hasBy 167 = .ok (.getfield 13, 3) := by decide +kernel
theorem dX11_hasBy_170 : decode cX11_hasBy 170 = .ok (.iload 8, 2) := by decide +kernel
theorem dX11_hasBy_172 : decode cX11_hasBy 172 = .ok (.iload_n 2, 1) := by decide +kernel
theorem dX11_hasBy_173 : decode cX11_hasBy 173 = .ok (.invokestatic 101, 3) := by decide +kernel
theorem dX11_hasBy_176 : decode cX11_hasBy 176 = .ok (.ifCond .eq 15, 3) := by decide +kernel
theorem dX11_hasBy_179 : decode cX11_hasBy 179 = .ok (.aload_n 0, 1) := by decide +kernel
theorem dX11_hasBy_180 : decode cX11_hasBy 180 = .ok (.getfield 13, 3) := by decide +kernel
theorem dX11_hasBy_183 : decode cX11_hasBy 183 = .ok (.iload 8, 2) := by decide +kernel
theorem dX11_hasBy_185 : decode cX11_hasBy 185 = .ok (.invokestatic 105, 3) := by decide +kernel
theorem dX11_hasBy_188 : decode cX11_hasBy 188 = .ok (.goto 4, 3) := by decide +kernel
theorem dX11_hasBy_191 : decode cX11_hasBy 191 = .ok (.iconst 0, 1) := by decide +kernel
theorem dX11_hasBy_192 : decode cX11_hasBy 192 = .ok (.isub, 1) := by decide +kernel
theorem dX11_hasBy_193 : decode cX11_hasBy 193 = .ok (.istore 7, 2) := by decide +kernel
theorem dX11_hasBy_195 : decode cX11_hasBy 195 = .ok (.iinc 8 1, 3) := by decide +kernel
theorem dX11_hasBy_198 : decode cX11_hasBy 198 = .ok (.goto (-58), 3) := by decide +kernel
theorem dX11_hasBy_201 : decode cX11_hasBy 201 = .ok (.iload 7, 2) := by decide +kernel
theorem dX11_hasBy_203 : decode cX11_hasBy 203 = .ok (.ireturn, 1) := by decide +kernel
theorem dX11_two_0 : decode cX11_two 0 = .ok (.aload_n 0, 1) := by decide +kernel
theorem dX11_two_1 : decode cX11_two 1 = .ok (.iload_n 1, 1) := by decide +kernel
theorem dX11_two_2 : decode cX11_two 2 = .ok (.iload_n 2, 1) := by decide +kernel
theorem dX11_two_3 : decode cX11_two 3 = .ok (.invokevirtual 151, 3) := by decide +kernel
theorem dX11_two_6 : decode cX11_two 6 = .ok (.ifCond .ne 5, 3) := by decide +kernel
theorem dX11_two_9 : decode cX11_two 9 = .ok (.iconst (-1), 1) := by decide +kernel
theorem dX11_two_10 : decode cX11_two 10 = .ok (.ireturn, 1) := by decide +kernel
theorem dX11_two_11 : decode cX11_two 11 = .ok (.aload_n 0, 1) := by decide +kernel
theorem dX11_two_12 : decode cX11_two 12 = .ok (.getfield 9, 3) := by decide +kernel
theorem dX11_two_15 : decode cX11_two 15 = .ok (.iconst 4, 1) := by decide +kernel
theorem dX11_two_16 : decode cX11_two 16 = .ok (.iload_n 1, 1) := by decide +kernel
theorem dX11_two_17 : decode cX11_two 17 = .ok (.iadd, 1) := by decide +kernel
theorem dX11_two_18 : decode cX11_two 18 = .ok (.iaload, 1) := by decide +kernel
theorem dX11_two_19 : decode cX11_two 19 = .ok (.aload_n 0, 1) := by decide +kernel
theorem dX11_two_20 : decode cX11_two 20 = .ok (.getfield 9, 3) := by decide +kernel
theorem dX11_two_23 : decode cX11_two 23 = .ok (.iconst 4, 1) := by decide +kernel
theorem dX11_two_24 : decode cX11_two 24 = .ok (.iload_n 2, 1) := by decide +kernel
theorem dX11_two_25 : decode cX11_two 25 = .ok (.iadd, 1) := by decide +kernel
theorem dX11_two_26 : decode cX11_two 26 = .ok (.iaload, 1) := by decide +kernel
theorem dX11_two_27 : decode cX11_two 27 = .ok (.if_icmp .ne 6, 3) := by decide +kernel
theorem dX11_two_30 : decode cX11_two 30 = .ok (.bipush (-3), 2) := by decide +kernel
theorem dX11_two_32 : decode cX11_two 32 = .ok (.ireturn, 1) := by decide +kernel
theorem dX11_two_33 : decode cX11_two 33 = .ok (.iconst 0, 1) := by decide +kernel
theorem dX11_two_34 : decode cX11_two 34 = .ok (.istore_n 3, 1) := by decide +kernel
theorem dX11_two_35 : decode cX11_two 35 = .ok (.iload_n 3, 1) := by decide +kernel
theorem dX11_two_36 : decode cX11_two 36 = .ok (.iconst 4, 1) := by decide +kernel
theorem dX11_two_37 : decode cX11_two 37 = .ok (.if_icmp .ge 78, 3) := by decide +kernel
theorem dX11_two_40 : decode cX11_two 40 = .ok (.iload_n 3, 1) := by decide +kernel
theorem dX11_two_41 : decode cX11_two 41 = .ok (.iconst 2, 1) := by decide +kernel
theorem dX11_two_42 : decode cX11_two 42 = .ok (.idiv, 1) := by decide +kernel
theorem dX11_two_43 : decode cX11_two 43 = .ok (.istore 4, 2) := by decide +kernel
theorem dX11_two_45 : decode cX11_two 45 = .ok (.iload_n 3, 1) := by decide +kernel
theorem dX11_two_46 : decode cX11_two 46 = .ok (.iconst 2, 1) := by decide +kernel
theorem dX11_two_47 : decode cX11_two 47 = .ok (.irem, 1) := by decide +kernel
theorem dX11_two_48 : decode cX11_two 48 = .ok (.istore 5, 2) := by decide +kernel
theorem dX11_two_50 : decode cX11_two 50 = .ok (.aload_n 0, 1) := by decide +kernel
theorem dX11_two_51 : decode cX11_two 51 = .ok (.iload_n 1, 1) := by decide +kernel
theorem dX11_two_52 : decode cX11_two 52 = .ok (.iload_n 2, 1) := by decide +kernel
theorem dX11_two_53 : decode cX11_two 53 = .ok (.iconst 1, 1) := by decide +kernel
theorem dX11_two_54 : decode cX11_two 54 = .ok (.iload 4, 2) := by decide +kernel
theorem dX11_two_56 : decode cX11_two 56 = .ok (.isub, 1) := by decide +kernel
theorem dX11_two_57 : decode cX11_two 57 = .ok (.iload 5, 2) := by decide +kernel
theorem dX11_two_59 : decode cX11_two 59 = .ok (.invokevirtual 231, 3) := by decide +kernel
theorem dX11_two_62 : decode cX11_two 62 = .ok (.aload_n 0, 1) := by decide +kernel
theorem dX11_two_63 : decode cX11_two 63 = .ok (.iload_n 1, 1) := by decide +kernel
theorem dX11_two_64 : decode cX11_two 64 = .ok (.iload_n 2, 1) := by decide +kernel
theorem dX11_two_65 : decode cX11_two 65 = .ok (.iload 4, 2) := by decide +kernel
theorem dX11_two_67 : decode cX11_two 67 = .ok (.iload 5, 2) := by decide +kernel
theorem dX11_two_69 : decode cX11_two 69 = .ok (.invokevirtual 231, 3) := by decide +kernel
theorem dX11_two_72 : decode cX11_two 72 = .ok (.if_icmp .gt 37, 3) := by decide +kernel
theorem dX11_two_75 : decode cX11_two 75 = .ok (.aload_n 0, 1) := by decide +kernel
theorem dX11_two_76 : decode cX11_two 76 = .ok (.iload_n 2, 1) := by decide +kernel
theorem dX11_two_77 : decode cX11_two 77 = .ok (.iload_n 1, 1) := by decide +kernel
theorem dX11_two_78 : decode cX11_two 78 = .ok (.iconst 1, 1) := by decide +kernel
theorem dX11_two_79 : decode cX11_two 79 = .ok (.iload 5, 2) := by decide +kernel
theorem dX11_two_81 : decode cX11_two 81 = .ok (.isub, 1) := by decide +kernel
theorem dX11_two_82 : decode cX11_two 82 = .ok (.iload 4, 2) := by decide +kernel
theorem dX11_two_84 : decode cX11_two 84 = .ok (.invokevirtual 231, 3) := by decide +kernel
theorem dX11_two_87 : decode cX11_two 87 = .ok (.aload_n 0, 1) := by decide +kernel
theorem dX11_two_88 : decode cX11_two 88 = .ok (.iload_n 2, 1) := by decide +kernel
theorem dX11_two_89 : decode cX11_two 89 = .ok (.iload_n 1, 1) := by decide +kernel
theorem dX11_two_90 : decode cX11_two 90 = .ok (.iload 5, 2) := by decide +kernel
theorem dX11_two_92 : decode cX11_two 92 = .ok (.iload 4, 2) := by decide +kernel
theorem dX11_two_94 : decode cX11_two 94 = .ok (.invokevirtual 231, 3) := by decide +kernel
theorem dX11_two_97 : decode cX11_two 97 = .ok (.if_icmp .gt 12, 3) := by decide +kernel
theorem dX11_two_100 : decode cX11_two 100 = .ok (.bipush 10, 2) := by decide +kernel
theorem dX11_two_102 : decode cX11_two 102 = .ok (.iload 4, 2) := by decide +kernel
theorem dX11_two_104 : decode cX11_two 104 = .ok (.imul, 1) := by decide +kernel
theorem dX11_two_105 : decode cX11_two 105 = .ok (.iload 5, 2) := by decide +kernel
theorem dX11_two_107 : decode cX11_two 107 = .ok (.iadd, 1) := by decide +kernel
theorem dX11_two_108 : decode cX11_two 108 = .ok (.ireturn, 1) := by decide +kernel
theorem dX11_two_109 : decode cX11_two 109 = .ok (.iinc 3 1, 3) := by decide +kernel
theorem dX11_two_112 : decode cX11_two 112 = .ok (.goto (-77), 3) := by decide +kernel
theorem dX11_two_115 : decode cX11_two 115 = .ok (.bipush (-4), 2) := by decide +kernel
theorem dX11_two_117 : decode cX11_two 117 = .ok (.ireturn, 1) := by decide +kernel
theorem dX11_gcd_0 : decode cX11_gcd 0 = .ok (.lload_n 0, 1) := by decide +kernel
theorem dX11_gcd_1 : decode cX11_gcd 1 = .ok (.lstore 4, 2) := by decide +kernel
theorem dX11_gcd_3 : decode cX11_gcd 3 = .ok (.lload_n 2, 1) := by decide +kernel
theorem dX11_gcd_4 : decode cX11_gcd 4 = .ok (.lstore 6, 2) := by decide +kernel
theorem dX11_gcd_6 : decode cX11_gcd 6 = .ok (.lload 6, 2) := by decide +kernel
theorem dX11_gcd_8 : decode cX11_gcd 8 = .ok (.lconst 0, 1) := by decide +kernel
theorem dX11_gcd_9 : decode cX11_gcd 9 = .ok (.lcmp, 1) := by decide +kernel
theorem dX11_gcd_10 : decode cX11_gcd 10 = .ok (.ifCond .eq 21, 3) := by decide +kernel
theorem dX11_gcd_13 : decode cX11_gcd 13 = .ok (.lload 4, 2) := by decide +kernel
theorem dX11_gcd_15 : decode cX11_gcd 15 = .ok (.lload 6, 2) := by decide +kernel
theorem dX11_gcd_17 : decode cX11_gcd 17 = .ok (.lrem, 1) := by decide +kernel
theorem dX11_gcd_18 : decode cX11_gcd 18 = .ok (.lstore 8, 2) := by decide +kernel
theorem dX11_gcd_20 : decode cX11_gcd 20 = .ok (.lload 6, 2) := by decide +kernel
theorem dX11_gcd_22 : decode cX11_gcd 22 = .ok (.lstore 4, 2) := by decide +kernel
theorem dX11_gcd_24 : decode cX11_gcd 24 = .ok (.lload 8, 2) := by decide +kernel
theorem dX11_gcd_26 : decode cX11_gcd 26 = .ok (.lstore 6, 2) := by decide +kernel
theorem dX11_gcd_28 : decode cX11_gcd 28 = .ok (.goto (-22), 3) := by decide +kernel
theorem dX11_gcd_31 : decode cX11_gcd 31 = .ok (.lload 4, 2) := by decide +kernel
theorem dX11_gcd_33 : decode cX11_gcd 33 = .ok (.lreturn, 1) := by decide +kernel
theorem dX11_partOf_0 : decode cX11_partOf 0 = .ok (.lload_n 0, 1) := by decide +kernel
theorem dX11_partOf_1 : decode cX11_partOf 1 = .ok (.lconst 0, 1) := by decide +kernel
theorem dX11_partOf_2 : decode cX11_partOf 2 = .ok (.lcmp, 1) := by decide +kernel
theorem dX11_partOf_3 : decode cX11_partOf 3 = .ok (.ifCond .ne 7, 3) := by decide +kernel
theorem dX11_partOf_6 : decode cX11_partOf 6 = .ok (.iload 4, 2) := by decide +kernel
theorem dX11_partOf_8 : decode cX11_partOf 8 = .ok (.i2l, 1) := by decide +kernel
theorem dX11_partOf_9 : decode cX11_partOf 9 = .ok (.lreturn, 1) := by decide +kernel
theorem dX11_partOf_10 : decode cX11_partOf 10 = .ok (.iload 4, 2) := by decide +kernel
theorem dX11_partOf_12 : decode cX11_partOf 12 = .ok (.ifCond .ne 7, 3) := by decide +kernel
theorem dX11_partOf_15 : decode cX11_partOf 15 = .ok (.lload_n 0, 1) := by decide +kernel
theorem dX11_partOf_16 : decode cX11_partOf 16 = .ok (.goto 4, 3) := by decide +kernel
theorem dX11_partOf_19 : decode cX11_partOf 19 = .ok (.lload_n 2, 1) := by decide +kernel
theorem dX11_partOf_20 : decode cX11_partOf 20 = .ok (.lload_n 0, 1) := by decide +kernel
theorem dX11_partOf_21 : decode cX11_partOf 21 = .ok (.lload_n 2, 1) := by decide +kernel
theorem dX11_partOf_22 : decode cX11_partOf 22 = .ok (.invokestatic 235, 3) := by decide +kernel
theorem dX11_partOf_25 : decode cX11_partOf 25 = .ok (.ldiv, 1) := by decide +kernel
theorem dX11_partOf_26 : decode cX11_partOf 26 = .ok (.lreturn, 1) := by decide +kernel
theorem dX11_night_0 : decode cX11_night 0 = .ok (.aload_n 0, 1) := by decide +kernel
theorem dX11_night_1 : decode cX11_night 1 = .ok (.iload_n 1, 1) := by decide +kernel
theorem dX11_night_2 : decode cX11_night 2 = .ok (.iload_n 2, 1) := by decide +kernel
theorem dX11_night_3 : decode cX11_night 3 = .ok (.invokevirtual 151, 3) := by decide +kernel
theorem dX11_night_6 : decode cX11_night 6 = .ok (.ifCond .eq 23, 3) := by decide +kernel
theorem dX11_night_9 : decode cX11_night 9 = .ok (.iload_n 3, 1) := by decide +kernel
theorem dX11_night_10 : decode cX11_night 10 = .ok (.iconst 2, 1) := by decide +kernel
theorem dX11_night_11 : decode cX11_night 11 = .ok (.bipush 20, 2) := by decide +kernel
theorem dX11_night_13 : decode cX11_night 13 = .ok (.invokestatic 52, 3) := by decide +kernel
theorem dX11_night_16 : decode cX11_night 16 = .ok (.ifCond .eq 13, 3) := by decide +kernel
theorem dX11_night_19 : decode cX11_night 19 = .ok (.iload 4, 2) := by decide +kernel
theorem dX11_night_21 : decode cX11_night 21 = .ok (.iconst 0, 1) := by decide +kernel
theorem dX11_night_22 : decode cX11_night 22 = .ok (.iconst 1, 1) := by decide +kernel
theorem dX11_night_23 : decode cX11_night 23 = .ok (.invokestatic 52, 3) := by decide +kernel
theorem dX11_night_26 : decode cX11_night 26 = .ok (.ifCond .ne 7, 3) := by decide +kernel
theorem dX11_night_29 : decode cX11_night 29 = .ok (.ldc2_w 239, 3) := by decide +kernel
theorem dX11_night_32 : decode cX11_night 32 = .ok (.lreturn, 1) := by decide +kernel
theorem dX11_night_33 : decode cX11_night 33 = .ok (.aload_n 0, 1) := by decide +kernel
theorem dX11_night_34 : decode cX11_night 34 = .ok (.getfield 9, 3) := by decide +kernel
theorem dX11_night_37 : decode cX11_night 37 = .ok (.invokestatic 212, 3) := by decide +kernel
theorem dX11_night_40 : decode cX11_night 40 = .ok (.istore 5, 2) := by decide +kernel
theorem dX11_night_42 : decode cX11_night 42 = .ok (.lconst 0, 1) := by decide +kernel
theorem dX11_night_43 : decode cX11_night 43 = .ok (.lstore 6, 2) := by decide +kernel
theorem dX11_night_45 : decode cX11_night 45 = .ok (.lconst 1, 1) := by decide +kernel
theorem dX11_night_46 : decode cX11_night 46 = .ok (.lstore 8, 2) := by decide +kernel
theorem dX11_night_48 : decode cX11_night 48 = .ok (.iconst 0, 1) := by decide +kernel
theorem dX11_night_49 : decode cX11_night 49 = .ok (.istore 10, 2) := by decide +kernel
theorem dX11_night_51 : decode cX11_night 51 = .ok (.iload 10, 2) := by decide +kernel
theorem dX11_night_53 : decode cX11_night 53 = .ok (.iload 5, 2) := by decide +kernel
theorem dX11_night_55 : decode cX11_night 55 = .ok (.invokestatic 180, 3) := by decide +kernel
theorem dX11_night_58 : decode cX11_night 58 = .ok (.if_icmp .ge 16, 3) := by decide +kernel
theorem dX11_night_61 : decode cX11_night 61 = .ok (.lload 8, 2) := by decide +kernel
theorem dX11_night_63 : decode cX11_night 63 = .ok (.iload_n 3, 1) := by decide +kernel
theorem dX11_night_64 : decode cX11_night 64 = .ok (.i2l, 1) := by decide +kernel
theorem dX11_night_65 : decode cX11_night 65 = .ok (.lmul, 1) := by decide +kernel
theorem dX11_night_66 : decode cX11_night 66 = .ok (.lstore 8, 2) := by decide +kernel
theorem dX11_night_68 : decode cX11_night 68 = .ok (.iinc 10 1, 3) := by decide +kernel
theorem dX11_night_71 : decode cX11_night 71 = .ok (.goto (-20), 3) := by decide +kernel
theorem dX11_night_74 : decode cX11_night 74 = .ok (.iconst 0, 1) := by decide +kernel
theorem dX11_night_75 : decode cX11_night 75 = .ok (.istore 10, 2) := by decide +kernel
theorem dX11_night_77 : decode cX11_night 77 = .ok (.iload 10, 2) := by decide +kernel
theorem dX11_night_79 : decode cX11_night 79 = .ok (.iload 5, 2) := by decide +kernel
theorem dX11_night_81 : decode cX11_night 81 = .ok (.if_icmp .gt 74, 3) := by decide +kernel
theorem dX11_night_84 : decode cX11_night 84 = .ok (.iload 10, 2) := by decide +kernel
theorem dX11_night_86 : decode cX11_night 86 = .ok (.iload 5, 2) := by decide +kernel
theorem dX11_night_88 : decode cX11_night 88 = .ok (.iconst (-1), 1) := by decide +kernel
theorem dX11_night_89 : decode cX11_night 89 = .ok (.ixor, 1) := by decide +kernel
theorem dX11_night_90 : decode cX11_night 90 = .ok (.iand, 1) := by decide +kernel
theorem dX11_night_91 : decode cX11_night 91 = .ok (.ifCond .ne 58, 3) := by decide +kernel
theorem dX11_night_94 : decode cX11_night 94 = .ok (.aload_n 0, 1) := by decide +kernel
theorem dX11_night_95 : decode cX11_night 95 = .ok (.iload_n 1, 1) := by decide +kernel
theorem dX11_night_96 : decode cX11_night 96 = .ok (.iload 10, 2) := by decide +kernel
theorem dX11_night_98 : decode cX11_night 98 = .ok (.invokevirtual 218, 3) := by decide +kernel
theorem dX11_night_101 : decode cX11_night 101 = .ok (.iload_n 2, 1) := by decide +kernel
theorem dX11_night_102 : decode cX11_night 102 = .ok (.invokestatic 93, 3) := by decide +kernel
theorem dX11_night_105 : decode cX11_night 105 = .ok (.ifCond .ne 6, 3) := by decide +kernel
theorem dX11_night_108 : decode cX11_night 108 = .ok (.goto 41, 3) := by decide +kernel
theorem dX11_night_111 : decode cX11_night 111 = .ok (.lconst 1, 1) := by decide +kernel
theorem dX11_night_112 : decode cX11_night 112 = .ok (.lstore 11, 2) := by decide +kernel
theorem dX11_night_114 : decode cX11_night 114 = .ok (.iconst 0, 1) := by decide +kernel
theorem dX11_night_115 : decode cX11_night 115 = .ok (.istore 13, 2) := by decide +kernel
theorem dX11_night_117 : decode cX11_night 117 = .ok (.iload 13, 2) := by decide +kernel
theorem dX11_night_119 : decode cX11_night 119 = .ok (.iload 10, 2) := by decide +kernel
theorem dX11_night_121 : decode cX11_night 121 = .ok (.invokestatic 180, 3) := by decide +kernel
theorem dX11_night_124 : decode cX11_night 124 = .ok (.if_icmp .ge 18, 3) := by decide +kernel
theorem dX11_night_127 : decode cX11_night 127 = .ok (.lload 11, 2) := by decide +kernel
theorem dX11_night_129 : decode cX11_night 129 = .ok (.iload_n 3, 1) := by decide +kernel
theorem dX11_night_130 : decode cX11_night 130 = .ok (.iconst 1, 1) := by decide +kernel
theorem dX11_night_131 : decode cX11_night 131 = .ok (.isub, 1) := by decide +kernel
theorem dX11_night_132 : decode cX11_night 132 = .ok (.i2l, 1) := by decide +kernel
theorem dX11_night_133 : decode cX11_night 133 = .ok (.lmul, 1) := by decide +kernel
theorem dX11_night_134 : decode cX11_night 134 = .ok (.lstore 11, 2) := by decide +kernel
theorem dX11_night_136 : decode cX11_night 136 = .ok (.iinc 13 1, 3) := by decide +kernel
theorem dX11_night_139 : decode cX11_night 139 = .ok (.goto (-22), 3) := by decide +kernel
theorem dX11_night_142 : decode cX11_night 142 = .ok (.lload 6, 2) := by decide +kernel
theorem dX11_night_144 : decode cX11_night 144 = .ok (.lload 11, 2) := by decide +kernel
theorem dX11_night_146 : decode cX11_night 146 = .ok (.ladd, 1) := by decide +kernel
theorem dX11_night_147 : decode cX11_night 147 = .ok (.lstore 6, 2) := by decide +kernel
theorem dX11_night_149 : decode cX11_night 149 = .ok (.iinc 10 1, 3) := by decide +kernel
theorem dX11_night_152 : decode cX11_night 152 = .ok (.goto (-75), 3) := by decide +kernel
theorem dX11_night_155 : decode cX11_night 155 = .ok (.lload 6, 2) := by decide +kernel
theorem dX11_night_157 : decode cX11_night 157 = .ok (.lload 8, 2) := by decide +kernel
theorem dX11_night_159 : decode cX11_night 159 = .ok (.iload 4, 2) := by decide +kernel
theorem dX11_night_161 : decode cX11_night 161 = .ok (.invokestatic 241, 3) := by decide +kernel
theorem dX11_night_164 : decode cX11_night 164 = .ok (.lreturn, 1) := by decide +kernel
theorem dX11_mean_0 : decode cX11_mean 0 = .ok (.iload_n 1, 1) := by decide +kernel
theorem dX11_mean_1 : decode cX11_mean 1 = .ok (.iconst 0, 1) := by decide +kernel
theorem dX11_mean_2 : decode cX11_mean 2 = .ok (.iconst 1, 1) := by decide +kernel
theorem dX11_mean_3 : decode cX11_mean 3 = .ok (.invokestatic 52, 3) := by decide +kernel
theorem dX11_mean_6 : decode cX11_mean 6 = .ok (.ifCond .ne 7, 3) := by decide +kernel
theorem dX11_mean_9 : decode cX11_mean 9 = .ok (.ldc2_w 239, 3) := by decide +kernel
theorem dX11_mean_12 : decode cX11_mean 12 = .ok (.lreturn, 1) := by decide +kernel
theorem dX11_mean_13 : decode cX11_mean 13 = .ok (.lconst 0, 1) := by decide +kernel
theorem dX11_mean_14 : decode cX11_mean 14 = .ok (.lstore_n 2, 1) := by decide +kernel
theorem dX11_mean_15 : decode cX11_mean 15 = .ok (.iconst 0, 1) := by decide +kernel
theorem dX11_mean_16 : decode cX11_mean 16 = .ok (.istore 4, 2) := by decide +kernel
theorem dX11_mean_18 : decode cX11_mean 18 = .ok (.iload 4, 2) := by decide +kernel
theorem dX11_mean_20 : decode cX11_mean 20 = .ok (.aload_n 0, 1) := by decide +kernel
theorem dX11_mean_21 : decode cX11_mean 21 = .ok (.getfield 9, 3) := by decide +kernel
theorem dX11_mean_24 : decode cX11_mean 24 = .ok (.iconst 1, 1) := by decide +kernel
theorem dX11_mean_25 : decode cX11_mean 25 = .ok (.iaload, 1) := by decide +kernel
theorem dX11_mean_26 : decode cX11_mean 26 = .ok (.if_icmp .ge 38, 3) := by decide +kernel
theorem dX11_mean_29 : decode cX11_mean 29 = .ok (.lload_n 2, 1) := by decide +kernel
theorem dX11_mean_30 : decode cX11_mean 30 = .ok (.aload_n 0, 1) := by decide +kernel
theorem dX11_mean_31 : decode cX11_mean 31 = .ok (.getfield 9, 3) := by decide +kernel
theorem dX11_mean_34 : decode cX11_mean 34 = .ok (.iload 4, 2) := by decide +kernel
theorem dX11_mean_36 : decode cX11_mean 36 = .ok (.invokestatic 69, 3) := by decide +kernel
theorem dX11_mean_39 : decode cX11_mean 39 = .ok (.ifCond .eq 16, 3) := by decide +kernel
theorem dX11_mean_42 : decode cX11_mean 42 = .ok (.aload_n 0, 1) := by decide +kernel
theorem dX11_mean_43 : decode cX11_mean 43 = .ok (.getfield 9, 3) := by decide +kernel
theorem dX11_mean_46 : decode cX11_mean 46 = .ok (.iload 4, 2) := by decide +kernel
theorem dX11_mean_48 : decode cX11_mean 48 = .ok (.invokestatic 73, 3) := by decide +kernel
theorem dX11_mean_51 : decode cX11_mean 51 = .ok (.i2l, 1) := by decide +kernel
theorem dX11_mean_52 : decode cX11_mean 52 = .ok (.goto 4, 3) := by decide +kernel
theorem dX11_mean_55 : decode cX11_mean 55 = .ok (.lconst 0, 1) := by decide +kernel
theorem dX11_mean_56 : decode cX11_mean 56 = .ok (.ladd, 1) := by decide +kernel
theorem dX11_mean_57 : decode cX11_mean 57 = .ok (.lstore_n 2, 1) := by decide +kernel
theorem dX11_mean_58 : decode cX11_mean 58 = .ok (.iinc 4 1, 3) := by decide +kernel
theorem dX11_mean_61 : decode cX11_mean 61 = .ok (.goto (-43), 3) := by decide +kernel
theorem dX11_mean_64 : decode cX11_mean 64 = .ok (.lload_n 2, 1) := by decide +kernel
theorem dX11_mean_65 : decode cX11_mean 65 = .ok (.aload_n 0, 1) := by decide +kernel
theorem dX11_mean_66 : decode cX11_mean 66 = .ok (.getfield 9, 3) := by decide +kernel
theorem dX11_mean_69 : decode cX11_mean 69 = .ok (.invokestatic 212, 3) := by decide +kernel
theorem dX11_mean_72 : decode cX11_mean 72 = .ok (.invokestatic 180, 3) := by decide +kernel
theorem dX11_mean_75 : decode cX11_mean 75 = .ok (.i2l, 1) := by decide +kernel
theorem dX11_mean_76 : decode cX11_mean 76 = .ok (.iload_n 1, 1) := by decide +kernel
theorem dX11_mean_77 : decode cX11_mean 77 = .ok (.invokestatic 241, 3) := by decide +kernel
theorem dX11_mean_80 : decode cX11_mean 80 = .ok (.lreturn, 1) := by decide +kernel
theorem dX11_farthest_0 : decode cX11_farthest 0 = .ok (.iload_n 1, 1) := by decide +kernel
theorem dX11_farthest_1 : decode cX11_farthest 1 = .ok (.iconst 0, 1) := by decide +kernel
theorem dX11_farthest_2 : decode cX11_farthest 2 = .ok (.iconst 1, 1) := by decide +kernel
theorem dX11_farthest_3 : decode cX11_farthest 3 = .ok (.invokestatic 52, 3) := by decide +kernel
theorem dX11_farthest_6 : decode cX11_farthest 6 = .ok (.ifCond .ne 5, 3) := by decide +kernel
theorem dX11_farthest_9 : decode cX11_farthest 9 = .ok (.iconst (-1), 1) := by decide +kernel
theorem dX11_farthest_10 : decode cX11_farthest 10 = .ok (.ireturn, 1) := by decide +kernel
theorem dX11_farthest_11 : decode cX11_farthest 11 = .ok (.bipush (-4), 2) := by decide +kernel
theorem dX11_farthest_13 : decode cX11_farthest 13 = .ok (.istore_n 2, 1) := by decide +kernel
theorem dX11_farthest_14 : decode cX11_farthest 14 = .ok (.iconst (-1), 1) := by decide +kernel
theorem dX11_farthest_15 : decode cX11_farthest 15 = .ok (.istore_n 3, 1) := by decide +kernel
theorem dX11_farthest_16 : decode cX11_farthest 16 = .ok (.iconst 0, 1) := by decide +kernel
theorem dX11_farthest_17 : decode cX11_farthest 17 = .ok (.istore 4, 2) := by decide +kernel
theorem dX11_farthest_19 : decode cX11_farthest 19 = .ok (.iload 4, 2) := by decide +kernel
theorem dX11_farthest_21 : decode cX11_farthest 21 = .ok (.aload_n 0, 1) := by decide +kernel
theorem dX11_farthest_22 : decode cX11_farthest 22 = .ok (.getfield 9, 3) := by decide +kernel
theorem dX11_farthest_25 : decode cX11_farthest 25 = .ok (.iconst 0, 1) := by decide +kernel
theorem dX11_farthest_26 : decode cX11_farthest 26 = .ok (.iaload, 1) := by decide +kernel
theorem dX11_farthest_27 : decode cX11_farthest 27 = .ok (.if_icmp .ge 76, 3) := by decide +kernel
theorem dX11_farthest_30 : decode cX11_farthest 30 = .ok (.iload 4, 2) := by decide +kernel
theorem dX11_farthest_32 : decode cX11_farthest 32 = .ok (.iconst 1, 1) := by decide +kernel
theorem dX11_farthest_33 : decode cX11_farthest 33 = .ok (.iadd, 1) := by decide +kernel
theorem dX11_farthest_34 : decode cX11_farthest 34 = .ok (.istore 5, 2) := by decide +kernel
theorem dX11_farthest_36 : decode cX11_farthest 36 = .ok (.iload 5, 2) := by decide +kernel
theorem dX11_farthest_38 : decode cX11_farthest 38 = .ok (.aload_n 0, 1) := by decide +kernel
theorem dX11_farthest_39 : decode cX11_farthest 39 = .ok (.getfield 9, 3) := by decide +kernel
theorem dX11_farthest_42 : decode cX11_farthest 42 = .ok (.iconst 0, 1) := by decide +kernel
theorem dX11_farthest_43 : decode cX11_farthest 43 = .ok (.iaload, 1) := by decide +kernel
theorem dX11_farthest_44 : decode cX11_farthest 44 = .ok (.if_icmp .ge 53, 3) := by decide +kernel
theorem dX11_farthest_47 : decode cX11_farthest 47 = .ok (.aload_n 0, 1) := by decide +kernel
theorem dX11_farthest_48 : decode cX11_farthest 48 = .ok (.getfield 9, 3) := by decide +kernel
theorem dX11_farthest_51 : decode cX11_farthest 51 = .ok (.iconst 4, 1) := by decide +kernel
theorem dX11_farthest_52 : decode cX11_farthest 52 = .ok (.iload 4, 2) := by decide +kernel
theorem dX11_farthest_54 : decode cX11_farthest 54 = .ok (.iadd, 1) := by decide +kernel
theorem dX11_farthest_55 : decode cX11_farthest 55 = .ok (.iaload, 1) := by decide +kernel
theorem dX11_farthest_56 : decode cX11_farthest 56 = .ok (.aload_n 0, 1) := by decide +kernel
theorem dX11_farthest_57 : decode cX11_farthest 57 = .ok (.getfield 9, 3) := by decide +kernel
theorem dX11_farthest_60 : decode cX11_farthest 60 = .ok (.iconst 4, 1) := by decide +kernel
theorem dX11_farthest_61 : decode cX11_farthest 61 = .ok (.iload 5, 2) := by decide +kernel
theorem dX11_farthest_63 : decode cX11_farthest 63 = .ok (.iadd, 1) := by decide +kernel
theorem dX11_farthest_64 : decode cX11_farthest 64 = .ok (.iaload, 1) := by decide +kernel
theorem dX11_farthest_65 : decode cX11_farthest 65 = .ok (.invokestatic 60, 3) := by decide +kernel
theorem dX11_farthest_68 : decode cX11_farthest 68 = .ok (.istore 6, 2) := by decide +kernel
theorem dX11_farthest_70 : decode cX11_farthest 70 = .ok (.iload 6, 2) := by decide +kernel
theorem dX11_farthest_72 : decode cX11_farthest 72 = .ok (.iload_n 3, 1) := by decide +kernel
theorem dX11_farthest_73 : decode cX11_farthest 73 = .ok (.if_icmp .gt 6, 3) := by decide +kernel
theorem dX11_farthest_76 : decode cX11_farthest 76 = .ok (.goto 15, 3) := by decide +kernel
theorem dX11_farthest_79 : decode cX11_farthest 79 = .ok (.bipush 10, 2) := by decide +kernel
theorem dX11_farthest_81 : decode cX11_farthest 81 = .ok (.iload 4, 2) := by decide +kernel
theorem dX11_farthest_83 : decode cX11_farthest 83 = .ok (.imul, 1) := by decide +kernel
theorem dX11_farthest_84 : decode cX11_farthest 84 = .ok (.iload 5, 2) := by decide +kernel
theorem dX11_farthest_86 : decode cX11_farthest 86 = .ok (.iadd, 1) := by decide +kernel
theorem dX11_farthest_87 : decode cX11_farthest 87 = .ok (.istore_n 2, 1) := by decide +kernel
theorem dX11_farthest_88 : decode cX11_farthest 88 = .ok (.iload 6, 2) := by decide +kernel
theorem dX11_farthest_90 : decode cX11_farthest 90 = .ok (.istore_n 3, 1) := by decide +kernel
theorem dX11_farthest_91 : decode cX11_farthest 91 = .ok (.iinc 5 1, 3) := by decide +kernel
theorem dX11_farthest_94 : decode cX11_farthest 94 = .ok (.goto (-58), 3) := by decide +kernel
theorem dX11_farthest_97 : decode cX11_farthest 97 = .ok (.iinc 4 1, 3) := by decide +kernel
theorem dX11_farthest_100 : decode cX11_farthest 100 = .ok (.goto (-81), 3) := by decide +kernel
theorem dX11_farthest_103 : decode cX11_farthest 103 = .ok (.iload_n 2, 1) := by decide +kernel
theorem dX11_farthest_104 : decode cX11_farthest 104 = .ok (.ifCond .lt 7, 3) := by decide +kernel
theorem dX11_farthest_107 : decode cX11_farthest 107 = .ok (.iload_n 1, 1) := by decide +kernel
theorem dX11_farthest_108 : decode cX11_farthest 108 = .ok (.ifCond .ne 7, 3) := by decide +kernel
theorem dX11_farthest_111 : decode cX11_farthest 111 = .ok (.iload_n 2, 1) := by decide +kernel
theorem dX11_farthest_112 : decode cX11_farthest 112 = .ok (.goto 4, 3) := by decide +kernel
theorem dX11_farthest_115 : decode cX11_farthest 115 = .ok (.iload_n 3, 1) := by decide +kernel
theorem dX11_farthest_116 : decode cX11_farthest 116 = .ok (.ireturn, 1) := by decide +kernel
theorem dX11_forged_0 : decode cX11_forged 0 = .ok (.aload_n 0, 1) := by decide +kernel
theorem dX11_forged_1 : decode cX11_forged 1 = .ok (.iload_n 1, 1) := by decide +kernel
theorem dX11_forged_2 : decode cX11_forged 2 = .ok (.iconst (-1), 1) := by decide +kernel
theorem dX11_forged_3 : decode cX11_forged 3 = .ok (.invokevirtual 167, 3) := by decide +kernel
theorem dX11_forged_6 : decode cX11_forged 6 = .ok (.istore_n 2, 1) := by decide +kernel
theorem dX11_forged_7 : decode cX11_forged 7 = .ok (.iload_n 2, 1) := by decide +kernel
theorem dX11_forged_8 : decode cX11_forged 8 = .ok (.ifCond .ne 18, 3) := by decide +kernel
theorem dX11_forged_11 : decode cX11_forged 11 = .ok (.aload_n 0, 1) := by decide +kernel
theorem dX11_forged_12 : decode cX11_forged 12 = .ok (.getfield 46, 3) := by decide +kernel
theorem dX11_forged_15 : decode cX11_forged 15 = .ok (.iload_n 1, 1) := by decide +kernel
theorem dX11_forged_16 : decode cX11_forged 16 = .ok (.iaload, 1) := by decide +kernel
theorem dX11_forged_17 : decode cX11_forged 17 = .ok (.iconst 2, 1) := by decide +kernel
theorem dX11_forged_18 : decode cX11_forged 18 = .ok (.irem, 1) := by decide +kernel
theorem dX11_forged_19 : decode cX11_forged 19 = .ok (.iconst 1, 1) := by decide +kernel
theorem dX11_forged_20 : decode cX11_forged 20 = .ok (.if_icmp .ne 6, 3) := by decide +kernel
theorem dX11_forged_23 : decode cX11_forged 23 = .ok (.bipush (-13), 2) := by decide +kernel
theorem dX11_forged_25 : decode cX11_forged 25 = .ok (.istore_n 2, 1) := by decide +kernel
theorem dX11_forged_26 : decode cX11_forged 26 = .ok (.iconst 0, 1) := by decide +kernel
theorem dX11_forged_27 : decode cX11_forged 27 = .ok (.istore_n 3, 1) := by decide +kernel
theorem dX11_forged_28 : decode cX11_forged 28 = .ok (.iload_n 2, 1) := by decide +kernel
theorem dX11_forged_29 : decode cX11_forged 29 = .ok (.ifCond .ne 59, 3) := by decide +kernel
theorem dX11_forged_32 : decode cX11_forged 32 = .ok (.iload_n 3, 1) := by decide +kernel
theorem dX11_forged_33 : decode cX11_forged 33 = .ok (.aload_n 0, 1) := by decide +kernel
theorem dX11_forged_34 : decode cX11_forged 34 = .ok (.getfield 46, 3) := by decide +kernel
theorem dX11_forged_37 : decode cX11_forged 37 = .ok (.iload_n 1, 1) := by decide +kernel
theorem dX11_forged_38 : decode cX11_forged 38 = .ok (.iaload, 1) := by decide +kernel
theorem dX11_forged_39 : decode cX11_forged 39 = .ok (.if_icmp .ge 49, 3) := by decide +kernel
theorem dX11_forged_42 : decode cX11_forged 42 = .ok (.aload_n 0, 1) := by decide +kernel
theorem dX11_forged_43 : decode cX11_forged 43 = .ok (.aload_n 0, 1) := by decide +kernel
theorem dX11_forged_44 : decode cX11_forged 44 = .ok (.getfield 49, 3) := by decide +kernel
theorem dX11_forged_47 : decode cX11_forged 47 = .ok (.bipush 100, 2) := by decide +kernel
theorem dX11_forged_49 : decode cX11_forged 49 = .ok (.iload_n 1, 1) := by decide +kernel
theorem dX11_forged_50 : decode cX11_forged 50 = .ok (.imul, 1) := by decide +kernel
theorem dX11_forged_51 : decode cX11_forged 51 = .ok (.iload_n 3, 1) := by decide +kernel
theorem dX11_forged_52 : decode cX11_forged 52 = .ok (.iadd, 1) := by decide +kernel
theorem dX11_forged_53 : decode cX11_forged 53 = .ok (.iaload, 1) := by decide +kernel
theorem dX11_forged_54 : decode cX11_forged 54 = .ok (.invokevirtual 140, 3) := by decide +kernel
theorem dX11_forged_57 : decode cX11_forged 57 = .ok (.ifCond .eq 22, 3) := by decide +kernel
theorem dX11_forged_60 : decode cX11_forged 60 = .ok (.aload_n 0, 1) := by decide +kernel
theorem dX11_forged_61 : decode cX11_forged 61 = .ok (.getfield 49, 3) := by decide +kernel
theorem dX11_forged_64 : decode cX11_forged 64 = .ok (.bipush 100, 2) := by decide +kernel
theorem dX11_forged_66 : decode cX11_forged 66 = .ok (.iload_n 1, 1) := by decide +kernel
theorem dX11_forged_67 : decode cX11_forged 67 = .ok (.imul, 1) := by decide +kernel
theorem dX11_forged_68 : decode cX11_forged 68 = .ok (.iload_n 3, 1) := by decide +kernel
theorem dX11_forged_69 : decode cX11_forged 69 = .ok (.iadd, 1) := by decide +kernel
theorem dX11_forged_70 : decode cX11_forged 70 = .ok (.iconst 1, 1) := by decide +kernel
theorem dX11_forged_71 : decode cX11_forged 71 = .ok (.iadd, 1) := by decide +kernel
theorem dX11_forged_72 : decode cX11_forged 72 = .ok (.iaload, 1) := by decide +kernel
theorem dX11_forged_73 : decode cX11_forged 73 = .ok (.invokestatic 144, 3) := by decide +kernel
theorem dX11_forged_76 : decode cX11_forged 76 = .ok (.ifCond .ne 6, 3) := by decide +kernel
theorem dX11_forged_79 : decode cX11_forged 79 = .ok (.bipush (-13), 2) := by decide +kernel
theorem dX11_forged_81 : decode cX11_forged 81 = .ok (.istore_n 2, 1) := by decide +kernel
theorem dX11_forged_82 : decode cX11_forged 82 = .ok (.iinc 3 2, 3) := by decide +kernel
theorem dX11_forged_85 : decode cX11_forged 85 = .ok (.goto (-57), 3) := by decide +kernel
theorem dX11_forged_88 : decode cX11_forged 88 = .ok (.iload_n 2, 1) := by decide +kernel
theorem dX11_forged_89 : decode cX11_forged 89 = .ok (.ifCond .eq 5, 3) := by decide +kernel
theorem dX11_forged_92 : decode cX11_forged 92 = .ok (.iload_n 2, 1) := by decide +kernel
theorem dX11_forged_93 : decode cX11_forged 93 = .ok (.ireturn, 1) := by decide +kernel
theorem dX11_forged_94 : decode cX11_forged 94 = .ok (.aload_n 0, 1) := by decide +kernel
theorem dX11_forged_95 : decode cX11_forged 95 = .ok (.getfield 9, 3) := by decide +kernel
theorem dX11_forged_98 : decode cX11_forged 98 = .ok (.aload_n 0, 1) := by decide +kernel
theorem dX11_forged_99 : decode cX11_forged 99 = .ok (.getfield 13, 3) := by decide +kernel
theorem dX11_forged_102 : decode cX11_forged 102 = .ok (.invokestatic 112, 3) := by decide +kernel
theorem dX11_forged_105 : decode cX11_forged 105 = .ok (.iconst 0, 1) := by decide +kernel
theorem dX11_forged_106 : decode cX11_forged 106 = .ok (.istore_n 3, 1) := by decide +kernel
theorem dX11_forged_107 : decode cX11_forged 107 = .ok (.iload_n 3, 1) := by decide +kernel
theorem dX11_forged_108 : decode cX11_forged 108 = .ok (.aload_n 0, 1) := by decide +kernel
theorem dX11_forged_109 : decode cX11_forged 109 = .ok (.getfield 46, 3) := by decide +kernel
theorem dX11_forged_112 : decode cX11_forged 112 = .ok (.iload_n 1, 1) := by decide +kernel
theorem dX11_forged_113 : decode cX11_forged 113 = .ok (.iaload, 1) := by decide +kernel
theorem dX11_forged_114 : decode cX11_forged 114 = .ok (.if_icmp .ge 47, 3) := by decide +kernel
theorem dX11_forged_117 : decode cX11_forged 117 = .ok (.aload_n 0, 1) := by decide +kernel
theorem dX11_forged_118 : decode cX11_forged 118 = .ok (.getfield 13, 3) := by decide +kernel
theorem dX11_forged_121 : decode cX11_forged 121 = .ok (.aload_n 0, 1) := by decide +kernel
theorem dX11_forged_122 : decode cX11_forged 122 = .ok (.getfield 49, 3) := by decide +kernel
theorem dX11_forged_125 : decode cX11_forged 125 = .ok (.bipush 100, 2) := by decide +kernel
theorem dX11_forged_127 : decode cX11_forged 127 = .ok (.iload_n 1, 1) := by decide +kernel
theorem dX11_forged_128 : decode cX11_forged 128 = .ok (.imul, 1) := by decide +kernel
theorem dX11_forged_129 : decode cX11_forged 129 = .ok (.iload_n 3, 1) := by decide +kernel
theorem dX11_forged_130 : decode cX11_forged 130 = .ok (.iadd, 1) := by decide +kernel
theorem dX11_forged_131 : decode cX11_forged 131 = .ok (.iaload, 1) := by decide +kernel
theorem dX11_forged_132 : decode cX11_forged 132 = .ok (.aload_n 0, 1) := by decide +kernel
theorem dX11_forged_133 : decode cX11_forged 133 = .ok (.getfield 49, 3) := by decide +kernel
theorem dX11_forged_136 : decode cX11_forged 136 = .ok (.bipush 100, 2) := by decide +kernel
theorem dX11_forged_138 : decode cX11_forged 138 = .ok (.iload_n 1, 1) := by decide +kernel
theorem dX11_forged_139 : decode cX11_forged 139 = .ok (.imul, 1) := by decide +kernel
theorem dX11_forged_140 : decode cX11_forged 140 = .ok (.iload_n 3, 1) := by decide +kernel
theorem dX11_forged_141 : decode cX11_forged 141 = .ok (.iadd, 1) := by decide +kernel
theorem dX11_forged_142 : decode cX11_forged 142 = .ok (.iconst 1, 1) := by decide +kernel
theorem dX11_forged_143 : decode cX11_forged 143 = .ok (.iadd, 1) := by decide +kernel
theorem dX11_forged_144 : decode cX11_forged 144 = .ok (.iaload, 1) := by decide +kernel
theorem dX11_forged_145 : decode cX11_forged 145 = .ok (.invokestatic 158, 3) := by decide +kernel
theorem dX11_forged_148 : decode cX11_forged 148 = .ok (.ifCond .eq 7, 3) := by decide +kernel
theorem dX11_forged_151 : decode cX11_forged 151 = .ok (.iload_n 3, 1) := by decide +kernel
theorem dX11_forged_152 : decode cX11_forged 152 = .ok (.iconst 2, 1) := by decide +kernel
theorem dX11_forged_153 : decode cX11_forged 153 = .ok (.idiv, 1) := by decide +kernel
theorem dX11_forged_154 : decode cX11_forged 154 = .ok (.ireturn, 1) := by decide +kernel
theorem dX11_forged_155 : decode cX11_forged 155 = .ok (.iinc 3 2, 3) := by decide +kernel
theorem dX11_forged_158 : decode cX11_forged 158 = .ok (.goto (-51), 3) := by decide +kernel
theorem dX11_forged_161 : decode cX11_forged 161 = .ok (.bipush (-4), 2) := by decide +kernel
theorem dX11_forged_163 : decode cX11_forged 163 = .ok (.ireturn, 1) := by decide +kernel
theorem dX11_judge_0 : decode cX11_judge 0 = .ok (.aload_n 0, 1) := by decide +kernel
theorem dX11_judge_1 : decode cX11_judge 1 = .ok (.iload_n 1, 1) := by decide +kernel
theorem dX11_judge_2 : decode cX11_judge 2 = .ok (.iconst (-1), 1) := by decide +kernel
theorem dX11_judge_3 : decode cX11_judge 3 = .ok (.invokevirtual 167, 3) := by decide +kernel
theorem dX11_judge_6 : decode cX11_judge 6 = .ok (.istore_n 2, 1) := by decide +kernel
theorem dX11_judge_7 : decode cX11_judge 7 = .ok (.iload_n 2, 1) := by decide +kernel
theorem dX11_judge_8 : decode cX11_judge 8 = .ok (.ifCond .eq 5, 3) := by decide +kernel
theorem dX11_judge_11 : decode cX11_judge 11 = .ok (.iload_n 2, 1) := by decide +kernel
theorem dX11_judge_12 : decode cX11_judge 12 = .ok (.ireturn, 1) := by decide +kernel
theorem dX11_judge_13 : decode cX11_judge 13 = .ok (.aload_n 0, 1) := by decide +kernel
theorem dX11_judge_14 : decode cX11_judge 14 = .ok (.getfield 9, 3) := by decide +kernel
theorem dX11_judge_17 : decode cX11_judge 17 = .ok (.aload_n 0, 1) := by decide +kernel
theorem dX11_judge_18 : decode cX11_judge 18 = .ok (.getfield 13, 3) := by decide +kernel
theorem dX11_judge_21 : decode cX11_judge 21 = .ok (.invokestatic 112, 3) := by decide +kernel
theorem dX11_judge_24 : decode cX11_judge 24 = .ok (.iconst 0, 1) := by decide +kernel
theorem dX11_judge_25 : decode cX11_judge 25 = .ok (.istore_n 3, 1) := by decide +kernel
theorem dX11_judge_26 : decode cX11_judge 26 = .ok (.iload_n 3, 1) := by decide +kernel
theorem dX11_judge_27 : decode cX11_judge 27 = .ok (.aload_n 0, 1) := by decide +kernel
theorem dX11_judge_28 : decode cX11_judge 28 = .ok (.getfield 46, 3) := by decide +kernel
theorem dX11_judge_31 : decode cX11_judge 31 = .ok (.iload_n 1, 1) := by decide +kernel
theorem dX11_judge_32 : decode cX11_judge 32 = .ok (.iaload, 1) := by decide +kernel
theorem dX11_judge_33 : decode cX11_judge 33 = .ok (.if_icmp .ge 63, 3) := by decide +kernel
theorem dX11_judge_36 : decode cX11_judge 36 = .ok (.aload_n 0, 1) := by decide +kernel
theorem dX11_judge_37 : decode cX11_judge 37 = .ok (.getfield 49, 3) := by decide +kernel
theorem dX11_judge_40 : decode cX11_judge 40 = .ok (.bipush 100, 2) := by decide +kernel
theorem dX11_judge_42 : decode cX11_judge 42 = .ok (.iload_n 1, 1) := by decide +kernel
theorem dX11_judge_43 : decode cX11_judge 43 = .ok (.imul, 1) := by decide +kernel
theorem dX11_judge_44 : decode cX11_judge 44 = .ok (.iload_n 3, 1) := by decide +kernel
theorem dX11_judge_45 : decode cX11_judge 45 = .ok (.iadd, 1) := by decide +kernel
theorem dX11_judge_46 : decode cX11_judge 46 = .ok (.iaload, 1) := by decide +kernel
theorem dX11_judge_47 : decode cX11_judge 47 = .ok (.istore 4, 2) := by decide +kernel
theorem dX11_judge_49 : decode cX11_judge 49 = .ok (.iload 4, 2) := by decide +kernel
theorem dX11_judge_51 : decode cX11_judge 51 = .ok (.aload_n 0, 1) := by decide +kernel
theorem dX11_judge_52 : decode cX11_judge 52 = .ok (.getfield 43, 3) := by decide +kernel
theorem dX11_judge_55 : decode cX11_judge 55 = .ok (.iload_n 1, 1) := by decide +kernel
theorem dX11_judge_56 : decode cX11_judge 56 = .ok (.iaload, 1) := by decide +kernel
theorem dX11_judge_57 : decode cX11_judge 57 = .ok (.invokestatic 225, 3) := by decide +kernel
theorem dX11_judge_60 : decode cX11_judge 60 = .ok (.if_icmp .eq 20, 3) := by decide +kernel
theorem dX11_judge_63 : decode cX11_judge 63 = .ok (.iload 4, 2) := by decide +kernel
theorem dX11_judge_65 : decode cX11_judge 65 = .ok (.aload_n 0, 1) := by decide +kernel
theorem dX11_judge_66 : decode cX11_judge 66 = .ok (.getfield 13, 3) := by decide +kernel
theorem dX11_judge_69 : decode cX11_judge 69 = .ok (.invokestatic 120, 3) := by decide +kernel
theorem dX11_judge_72 : decode cX11_judge 72 = .ok (.invokestatic 180, 3) := by decide +kernel
theorem dX11_judge_75 : decode cX11_judge 75 = .ok (.if_icmp .eq 5, 3) := by decide +kernel
theorem dX11_judge_78 : decode cX11_judge 78 = .ok (.iload_n 3, 1) := by decide +kernel
theorem dX11_judge_79 : decode cX11_judge 79 = .ok (.ireturn, 1) := by decide +kernel
theorem dX11_judge_80 : decode cX11_judge 80 = .ok (.aload_n 0, 1) := by decide +kernel
theorem dX11_judge_81 : decode cX11_judge 81 = .ok (.aload_n 0, 1) := by decide +kernel
theorem dX11_judge_82 : decode cX11_judge 82 = .ok (.getfield 13, 3) := by decide +kernel
theorem dX11_judge_85 : decode cX11_judge 85 = .ok (.invokevirtual 161, 3) := by decide +kernel
theorem dX11_judge_88 : decode cX11_judge 88 = .ok (.istore 5, 2) := by decide +kernel
theorem dX11_judge_90 : decode cX11_judge 90 = .ok (.iinc 3 1, 3) := by decide +kernel
theorem dX11_judge_93 : decode cX11_judge 93 = .ok (.goto (-67), 3) := by decide +kernel
theorem dX11_judge_96 : decode cX11_judge 96 = .ok (.bipush (-4), 2) := by decide +kernel
theorem dX11_judge_98 : decode cX11_judge 98 = .ok (.ireturn, 1) := by decide +kernel
theorem dX11_drawn_0 : decode cX11_drawn 0 = .ok (.aload_n 0, 1) := by decide +kernel
theorem dX11_drawn_1 : decode cX11_drawn 1 = .ok (.aload_n 0, 1) := by decide +kernel
theorem dX11_drawn_2 : decode cX11_drawn 2 = .ok (.getfield 245, 3) := by decide +kernel
theorem dX11_drawn_5 : decode cX11_drawn 5 = .ok (.ldc 248, 2) := by decide +kernel
theorem dX11_drawn_7 : decode cX11_drawn 7 = .ok (.imul, 1) := by decide +kernel
theorem dX11_drawn_8 : decode cX11_drawn 8 = .ok (.sipush 12345, 3) := by decide +kernel
theorem dX11_drawn_11 : decode cX11_drawn 11 = .ok (.iadd, 1) := by decide +kernel
theorem dX11_drawn_12 : decode cX11_drawn 12 = .ok (.putfield 245, 3) := by decide +kernel
theorem dX11_drawn_15 : decode cX11_drawn 15 = .ok (.aload_n 0, 1) := by decide +kernel
theorem dX11_drawn_16 : decode cX11_drawn 16 = .ok (.getfield 245, 3) := by decide +kernel
theorem dX11_drawn_19 : decode cX11_drawn 19 = .ok (.ldc 249, 2) := by decide +kernel
theorem dX11_drawn_21 : decode cX11_drawn 21 = .ok (.iand, 1) := by decide +kernel
theorem dX11_drawn_22 : decode cX11_drawn 22 = .ok (.ldc 250, 2) := by decide +kernel
theorem dX11_drawn_24 : decode cX11_drawn 24 = .ok (.idiv, 1) := by decide +kernel
theorem dX11_drawn_25 : decode cX11_drawn 25 = .ok (.iload_n 1, 1) := by decide +kernel
theorem dX11_drawn_26 : decode cX11_drawn 26 = .ok (.irem, 1) := by decide +kernel
theorem dX11_drawn_27 : decode cX11_drawn 27 = .ok (.ireturn, 1) := by decide +kernel
theorem dX11_stungAll_0 : decode cX11_stungAll 0 = .ok (.iconst 0, 1) := by decide +kernel
theorem dX11_stungAll_1 : decode cX11_stungAll 1 = .ok (.istore_n 1, 1) := by decide +kernel
theorem dX11_stungAll_2 : decode cX11_stungAll 2 = .ok (.iconst 0, 1) := by decide +kernel
theorem dX11_stungAll_3 : decode cX11_stungAll 3 = .ok (.istore_n 2, 1) := by decide +kernel
theorem dX11_stungAll_4 : decode cX11_stungAll 4 = .ok (.iload_n 2, 1) := by decide +kernel
theorem dX11_stungAll_5 : decode cX11_stungAll 5 = .ok (.aload_n 0, 1) := by decide +kernel
theorem dX11_stungAll_6 : decode cX11_stungAll 6 = .ok (.iconst 0, 1) := by decide +kernel
theorem dX11_stungAll_7 : decode cX11_stungAll 7 = .ok (.iaload, 1) := by decide +kernel
theorem dX11_stungAll_8 : decode cX11_stungAll 8 = .ok (.if_icmp .ge 18, 3) := by decide +kernel
theorem dX11_stungAll_11 : decode cX11_stungAll 11 = .ok (.iload_n 1, 1) := by decide +kernel
theorem dX11_stungAll_12 : decode cX11_stungAll 12 = .ok (.aload_n 0, 1) := by decide +kernel
theorem dX11_stungAll_13 : decode cX11_stungAll 13 = .ok (.bipush 11, 2) := by decide +kernel
theorem dX11_stungAll_15 : decode cX11_stungAll 15 = .ok (.iload_n 2, 1) := by decide +kernel
theorem dX11_stungAll_16 : decode cX11_stungAll 16 = .ok (.iadd, 1) := by decide +kernel
theorem dX11_stungAll_17 : decode cX11_stungAll 17 = .ok (.iaload, 1) := by decide +kernel
theorem dX11_stungAll_18 : decode cX11_stungAll 18 = .ok (.iadd, 1) := by decide +kernel
theorem dX11_stungAll_19 : decode cX11_stungAll 19 = .ok (.istore_n 1, 1) := by decide +kernel
theorem dX11_stungAll_20 : decode cX11_stungAll 20 = .ok (.iinc 2 1, 3) := by decide +kernel
theorem dX11_stungAll_23 : decode cX11_stungAll 23 = .ok (.goto (-19), 3) := by decide +kernel
theorem dX11_stungAll_26 : decode cX11_stungAll 26 = .ok (.iload_n 1, 1) := by decide +kernel
theorem dX11_stungAll_27 : decode cX11_stungAll 27 = .ok (.ireturn, 1) := by decide +kernel
theorem dX11_generations_0 : decode cX11_generations 0 = .ok (.iload_n 1, 1) := by decide +kernel
theorem dX11_generations_1 : decode cX11_generations 1 = .ok (.iconst 1, 1) := by decide +kernel
theorem dX11_generations_2 : decode cX11_generations 2 = .ok (.bipush 20, 2) := by decide +kernel
theorem dX11_generations_4 : decode cX11_generations 4 = .ok (.invokestatic 52, 3) := by decide +kernel
theorem dX11_generations_7 : decode cX11_generations 7 = .ok (.ifCond .eq 12, 3) := by decide +kernel
theorem dX11_generations_10 : decode cX11_generations 10 = .ok (.iload_n 3, 1) := by decide +kernel
theorem dX11_generations_11 : decode cX11_generations 11 = .ok (.iconst 0, 1) := by decide +kernel
theorem dX11_generations_12 : decode cX11_generations 12 = .ok (.iconst 1, 1) := by decide +kernel
theorem dX11_generations_13 : decode cX11_generations 13 = .ok (.invokestatic 52, 3) := by decide +kernel
theorem dX11_generations_16 : decode cX11_generations 16 = .ok (.ifCond .ne 5, 3) := by decide +kernel
theorem dX11_generations_19 : decode cX11_generations 19 = .ok (.iconst (-1), 1) := by decide +kernel
theorem dX11_generations_20 : decode cX11_generations 20 = .ok (.ireturn, 1) := by decide +kernel
theorem dX11_generations_21 : decode cX11_generations 21 = .ok (.aload_n 0, 1) := by decide +kernel
theorem dX11_generations_22 : decode cX11_generations 22 = .ok (.getfield 9, 3) := by decide +kernel
theorem dX11_generations_25 : decode cX11_generations 25 = .ok (.iconst 0, 1) := by decide +kernel
theorem dX11_generations_26 : decode cX11_generations 26 = .ok (.iaload, 1) := by decide +kernel
theorem dX11_generations_27 : decode cX11_generations 27 = .ok (.ifCond .ne 6, 3) := by decide +kernel
theorem dX11_generations_30 : decode cX11_generations 30 = .ok (.bipush (-3), 2) := by decide +kernel
theorem dX11_generations_32 : decode cX11_generations 32 = .ok (.ireturn, 1) := by decide +kernel
theorem dX11_generations_33 : decode cX11_generations 33 = .ok (.aload_n 0, 1) := by decide +kernel
theorem dX11_generations_34 : decode cX11_generations 34 = .ok (.iload_n 2, 1) := by decide +kernel
theorem dX11_generations_35 : decode cX11_generations 35 = .ok (.putfield 245, 3) := by decide +kernel
theorem dX11_generations_38 : decode cX11_generations 38 = .ok (.iconst 0, 1) := by decide +kernel
theorem dX11_generations_39 : decode cX11_generations 39 = .ok (.istore 4, 2) := by decide +kernel
theorem dX11_generations_41 : decode cX11_generations 41 = .ok (.iconst 0, 1) := by decide +kernel
theorem dX11_generations_42 : decode cX11_generations 42 = .ok (.istore 5, 2) := by decide +kernel
theorem dX11_generations_44 : decode cX11_generations 44 = .ok (.iconst 0, 1) := by decide +kernel
theorem dX11_generations_45 : decode cX11_generations 45 = .ok (.istore 6, 2) := by decide +kernel
theorem dX11_generations_47 : decode cX11_generations 47 = .ok (.iload 6, 2) := by decide +kernel
theorem dX11_generations_49 : decode cX11_generations 49 = .ok (.iload_n 1, 1) := by decide +kernel
theorem dX11_generations_50 : decode cX11_generations 50 = .ok (.if_icmp .ge 91, 3) := by decide +kernel
theorem dX11_generations_53 : decode cX11_generations 53 = .ok (.aload_n 0, 1) := by decide +kernel
theorem dX11_generations_54 : decode cX11_generations 54 = .ok (.getfield 9, 3) := by decide +kernel
theorem dX11_generations_57 : decode cX11_generations 57 = .ok (.aload_n 0, 1) := by decide +kernel
theorem dX11_generations_58 : decode cX11_generations 58 = .ok (.getfield 13, 3) := by decide +kernel
theorem dX11_generations_61 : decode cX11_generations 61 = .ok (.invokestatic 112, 3) := by decide +kernel
theorem dX11_generations_64 : decode cX11_generations 64 = .ok (.iconst 0, 1) := by decide +kernel
theorem dX11_generations_65 : decode cX11_generations 65 = .ok (.istore 7, 2) := by decide +kernel
theorem dX11_generations_67 : decode cX11_generations 67 = .ok (.iload 7, 2) := by decide +kernel
theorem dX11_generations_69 : decode cX11_generations 69 = .ok (.bipush 10, 2) := by decide +kernel
theorem dX11_generations_71 : decode cX11_generations 71 = .ok (.if_icmp .ge 44, 3) := by decide +kernel
theorem dX11_generations_74 : decode cX11_generations 74 = .ok (.aload_n 0, 1) := by decide +kernel
theorem dX11_generations_75 : decode cX11_generations 75 = .ok (.aload_n 0, 1) := by decide +kernel
theorem dX11_generations_76 : decode cX11_generations 76 = .ok (.getfield 9, 3) := by decide +kernel
theorem dX11_generations_79 : decode cX11_generations 79 = .ok (.iconst 0, 1) := by decide +kernel
theorem dX11_generations_80 : decode cX11_generations 80 = .ok (.iaload, 1) := by decide +kernel
theorem dX11_generations_81 : decode cX11_generations 81 = .ok (.invokevirtual 251, 3) := by decide +kernel
theorem dX11_generations_84 : decode cX11_generations 84 = .ok (.istore 8, 2) := by decide +kernel
theorem dX11_generations_86 : decode cX11_generations 86 = .ok (.iload 4, 2) := by decide +kernel
theorem dX11_generations_88 : decode cX11_generations 88 = .ok (.aload_n 0, 1) := by decide +kernel
theorem dX11_generations_89 : decode cX11_generations 89 = .ok (.getfield 13, 3) := by decide +kernel
theorem dX11_generations_92 : decode cX11_generations 92 = .ok (.iload 8, 2) := by decide +kernel
theorem dX11_generations_94 : decode cX11_generations 94 = .ok (.aload_n 0, 1) := by decide +kernel
theorem dX11_generations_95 : decode cX11_generations 95 = .ok (.bipush 31, 2) := by decide +kernel
theorem dX11_generations_97 : decode cX11_generations 97 = .ok (.invokevirtual 251, 3) := by decide +kernel
theorem dX11_generations_100 : decode cX11_generations 100 = .ok (.invokestatic 158, 3) := by decide +kernel
theorem dX11_generations_103 : decode cX11_generations 103 = .ok (.invokestatic 180, 3) := by decide +kernel
theorem dX11_generations_106 : decode cX11_generations 106 = .ok (.iadd, 1) := by decide +kernel
theorem dX11_generations_107 : decode cX11_generations 107 = .ok (.istore 4, 2) := by decide +kernel
theorem dX11_generations_109 : decode cX11_generations 109 = .ok (.iinc 7 1, 3) := by decide +kernel
theorem dX11_generations_112 : decode cX11_generations 112 = .ok (.goto (-45), 3) := by decide +kernel
theorem dX11_generations_115 : decode cX11_generations 115 = .ok (.iload 5, 2) := by decide +kernel
theorem dX11_generations_117 : decode cX11_generations 117 = .ok (.aload_n 0, 1) := by decide +kernel
theorem dX11_generations_118 : decode cX11_generations 118 = .ok (.getfield 13, 3) := by decide +kernel
theorem dX11_generations_121 : decode cX11_generations 121 = .ok (.invokestatic 254, 3) := by decide +kernel
theorem dX11_generations_124 : decode cX11_generations 124 = .ok (.aload_n 0, 1) := by decide +kernel
theorem dX11_generations_125 : decode cX11_generations 125 = .ok (.getfield 9, 3) := by decide +kernel
theorem dX11_generations_128 : decode cX11_generations 128 = .ok (.invokestatic 254, 3) := by decide +kernel
theorem dX11_generations_131 : decode cX11_generations 131 = .ok (.isub, 1) := by decide +kernel
theorem dX11_generations_132 : decode cX11_generations 132 = .ok (.iadd, 1) := by decide +kernel
theorem dX11_generations_133 : decode cX11_generations 133 = .ok (.istore 5, 2) := by decide +kernel
theorem dX11_generations_135 : decode cX11_generations 135 = .ok (.iinc 6 1, 3) := by decide +kernel
theorem dX11_generations_138 : decode cX11_generations 138 = .ok (.goto (-91), 3) := by decide +kernel
theorem dX11_generations_141 : decode cX11_generations 141 = .ok (.iload_n 3, 1) := by decide +kernel
theorem dX11_generations_142 : decode cX11_generations 142 = .ok (.ifCond .ne 8, 3) := by decide +kernel
theorem dX11_generations_145 : decode cX11_generations 145 = .ok (.iload 4, 2) := by decide +kernel
theorem dX11_generations_147 : decode cX11_generations 147 = .ok (.goto 5, 3) := by decide +kernel
theorem dX11_generations_150 : decode cX11_generations 150 = .ok (.iload 5, 2) := by decide +kernel
theorem dX11_generations_152 : decode cX11_generations 152 = .ok (.ireturn, 1) := by decide +kernel
theorem dX11_image_0 : decode cX11_image 0 = .ok (.aload_n 0, 1) := by decide +kernel
theorem dX11_image_1 : decode cX11_image 1 = .ok (.getfield 9, 3) := by decide +kernel
theorem dX11_image_4 : decode cX11_image 4 = .ok (.aload_n 0, 1) := by decide +kernel
theorem dX11_image_5 : decode cX11_image 5 = .ok (.getfield 16, 3) := by decide +kernel
theorem dX11_image_8 : decode cX11_image 8 = .ok (.invokestatic 112, 3) := by decide +kernel
theorem dX11_image_11 : decode cX11_image 11 = .ok (.aload_n 0, 1) := by decide +kernel
theorem dX11_image_12 : decode cX11_image 12 = .ok (.iconst 1, 1) := by decide +kernel
theorem dX11_image_13 : decode cX11_image 13 = .ok (.putfield 257, 3) := by decide +kernel
theorem dX11_image_16 : decode cX11_image 16 = .ok (.aload_n 0, 1) := by decide +kernel
theorem dX11_image_17 : decode cX11_image 17 = .ok (.getfield 9, 3) := by decide +kernel
theorem dX11_image_20 : decode cX11_image 20 = .ok (.iconst 2, 1) := by decide +kernel
theorem dX11_image_21 : decode cX11_image 21 = .ok (.iaload, 1) := by decide +kernel
theorem dX11_image_22 : decode cX11_image 22 = .ok (.ireturn, 1) := by decide +kernel
theorem dX11_restore_0 : decode cX11_restore 0 = .ok (.aload_n 0, 1) := by decide +kernel
theorem dX11_restore_1 : decode cX11_restore 1 = .ok (.getfield 257, 3) := by decide +kernel
theorem dX11_restore_4 : decode cX11_restore 4 = .ok (.ifCond .ne 6, 3) := by decide +kernel
theorem dX11_restore_7 : decode cX11_restore 7 = .ok (.bipush (-3), 2) := by decide +kernel
theorem dX11_restore_9 : decode cX11_restore 9 = .ok (.ireturn, 1) := by decide +kernel
theorem dX11_restore_10 : decode cX11_restore 10 = .ok (.aload_n 0, 1) := by decide +kernel
theorem dX11_restore_11 : decode cX11_restore 11 = .ok (.getfield 16, 3) := by decide +kernel
theorem dX11_restore_14 : decode cX11_restore 14 = .ok (.aload_n 0, 1) := by decide +kernel
theorem dX11_restore_15 : decode cX11_restore 15 = .ok (.getfield 9, 3) := by decide +kernel
theorem dX11_restore_18 : decode cX11_restore 18 = .ok (.invokestatic 112, 3) := by decide +kernel
theorem dX11_restore_21 : decode cX11_restore 21 = .ok (.aload_n 0, 1) := by decide +kernel
theorem dX11_restore_22 : decode cX11_restore 22 = .ok (.getfield 9, 3) := by decide +kernel
theorem dX11_restore_25 : decode cX11_restore 25 = .ok (.iconst 2, 1) := by decide +kernel
theorem dX11_restore_26 : decode cX11_restore 26 = .ok (.iaload, 1) := by decide +kernel
theorem dX11_restore_27 : decode cX11_restore 27 = .ok (.ireturn, 1) := by decide +kernel
theorem dX11_count_0 : decode cX11_count 0 = .ok (.iload_n 1, 1) := by decide +kernel
theorem dX11_count_1 : decode cX11_count 1 = .ok (.iconst 0, 1) := by decide +kernel
theorem dX11_count_2 : decode cX11_count 2 = .ok (.iconst 3, 1) := by decide +kernel
theorem dX11_count_3 : decode cX11_count 3 = .ok (.invokestatic 52, 3) := by decide +kernel
theorem dX11_count_6 : decode cX11_count 6 = .ok (.ifCond .eq 10, 3) := by decide +kernel
theorem dX11_count_9 : decode cX11_count 9 = .ok (.aload_n 0, 1) := by decide +kernel
theorem dX11_count_10 : decode cX11_count 10 = .ok (.getfield 9, 3) := by decide +kernel
theorem dX11_count_13 : decode cX11_count 13 = .ok (.iload_n 1, 1) := by decide +kernel
theorem dX11_count_14 : decode cX11_count 14 = .ok (.iaload, 1) := by decide +kernel
theorem dX11_count_15 : decode cX11_count 15 = .ok (.ireturn, 1) := by decide +kernel
theorem dX11_count_16 : decode cX11_count 16 = .ok (.iconst 0, 1) := by decide +kernel
theorem dX11_count_17 : decode cX11_count 17 = .ok (.istore_n 2, 1) := by decide +kernel
theorem dX11_count_18 : decode cX11_count 18 = .ok (.iload_n 1, 1) := by decide +kernel
theorem dX11_count_19 : decode cX11_count 19 = .ok (.tableswitch 72 4 6 #[25, 33, 41], 25) := by decide +kernel
theorem dX11_count_44 : decode cX11_count 44 = .ok (.aload_n 0, 1) := by decide +kernel
theorem dX11_count_45 : decode cX11_count 45 = .ok (.getfield 9, 3) := by decide +kernel
theorem dX11_count_48 : decode cX11_count 48 = .ok (.invokestatic 120, 3) := by decide +kernel
theorem dX11_count_51 : decode cX11_count 51 = .ok (.ireturn, 1) := by decide +kernel
theorem dX11_count_52 : decode cX11_count 52 = .ok (.aload_n 0, 1) := by decide +kernel
theorem dX11_count_53 : decode cX11_count 53 = .ok (.getfield 9, 3) := by decide +kernel
theorem dX11_count_56 : decode cX11_count 56 = .ok (.invokestatic 254, 3) := by decide +kernel
theorem dX11_count_59 : decode cX11_count 59 = .ok (.ireturn, 1) := by decide +kernel
theorem dX11_count_60 : decode cX11_count 60 = .ok (.iconst 0, 1) := by decide +kernel
theorem dX11_count_61 : decode cX11_count 61 = .ok (.istore_n 3, 1) := by decide +kernel
theorem dX11_count_62 : decode cX11_count 62 = .ok (.iload_n 3, 1) := by decide +kernel
theorem dX11_count_63 : decode cX11_count 63 = .ok (.aload_n 0, 1) := by decide +kernel
theorem dX11_count_64 : decode cX11_count 64 = .ok (.getfield 9, 3) := by decide +kernel
theorem dX11_count_67 : decode cX11_count 67 = .ok (.iconst 1, 1) := by decide +kernel
theorem dX11_count_68 : decode cX11_count 68 = .ok (.iaload, 1) := by decide +kernel
theorem dX11_count_69 : decode cX11_count 69 = .ok (.if_icmp .ge 20, 3) := by decide +kernel
theorem dX11_count_72 : decode cX11_count 72 = .ok (.iload_n 2, 1) := by decide +kernel
theorem dX11_count_73 : decode cX11_count 73 = .ok (.aload_n 0, 1) := by decide +kernel
theorem dX11_count_74 : decode cX11_count 74 = .ok (.getfield 9, 3) := by decide +kernel
theorem dX11_count_77 : decode cX11_count 77 = .ok (.iload_n 3, 1) := by decide +kernel
theorem dX11_count_78 : decode cX11_count 78 = .ok (.invokestatic 105, 3) := by decide +kernel
theorem dX11_count_81 : decode cX11_count 81 = .ok (.iadd, 1) := by decide +kernel
theorem dX11_count_82 : decode cX11_count 82 = .ok (.istore_n 2, 1) := by decide +kernel
theorem dX11_count_83 : decode cX11_count 83 = .ok (.iinc 3 1, 3) := by decide +kernel
theorem dX11_count_86 : decode cX11_count 86 = .ok (.goto (-24), 3) := by decide +kernel
theorem dX11_count_89 : decode cX11_count 89 = .ok (.iload_n 2, 1) := by decide +kernel
theorem dX11_count_90 : decode cX11_count 90 = .ok (.ireturn, 1) := by decide +kernel
theorem dX11_count_91 : decode cX11_count 91 = .ok (.iconst (-1), 1) := by decide +kernel
theorem dX11_count_92 : decode cX11_count 92 = .ok (.ireturn, 1) := by decide +kernel
theorem dX11_thrown_0 : decode cX11_thrown 0 = .ok (.aload_n 0, 1) := by decide +kernel
theorem dX11_thrown_1 : decode cX11_thrown 1 = .ok (.getfield 261, 3) := by decide +kernel
theorem dX11_thrown_4 : decode cX11_thrown 4 = .ok (.ireturn, 1) := by decide +kernel
theorem dX11_isShelf_0 : decode cX11_isShelf 0 = .ok (.iload_n 0, 1) := by decide +kernel
theorem dX11_isShelf_1 : decode cX11_isShelf 1 = .ok (.iconst 0, 1) := by decide +kernel
theorem dX11_isShelf_2 : decode cX11_isShelf 2 = .ok (.bipush 7, 2) := by decide +kernel
theorem dX11_isShelf_4 : decode cX11_isShelf 4 = .ok (.invokestatic 52, 3) := by decide +kernel
theorem dX11_isShelf_7 : decode cX11_isShelf 7 = .ok (.ireturn, 1) := by decide +kernel
theorem dX11_wrongRow_0 : decode cX11_wrongRow 0 = .ok (.iload_n 1, 1) := by decide +kernel
theorem dX11_wrongRow_1 : decode cX11_wrongRow 1 = .ok (.invokestatic 264, 3) := by decide +kernel
theorem dX11_wrongRow_4 : decode cX11_wrongRow 4 = .ok (.ifCond .ne 7, 3) := by decide +kernel
theorem dX11_wrongRow_7 : decode cX11_wrongRow 7 = .ok (.iconst (-1), 1) := by decide +kernel
theorem dX11_wrongRow_8 : decode cX11_wrongRow 8 = .ok (.goto 47, 3) := by decide +kernel
theorem dX11_wrongRow_11 : decode cX11_wrongRow 11 = .ok (.aload_n 0, 1) := by decide +kernel
theorem dX11_wrongRow_12 : decode cX11_wrongRow 12 = .ok (.getfield 34, 3) := by decide +kernel
theorem dX11_wrongRow_15 : decode cX11_wrongRow 15 = .ok (.iload_n 1, 1) := by decide +kernel
theorem dX11_wrongRow_16 : decode cX11_wrongRow 16 = .ok (.iaload, 1) := by decide +kernel
theorem dX11_wrongRow_17 : decode cX11_wrongRow 17 = .ok (.ifCond .ne 8, 3) := by decide +kernel
theorem dX11_wrongRow_20 : decode cX11_wrongRow 20 = .ok (.bipush (-11), 2) := by decide +kernel
theorem dX11_wrongRow_22 : decode cX11_wrongRow 22 = .ok (.goto 33, 3) := by decide +kernel
theorem dX11_wrongRow_25 : decode cX11_wrongRow 25 = .ok (.aload_n 0, 1) := by decide +kernel
theorem dX11_wrongRow_26 : decode cX11_wrongRow 26 = .ok (.getfield 34, 3) := by decide +kernel
theorem dX11_wrongRow_29 : decode cX11_wrongRow 29 = .ok (.iload_n 1, 1) := by decide +kernel
theorem dX11_wrongRow_30 : decode cX11_wrongRow 30 = .ok (.iaload, 1) := by decide +kernel
theorem dX11_wrongRow_31 : decode cX11_wrongRow 31 = .ok (.iconst 2, 1) := by decide +kernel
theorem dX11_wrongRow_32 : decode cX11_wrongRow 32 = .ok (.if_icmp .ne 17, 3) := by decide +kernel
theorem dX11_wrongRow_35 : decode cX11_wrongRow 35 = .ok (.iload_n 2, 1) := by decide +kernel
theorem dX11_wrongRow_36 : decode cX11_wrongRow 36 = .ok (.ifCond .lt 18, 3) := by decide +kernel
theorem dX11_wrongRow_39 : decode cX11_wrongRow 39 = .ok (.aload_n 0, 1) := by decide +kernel
theorem dX11_wrongRow_40 : decode cX11_wrongRow 40 = .ok (.getfield 43, 3) := by decide +kernel
theorem dX11_wrongRow_43 : decode cX11_wrongRow 43 = .ok (.iload_n 1, 1) := by decide +kernel
theorem dX11_wrongRow_44 : decode cX11_wrongRow 44 = .ok (.iaload, 1) := by decide +kernel
theorem dX11_wrongRow_45 : decode cX11_wrongRow 45 = .ok (.iload_n 2, 1) := by decide +kernel
theorem dX11_wrongRow_46 : decode cX11_wrongRow 46 = .ok (.if_icmp .eq 8, 3) := by decide +kernel
theorem dX11_wrongRow_49 : decode cX11_wrongRow 49 = .ok (.bipush (-12), 2) := by decide +kernel
theorem dX11_wrongRow_51 : decode cX11_wrongRow 51 = .ok (.goto 4, 3) := by decide +kernel
theorem dX11_wrongRow_54 : decode cX11_wrongRow 54 = .ok (.iconst 0, 1) := by decide +kernel
theorem dX11_wrongRow_55 : decode cX11_wrongRow 55 = .ok (.ireturn, 1) := by decide +kernel
theorem dX11_wrongKept_0 : decode cX11_wrongKept 0 = .ok (.iload_n 1, 1) := by decide +kernel
theorem dX11_wrongKept_1 : decode cX11_wrongKept 1 = .ok (.invokestatic 264, 3) := by decide +kernel
theorem dX11_wrongKept_4 : decode cX11_wrongKept 4 = .ok (.ifCond .ne 7, 3) := by decide +kernel
theorem dX11_wrongKept_7 : decode cX11_wrongKept 7 = .ok (.iconst (-1), 1) := by decide +kernel
theorem dX11_wrongKept_8 : decode cX11_wrongKept 8 = .ok (.goto 33, 3) := by decide +kernel
theorem dX11_wrongKept_11 : decode cX11_wrongKept 11 = .ok (.aload_n 0, 1) := by decide +kernel
theorem dX11_wrongKept_12 : decode cX11_wrongKept 12 = .ok (.getfield 34, 3) := by decide +kernel
theorem dX11_wrongKept_15 : decode cX11_wrongKept 15 = .ok (.iload_n 1, 1) := by decide +kernel
theorem dX11_wrongKept_16 : decode cX11_wrongKept 16 = .ok (.iaload, 1) := by decide +kernel
theorem dX11_wrongKept_17 : decode cX11_wrongKept 17 = .ok (.ifCond .ne 8, 3) := by decide +kernel
theorem dX11_wrongKept_20 : decode cX11_wrongKept 20 = .ok (.bipush (-11), 2) := by decide +kernel
theorem dX11_wrongKept_22 : decode cX11_wrongKept 22 = .ok (.goto 19, 3) := by decide +kernel
theorem dX11_wrongKept_25 : decode cX11_wrongKept 25 = .ok (.aload_n 0, 1) := by decide +kernel
theorem dX11_wrongKept_26 : decode cX11_wrongKept 26 = .ok (.getfield 34, 3) := by decide +kernel
theorem dX11_wrongKept_29 : decode cX11_wrongKept 29 = .ok (.iload_n 1, 1) := by decide +kernel
theorem dX11_wrongKept_30 : decode cX11_wrongKept 30 = .ok (.iaload, 1) := by decide +kernel
theorem dX11_wrongKept_31 : decode cX11_wrongKept 31 = .ok (.iconst 2, 1) := by decide +kernel
theorem dX11_wrongKept_32 : decode cX11_wrongKept 32 = .ok (.if_icmp .ne 8, 3) := by decide +kernel
theorem dX11_wrongKept_35 : decode cX11_wrongKept 35 = .ok (.bipush (-12), 2) := by decide +kernel
theorem dX11_wrongKept_37 : decode cX11_wrongKept 37 = .ok (.goto 4, 3) := by decide +kernel
theorem dX11_wrongKept_40 : decode cX11_wrongKept 40 = .ok (.iconst 0, 1) := by decide +kernel
theorem dX11_wrongKept_41 : decode cX11_wrongKept 41 = .ok (.ireturn, 1) := by decide +kernel
theorem dX11_keep_0 : decode cX11_keep 0 = .ok (.iload_n 1, 1) := by decide +kernel
theorem dX11_keep_1 : decode cX11_keep 1 = .ok (.invokestatic 264, 3) := by decide +kernel
theorem dX11_keep_4 : decode cX11_keep 4 = .ok (.ifCond .eq 38, 3) := by decide +kernel
theorem dX11_keep_7 : decode cX11_keep 7 = .ok (.iload_n 2, 1) := by decide +kernel
theorem dX11_keep_8 : decode cX11_keep 8 = .ok (.iconst 0, 1) := by decide +kernel
theorem dX11_keep_9 : decode cX11_keep 9 = .ok (.iconst 1, 1) := by decide +kernel
theorem dX11_keep_10 : decode cX11_keep 10 = .ok (.invokestatic 52, 3) := by decide +kernel
theorem dX11_keep_13 : decode cX11_keep 13 = .ok (.ifCond .eq 29, 3) := by decide +kernel
theorem dX11_keep_16 : decode cX11_keep 16 = .ok (.iload_n 2, 1) := by decide +kernel
theorem dX11_keep_17 : decode cX11_keep 17 = .ok (.iconst 1, 1) := by decide +kernel
theorem dX11_keep_18 : decode cX11_keep 18 = .ok (.if_icmp .ne 26, 3) := by decide +kernel
theorem dX11_keep_21 : decode cX11_keep 21 = .ok (.iload_n 3, 1) := by decide +kernel
theorem dX11_keep_22 : decode cX11_keep 22 = .ok (.iconst 0, 1) := by decide +kernel
theorem dX11_keep_23 : decode cX11_keep 23 = .ok (.bipush 7, 2) := by decide +kernel
theorem dX11_keep_25 : decode cX11_keep 25 = .ok (.invokestatic 52, 3) := by decide +kernel
theorem dX11_keep_28 : decode cX11_keep 28 = .ok (.ifCond .eq 14, 3) := by decide +kernel
theorem dX11_keep_31 : decode cX11_keep 31 = .ok (.iload 4, 2) := by decide +kernel
theorem dX11_keep_33 : decode cX11_keep 33 = .ok (.iconst 0, 1) := by decide +kernel
theorem dX11_keep_34 : decode cX11_keep 34 = .ok (.bipush 9, 2) := by decide +kernel
theorem dX11_keep_36 : decode cX11_keep 36 = .ok (.invokestatic 52, 3) := by decide +kernel
theorem dX11_keep_39 : decode cX11_keep 39 = .ok (.ifCond .ne 5, 3) := by decide +kernel
theorem dX11_keep_42 : decode cX11_keep 42 = .ok (.iconst (-1), 1) := by decide +kernel
theorem dX11_keep_43 : decode cX11_keep 43 = .ok (.ireturn, 1) := by decide +kernel
theorem dX11_keep_44 : decode cX11_keep 44 = .ok (.aload_n 0, 1) := by decide +kernel
theorem dX11_keep_45 : decode cX11_keep 45 = .ok (.getfield 34, 3) := by decide +kernel
theorem dX11_keep_48 : decode cX11_keep 48 = .ok (.iload_n 1, 1) := by decide +kernel
theorem dX11_keep_49 : decode cX11_keep 49 = .ok (.iload_n 2, 1) := by decide +kernel
theorem dX11_keep_50 : decode cX11_keep 50 = .ok (.iastore, 1) := by decide +kernel
theorem dX11_keep_51 : decode cX11_keep 51 = .ok (.aload_n 0, 1) := by decide +kernel
theorem dX11_keep_52 : decode cX11_keep 52 = .ok (.getfield 37, 3) := by decide +kernel
theorem dX11_keep_55 : decode cX11_keep 55 = .ok (.iload_n 1, 1) := by decide +kernel
theorem dX11_keep_56 : decode cX11_keep 56 = .ok (.iload_n 3, 1) := by decide +kernel
theorem dX11_keep_57 : decode cX11_keep 57 = .ok (.iastore, 1) := by decide +kernel
theorem dX11_keep_58 : decode cX11_keep 58 = .ok (.aload_n 0, 1) := by decide +kernel
theorem dX11_keep_59 : decode cX11_keep 59 = .ok (.getfield 40, 3) := by decide +kernel
theorem dX11_keep_62 : decode cX11_keep 62 = .ok (.iload_n 1, 1) := by decide +kernel
theorem dX11_keep_63 : decode cX11_keep 63 = .ok (.iload 4, 2) := by decide +kernel
theorem dX11_keep_65 : decode cX11_keep 65 = .ok (.iastore, 1) := by decide +kernel
theorem dX11_keep_66 : decode cX11_keep 66 = .ok (.iconst 0, 1) := by decide +kernel
theorem dX11_keep_67 : decode cX11_keep 67 = .ok (.ireturn, 1) := by decide +kernel
theorem dX11_row_0 : decode cX11_row 0 = .ok (.iload_n 1, 1) := by decide +kernel
theorem dX11_row_1 : decode cX11_row 1 = .ok (.invokestatic 264, 3) := by decide +kernel
theorem dX11_row_4 : decode cX11_row 4 = .ok (.ifCond .eq 18, 3) := by decide +kernel
theorem dX11_row_7 : decode cX11_row 7 = .ok (.iload_n 2, 1) := by decide +kernel
theorem dX11_row_8 : decode cX11_row 8 = .ok (.iconst 0, 1) := by decide +kernel
theorem dX11_row_9 : decode cX11_row 9 = .ok (.iconst 2, 1) := by decide +kernel
theorem dX11_row_10 : decode cX11_row 10 = .ok (.invokestatic 52, 3) := by decide +kernel
theorem dX11_row_13 : decode cX11_row 13 = .ok (.ifCond .eq 9, 3) := by decide +kernel
theorem dX11_row_16 : decode cX11_row 16 = .ok (.iload_n 3, 1) := by decide +kernel
theorem dX11_row_17 : decode cX11_row 17 = .ok (.bipush 100, 2) := by decide +kernel
theorem dX11_row_19 : decode cX11_row 19 = .ok (.if_icmp .le 5, 3) := by decide +kernel
theorem dX11_row_22 : decode cX11_row 22 = .ok (.iconst (-1), 1) := by decide +kernel
theorem dX11_row_23 : decode cX11_row 23 = .ok (.ireturn, 1) := by decide +kernel
theorem dX11_row_24 : decode cX11_row 24 = .ok (.iload_n 3, 1) := by decide +kernel
theorem dX11_row_25 : decode cX11_row 25 = .ok (.ifCond .ge 6, 3) := by decide +kernel
theorem dX11_row_28 : decode cX11_row 28 = .ok (.bipush (-14), 2) := by decide +kernel
theorem dX11_row_30 : decode cX11_row 30 = .ok (.ireturn, 1) := by decide +kernel
theorem dX11_row_31 : decode cX11_row 31 = .ok (.aload_n 0, 1) := by decide +kernel
theorem dX11_row_32 : decode cX11_row 32 = .ok (.getfield 34, 3) := by decide +kernel
theorem dX11_row_35 : decode cX11_row 35 = .ok (.iload_n 1, 1) := by decide +kernel
theorem dX11_row_36 : decode cX11_row 36 = .ok (.iconst 2, 1) := by decide +kernel
theorem dX11_row_37 : decode cX11_row 37 = .ok (.iastore, 1) := by decide +kernel
theorem dX11_row_38 : decode cX11_row 38 = .ok (.aload_n 0, 1) := by decide +kernel
theorem dX11_row_39 : decode cX11_row 39 = .ok (.getfield 43, 3) := by decide +kernel
theorem dX11_row_42 : decode cX11_row 42 = .ok (.iload_n 1, 1) := by decide +kernel
theorem dX11_row_43 : decode cX11_row 43 = .ok (.iload_n 2, 1) := by decide +kernel
theorem dX11_row_44 : decode cX11_row 44 = .ok (.iastore, 1) := by decide +kernel
theorem dX11_row_45 : decode cX11_row 45 = .ok (.aload_n 0, 1) := by decide +kernel
theorem dX11_row_46 : decode cX11_row 46 = .ok (.getfield 46, 3) := by decide +kernel
theorem dX11_row_49 : decode cX11_row 49 = .ok (.iload_n 1, 1) := by decide +kernel
theorem dX11_row_50 : decode cX11_row 50 = .ok (.iload_n 3, 1) := by decide +kernel
theorem dX11_row_51 : decode cX11_row 51 = .ok (.iastore, 1) := by decide +kernel
theorem dX11_row_52 : decode cX11_row 52 = .ok (.iconst 0, 1) := by decide +kernel
theorem dX11_row_53 : decode cX11_row 53 = .ok (.istore 4, 2) := by decide +kernel
theorem dX11_row_55 : decode cX11_row 55 = .ok (.iload 4, 2) := by decide +kernel
theorem dX11_row_57 : decode cX11_row 57 = .ok (.bipush 100, 2) := by decide +kernel
theorem dX11_row_59 : decode cX11_row 59 = .ok (.if_icmp .ge 22, 3) := by decide +kernel
theorem dX11_row_62 : decode cX11_row 62 = .ok (.aload_n 0, 1) := by decide +kernel
theorem dX11_row_63 : decode cX11_row 63 = .ok (.getfield 49, 3) := by decide +kernel
theorem dX11_row_66 : decode cX11_row 66 = .ok (.bipush 100, 2) := by decide +kernel
theorem dX11_row_68 : decode cX11_row 68 = .ok (.iload_n 1, 1) := by decide +kernel
theorem dX11_row_69 : decode cX11_row 69 = .ok (.imul, 1) := by decide +kernel
theorem dX11_row_70 : decode cX11_row 70 = .ok (.iload 4, 2) := by decide +kernel
theorem dX11_row_72 : decode cX11_row 72 = .ok (.iadd, 1) := by decide +kernel
theorem dX11_row_73 : decode cX11_row 73 = .ok (.iconst 0, 1) := by decide +kernel
theorem dX11_row_74 : decode cX11_row 74 = .ok (.iastore, 1) := by decide +kernel
theorem dX11_row_75 : decode cX11_row 75 = .ok (.iinc 4 1, 3) := by decide +kernel
theorem dX11_row_78 : decode cX11_row 78 = .ok (.goto (-23), 3) := by decide +kernel
theorem dX11_row_81 : decode cX11_row 81 = .ok (.iconst 0, 1) := by decide +kernel
theorem dX11_row_82 : decode cX11_row 82 = .ok (.ireturn, 1) := by decide +kernel
theorem dX11_put_0 : decode cX11_put 0 = .ok (.aload_n 0, 1) := by decide +kernel
theorem dX11_put_1 : decode cX11_put 1 = .ok (.iload_n 1, 1) := by decide +kernel
theorem dX11_put_2 : decode cX11_put 2 = .ok (.iconst (-1), 1) := by decide +kernel
theorem dX11_put_3 : decode cX11_put 3 = .ok (.invokevirtual 167, 3) := by decide +kernel
theorem dX11_put_6 : decode cX11_put 6 = .ok (.istore 4, 2) := by decide +kernel
theorem dX11_put_8 : decode cX11_put 8 = .ok (.iload 4, 2) := by decide +kernel
theorem dX11_put_10 : decode cX11_put 10 = .ok (.ifCond .eq 6, 3) := by decide +kernel
theorem dX11_put_13 : decode cX11_put 13 = .ok (.iload 4, 2) := by decide +kernel
theorem dX11_put_15 : decode cX11_put 15 = .ok (.ireturn, 1) := by decide +kernel
theorem dX11_put_16 : decode cX11_put 16 = .ok (.iload_n 2, 1) := by decide +kernel
theorem dX11_put_17 : decode cX11_put 17 = .ok (.iconst 0, 1) := by decide +kernel
theorem dX11_put_18 : decode cX11_put 18 = .ok (.aload_n 0, 1) := by decide +kernel
theorem dX11_put_19 : decode cX11_put 19 = .ok (.getfield 46, 3) := by decide +kernel
theorem dX11_put_22 : decode cX11_put 22 = .ok (.iload_n 1, 1) := by decide +kernel
theorem dX11_put_23 : decode cX11_put 23 = .ok (.iaload, 1) := by decide +kernel
theorem dX11_put_24 : decode cX11_put 24 = .ok (.iconst 1, 1) := by decide +kernel
theorem dX11_put_25 : decode cX11_put 25 = .ok (.isub, 1) := by decide +kernel
theorem dX11_put_26 : decode cX11_put 26 = .ok (.invokestatic 52, 3) := by decide +kernel
theorem dX11_put_29 : decode cX11_put 29 = .ok (.ifCond .ne 6, 3) := by decide +kernel
theorem dX11_put_32 : decode cX11_put 32 = .ok (.bipush (-13), 2) := by decide +kernel
theorem dX11_put_34 : decode cX11_put 34 = .ok (.ireturn, 1) := by decide +kernel
theorem dX11_put_35 : decode cX11_put 35 = .ok (.aload_n 0, 1) := by decide +kernel
theorem dX11_put_36 : decode cX11_put 36 = .ok (.getfield 49, 3) := by decide +kernel
theorem dX11_put_39 : decode cX11_put 39 = .ok (.bipush 100, 2) := by decide +kernel
theorem dX11_put_41 : decode cX11_put 41 = .ok (.iload_n 1, 1) := by decide +kernel
theorem dX11_put_42 : decode cX11_put 42 = .ok (.imul, 1) := by decide +kernel
theorem dX11_put_43 : decode cX11_put 43 = .ok (.iload_n 2, 1) := by decide +kernel
theorem dX11_put_44 : decode cX11_put 44 = .ok (.iadd, 1) := by decide +kernel
theorem dX11_put_45 : decode cX11_put 45 = .ok (.aload_n 0, 1) := by decide +kernel
theorem dX11_put_46 : decode cX11_put 46 = .ok (.getfield 43, 3) := by decide +kernel
theorem dX11_put_49 : decode cX11_put 49 = .ok (.iload_n 1, 1) := by decide +kernel
theorem dX11_put_50 : decode cX11_put 50 = .ok (.iaload, 1) := by decide +kernel
theorem dX11_put_51 : decode cX11_put 51 = .ok (.ifCond .ne 8, 3) := by decide +kernel
theorem dX11_put_54 : decode cX11_put 54 = .ok (.iload_n 3, 1) := by decide +kernel
theorem dX11_put_55 : decode cX11_put 55 = .ok (.i2b, 1) := by decide +kernel
theorem dX11_put_56 : decode cX11_put 56 = .ok (.goto 19, 3) := by decide +kernel
theorem dX11_put_59 : decode cX11_put 59 = .ok (.aload_n 0, 1) := by decide +kernel
theorem dX11_put_60 : decode cX11_put 60 = .ok (.getfield 43, 3) := by decide +kernel
theorem dX11_put_63 : decode cX11_put 63 = .ok (.iload_n 1, 1) := by decide +kernel
theorem dX11_put_64 : decode cX11_put 64 = .ok (.iaload, 1) := by decide +kernel
theorem dX11_put_65 : decode cX11_put 65 = .ok (.iconst 1, 1) := by decide +kernel
theorem dX11_put_66 : decode cX11_put 66 = .ok (.if_icmp .ne 8, 3) := by decide +kernel
theorem dX11_put_69 : decode cX11_put 69 = .ok (.iload_n 3, 1) := by decide +kernel
theorem dX11_put_70 : decode cX11_put 70 = .ok (.i2s, 1) := by decide +kernel
theorem dX11_put_71 : decode cX11_put 71 = .ok (.goto 4, 3) := by decide +kernel
theorem dX11_put_74 : decode cX11_put 74 = .ok (.iload_n 3, 1) := by decide +kernel
theorem dX11_put_75 : decode cX11_put 75 = .ok (.iastore, 1) := by decide +kernel
theorem dX11_put_76 : decode cX11_put 76 = .ok (.iconst 0, 1) := by decide +kernel
theorem dX11_put_77 : decode cX11_put 77 = .ok (.ireturn, 1) := by decide +kernel
theorem dX11_element_0 : decode cX11_element 0 = .ok (.aload_n 0, 1) := by decide +kernel
theorem dX11_element_1 : decode cX11_element 1 = .ok (.iload_n 1, 1) := by decide +kernel
theorem dX11_element_2 : decode cX11_element 2 = .ok (.invokestatic 264, 3) := by decide +kernel
theorem dX11_element_5 : decode cX11_element 5 = .ok (.ifCond .ne 7, 3) := by decide +kernel
theorem dX11_element_8 : decode cX11_element 8 = .ok (.iconst 1, 1) := by decide +kernel
theorem dX11_element_9 : decode cX11_element 9 = .ok (.goto 34, 3) := by decide +kernel
theorem dX11_element_12 : decode cX11_element 12 = .ok (.aload_n 0, 1) := by decide +kernel
theorem dX11_element_13 : decode cX11_element 13 = .ok (.getfield 34, 3) := by decide +kernel
theorem dX11_element_16 : decode cX11_element 16 = .ok (.iload_n 1, 1) := by decide +kernel
theorem dX11_element_17 : decode cX11_element 17 = .ok (.iaload, 1) := by decide +kernel
theorem dX11_element_18 : decode cX11_element 18 = .ok (.iconst 2, 1) := by decide +kernel
theorem dX11_element_19 : decode cX11_element 19 = .ok (.if_icmp .ne 19, 3) := by decide +kernel
theorem dX11_element_22 : decode cX11_element 22 = .ok (.iload_n 2, 1) := by decide +kernel
theorem dX11_element_23 : decode cX11_element 23 = .ok (.iconst 0, 1) := by decide +kernel
theorem dX11_element_24 : decode cX11_element 24 = .ok (.aload_n 0, 1) := by decide +kernel
theorem dX11_element_25 : decode cX11_element 25 = .ok (.getfield 46, 3) := by decide +kernel
theorem dX11_element_28 : decode cX11_element 28 = .ok (.iload_n 1, 1) := by decide +kernel
theorem dX11_element_29 : decode cX11_element 29 = .ok (.iaload, 1) := by decide +kernel
theorem dX11_element_30 : decode cX11_element 30 = .ok (.iconst 1, 1) := by decide +kernel
theorem dX11_element_31 : decode cX11_element 31 = .ok (.isub, 1) := by decide +kernel
theorem dX11_element_32 : decode cX11_element 32 = .ok (.invokestatic 52, 3) := by decide +kernel
theorem dX11_element_35 : decode cX11_element 35 = .ok (.ifCond .ne 7, 3) := by decide +kernel
theorem dX11_element_38 : decode cX11_element 38 = .ok (.iconst 2, 1) := by decide +kernel
theorem dX11_element_39 : decode cX11_element 39 = .ok (.goto 4, 3) := by decide +kernel
theorem dX11_element_42 : decode cX11_element 42 = .ok (.iconst 0, 1) := by decide +kernel
theorem dX11_element_43 : decode cX11_element 43 = .ok (.putfield 261, 3) := by decide +kernel
theorem dX11_element_46 : decode cX11_element 46 = .ok (.aload_n 0, 1) := by decide +kernel
theorem dX11_element_47 : decode cX11_element 47 = .ok (.getfield 261, 3) := by decide +kernel
theorem dX11_element_50 : decode cX11_element 50 = .ok (.ifCond .ne 18, 3) := by decide +kernel
theorem dX11_element_53 : decode cX11_element 53 = .ok (.aload_n 0, 1) := by decide +kernel
theorem dX11_element_54 : decode cX11_element 54 = .ok (.getfield 49, 3) := by decide +kernel
theorem dX11_element_57 : decode cX11_element 57 = .ok (.bipush 100, 2) := by decide +kernel
theorem dX11_element_59 : decode cX11_element 59 = .ok (.iload_n 1, 1) := by decide +kernel
theorem dX11_element_60 : decode cX11_element 60 = .ok (.imul, 1) := by decide +kernel
theorem dX11_element_61 : decode cX11_element 61 = .ok (.iload_n 2, 1) := by decide +kernel
theorem dX11_element_62 : decode cX11_element 62 = .ok (.iadd, 1) := by decide +kernel
theorem dX11_element_63 : decode cX11_element 63 = .ok (.iaload, 1) := by decide +kernel
theorem dX11_element_64 : decode cX11_element 64 = .ok (.i2l, 1) := by decide +kernel
theorem dX11_element_65 : decode cX11_element 65 = .ok (.goto 4, 3) := by decide +kernel
theorem dX11_element_68 : decode cX11_element 68 = .ok (.lconst 0, 1) := by decide +kernel
theorem dX11_element_69 : decode cX11_element 69 = .ok (.lreturn, 1) := by decide +kernel
theorem dX11_copy_0 : decode cX11_copy 0 = .ok (.iload_n 1, 1) := by decide +kernel
theorem dX11_copy_1 : decode cX11_copy 1 = .ok (.invokestatic 264, 3) := by decide +kernel
theorem dX11_copy_4 : decode cX11_copy 4 = .ok (.ifCond .eq 10, 3) := by decide +kernel
theorem dX11_copy_7 : decode cX11_copy 7 = .ok (.iload_n 3, 1) := by decide +kernel
theorem dX11_copy_8 : decode cX11_copy 8 = .ok (.invokestatic 264, 3) := by decide +kernel
theorem dX11_copy_11 : decode cX11_copy 11 = .ok (.ifCond .ne 5, 3) := by decide +kernel
theorem dX11_copy_14 : decode cX11_copy 14 = .ok (.iconst (-1), 1) := by decide +kernel
theorem dX11_copy_15 : decode cX11_copy 15 = .ok (.ireturn, 1) := by decide +kernel
theorem dX11_copy_16 : decode cX11_copy 16 = .ok (.aload_n 0, 1) := by decide +kernel
theorem dX11_copy_17 : decode cX11_copy 17 = .ok (.getfield 34, 3) := by decide +kernel
theorem dX11_copy_20 : decode cX11_copy 20 = .ok (.iload_n 1, 1) := by decide +kernel
theorem dX11_copy_21 : decode cX11_copy 21 = .ok (.iaload, 1) := by decide +kernel
theorem dX11_copy_22 : decode cX11_copy 22 = .ok (.ifCond .eq 12, 3) := by decide +kernel
theorem dX11_copy_25 : decode cX11_copy 25 = .ok (.aload_n 0, 1) := by decide +kernel
theorem dX11_copy_26 : decode cX11_copy 26 = .ok (.getfield 34, 3) := by decide +kernel
theorem dX11_copy_29 : decode cX11_copy 29 = .ok (.iload_n 3, 1) := by decide +kernel
theorem dX11_copy_30 : decode cX11_copy 30 = .ok (.iaload, 1) := by decide +kernel
theorem dX11_copy_31 : decode cX11_copy 31 = .ok (.ifCond .ne 6, 3) := by decide +kernel
theorem dX11_copy_34 : decode cX11_copy 34 = .ok (.bipush (-11), 2) := by decide +kernel
theorem dX11_copy_36 : decode cX11_copy 36 = .ok (.ireturn, 1) := by decide +kernel
theorem dX11_copy_37 : decode cX11_copy 37 = .ok (.aload_n 0, 1) := by decide +kernel
theorem dX11_copy_38 : decode cX11_copy 38 = .ok (.getfield 34, 3) := by decide +kernel
theorem dX11_copy_41 : decode cX11_copy 41 = .ok (.iload_n 1, 1) := by decide +kernel
theorem dX11_copy_42 : decode cX11_copy 42 = .ok (.iaload, 1) := by decide +kernel
theorem dX11_copy_43 : decode cX11_copy 43 = .ok (.iconst 2, 1) := by decide +kernel
theorem dX11_copy_44 : decode cX11_copy 44 = .ok (.if_icmp .ne 28, 3) := by decide +kernel
theorem dX11_copy_47 : decode cX11_copy 47 = .ok (.aload_n 0, 1) := by decide +kernel
theorem dX11_copy_48 : decode cX11_copy 48 = .ok (.getfield 34, 3) := by decide +kernel
theorem dX11_copy_51 : decode cX11_copy 51 = .ok (.iload_n 3, 1) := by decide +kernel
theorem dX11_copy_52 : decode cX11_copy 52 = .ok (.iaload, 1) := by decide +kernel
theorem dX11_copy_53 : decode cX11_copy 53 = .ok (.iconst 2, 1) := by decide +kernel
theorem dX11_copy_54 : decode cX11_copy 54 = .ok (.if_icmp .ne 18, 3) := by decide +kernel
theorem dX11_copy_57 : decode cX11_copy 57 = .ok (.aload_n 0, 1) := by decide +kernel
theorem dX11_copy_58 : decode cX11_copy 58 = .ok (.getfield 43, 3) := by decide +kernel
theorem dX11_copy_61 : decode cX11_copy 61 = .ok (.iload_n 1, 1) := by decide +kernel
theorem dX11_copy_62 : decode cX11_copy 62 = .ok (.iaload, 1) := by decide +kernel
theorem dX11_copy_63 : decode cX11_copy 63 = .ok (.aload_n 0, 1) := by decide +kernel
theorem dX11_copy_64 : decode cX11_copy 64 = .ok (.getfield 43, 3) := by decide +kernel
theorem dX11_copy_67 : decode cX11_copy 67 = .ok (.iload_n 3, 1) := by decide +kernel
theorem dX11_copy_68 : decode cX11_copy 68 = .ok (.iaload, 1) := by decide +kernel
theorem dX11_copy_69 : decode cX11_copy 69 = .ok (.if_icmp .eq 6, 3) := by decide +kernel
theorem dX11_copy_72 : decode cX11_copy 72 = .ok (.bipush (-12), 2) := by decide +kernel
theorem dX11_copy_74 : decode cX11_copy 74 = .ok (.ireturn, 1) := by decide +kernel
theorem dX11_copy_75 : decode cX11_copy 75 = .ok (.iload 5, 2) := by decide +kernel
theorem dX11_copy_77 : decode cX11_copy 77 = .ok (.ifCond .lt 39, 3) := by decide +kernel
theorem dX11_copy_80 : decode cX11_copy 80 = .ok (.iload_n 2, 1) := by decide +kernel
theorem dX11_copy_81 : decode cX11_copy 81 = .ok (.ifCond .lt 35, 3) := by decide +kernel
theorem dX11_copy_84 : decode cX11_copy 84 = .ok (.iload 4, 2) := by decide +kernel
theorem dX11_copy_86 : decode cX11_copy 86 = .ok (.ifCond .lt 30, 3) := by decide +kernel
theorem dX11_copy_89 : decode cX11_copy 89 = .ok (.iload 5, 2) := by decide +kernel
theorem dX11_copy_91 : decode cX11_copy 91 = .ok (.aload_n 0, 1) := by decide +kernel
theorem dX11_copy_92 : decode cX11_copy 92 = .ok (.getfield 46, 3) := by decide +kernel
theorem dX11_copy_95 : decode cX11_copy 95 = .ok (.iload_n 1, 1) := by decide +kernel
theorem dX11_copy_96 : decode cX11_copy 96 = .ok (.iaload, 1) := by decide +kernel
theorem dX11_copy_97 : decode cX11_copy 97 = .ok (.iload_n 2, 1) := by decide +kernel
theorem dX11_copy_98 : decode cX11_copy 98 = .ok (.isub, 1) := by decide +kernel
theorem dX11_copy_99 : decode cX11_copy 99 = .ok (.if_icmp .gt 17, 3) := by decide +kernel
theorem dX11_copy_102 : decode cX11_copy 102 = .ok (.iload 5, 2) := by decide +kernel
theorem dX11_copy_104 : decode cX11_copy 104 = .ok (.aload_n 0, 1) := by decide +kernel
theorem dX11_copy_105 : decode cX11_copy 105 = .ok (.getfield 46, 3) := by decide +kernel
theorem dX11_copy_108 : decode cX11_copy 108 = .ok (.iload_n 3, 1) := by decide +kernel
theorem dX11_copy_109 : decode cX11_copy 109 = .ok (.iaload, 1) := by decide +kernel
theorem dX11_copy_110 : decode cX11_copy 110 = .ok (.iload 4, 2) := by decide +kernel
theorem dX11_copy_112 : decode cX11_copy 112 = .ok (.isub, 1) := by decide +kernel
theorem dX11_copy_113 : decode cX11_copy 113 = .ok (.if_icmp .le 6, 3) := by decide +kernel
theorem dX11_copy_116 : decode cX11_copy 116 = .ok (.bipush (-13), 2) := by decide +kernel
theorem dX11_copy_118 : decode cX11_copy 118 = .ok (.ireturn, 1) := by decide +kernel
theorem dX11_copy_119 : decode cX11_copy 119 = .ok (.iconst 0, 1) := by decide +kernel
theorem dX11_copy_120 : decode cX11_copy 120 = .ok (.istore 6, 2) := by decide +kernel
theorem dX11_copy_122 : decode cX11_copy 122 = .ok (.iload 6, 2) := by decide +kernel
theorem dX11_copy_124 : decode cX11_copy 124 = .ok (.iload 5, 2) := by decide +kernel
theorem dX11_copy_126 : decode cX11_copy 126 = .ok (.if_icmp .ge 58, 3) := by decide +kernel
theorem dX11_copy_129 : decode cX11_copy 129 = .ok (.iload_n 2, 1) := by decide +kernel
theorem dX11_copy_130 : decode cX11_copy 130 = .ok (.iload 4, 2) := by decide +kernel
theorem dX11_copy_132 : decode cX11_copy 132 = .ok (.if_icmp .le 8, 3) := by decide +kernel
theorem dX11_copy_135 : decode cX11_copy 135 = .ok (.iload 6, 2) := by decide +kernel
theorem dX11_copy_137 : decode cX11_copy 137 = .ok (.goto 10, 3) := by decide +kernel
theorem dX11_copy_140 : decode cX11_copy 140 = .ok (.iload 5, 2) := by decide +kernel
theorem dX11_copy_142 : decode cX11_copy 142 = .ok (.iconst 1, 1) := by decide +kernel
theorem dX11_copy_143 : decode cX11_copy 143 = .ok (.isub, 1) := by decide +kernel
theorem dX11_copy_144 : decode cX11_copy 144 = .ok (.iload 6, 2) := by decide +kernel
theorem dX11_copy_146 : decode cX11_copy 146 = .ok (.isub, 1) := by decide +kernel
theorem dX11_copy_147 : decode cX11_copy 147 = .ok (.istore 7, 2) := by decide +kernel
theorem dX11_copy_149 : decode cX11_copy 149 = .ok (.aload_n 0, 1) := by decide +kernel
theorem dX11_copy_150 : decode cX11_copy 150 = .ok (.getfield 49, 3) := by decide +kernel
theorem dX11_copy_153 : decode cX11_copy 153 = .ok (.bipush 100, 2) := by decide +kernel
theorem dX11_copy_155 : decode cX11_copy 155 = .ok (.iload_n 3, 1) := by decide +kernel
theorem dX11_copy_156 : decode cX11_copy 156 = .ok (.imul, 1) := by decide +kernel
theorem dX11_copy_157 : decode cX11_copy 157 = .ok (.iload 4, 2) := by decide +kernel
theorem dX11_copy_159 : decode cX11_copy 159 = .ok (.iadd, 1) := by decide +kernel
theorem dX11_copy_160 : decode cX11_copy 160 = .ok (.iload 7, 2) := by decide +kernel
theorem dX11_copy_162 : decode cX11_copy 162 = .ok (.iadd, 1) := by decide +kernel
theorem dX11_copy_163 : decode cX11_copy 163 = .ok (.aload_n 0, 1) := by decide +kernel
theorem dX11_copy_164 : decode cX11_copy 164 = .ok (.getfield 49, 3) := by decide +kernel
theorem dX11_copy_167 : decode cX11_copy 167 = .ok (.bipush 100, 2) := by decide +kernel
theorem dX11_copy_169 : decode cX11_copy 169 = .ok (.iload_n 1, 1) := by decide +kernel
theorem dX11_copy_170 : decode cX11_copy 170 = .ok (.imul, 1) := by decide +kernel
theorem dX11_copy_171 : decode cX11_copy 171 = .ok (.iload_n 2, 1) := by decide +kernel
theorem dX11_copy_172 : decode cX11_copy 172 = .ok (.iadd, 1) := by decide +kernel
theorem dX11_copy_173 : decode cX11_copy 173 = .ok (.iload 7, 2) := by decide +kernel
theorem dX11_copy_175 : decode cX11_copy 175 = .ok (.iadd, 1) := by decide +kernel
theorem dX11_copy_176 : decode cX11_copy 176 = .ok (.iaload, 1) := by decide +kernel
theorem dX11_copy_177 : decode cX11_copy 177 = .ok (.iastore, 1) := by decide +kernel
theorem dX11_copy_178 : decode cX11_copy 178 = .ok (.iinc 6 1, 3) := by decide +kernel
theorem dX11_copy_181 : decode cX11_copy 181 = .ok (.goto (-59), 3) := by decide +kernel
theorem dX11_copy_184 : decode cX11_copy 184 = .ok (.iload 5, 2) := by decide +kernel
theorem dX11_copy_186 : decode cX11_copy 186 = .ok (.ireturn, 1) := by decide +kernel
theorem dX11_costBy_0 : decode cX11_costBy 0 = .ok (.iload_n 0, 1) := by decide +kernel
theorem dX11_costBy_1 : decode cX11_costBy 1 = .ok (.tableswitch 66 1 7 #[43, 47, 53, 55, 57, 59, 62], 43) := by decide +kernel
theorem dX11_costBy_44 : decode cX11_costBy 44 = .ok (.iconst 2, 1) := by decide +kernel
theorem dX11_costBy_45 : decode cX11_costBy 45 = .ok (.iload_n 1, 1) := by decide +kernel
theorem dX11_costBy_46 : decode cX11_costBy 46 = .ok (.iadd, 1) := by decide +kernel
theorem dX11_costBy_47 : decode cX11_costBy 47 = .ok (.ireturn, 1) := by decide +kernel
theorem dX11_costBy_48 : decode cX11_costBy 48 = .ok (.iconst 4, 1) := by decide +kernel
theorem dX11_costBy_49 : decode cX11_costBy 49 = .ok (.iconst 2, 1) := by decide +kernel
theorem dX11_costBy_50 : decode cX11_costBy 50 = .ok (.iload_n 1, 1) := by decide +kernel
theorem dX11_costBy_51 : decode cX11_costBy 51 = .ok (.imul, 1) := by decide +kernel
theorem dX11_costBy_52 : decode cX11_costBy 52 = .ok (.iadd, 1) := by decide +kernel
theorem dX11_costBy_53 : decode cX11_costBy 53 = .ok (.ireturn, 1) := by decide +kernel
theorem dX11_costBy_54 : decode cX11_costBy 54 = .ok (.iconst 1, 1) := by decide +kernel
theorem dX11_costBy_55 : decode cX11_costBy 55 = .ok (.ireturn, 1) := by decide +kernel
theorem dX11_costBy_56 : decode cX11_costBy 56 = .ok (.iconst 5, 1) := by decide +kernel
theorem dX11_costBy_57 : decode cX11_costBy 57 = .ok (.ireturn, 1) := by decide +kernel
theorem dX11_costBy_58 : decode cX11_costBy 58 = .ok (.iload_n 1, 1) := by decide +kernel
theorem dX11_costBy_59 : decode cX11_costBy 59 = .ok (.ireturn, 1) := by decide +kernel
theorem dX11_costBy_60 : decode cX11_costBy 60 = .ok (.bipush 7, 2) := by decide +kernel
theorem dX11_costBy_62 : decode cX11_costBy 62 = .ok (.ireturn, 1) := by decide +kernel
theorem dX11_costBy_63 : decode cX11_costBy 63 = .ok (.iconst 1, 1) := by decide +kernel
theorem dX11_costBy_64 : decode cX11_costBy 64 = .ok (.iload_n 1, 1) := by decide +kernel
theorem dX11_costBy_65 : decode cX11_costBy 65 = .ok (.iadd, 1) := by decide +kernel
theorem dX11_costBy_66 : decode cX11_costBy 66 = .ok (.ireturn, 1) := by decide +kernel
theorem dX11_costBy_67 : decode cX11_costBy 67 = .ok (.iconst 2, 1) := by decide +kernel
theorem dX11_costBy_68 : decode cX11_costBy 68 = .ok (.ireturn, 1) := by decide +kernel
theorem dX11_cost_0 : decode cX11_cost 0 = .ok (.aload_n 0, 1) := by decide +kernel
theorem dX11_cost_1 : decode cX11_cost 1 = .ok (.iload_n 1, 1) := by decide +kernel
theorem dX11_cost_2 : decode cX11_cost 2 = .ok (.invokevirtual 177, 3) := by decide +kernel
theorem dX11_cost_5 : decode cX11_cost 5 = .ok (.istore_n 2, 1) := by decide +kernel
theorem dX11_cost_6 : decode cX11_cost 6 = .ok (.iload_n 2, 1) := by decide +kernel
theorem dX11_cost_7 : decode cX11_cost 7 = .ok (.ifCond .eq 7, 3) := by decide +kernel
theorem dX11_cost_10 : decode cX11_cost 10 = .ok (.iload_n 2, 1) := by decide +kernel
theorem dX11_cost_11 : decode cX11_cost 11 = .ok (.goto 18, 3) := by decide +kernel
theorem dX11_cost_14 : decode cX11_cost 14 = .ok (.aload_n 0, 1) := by decide +kernel
theorem dX11_cost_15 : decode cX11_cost 15 = .ok (.getfield 37, 3) := by decide +kernel
theorem dX11_cost_18 : decode cX11_cost 18 = .ok (.iload_n 1, 1) := by decide +kernel
theorem dX11_cost_19 : decode cX11_cost 19 = .ok (.iaload, 1) := by decide +kernel
theorem dX11_cost_20 : decode cX11_cost 20 = .ok (.aload_n 0, 1) := by decide +kernel
theorem dX11_cost_21 : decode cX11_cost 21 = .ok (.getfield 40, 3) := by decide +kernel
theorem dX11_cost_24 : decode cX11_cost 24 = .ok (.iload_n 1, 1) := by decide +kernel
theorem dX11_cost_25 : decode cX11_cost 25 = .ok (.iaload, 1) := by decide +kernel
theorem dX11_cost_26 : decode cX11_cost 26 = .ok (.invokestatic 267, 3) := by decide +kernel
theorem dX11_cost_29 : decode cX11_cost 29 = .ok (.ireturn, 1) := by decide +kernel
theorem dX11_toss_0 : decode cX11_toss 0 = .ok (.aload_n 0, 1) := by decide +kernel
theorem dX11_toss_1 : decode cX11_toss 1 = .ok (.iload_n 1, 1) := by decide +kernel
theorem dX11_toss_2 : decode cX11_toss 2 = .ok (.invokevirtual 177, 3) := by decide +kernel
theorem dX11_toss_5 : decode cX11_toss 5 = .ok (.istore_n 2, 1) := by decide +kernel
theorem dX11_toss_6 : decode cX11_toss 6 = .ok (.iload_n 2, 1) := by decide +kernel
theorem dX11_toss_7 : decode cX11_toss 7 = .ok (.ifCond .eq 5, 3) := by decide +kernel
theorem dX11_toss_10 : decode cX11_toss 10 = .ok (.iload_n 2, 1) := by decide +kernel
theorem dX11_toss_11 : decode cX11_toss 11 = .ok (.ireturn, 1) := by decide +kernel
theorem dX11_toss_12 : decode cX11_toss 12 = .ok (.aload_n 0, 1) := by decide +kernel
theorem dX11_toss_13 : decode cX11_toss 13 = .ok (.getfield 37, 3) := by decide +kernel
theorem dX11_toss_16 : decode cX11_toss 16 = .ok (.iload_n 1, 1) := by decide +kernel
theorem dX11_toss_17 : decode cX11_toss 17 = .ok (.iaload, 1) := by decide +kernel
theorem dX11_toss_18 : decode cX11_toss 18 = .ok (.istore_n 3, 1) := by decide +kernel
theorem dX11_toss_19 : decode cX11_toss 19 = .ok (.aload_n 0, 1) := by decide +kernel
theorem dX11_toss_20 : decode cX11_toss 20 = .ok (.getfield 40, 3) := by decide +kernel
theorem dX11_toss_23 : decode cX11_toss 23 = .ok (.iload_n 1, 1) := by decide +kernel
theorem dX11_toss_24 : decode cX11_toss 24 = .ok (.iaload, 1) := by decide +kernel
theorem dX11_toss_25 : decode cX11_toss 25 = .ok (.istore 4, 2) := by decide +kernel
theorem dX11_toss_27 : decode cX11_toss 27 = .ok (.iload_n 3, 1) := by decide +kernel
theorem dX11_toss_28 : decode cX11_toss 28 = .ok (.iconst 3, 1) := by decide +kernel
theorem dX11_toss_29 : decode cX11_toss 29 = .ok (.if_icmp .eq 14, 3) := by decide +kernel
theorem dX11_toss_32 : decode cX11_toss 32 = .ok (.iload_n 3, 1) := by decide +kernel
theorem dX11_toss_33 : decode cX11_toss 33 = .ok (.bipush 7, 2) := by decide +kernel
theorem dX11_toss_35 : decode cX11_toss 35 = .ok (.if_icmp .eq 8, 3) := by decide +kernel
theorem dX11_toss_38 : decode cX11_toss 38 = .ok (.iload 4, 2) := by decide +kernel
theorem dX11_toss_40 : decode cX11_toss 40 = .ok (.ifCond .ne 6, 3) := by decide +kernel
theorem dX11_toss_43 : decode cX11_toss 43 = .ok (.bipush (-15), 2) := by decide +kernel
theorem dX11_toss_45 : decode cX11_toss 45 = .ok (.ireturn, 1) := by decide +kernel
theorem dX11_toss_46 : decode cX11_toss 46 = .ok (.iload_n 3, 1) := by decide +kernel
theorem dX11_toss_47 : decode cX11_toss 47 = .ok (.iconst 2, 1) := by decide +kernel
theorem dX11_toss_48 : decode cX11_toss 48 = .ok (.if_icmp .ne 16, 3) := by decide +kernel
theorem dX11_toss_51 : decode cX11_toss 51 = .ok (.sipush 200, 3) := by decide +kernel
theorem dX11_toss_54 : decode cX11_toss 54 = .ok (.iload_n 3, 1) := by decide +kernel
theorem dX11_toss_55 : decode cX11_toss 55 = .ok (.iload 4, 2) := by decide +kernel
theorem dX11_toss_57 : decode cX11_toss 57 = .ok (.invokestatic 267, 3) := by decide +kernel
theorem dX11_toss_60 : decode cX11_toss 60 = .ok (.iadd, 1) := by decide +kernel
theorem dX11_toss_61 : decode cX11_toss 61 = .ok (.goto 23, 3) := by decide +kernel
theorem dX11_toss_64 : decode cX11_toss 64 = .ok (.iload_n 3, 1) := by decide +kernel
theorem dX11_toss_65 : decode cX11_toss 65 = .ok (.iconst 1, 1) := by decide +kernel
theorem dX11_toss_66 : decode cX11_toss 66 = .ok (.if_icmp .eq 8, 3) := by decide +kernel
theorem dX11_toss_69 : decode cX11_toss 69 = .ok (.iload_n 3, 1) := by decide +kernel
theorem dX11_toss_70 : decode cX11_toss 70 = .ok (.iconst 5, 1) := by decide +kernel
theorem dX11_toss_71 : decode cX11_toss 71 = .ok (.if_icmp .ne 11, 3) := by decide +kernel
theorem dX11_toss_74 : decode cX11_toss 74 = .ok (.bipush 100, 2) := by decide +kernel
theorem dX11_toss_76 : decode cX11_toss 76 = .ok (.iload 4, 2) := by decide +kernel
theorem dX11_toss_78 : decode cX11_toss 78 = .ok (.iadd, 1) := by decide +kernel
theorem dX11_toss_79 : decode cX11_toss 79 = .ok (.goto 5, 3) := by decide +kernel
theorem dX11_toss_82 : decode cX11_toss 82 = .ok (.iload 4, 2) := by decide +kernel
theorem dX11_toss_84 : decode cX11_toss 84 = .ok (.ireturn, 1) := by decide +kernel
