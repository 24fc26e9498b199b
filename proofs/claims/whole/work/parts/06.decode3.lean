theorem dX11_init_0 : decode cX11_init 0 = .ok (.aload_n 0, 1) := by decide +kernel
theorem dX11_init_1 : decode cX11_init 1 = .ok (.invokespecial 1, 3) := by decide +kernel
theorem dX11_init_4 : decode cX11_init 4 = .ok (.aload_n 0, 1) := by decide +kernel
theorem dX11_init_5 : decode cX11_init 5 = .ok (.bipush 78, 2) := by decide +kernel
theorem dX11_init_7 : decode cX11_init 7 = .ok (.newarray .int, 2) := by decide +kernel
theorem dX11_init_9 : decode cX11_init 9 = .ok (.putfield 9, 3) := by decide +kernel
theorem dX11_init_12 : decode cX11_init 12 = .ok (.aload_n 0, 1) := by decide +kernel
theorem dX11_init_13 : decode cX11_init 13 = .ok (.bipush 78, 2) := by decide +kernel
theorem dX11_init_15 : decode cX11_init 15 = .ok (.newarray .int, 2) := by decide +kernel
theorem dX11_init_17 : decode cX11_init 17 = .ok (.putfield 13, 3) := by decide +kernel
theorem dX11_init_20 : decode cX11_init 20 = .ok (.aload_n 0, 1) := by decide +kernel
theorem dX11_init_21 : decode cX11_init 21 = .ok (.bipush 78, 2) := by decide +kernel
theorem dX11_init_23 : decode cX11_init 23 = .ok (.newarray .int, 2) := by decide +kernel
theorem dX11_init_25 : decode cX11_init 25 = .ok (.putfield 16, 3) := by decide +kernel
theorem dX11_init_28 : decode cX11_init 28 = .ok (.aload_n 0, 1) := by decide +kernel
theorem dX11_init_29 : decode cX11_init 29 = .ok (.bipush 78, 2) := by decide +kernel
theorem dX11_init_31 : decode cX11_init 31 = .ok (.newarray .int, 2) := by decide +kernel
theorem dX11_init_33 : decode cX11_init 33 = .ok (.putfield 19, 3) := by decide +kernel
theorem dX11_init_36 : decode cX11_init 36 = .ok (.aload_n 0, 1) := by decide +kernel
theorem dX11_init_37 : decode cX11_init 37 = .ok (.bipush 78, 2) := by decide +kernel
theorem dX11_init_39 : decode cX11_init 39 = .ok (.newarray .int, 2) := by decide +kernel
theorem dX11_init_41 : decode cX11_init 41 = .ok (.putfield 22, 3) := by decide +kernel
theorem dX11_init_44 : decode cX11_init 44 = .ok (.aload_n 0, 1) := by decide +kernel
theorem dX11_init_45 : decode cX11_init 45 = .ok (.iconst 4, 1) := by decide +kernel
theorem dX11_init_46 : decode cX11_init 46 = .ok (.newarray .int, 2) := by decide +kernel
theorem dX11_init_48 : decode cX11_init 48 = .ok (.putfield 25, 3) := by decide +kernel
theorem dX11_init_51 : decode cX11_init 51 = .ok (.aload_n 0, 1) := by decide +kernel
theorem dX11_init_52 : decode cX11_init 52 = .ok (.bipush 7, 2) := by decide +kernel
theorem dX11_init_54 : decode cX11_init 54 = .ok (.newarray .int, 2) := by decide +kernel
theorem dX11_init_56 : decode cX11_init 56 = .ok (.putfield 28, 3) := by decide +kernel
theorem dX11_init_59 : decode cX11_init 59 = .ok (.aload_n 0, 1) := by decide +kernel
theorem dX11_init_60 : decode cX11_init 60 = .ok (.bipush 7, 2) := by decide +kernel
theorem dX11_init_62 : decode cX11_init 62 = .ok (.newarray .int, 2) := by decide +kernel
theorem dX11_init_64 : decode cX11_init 64 = .ok (.putfield 31, 3) := by decide +kernel
theorem dX11_init_67 : decode cX11_init 67 = .ok (.aload_n 0, 1) := by decide +kernel
theorem dX11_init_68 : decode cX11_init 68 = .ok (.bipush 8, 2) := by decide +kernel
theorem dX11_init_70 : decode cX11_init 70 = .ok (.newarray .int, 2) := by decide +kernel
theorem dX11_init_72 : decode cX11_init 72 = .ok (.putfield 34, 3) := by decide +kernel
theorem dX11_init_75 : decode cX11_init 75 = .ok (.aload_n 0, 1) := by decide +kernel
theorem dX11_init_76 : decode cX11_init 76 = .ok (.bipush 8, 2) := by decide +kernel
theorem dX11_init_78 : decode cX11_init 78 = .ok (.newarray .int, 2) := by decide +kernel
theorem dX11_init_80 : decode cX11_init 80 = .ok (.putfield 37, 3) := by decide +kernel
theorem dX11_init_83 : decode cX11_init 83 = .ok (.aload_n 0, 1) := by decide +kernel
theorem dX11_init_84 : decode cX11_init 84 = .ok (.bipush 8, 2) := by decide +kernel
theorem dX11_init_86 : decode cX11_init 86 = .ok (.newarray .int, 2) := by decide +kernel
theorem dX11_init_88 : decode cX11_init 88 = .ok (.putfield 40, 3) := by decide +kernel
theorem dX11_init_91 : decode cX11_init 91 = .ok (.aload_n 0, 1) := by decide +kernel
theorem dX11_init_92 : decode cX11_init 92 = .ok (.bipush 8, 2) := by decide +kernel
theorem dX11_init_94 : decode cX11_init 94 = .ok (.newarray .int, 2) := by decide +kernel
theorem dX11_init_96 : decode cX11_init 96 = .ok (.putfield 43, 3) := by decide +kernel
theorem dX11_init_99 : decode cX11_init 99 = .ok (.aload_n 0, 1) := by decide +kernel
theorem dX11_init_100 : decode cX11_init 100 = .ok (.bipush 8, 2) := by decide +kernel
theorem dX11_init_102 : decode cX11_init 102 = .ok (.newarray .int, 2) := by decide +kernel
theorem dX11_init_104 : decode cX11_init 104 = .ok (.putfield 46, 3) := by decide +kernel
theorem dX11_init_107 : decode cX11_init 107 = .ok (.aload_n 0, 1) := by decide +kernel
theorem dX11_init_108 : decode cX11_init 108 = .ok (.sipush 800, 3) := by decide +kernel
theorem dX11_init_111 : decode cX11_init 111 = .ok (.newarray .int, 2) := by decide +kernel
theorem dX11_init_113 : decode cX11_init 113 = .ok (.putfield 49, 3) := by decide +kernel
theorem dX11_init_116 : decode cX11_init 116 = .ok (.return_, 1) := by decide +kernel
theorem dX11_isIn_0 : decode cX11_isIn 0 = .ok (.iload_n 0, 1) := by decide +kernel
theorem dX11_isIn_1 : decode cX11_isIn 1 = .ok (.iload_n 1, 1) := by decide +kernel
theorem dX11_isIn_2 : decode cX11_isIn 2 = .ok (.if_icmp .lt 12, 3) := by decide +kernel
theorem dX11_isIn_5 : decode cX11_isIn 5 = .ok (.iload_n 0, 1) := by decide +kernel
theorem dX11_isIn_6 : decode cX11_isIn 6 = .ok (.iload_n 2, 1) := by decide +kernel
theorem dX11_isIn_7 : decode cX11_isIn 7 = .ok (.if_icmp .gt 7, 3) := by decide +kernel
theorem dX11_isIn_10 : decode cX11_isIn 10 = .ok (.iconst 1, 1) := by decide +kernel
theorem dX11_isIn_11 : decode cX11_isIn 11 = .ok (.goto 4, 3) := by decide +kernel
theorem dX11_isIn_14 : decode cX11_isIn 14 = .ok (.iconst 0, 1) := by decide +kernel
theorem dX11_isIn_15 : decode cX11_isIn 15 = .ok (.ireturn, 1) := by decide +kernel
theorem dX11_least_0 : decode cX11_least 0 = .ok (.iload_n 0, 1) := by decide +kernel
theorem dX11_least_1 : decode cX11_least 1 = .ok (.iload_n 1, 1) := by decide +kernel
theorem dX11_least_2 : decode cX11_least 2 = .ok (.if_icmp .ge 7, 3) := by decide +kernel
theorem dX11_least_5 : decode cX11_least 5 = .ok (.iload_n 0, 1) := by decide +kernel
theorem dX11_least_6 : decode cX11_least 6 = .ok (.goto 4, 3) := by decide +kernel
theorem dX11_least_9 : decode cX11_least 9 = .ok (.iload_n 1, 1) := by decide +kernel
theorem dX11_least_10 : decode cX11_least 10 = .ok (.ireturn, 1) := by decide +kernel
theorem dX11_most_0 : decode cX11_most 0 = .ok (.iload_n 0, 1) := by decide +kernel
theorem dX11_most_1 : decode cX11_most 1 = .ok (.iload_n 1, 1) := by decide +kernel
theorem dX11_most_2 : decode cX11_most 2 = .ok (.if_icmp .le 7, 3) := by decide +kernel
theorem dX11_most_5 : decode cX11_most 5 = .ok (.iload_n 0, 1) := by decide +kernel
theorem dX11_most_6 : decode cX11_most 6 = .ok (.goto 4, 3) := by decide +kernel
theorem dX11_most_9 : decode cX11_most 9 = .ok (.iload_n 1, 1) := by decide +kernel
theorem dX11_most_10 : decode cX11_most 10 = .ok (.ireturn, 1) := by decide +kernel
theorem dX11_copies_0 : decode cX11_copies 0 = .ok (.iconst 0, 1) := by decide +kernel
theorem dX11_copies_1 : decode cX11_copies 1 = .ok (.istore_n 2, 1) := by decide +kernel
theorem dX11_copies_2 : decode cX11_copies 2 = .ok (.iload_n 2, 1) := by decide +kernel
theorem dX11_copies_3 : decode cX11_copies 3 = .ok (.bipush 78, 2) := by decide +kernel
theorem dX11_copies_5 : decode cX11_copies 5 = .ok (.if_icmp .ge 15, 3) := by decide +kernel
theorem dX11_copies_8 : decode cX11_copies 8 = .ok (.aload_n 1, 1) := by decide +kernel
theorem dX11_copies_9 : decode cX11_copies 9 = .ok (.iload_n 2, 1) := by decide +kernel
theorem dX11_copies_10 : decode cX11_copies 10 = .ok (.aload_n 0, 1) := by decide +kernel
theorem dX11_copies_11 : decode cX11_copies 11 = .ok (.iload_n 2, 1) := by decide +kernel
theorem dX11_copies_12 : decode cX11_copies 12 = .ok (.iaload, 1) := by decide +kernel
theorem dX11_copies_13 : decode cX11_copies 13 = .ok (.iastore, 1) := by decide +kernel
theorem dX11_copies_14 : decode cX11_copies 14 = .ok (.iinc 2 1, 3) := by decide +kernel
theorem dX11_copies_17 : decode cX11_copies 17 = .ok (.goto (-15), 3) := by decide +kernel
theorem dX11_copies_20 : decode cX11_copies 20 = .ok (.return_, 1) := by decide +kernel
theorem dX11_of_0 : decode cX11_of 0 = .ok (.bipush 18, 2) := by decide +kernel
theorem dX11_of_2 : decode cX11_of 2 = .ok (.bipush 6, 2) := by decide +kernel
theorem dX11_of_4 : decode cX11_of 4 = .ok (.iload_n 0, 1) := by decide +kernel
theorem dX11_of_5 : decode cX11_of 5 = .ok (.imul, 1) := by decide +kernel
theorem dX11_of_6 : decode cX11_of 6 = .ok (.iadd, 1) := by decide +kernel
theorem dX11_of_7 : decode cX11_of 7 = .ok (.iload_n 1, 1) := by decide +kernel
theorem dX11_of_8 : decode cX11_of 8 = .ok (.iadd, 1) := by decide +kernel
theorem dX11_of_9 : decode cX11_of 9 = .ok (.ireturn, 1) := by decide +kernel
theorem dX11_isPerson_0 : decode cX11_isPerson 0 = .ok (.iload_n 1, 1) := by decide +kernel
theorem dX11_isPerson_1 : decode cX11_isPerson 1 = .ok (.iconst 0, 1) := by decide +kernel
theorem dX11_isPerson_2 : decode cX11_isPerson 2 = .ok (.aload_n 0, 1) := by decide +kernel
theorem dX11_isPerson_3 : decode cX11_isPerson 3 = .ok (.getfield 9, 3) := by decide +kernel
theorem dX11_isPerson_6 : decode cX11_isPerson 6 = .ok (.iconst 0, 1) := by decide +kernel
theorem dX11_isPerson_7 : decode cX11_isPerson 7 = .ok (.iaload, 1) := by decide +kernel
theorem dX11_isPerson_8 : decode cX11_isPerson 8 = .ok (.iconst 1, 1) := by decide +kernel
theorem dX11_isPerson_9 : decode cX11_isPerson 9 = .ok (.isub, 1) := by decide +kernel
theorem dX11_isPerson_10 : decode cX11_isPerson 10 = .ok (.invokestatic 52, 3) := by decide +kernel
theorem dX11_isPerson_13 : decode cX11_isPerson 13 = .ok (.ireturn, 1) := by decide +kernel
theorem dX11_isBand_0 : decode cX11_isBand 0 = .ok (.iload_n 1, 1) := by decide +kernel
theorem dX11_isBand_1 : decode cX11_isBand 1 = .ok (.iconst 0, 1) := by decide +kernel
theorem dX11_isBand_2 : decode cX11_isBand 2 = .ok (.aload_n 0, 1) := by decide +kernel
theorem dX11_isBand_3 : decode cX11_isBand 3 = .ok (.getfield 9, 3) := by decide +kernel
theorem dX11_isBand_6 : decode cX11_isBand 6 = .ok (.iconst 1, 1) := by decide +kernel
theorem dX11_isBand_7 : decode cX11_isBand 7 = .ok (.iaload, 1) := by decide +kernel
theorem dX11_isBand_8 : decode cX11_isBand 8 = .ok (.iconst 1, 1) := by decide +kernel
theorem dX11_isBand_9 : decode cX11_isBand 9 = .ok (.isub, 1) := by decide +kernel
theorem dX11_isBand_10 : decode cX11_isBand 10 = .ok (.invokestatic 52, 3) := by decide +kernel
theorem dX11_isBand_13 : decode cX11_isBand 13 = .ok (.ireturn, 1) := by decide +kernel
theorem dX11_isPlace_0 : decode cX11_isPlace 0 = .ok (.iload_n 0, 1) := by decide +kernel
theorem dX11_isPlace_1 : decode cX11_isPlace 1 = .ok (.iconst 0, 1) := by decide +kernel
theorem dX11_isPlace_2 : decode cX11_isPlace 2 = .ok (.bipush 30, 2) := by decide +kernel
theorem dX11_isPlace_4 : decode cX11_isPlace 4 = .ok (.invokestatic 52, 3) := by decide +kernel
theorem dX11_isPlace_7 : decode cX11_isPlace 7 = .ok (.ireturn, 1) := by decide +kernel
theorem dX11_far_0 : decode cX11_far 0 = .ok (.iload_n 0, 1) := by decide +kernel
theorem dX11_far_1 : decode cX11_far 1 = .ok (.iload_n 1, 1) := by decide +kernel
theorem dX11_far_2 : decode cX11_far 2 = .ok (.if_icmp .le 9, 3) := by decide +kernel
theorem dX11_far_5 : decode cX11_far 5 = .ok (.iload_n 0, 1) := by decide +kernel
theorem dX11_far_6 : decode cX11_far 6 = .ok (.iload_n 1, 1) := by decide +kernel
theorem dX11_far_7 : decode cX11_far 7 = .ok (.isub, 1) := by decide +kernel
theorem dX11_far_8 : decode cX11_far 8 = .ok (.goto 6, 3) := by decide +kernel
theorem dX11_far_11 : decode cX11_far 11 = .ok (.iload_n 1, 1) := by decide +kernel
theorem dX11_far_12 : decode cX11_far 12 = .ok (.iload_n 0, 1) := by decide +kernel
theorem dX11_far_13 : decode cX11_far 13 = .ok (.isub, 1) := by decide +kernel
theorem dX11_far_14 : decode cX11_far 14 = .ok (.ireturn, 1) := by decide +kernel
theorem dX11_has_0 : decode cX11_has 0 = .ok (.iload_n 0, 1) := by decide +kernel
theorem dX11_has_1 : decode cX11_has 1 = .ok (.iload_n 1, 1) := by decide +kernel
theorem dX11_has_2 : decode cX11_has 2 = .ok (.ishr, 1) := by decide +kernel
theorem dX11_has_3 : decode cX11_has 3 = .ok (.iconst 1, 1) := by decide +kernel
theorem dX11_has_4 : decode cX11_has 4 = .ok (.iand, 1) := by decide +kernel
theorem dX11_has_5 : decode cX11_has 5 = .ok (.iconst 1, 1) := by decide +kernel
theorem dX11_has_6 : decode cX11_has 6 = .ok (.if_icmp .ne 7, 3) := by decide +kernel
theorem dX11_has_9 : decode cX11_has 9 = .ok (.iconst 1, 1) := by decide +kernel
theorem dX11_has_10 : decode cX11_has 10 = .ok (.goto 4, 3) := by decide +kernel
theorem dX11_has_13 : decode cX11_has 13 = .ok (.iconst 0, 1) := by decide +kernel
theorem dX11_has_14 : decode cX11_has 14 = .ok (.ireturn, 1) := by decide +kernel
theorem dX11_bits_0 : decode cX11_bits 0 = .ok (.iconst 0, 1) := by decide +kernel
theorem dX11_bits_1 : decode cX11_bits 1 = .ok (.istore_n 1, 1) := by decide +kernel
theorem dX11_bits_2 : decode cX11_bits 2 = .ok (.iconst 0, 1) := by decide +kernel
theorem dX11_bits_3 : decode cX11_bits 3 = .ok (.istore_n 2, 1) := by decide +kernel
theorem dX11_bits_4 : decode cX11_bits 4 = .ok (.iload_n 2, 1) := by decide +kernel
theorem dX11_bits_5 : decode cX11_bits 5 = .ok (.bipush 10, 2) := by decide +kernel
theorem dX11_bits_7 : decode cX11_bits 7 = .ok (.if_icmp .ge 17, 3) := by decide +kernel
theorem dX11_bits_10 : decode cX11_bits 10 = .ok (.iload_n 1, 1) := by decide +kernel
theorem dX11_bits_11 : decode cX11_bits 11 = .ok (.iload_n 0, 1) := by decide +kernel
theorem dX11_bits_12 : decode cX11_bits 12 = .ok (.iload_n 2, 1) := by decide +kernel
theorem dX11_bits_13 : decode cX11_bits 13 = .ok (.ishr, 1) := by decide +kernel
theorem dX11_bits_14 : decode cX11_bits 14 = .ok (.iconst 1, 1) := by decide +kernel
theorem dX11_bits_15 : decode cX11_bits 15 = .ok (.iand, 1) := by decide +kernel
theorem dX11_bits_16 : decode cX11_bits 16 = .ok (.iadd, 1) := by decide +kernel
theorem dX11_bits_17 : decode cX11_bits 17 = .ok (.istore_n 1, 1) := by decide +kernel
theorem dX11_bits_18 : decode cX11_bits 18 = .ok (.iinc 2 1, 3) := by decide +kernel
theorem dX11_bits_21 : decode cX11_bits 21 = .ok (.goto (-17), 3) := by decide +kernel
theorem dX11_bits_24 : decode cX11_bits 24 = .ok (.iload_n 1, 1) := by decide +kernel
theorem dX11_bits_25 : decode cX11_bits 25 = .ok (.ireturn, 1) := by decide +kernel
theorem dX11_slack_0 : decode cX11_slack 0 = .ok (.iload_n 0, 1) := by decide +kernel
theorem dX11_slack_1 : decode cX11_slack 1 = .ok (.tableswitch 74 1 7 #[43, 49, 57, 59, 63, 65, 70], 43) := by decide +kernel
theorem dX11_slack_44 : decode cX11_slack 44 = .ok (.iload_n 1, 1) := by decide +kernel
theorem dX11_slack_45 : decode cX11_slack 45 = .ok (.iconst 2, 1) := by decide +kernel
theorem dX11_slack_46 : decode cX11_slack 46 = .ok (.iadd, 1) := by decide +kernel
theorem dX11_slack_47 : decode cX11_slack 47 = .ok (.iconst 2, 1) := by decide +kernel
theorem dX11_slack_48 : decode cX11_slack 48 = .ok (.idiv, 1) := by decide +kernel
theorem dX11_slack_49 : decode cX11_slack 49 = .ok (.ireturn, 1) := by decide +kernel
theorem dX11_slack_50 : decode cX11_slack 50 = .ok (.iload_n 1, 1) := by decide +kernel
theorem dX11_slack_51 : decode cX11_slack 51 = .ok (.iconst 2, 1) := by decide +kernel
theorem dX11_slack_52 : decode cX11_slack 52 = .ok (.iadd, 1) := by decide +kernel
theorem dX11_slack_53 : decode cX11_slack 53 = .ok (.iconst 2, 1) := by decide +kernel
theorem dX11_slack_54 : decode cX11_slack 54 = .ok (.idiv, 1) := by decide +kernel
theorem dX11_slack_55 : decode cX11_slack 55 = .ok (.iconst 1, 1) := by decide +kernel
theorem dX11_slack_56 : decode cX11_slack 56 = .ok (.iadd, 1) := by decide +kernel
theorem dX11_slack_57 : decode cX11_slack 57 = .ok (.ireturn, 1) := by decide +kernel
theorem dX11_slack_58 : decode cX11_slack 58 = .ok (.iload_n 1, 1) := by decide +kernel
theorem dX11_slack_59 : decode cX11_slack 59 = .ok (.ireturn, 1) := by decide +kernel
theorem dX11_slack_60 : decode cX11_slack 60 = .ok (.iload_n 1, 1) := by decide +kernel
theorem dX11_slack_61 : decode cX11_slack 61 = .ok (.iconst 1, 1) := by decide +kernel
theorem dX11_slack_62 : decode cX11_slack 62 = .ok (.iadd, 1) := by decide +kernel
theorem dX11_slack_63 : decode cX11_slack 63 = .ok (.ireturn, 1) := by decide +kernel
theorem dX11_slack_64 : decode cX11_slack 64 = .ok (.iconst 0, 1) := by decide +kernel
theorem dX11_slack_65 : decode cX11_slack 65 = .ok (.ireturn, 1) := by decide +kernel
theorem dX11_slack_66 : decode cX11_slack 66 = .ok (.iload_n 1, 1) := by decide +kernel
theorem dX11_slack_67 : decode cX11_slack 67 = .ok (.bipush 6, 2) := by decide +kernel
theorem dX11_slack_69 : decode cX11_slack 69 = .ok (.iadd, 1) := by decide +kernel
theorem dX11_slack_70 : decode cX11_slack 70 = .ok (.ireturn, 1) := by decide +kernel
theorem dX11_slack_71 : decode cX11_slack 71 = .ok (.iconst 2, 1) := by decide +kernel
theorem dX11_slack_72 : decode cX11_slack 72 = .ok (.iload_n 1, 1) := by decide +kernel
theorem dX11_slack_73 : decode cX11_slack 73 = .ok (.imul, 1) := by decide +kernel
theorem dX11_slack_74 : decode cX11_slack 74 = .ok (.ireturn, 1) := by decide +kernel
theorem dX11_slack_75 : decode cX11_slack 75 = .ok (.iload_n 1, 1) := by decide +kernel
theorem dX11_slack_76 : decode cX11_slack 76 = .ok (.iconst 2, 1) := by decide +kernel
theorem dX11_slack_77 : decode cX11_slack 77 = .ok (.iadd, 1) := by decide +kernel
theorem dX11_slack_78 : decode cX11_slack 78 = .ok (.ireturn, 1) := by decide +kernel
theorem dX11_gauge_0 : decode cX11_gauge 0 = .ok (.iload_n 0, 1) := by decide +kernel
theorem dX11_gauge_1 : decode cX11_gauge 1 = .ok (.tableswitch 49 1 7 #[43, 45, 49, 45, 43, 49, 47], 43) := by decide +kernel
theorem dX11_gauge_44 : decode cX11_gauge 44 = .ok (.iconst 2, 1) := by decide +kernel
theorem dX11_gauge_45 : decode cX11_gauge 45 = .ok (.ireturn, 1) := by decide +kernel
theorem dX11_gauge_46 : decode cX11_gauge 46 = .ok (.iconst 3, 1) := by decide +kernel
theorem dX11_gauge_47 : decode cX11_gauge 47 = .ok (.ireturn, 1) := by decide +kernel
theorem dX11_gauge_48 : decode cX11_gauge 48 = .ok (.iconst 4, 1) := by decide +kernel
theorem dX11_gauge_49 : decode cX11_gauge 49 = .ok (.ireturn, 1) := by decide +kernel
theorem dX11_gauge_50 : decode cX11_gauge 50 = .ok (.iconst 1, 1) := by decide +kernel
theorem dX11_gauge_51 : decode cX11_gauge 51 = .ok (.ireturn, 1) := by decide +kernel
theorem dX11_holds_0 : decode cX11_holds 0 = .ok (.iload_n 0, 1) := by decide +kernel
theorem dX11_holds_1 : decode cX11_holds 1 = .ok (.tableswitch 69 1 7 #[43, 48, 55, 57, 64, 69, 67], 43) := by decide +kernel
theorem dX11_holds_44 : decode cX11_holds 44 = .ok (.iload_n 1, 1) := by decide +kernel
theorem dX11_holds_45 : decode cX11_holds 45 = .ok (.bipush 12, 2) := by decide +kernel
theorem dX11_holds_47 : decode cX11_holds 47 = .ok (.iadd, 1) := by decide +kernel
theorem dX11_holds_48 : decode cX11_holds 48 = .ok (.ireturn, 1) := by decide +kernel
theorem dX11_holds_49 : decode cX11_holds 49 = .ok (.iconst 2, 1) := by decide +kernel
theorem dX11_holds_50 : decode cX11_holds 50 = .ok (.iload_n 1, 1) := by decide +kernel
theorem dX11_holds_51 : decode cX11_holds 51 = .ok (.bipush 12, 2) := by decide +kernel
theorem dX11_holds_53 : decode cX11_holds 53 = .ok (.iadd, 1) := by decide +kernel
theorem dX11_holds_54 : decode cX11_holds 54 = .ok (.imul, 1) := by decide +kernel
theorem dX11_holds_55 : decode cX11_holds 55 = .ok (.ireturn, 1) := by decide +kernel
theorem dX11_holds_56 : decode cX11_holds 56 = .ok (.iconst 3, 1) := by decide +kernel
theorem dX11_holds_57 : decode cX11_holds 57 = .ok (.ireturn, 1) := by decide +kernel
theorem dX11_holds_58 : decode cX11_holds 58 = .ok (.iload_n 1, 1) := by decide +kernel
theorem dX11_holds_59 : decode cX11_holds 59 = .ok (.bipush 8, 2) := by decide +kernel
theorem dX11_holds_61 : decode cX11_holds 61 = .ok (.iadd, 1) := by decide +kernel
theorem dX11_holds_62 : decode cX11_holds 62 = .ok (.iconst 2, 1) := by decide +kernel
theorem dX11_holds_63 : decode cX11_holds 63 = .ok (.idiv, 1) := by decide +kernel
theorem dX11_holds_64 : decode cX11_holds 64 = .ok (.ireturn, 1) := by decide +kernel
theorem dX11_holds_65 : decode cX11_holds 65 = .ok (.bipush 30, 2) := by decide +kernel
theorem dX11_holds_67 : decode cX11_holds 67 = .ok (.ireturn, 1) := by decide +kernel
theorem dX11_holds_68 : decode cX11_holds 68 = .ok (.iconst 5, 1) := by decide +kernel
theorem dX11_holds_69 : decode cX11_holds 69 = .ok (.ireturn, 1) := by decide +kernel
theorem dX11_holds_70 : decode cX11_holds 70 = .ok (.iload_n 1, 1) := by decide +kernel
theorem dX11_holds_71 : decode cX11_holds 71 = .ok (.bipush 8, 2) := by decide +kernel
theorem dX11_holds_73 : decode cX11_holds 73 = .ok (.iadd, 1) := by decide +kernel
theorem dX11_holds_74 : decode cX11_holds 74 = .ok (.ireturn, 1) := by decide +kernel
theorem dX11_isWhole_0 : decode cX11_isWhole 0 = .ok (.aload_n 0, 1) := by decide +kernel
theorem dX11_isWhole_1 : decode cX11_isWhole 1 = .ok (.iload_n 1, 1) := by decide +kernel
theorem dX11_isWhole_2 : decode cX11_isWhole 2 = .ok (.iconst 5, 1) := by decide +kernel
theorem dX11_isWhole_3 : decode cX11_isWhole 3 = .ok (.invokestatic 56, 3) := by decide +kernel
theorem dX11_isWhole_6 : decode cX11_isWhole 6 = .ok (.iaload, 1) := by decide +kernel
theorem dX11_isWhole_7 : decode cX11_isWhole 7 = .ok (.ifCond .ne 7, 3) := by decide +kernel
theorem dX11_isWhole_10 : decode cX11_isWhole 10 = .ok (.iconst 1, 1) := by decide +kernel
theorem dX11_isWhole_11 : decode cX11_isWhole 11 = .ok (.goto 4, 3) := by decide +kernel
theorem dX11_isWhole_14 : decode cX11_isWhole 14 = .ok (.iconst 0, 1) := by decide +kernel
theorem dX11_isWhole_15 : decode cX11_isWhole 15 = .ok (.ireturn, 1) := by decide +kernel
theorem dX11_isRound_0 : decode cX11_isRound 0 = .ok (.aload_n 0, 1) := by decide +kernel
theorem dX11_isRound_1 : decode cX11_isRound 1 = .ok (.iload_n 1, 1) := by decide +kernel
theorem dX11_isRound_2 : decode cX11_isRound 2 = .ok (.iconst 2, 1) := by decide +kernel
theorem dX11_isRound_3 : decode cX11_isRound 3 = .ok (.invokestatic 56, 3) := by decide +kernel
theorem dX11_isRound_6 : decode cX11_isRound 6 = .ok (.iaload, 1) := by decide +kernel
theorem dX11_isRound_7 : decode cX11_isRound 7 = .ok (.iload_n 2, 1) := by decide +kernel
theorem dX11_isRound_8 : decode cX11_isRound 8 = .ok (.if_icmp .eq 14, 3) := by decide +kernel
theorem dX11_isRound_11 : decode cX11_isRound 11 = .ok (.aload_n 0, 1) := by decide +kernel
theorem dX11_isRound_12 : decode cX11_isRound 12 = .ok (.iload_n 1, 1) := by decide +kernel
theorem dX11_isRound_13 : decode cX11_isRound 13 = .ok (.iconst 3, 1) := by decide +kernel
theorem dX11_isRound_14 : decode cX11_isRound 14 = .ok (.invokestatic 56, 3) := by decide +kernel
theorem dX11_isRound_17 : decode cX11_isRound 17 = .ok (.iaload, 1) := by decide +kernel
theorem dX11_isRound_18 : decode cX11_isRound 18 = .ok (.iload_n 2, 1) := by decide +kernel
theorem dX11_isRound_19 : decode cX11_isRound 19 = .ok (.if_icmp .ne 7, 3) := by decide +kernel
theorem dX11_isRound_22 : decode cX11_isRound 22 = .ok (.iconst 1, 1) := by decide +kernel
theorem dX11_isRound_23 : decode cX11_isRound 23 = .ok (.goto 4, 3) := by decide +kernel
theorem dX11_isRound_26 : decode cX11_isRound 26 = .ok (.iconst 0, 1) := by decide +kernel
theorem dX11_isRound_27 : decode cX11_isRound 27 = .ok (.ireturn, 1) := by decide +kernel
theorem dX11_stretch_0 : decode cX11_stretch 0 = .ok (.aload_n 0, 1) := by decide +kernel
theorem dX11_stretch_1 : decode cX11_stretch 1 = .ok (.iconst 4, 1) := by decide +kernel
theorem dX11_stretch_2 : decode cX11_stretch 2 = .ok (.aload_n 0, 1) := by decide +kernel
theorem dX11_stretch_3 : decode cX11_stretch 3 = .ok (.iload_n 1, 1) := by decide +kernel
theorem dX11_stretch_4 : decode cX11_stretch 4 = .ok (.iconst 2, 1) := by decide +kernel
theorem dX11_stretch_5 : decode cX11_stretch 5 = .ok (.invokestatic 56, 3) := by decide +kernel
theorem dX11_stretch_8 : decode cX11_stretch 8 = .ok (.iaload, 1) := by decide +kernel
theorem dX11_stretch_9 : decode cX11_stretch 9 = .ok (.iadd, 1) := by decide +kernel
theorem dX11_stretch_10 : decode cX11_stretch 10 = .ok (.iaload, 1) := by decide +kernel
theorem dX11_stretch_11 : decode cX11_stretch 11 = .ok (.aload_n 0, 1) := by decide +kernel
theorem dX11_stretch_12 : decode cX11_stretch 12 = .ok (.iconst 4, 1) := by decide +kernel
theorem dX11_stretch_13 : decode cX11_stretch 13 = .ok (.aload_n 0, 1) := by decide +kernel
theorem dX11_stretch_14 : decode cX11_stretch 14 = .ok (.iload_n 1, 1) := by decide +kernel
theorem dX11_stretch_15 : decode cX11_stretch 15 = .ok (.iconst 3, 1) := by decide +kernel
theorem dX11_stretch_16 : decode cX11_stretch 16 = .ok (.invokestatic 56, 3) := by decide +kernel
theorem dX11_stretch_19 : decode cX11_stretch 19 = .ok (.iaload, 1) := by decide +kernel
theorem dX11_stretch_20 : decode cX11_stretch 20 = .ok (.iadd, 1) := by decide +kernel
theorem dX11_stretch_21 : decode cX11_stretch 21 = .ok (.iaload, 1) := by decide +kernel
theorem dX11_stretch_22 : decode cX11_stretch 22 = .ok (.invokestatic 60, 3) := by decide +kernel
theorem dX11_stretch_25 : decode cX11_stretch 25 = .ok (.istore_n 2, 1) := by decide +kernel
theorem dX11_stretch_26 : decode cX11_stretch 26 = .ok (.iconst 0, 1) := by decide +kernel
theorem dX11_stretch_27 : decode cX11_stretch 27 = .ok (.iload_n 2, 1) := by decide +kernel
theorem dX11_stretch_28 : decode cX11_stretch 28 = .ok (.aload_n 0, 1) := by decide +kernel
theorem dX11_stretch_29 : decode cX11_stretch 29 = .ok (.iload_n 1, 1) := by decide +kernel
theorem dX11_stretch_30 : decode cX11_stretch 30 = .ok (.iconst 0, 1) := by decide +kernel
theorem dX11_stretch_31 : decode cX11_stretch 31 = .ok (.invokestatic 56, 3) := by decide +kernel
theorem dX11_stretch_34 : decode cX11_stretch 34 = .ok (.iaload, 1) := by decide +kernel
theorem dX11_stretch_35 : decode cX11_stretch 35 = .ok (.aload_n 0, 1) := by decide +kernel
theorem dX11_stretch_36 : decode cX11_stretch 36 = .ok (.iload_n 1, 1) := by decide +kernel
theorem dX11_stretch_37 : decode cX11_stretch 37 = .ok (.iconst 1, 1) := by decide +kernel
theorem dX11_stretch_38 : decode cX11_stretch 38 = .ok (.invokestatic 56, 3) := by decide +kernel
theorem dX11_stretch_41 : decode cX11_stretch 41 = .ok (.iaload, 1) := by decide +kernel
theorem dX11_stretch_42 : decode cX11_stretch 42 = .ok (.invokestatic 63, 3) := by decide +kernel
theorem dX11_stretch_45 : decode cX11_stretch 45 = .ok (.isub, 1) := by decide +kernel
theorem dX11_stretch_46 : decode cX11_stretch 46 = .ok (.invokestatic 66, 3) := by decide +kernel
theorem dX11_stretch_49 : decode cX11_stretch 49 = .ok (.ireturn, 1) := by decide +kernel
theorem dX11_pull_0 : decode cX11_pull 0 = .ok (.aload_n 0, 1) := by decide +kernel
theorem dX11_pull_1 : decode cX11_pull 1 = .ok (.iload_n 1, 1) := by decide +kernel
theorem dX11_pull_2 : decode cX11_pull 2 = .ok (.invokestatic 69, 3) := by decide +kernel
theorem dX11_pull_5 : decode cX11_pull 5 = .ok (.ifCond .eq 22, 3) := by decide +kernel
theorem dX11_pull_8 : decode cX11_pull 8 = .ok (.aload_n 0, 1) := by decide +kernel
theorem dX11_pull_9 : decode cX11_pull 9 = .ok (.iload_n 1, 1) := by decide +kernel
theorem dX11_pull_10 : decode cX11_pull 10 = .ok (.invokestatic 73, 3) := by decide +kernel
theorem dX11_pull_13 : decode cX11_pull 13 = .ok (.aload_n 0, 1) := by decide +kernel
theorem dX11_pull_14 : decode cX11_pull 14 = .ok (.iload_n 1, 1) := by decide +kernel
theorem dX11_pull_15 : decode cX11_pull 15 = .ok (.iconst 0, 1) := by decide +kernel
theorem dX11_pull_16 : decode cX11_pull 16 = .ok (.invokestatic 56, 3) := by decide +kernel
theorem dX11_pull_19 : decode cX11_pull 19 = .ok (.iaload, 1) := by decide +kernel
theorem dX11_pull_20 : decode cX11_pull 20 = .ok (.invokestatic 77, 3) := by decide +kernel
theorem dX11_pull_23 : decode cX11_pull 23 = .ok (.imul, 1) := by decide +kernel
theorem dX11_pull_24 : decode cX11_pull 24 = .ok (.goto 4, 3) := by decide +kernel
theorem dX11_pull_27 : decode cX11_pull 27 = .ok (.iconst 0, 1) := by decide +kernel
theorem dX11_pull_28 : decode cX11_pull 28 = .ok (.ireturn, 1) := by decide +kernel
theorem dX11_holdsNow_0 : decode cX11_holdsNow 0 = .ok (.iconst 0, 1) := by decide +kernel
theorem dX11_holdsNow_1 : decode cX11_holdsNow 1 = .ok (.aload_n 0, 1) := by decide +kernel
theorem dX11_holdsNow_2 : decode cX11_holdsNow 2 = .ok (.iload_n 1, 1) := by decide +kernel
theorem dX11_holdsNow_3 : decode cX11_holdsNow 3 = .ok (.iconst 0, 1) := by decide +kernel
theorem dX11_holdsNow_4 : decode cX11_holdsNow 4 = .ok (.invokestatic 56, 3) := by decide +kernel
theorem dX11_holdsNow_7 : decode cX11_holdsNow 7 = .ok (.iaload, 1) := by decide +kernel
theorem dX11_holdsNow_8 : decode cX11_holdsNow 8 = .ok (.aload_n 0, 1) := by decide +kernel
theorem dX11_holdsNow_9 : decode cX11_holdsNow 9 = .ok (.iload_n 1, 1) := by decide +kernel
theorem dX11_holdsNow_10 : decode cX11_holdsNow 10 = .ok (.iconst 1, 1) := by decide +kernel
theorem dX11_holdsNow_11 : decode cX11_holdsNow 11 = .ok (.invokestatic 56, 3) := by decide +kernel
theorem dX11_holdsNow_14 : decode cX11_holdsNow 14 = .ok (.iaload, 1) := by decide +kernel
theorem dX11_holdsNow_15 : decode cX11_holdsNow 15 = .ok (.invokestatic 81, 3) := by decide +kernel
theorem dX11_holdsNow_18 : decode cX11_holdsNow 18 = .ok (.aload_n 0, 1) := by decide +kernel
theorem dX11_holdsNow_19 : decode cX11_holdsNow 19 = .ok (.iload_n 1, 1) := by decide +kernel
theorem dX11_holdsNow_20 : decode cX11_holdsNow 20 = .ok (.iconst 4, 1) := by decide +kernel
theorem dX11_holdsNow_21 : decode cX11_holdsNow 21 = .ok (.invokestatic 56, 3) := by decide +kernel
theorem dX11_holdsNow_24 : decode cX11_holdsNow 24 = .ok (.iaload, 1) := by decide +kernel
theorem dX11_holdsNow_25 : decode cX11_holdsNow 25 = .ok (.iconst 5, 1) := by decide +kernel
theorem dX11_holdsNow_26 : decode cX11_holdsNow 26 = .ok (.idiv, 1) := by decide +kernel
theorem dX11_holdsNow_27 : decode cX11_holdsNow 27 = .ok (.isub, 1) := by decide +kernel
theorem dX11_holdsNow_28 : decode cX11_holdsNow 28 = .ok (.aload_n 0, 1) := by decide +kernel
theorem dX11_holdsNow_29 : decode cX11_holdsNow 29 = .ok (.iconst 3, 1) := by decide +kernel
theorem dX11_holdsNow_30 : decode cX11_holdsNow 30 = .ok (.iaload, 1) := by decide +kernel
theorem dX11_holdsNow_31 : decode cX11_holdsNow 31 = .ok (.iconst 2, 1) := by decide +kernel
theorem dX11_holdsNow_32 : decode cX11_holdsNow 32 = .ok (.idiv, 1) := by decide +kernel
theorem dX11_holdsNow_33 : decode cX11_holdsNow 33 = .ok (.isub, 1) := by decide +kernel
theorem dX11_holdsNow_34 : decode cX11_holdsNow 34 = .ok (.invokestatic 66, 3) := by decide +kernel
theorem dX11_holdsNow_37 : decode cX11_holdsNow 37 = .ok (.ireturn, 1) := by decide +kernel
theorem dX11_isOver_0 : decode cX11_isOver 0 = .ok (.aload_n 0, 1) := by decide +kernel
theorem dX11_isOver_1 : decode cX11_isOver 1 = .ok (.iload_n 1, 1) := by decide +kernel
theorem dX11_isOver_2 : decode cX11_isOver 2 = .ok (.invokestatic 69, 3) := by decide +kernel
theorem dX11_isOver_5 : decode cX11_isOver 5 = .ok (.ifCond .eq 20, 3) := by decide +kernel
theorem dX11_isOver_8 : decode cX11_isOver 8 = .ok (.aload_n 0, 1) := by decide +kernel
theorem dX11_isOver_9 : decode cX11_isOver 9 = .ok (.iload_n 1, 1) := by decide +kernel
theorem dX11_isOver_10 : decode cX11_isOver 10 = .ok (.invokestatic 73, 3) := by decide +kernel
theorem dX11_isOver_13 : decode cX11_isOver 13 = .ok (.aload_n 0, 1) := by decide +kernel
theorem dX11_isOver_14 : decode cX11_isOver 14 = .ok (.iload_n 1, 1) := by decide +kernel
theorem dX11_isOver_15 : decode cX11_isOver 15 = .ok (.invokestatic 84, 3) := by decide +kernel
theorem dX11_isOver_18 : decode cX11_isOver 18 = .ok (.if_icmp .le 7, 3) := by decide +kernel
theorem dX11_isOver_21 : decode cX11_isOver 21 = .ok (.iconst 1, 1) := by decide +kernel
theorem dX11_isOver_22 : decode cX11_isOver 22 = .ok (.goto 4, 3) := by decide +kernel
theorem dX11_isOver_25 : decode cX11_isOver 25 = .ok (.iconst 0, 1) := by decide +kernel
theorem dX11_isOver_26 : decode cX11_isOver 26 = .ok (.ireturn, 1) := by decide +kernel
theorem dX11_stings_0 : decode cX11_stings 0 = .ok (.aload_n 0, 1) := by decide +kernel
theorem dX11_stings_1 : decode cX11_stings 1 = .ok (.bipush 11, 2) := by decide +kernel
theorem dX11_stings_3 : decode cX11_stings 3 = .ok (.iload_n 1, 1) := by decide +kernel
theorem dX11_stings_4 : decode cX11_stings 4 = .ok (.iadd, 1) := by decide +kernel
theorem dX11_stings_5 : decode cX11_stings 5 = .ok (.bipush 99, 2) := by decide +kernel
theorem dX11_stings_7 : decode cX11_stings 7 = .ok (.aload_n 0, 1) := by decide +kernel
theorem dX11_stings_8 : decode cX11_stings 8 = .ok (.bipush 11, 2) := by decide +kernel
theorem dX11_stings_10 : decode cX11_stings 10 = .ok (.iload_n 1, 1) := by decide +kernel
theorem dX11_stings_11 : decode cX11_stings 11 = .ok (.iadd, 1) := by decide +kernel
theorem dX11_stings_12 : decode cX11_stings 12 = .ok (.iaload, 1) := by decide +kernel
theorem dX11_stings_13 : decode cX11_stings 13 = .ok (.iconst 1, 1) := by decide +kernel
theorem dX11_stings_14 : decode cX11_stings 14 = .ok (.iadd, 1) := by decide +kernel
theorem dX11_stings_15 : decode cX11_stings 15 = .ok (.invokestatic 87, 3) := by decide +kernel
theorem dX11_stings_18 : decode cX11_stings 18 = .ok (.iastore, 1) := by decide +kernel
theorem dX11_stings_19 : decode cX11_stings 19 = .ok (.return_, 1) := by decide +kernel
theorem dX11_tries_0 : decode cX11_tries 0 = .ok (.iconst 0, 1) := by decide +kernel
theorem dX11_tries_1 : decode cX11_tries 1 = .ok (.istore_n 1, 1) := by decide +kernel
theorem dX11_tries_2 : decode cX11_tries 2 = .ok (.iconst 0, 1) := by decide +kernel
theorem dX11_tries_3 : decode cX11_tries 3 = .ok (.istore_n 2, 1) := by decide +kernel
theorem dX11_tries_4 : decode cX11_tries 4 = .ok (.iload_n 2, 1) := by decide +kernel
theorem dX11_tries_5 : decode cX11_tries 5 = .ok (.aload_n 0, 1) := by decide +kernel
theorem dX11_tries_6 : decode cX11_tries 6 = .ok (.iconst 1, 1) := by decide +kernel
theorem dX11_tries_7 : decode cX11_tries 7 = .ok (.iaload, 1) := by decide +kernel
theorem dX11_tries_8 : decode cX11_tries 8 = .ok (.if_icmp .ge 27, 3) := by decide +kernel
theorem dX11_tries_11 : decode cX11_tries 11 = .ok (.iload_n 1, 1) := by decide +kernel
theorem dX11_tries_12 : decode cX11_tries 12 = .ok (.aload_n 0, 1) := by decide +kernel
theorem dX11_tries_13 : decode cX11_tries 13 = .ok (.iload_n 2, 1) := by decide +kernel
theorem dX11_tries_14 : decode cX11_tries 14 = .ok (.invokestatic 90, 3) := by decide +kernel
theorem dX11_tries_17 : decode cX11_tries 17 = .ok (.ifCond .eq 9, 3) := by decide +kernel
theorem dX11_tries_20 : decode cX11_tries 20 = .ok (.iconst 1, 1) := by decide +kernel
theorem dX11_tries_21 : decode cX11_tries 21 = .ok (.iload_n 2, 1) := by decide +kernel
theorem dX11_tries_22 : decode cX11_tries 22 = .ok (.ishl, 1) := by decide +kernel
theorem dX11_tries_23 : decode cX11_tries 23 = .ok (.goto 4, 3) := by decide +kernel
theorem dX11_tries_26 : decode cX11_tries 26 = .ok (.iconst 0, 1) := by decide +kernel
theorem dX11_tries_27 : decode cX11_tries 27 = .ok (.ior, 1) := by decide +kernel
theorem dX11_tries_28 : decode cX11_tries 28 = .ok (.istore_n 1, 1) := by decide +kernel
theorem dX11_tries_29 : decode cX11_tries 29 = .ok (.iinc 2 1, 3) := by decide +kernel
theorem dX11_tries_32 : decode cX11_tries 32 = .ok (.goto (-28), 3) := by decide +kernel
theorem dX11_tries_35 : decode cX11_tries 35 = .ok (.iconst 0, 1) := by decide +kernel
theorem dX11_tries_36 : decode cX11_tries 36 = .ok (.istore_n 2, 1) := by decide +kernel
theorem dX11_tries_37 : decode cX11_tries 37 = .ok (.iload_n 2, 1) := by decide +kernel
theorem dX11_tries_38 : decode cX11_tries 38 = .ok (.aload_n 0, 1) := by decide +kernel
theorem dX11_tries_39 : decode cX11_tries 39 = .ok (.iconst 1, 1) := by decide +kernel
theorem dX11_tries_40 : decode cX11_tries 40 = .ok (.iaload, 1) := by decide +kernel
theorem dX11_tries_41 : decode cX11_tries 41 = .ok (.if_icmp .ge 50, 3) := by decide +kernel
theorem dX11_tries_44 : decode cX11_tries 44 = .ok (.iload_n 1, 1) := by decide +kernel
theorem dX11_tries_45 : decode cX11_tries 45 = .ok (.iload_n 2, 1) := by decide +kernel
theorem dX11_tries_46 : decode cX11_tries 46 = .ok (.invokestatic 93, 3) := by decide +kernel
theorem dX11_tries_49 : decode cX11_tries 49 = .ok (.ifCond .ne 6, 3) := by decide +kernel
theorem dX11_tries_52 : decode cX11_tries 52 = .ok (.goto 33, 3) := by decide +kernel
theorem dX11_tries_55 : decode cX11_tries 55 = .ok (.aload_n 0, 1) := by decide +kernel
theorem dX11_tries_56 : decode cX11_tries 56 = .ok (.iload_n 2, 1) := by decide +kernel
theorem dX11_tries_57 : decode cX11_tries 57 = .ok (.iconst 5, 1) := by decide +kernel
theorem dX11_tries_58 : decode cX11_tries 58 = .ok (.invokestatic 56, 3) := by decide +kernel
theorem dX11_tries_61 : decode cX11_tries 61 = .ok (.iconst 1, 1) := by decide +kernel
theorem dX11_tries_62 : decode cX11_tries 62 = .ok (.iastore, 1) := by decide +kernel
theorem dX11_tries_63 : decode cX11_tries 63 = .ok (.aload_n 0, 1) := by decide +kernel
theorem dX11_tries_64 : decode cX11_tries 64 = .ok (.aload_n 0, 1) := by decide +kernel
theorem dX11_tries_65 : decode cX11_tries 65 = .ok (.iload_n 2, 1) := by decide +kernel
theorem dX11_tries_66 : decode cX11_tries 66 = .ok (.iconst 2, 1) := by decide +kernel
theorem dX11_tries_67 : decode cX11_tries 67 = .ok (.invokestatic 56, 3) := by decide +kernel
theorem dX11_tries_70 : decode cX11_tries 70 = .ok (.iaload, 1) := by decide +kernel
theorem dX11_tries_71 : decode cX11_tries 71 = .ok (.invokestatic 97, 3) := by decide +kernel
theorem dX11_tries_74 : decode cX11_tries 74 = .ok (.aload_n 0, 1) := by decide +kernel
theorem dX11_tries_75 : decode cX11_tries 75 = .ok (.aload_n 0, 1) := by decide +kernel
theorem dX11_tries_76 : decode cX11_tries 76 = .ok (.iload_n 2, 1) := by decide +kernel
theorem dX11_tries_77 : decode cX11_tries 77 = .ok (.iconst 3, 1) := by decide +kernel
theorem dX11_tries_78 : decode cX11_tries 78 = .ok (.invokestatic 56, 3) := by decide +kernel
theorem dX11_tries_81 : decode cX11_tries 81 = .ok (.iaload, 1) := by decide +kernel
theorem dX11_tries_82 : decode cX11_tries 82 = .ok (.invokestatic 97, 3) := by decide +kernel
theorem dX11_tries_85 : decode cX11_tries 85 = .ok (.iinc 2 1, 3) := by decide +kernel
theorem dX11_tries_88 : decode cX11_tries 88 = .ok (.goto (-51), 3) := by decide +kernel
theorem dX11_tries_91 : decode cX11_tries 91 = .ok (.iload_n 1, 1) := by decide +kernel
theorem dX11_tries_92 : decode cX11_tries 92 = .ok (.ireturn, 1) := by decide +kernel
theorem dX11_pulled_0 : decode cX11_pulled 0 = .ok (.iconst 0, 1) := by decide +kernel
theorem dX11_pulled_1 : decode cX11_pulled 1 = .ok (.istore_n 3, 1) := by decide +kernel
theorem dX11_pulled_2 : decode cX11_pulled 2 = .ok (.iconst 0, 1) := by decide +kernel
theorem dX11_pulled_3 : decode cX11_pulled 3 = .ok (.istore 4, 2) := by decide +kernel
theorem dX11_pulled_5 : decode cX11_pulled 5 = .ok (.iload 4, 2) := by decide +kernel
theorem dX11_pulled_7 : decode cX11_pulled 7 = .ok (.aload_n 0, 1) := by decide +kernel
theorem dX11_pulled_8 : decode cX11_pulled 8 = .ok (.iconst 1, 1) := by decide +kernel
theorem dX11_pulled_9 : decode cX11_pulled 9 = .ok (.iaload, 1) := by decide +kernel
theorem dX11_pulled_10 : decode cX11_pulled 10 = .ok (.if_icmp .ge 85, 3) := by decide +kernel
theorem dX11_pulled_13 : decode cX11_pulled 13 = .ok (.aload_n 0, 1) := by decide +kernel
theorem dX11_pulled_14 : decode cX11_pulled 14 = .ok (.iload 4, 2) := by decide +kernel
theorem dX11_pulled_16 : decode cX11_pulled 16 = .ok (.iload_n 1, 1) := by decide +kernel
theorem dX11_pulled_17 : decode cX11_pulled 17 = .ok (.invokestatic 101, 3) := by decide +kernel
theorem dX11_pulled_20 : decode cX11_pulled 20 = .ok (.ifCond .ne 6, 3) := by decide +kernel
theorem dX11_pulled_23 : decode cX11_pulled 23 = .ok (.goto 66, 3) := by decide +kernel
theorem dX11_pulled_26 : decode cX11_pulled 26 = .ok (.aload_n 0, 1) := by decide +kernel
theorem dX11_pulled_27 : decode cX11_pulled 27 = .ok (.iload 4, 2) := by decide +kernel
theorem dX11_pulled_29 : decode cX11_pulled 29 = .ok (.iconst 2, 1) := by decide +kernel
theorem dX11_pulled_30 : decode cX11_pulled 30 = .ok (.invokestatic 56, 3) := by decide +kernel
theorem dX11_pulled_33 : decode cX11_pulled 33 = .ok (.iaload, 1) := by decide +kernel
theorem dX11_pulled_34 : decode cX11_pulled 34 = .ok (.iload_n 1, 1) := by decide +kernel
theorem dX11_pulled_35 : decode cX11_pulled 35 = .ok (.if_icmp .ne 14, 3) := by decide +kernel
theorem dX11_pulled_38 : decode cX11_pulled 38 = .ok (.aload_n 0, 1) := by decide +kernel
theorem dX11_pulled_39 : decode cX11_pulled 39 = .ok (.iload 4, 2) := by decide +kernel
theorem dX11_pulled_41 : decode cX11_pulled 41 = .ok (.iconst 3, 1) := by decide +kernel
theorem dX11_pulled_42 : decode cX11_pulled 42 = .ok (.invokestatic 56, 3) := by decide +kernel
theorem dX11_pulled_45 : decode cX11_pulled 45 = .ok (.iaload, 1) := by decide +kernel
theorem dX11_pulled_46 : decode cX11_pulled 46 = .ok (.goto 11, 3) := by decide +kernel
theorem dX11_pulled_49 : decode cX11_pulled 49 = .ok (.aload_n 0, 1) := by decide +kernel
theorem dX11_pulled_50 : decode cX11_pulled 50 = .ok (.iload 4, 2) := by decide +kernel
theorem dX11_pulled_52 : decode cX11_pulled 52 = .ok (.iconst 2, 1) := by decide +kernel
theorem dX11_pulled_53 : decode cX11_pulled 53 = .ok (.invokestatic 56, 3) := by decide +kernel
theorem dX11_pulled_56 : decode cX11_pulled 56 = .ok (.iaload, 1) := by decide +kernel
theorem dX11_pulled_57 : decode cX11_pulled 57 = .ok (.istore 5, 2) := by decide +kernel
theorem dX11_pulled_59 : decode cX11_pulled 59 = .ok (.iload_n 3, 1) := by decide +kernel
theorem dX11_pulled_60 : decode cX11_pulled 60 = .ok (.aload_n 0, 1) := by decide +kernel
theorem dX11_pulled_61 : decode cX11_pulled 61 = .ok (.iconst 4, 1) := by decide +kernel
theorem dX11_pulled_62 : decode cX11_pulled 62 = .ok (.iload 5, 2) := by decide +kernel
theorem dX11_pulled_64 : decode cX11_pulled 64 = .ok (.iadd, 1) := by decide +kernel
theorem dX11_pulled_65 : decode cX11_pulled 65 = .ok (.iaload, 1) := by decide +kernel
theorem dX11_pulled_66 : decode cX11_pulled 66 = .ok (.aload_n 0, 1) := by decide +kernel
theorem dX11_pulled_67 : decode cX11_pulled 67 = .ok (.iconst 4, 1) := by decide +kernel
theorem dX11_pulled_68 : decode cX11_pulled 68 = .ok (.iload_n 1, 1) := by decide +kernel
theorem dX11_pulled_69 : decode cX11_pulled 69 = .ok (.iadd, 1) := by decide +kernel
theorem dX11_pulled_70 : decode cX11_pulled 70 = .ok (.iaload, 1) := by decide +kernel
theorem dX11_pulled_71 : decode cX11_pulled 71 = .ok (.isub, 1) := by decide +kernel
theorem dX11_pulled_72 : decode cX11_pulled 72 = .ok (.iload_n 2, 1) := by decide +kernel
theorem dX11_pulled_73 : decode cX11_pulled 73 = .ok (.imul, 1) := by decide +kernel
theorem dX11_pulled_74 : decode cX11_pulled 74 = .ok (.ifCond .le 12, 3) := by decide +kernel
theorem dX11_pulled_77 : decode cX11_pulled 77 = .ok (.aload_n 0, 1) := by decide +kernel
theorem dX11_pulled_78 : decode cX11_pulled 78 = .ok (.iload 4, 2) := by decide +kernel
theorem dX11_pulled_80 : decode cX11_pulled 80 = .ok (.invokestatic 105, 3) := by decide +kernel
theorem dX11_pulled_83 : decode cX11_pulled 83 = .ok (.goto 4, 3) := by decide +kernel
theorem dX11_pulled_86 : decode cX11_pulled 86 = .ok (.iconst 0, 1) := by decide +kernel
theorem dX11_pulled_87 : decode cX11_pulled 87 = .ok (.iadd, 1) := by decide +kernel
theorem dX11_pulled_88 : decode cX11_pulled 88 = .ok (.istore_n 3, 1) := by decide +kernel
theorem dX11_pulled_89 : decode cX11_pulled 89 = .ok (.iinc 4 1, 3) := by decide +kernel
theorem dX11_pulled_92 : decode cX11_pulled 92 = .ok (.goto (-87), 3) := by decide +kernel
theorem dX11_pulled_95 : decode cX11_pulled 95 = .ok (.iload_n 3, 1) := by decide +kernel
theorem dX11_pulled_96 : decode cX11_pulled 96 = .ok (.ireturn, 1) := by decide +kernel
theorem dX11_goesTo_0 : decode cX11_goesTo 0 = .ok (.aload_n 0, 1) := by decide +kernel
theorem dX11_goesTo_1 : decode cX11_goesTo 1 = .ok (.iconst 4, 1) := by decide +kernel
theorem dX11_goesTo_2 : decode cX11_goesTo 2 = .ok (.iload_n 1, 1) := by decide +kernel
theorem dX11_goesTo_3 : decode cX11_goesTo 3 = .ok (.iadd, 1) := by decide +kernel
theorem dX11_goesTo_4 : decode cX11_goesTo 4 = .ok (.iload_n 2, 1) := by decide +kernel
theorem dX11_goesTo_5 : decode cX11_goesTo 5 = .ok (.iastore, 1) := by decide +kernel
theorem dX11_goesTo_6 : decode cX11_goesTo 6 = .ok (.aload_n 0, 1) := by decide +kernel
theorem dX11_goesTo_7 : decode cX11_goesTo 7 = .ok (.invokestatic 108, 3) := by decide +kernel
theorem dX11_goesTo_10 : decode cX11_goesTo 10 = .ok (.ireturn, 1) := by decide +kernel
theorem dX11_year_0 : decode cX11_year 0 = .ok (.aload_n 1, 1) := by decide +kernel
theorem dX11_year_1 : decode cX11_year 1 = .ok (.iconst 2, 1) := by decide +kernel
theorem dX11_year_2 : decode cX11_year 2 = .ok (.dup2, 1) := by decide +kernel
theorem dX11_year_3 : decode cX11_year 3 = .ok (.iaload, 1) := by decide +kernel
theorem dX11_year_4 : decode cX11_year 4 = .ok (.iconst 1, 1) := by decide +kernel
theorem dX11_year_5 : decode cX11_year 5 = .ok (.iadd, 1) := by decide +kernel
theorem dX11_year_6 : decode cX11_year 6 = .ok (.iastore, 1) := by decide +kernel
theorem dX11_year_7 : decode cX11_year 7 = .ok (.iconst 0, 1) := by decide +kernel
theorem dX11_year_8 : decode cX11_year 8 = .ok (.istore_n 2, 1) := by decide +kernel
theorem dX11_year_9 : decode cX11_year 9 = .ok (.iload_n 2, 1) := by decide +kernel
theorem dX11_year_10 : decode cX11_year 10 = .ok (.aload_n 1, 1) := by decide +kernel
theorem dX11_year_11 : decode cX11_year 11 = .ok (.iconst 1, 1) := by decide +kernel
theorem dX11_year_12 : decode cX11_year 12 = .ok (.iaload, 1) := by decide +kernel
theorem dX11_year_13 : decode cX11_year 13 = .ok (.if_icmp .ge 30, 3) := by decide +kernel
theorem dX11_year_16 : decode cX11_year 16 = .ok (.aload_n 1, 1) := by decide +kernel
theorem dX11_year_17 : decode cX11_year 17 = .ok (.iload_n 2, 1) := by decide +kernel
theorem dX11_year_18 : decode cX11_year 18 = .ok (.iconst 4, 1) := by decide +kernel
theorem dX11_year_19 : decode cX11_year 19 = .ok (.invokestatic 56, 3) := by decide +kernel
theorem dX11_year_22 : decode cX11_year 22 = .ok (.bipush 99, 2) := by decide +kernel
theorem dX11_year_24 : decode cX11_year 24 = .ok (.aload_n 1, 1) := by decide +kernel
theorem dX11_year_25 : decode cX11_year 25 = .ok (.iload_n 2, 1) := by decide +kernel
theorem dX11_year_26 : decode cX11_year 26 = .ok (.iconst 4, 1) := by decide +kernel
theorem dX11_year_27 : decode cX11_year 27 = .ok (.invokestatic 56, 3) := by decide +kernel
theorem dX11_year_30 : decode cX11_year 30 = .ok (.iaload, 1) := by decide +kernel
theorem dX11_year_31 : decode cX11_year 31 = .ok (.iconst 1, 1) := by decide +kernel
theorem dX11_year_32 : decode cX11_year 32 = .ok (.iadd, 1) := by decide +kernel
theorem dX11_year_33 : decode cX11_year 33 = .ok (.invokestatic 87, 3) := by decide +kernel
theorem dX11_year_36 : decode cX11_year 36 = .ok (.iastore, 1) := by decide +kernel
theorem dX11_year_37 : decode cX11_year 37 = .ok (.iinc 2 1, 3) := by decide +kernel
theorem dX11_year_40 : decode cX11_year 40 = .ok (.goto (-31), 3) := by decide +kernel
theorem dX11_year_43 : decode cX11_year 43 = .ok (.aload_n 1, 1) := by decide +kernel
theorem dX11_year_44 : decode cX11_year 44 = .ok (.invokestatic 108, 3) := by decide +kernel
theorem dX11_year_47 : decode cX11_year 47 = .ok (.istore_n 2, 1) := by decide +kernel
theorem dX11_year_48 : decode cX11_year 48 = .ok (.aload_n 1, 1) := by decide +kernel
theorem dX11_year_49 : decode cX11_year 49 = .ok (.aload_n 0, 1) := by decide +kernel
theorem dX11_year_50 : decode cX11_year 50 = .ok (.getfield 22, 3) := by decide +kernel
theorem dX11_year_53 : decode cX11_year 53 = .ok (.invokestatic 112, 3) := by decide +kernel
theorem dX11_year_56 : decode cX11_year 56 = .ok (.iconst 0, 1) := by decide +kernel
theorem dX11_year_57 : decode cX11_year 57 = .ok (.istore_n 3, 1) := by decide +kernel
theorem dX11_year_58 : decode cX11_year 58 = .ok (.iload_n 3, 1) := by decide +kernel
theorem dX11_year_59 : decode cX11_year 59 = .ok (.aload_n 1, 1) := by decide +kernel
theorem dX11_year_60 : decode cX11_year 60 = .ok (.iconst 0, 1) := by decide +kernel
theorem dX11_year_61 : decode cX11_year 61 = .ok (.iaload, 1) := by decide +kernel
theorem dX11_year_62 : decode cX11_year 62 = .ok (.if_icmp .ge 57, 3) := by decide +kernel
theorem dX11_year_65 : decode cX11_year 65 = .ok (.aload_n 0, 1) := by decide +kernel
theorem dX11_year_66 : decode cX11_year 66 = .ok (.getfield 22, 3) := by decide +kernel
theorem dX11_year_69 : decode cX11_year 69 = .ok (.iload_n 3, 1) := by decide +kernel
theorem dX11_year_70 : decode cX11_year 70 = .ok (.iconst 1, 1) := by decide +kernel
theorem dX11_year_71 : decode cX11_year 71 = .ok (.invokestatic 116, 3) := by decide +kernel
theorem dX11_year_74 : decode cX11_year 74 = .ok (.aload_n 0, 1) := by decide +kernel
theorem dX11_year_75 : decode cX11_year 75 = .ok (.getfield 22, 3) := by decide +kernel
theorem dX11_year_78 : decode cX11_year 78 = .ok (.iload_n 3, 1) := by decide +kernel
theorem dX11_year_79 : decode cX11_year 79 = .ok (.iconst (-1), 1) := by decide +kernel
theorem dX11_year_80 : decode cX11_year 80 = .ok (.invokestatic 116, 3) := by decide +kernel
theorem dX11_year_83 : decode cX11_year 83 = .ok (.isub, 1) := by decide +kernel
theorem dX11_year_84 : decode cX11_year 84 = .ok (.istore 4, 2) := by decide +kernel
theorem dX11_year_86 : decode cX11_year 86 = .ok (.aload_n 1, 1) := by decide +kernel
theorem dX11_year_87 : decode cX11_year 87 = .ok (.iconst 4, 1) := by decide +kernel
theorem dX11_year_88 : decode cX11_year 88 = .ok (.iload_n 3, 1) := by decide +kernel
theorem dX11_year_89 : decode cX11_year 89 = .ok (.iadd, 1) := by decide +kernel
theorem dX11_year_90 : decode cX11_year 90 = .ok (.dup2, 1) := by decide +kernel
theorem dX11_year_91 : decode cX11_year 91 = .ok (.iaload, 1) := by decide +kernel
theorem dX11_year_92 : decode cX11_year 92 = .ok (.iload 4, 2) := by decide +kernel
theorem dX11_year_94 : decode cX11_year 94 = .ok (.ifCond .le 7, 3) := by decide +kernel
theorem dX11_year_97 : decode cX11_year 97 = .ok (.iconst 1, 1) := by decide +kernel
theorem dX11_year_98 : decode cX11_year 98 = .ok (.goto 13, 3) := by decide +kernel
theorem dX11_year_101 : decode cX11_year 101 = .ok (.iload 4, 2) := by decide +kernel
theorem dX11_year_103 : decode cX11_year 103 = .ok (.ifCond .ge 7, 3) := by decide +kernel
theorem dX11_year_106 : decode cX11_year 106 = .ok (.iconst (-1), 1) := by decide +kernel
theorem dX11_year_107 : decode cX11_year 107 = .ok (.goto 4, 3) := by decide +kernel
theorem dX11_year_110 : decode cX11_year 110 = .ok (.iconst 0, 1) := by decide +kernel
theorem dX11_year_111 : decode cX11_year 111 = .ok (.iadd, 1) := by decide +kernel
theorem dX11_year_112 : decode cX11_year 112 = .ok (.iastore, 1) := by decide +kernel
theorem dX11_year_113 : decode cX11_year 113 = .ok (.iinc 3 1, 3) := by decide +kernel
theorem dX11_year_116 : decode cX11_year 116 = .ok (.goto (-58), 3) := by decide +kernel
theorem dX11_year_119 : decode cX11_year 119 = .ok (.iload_n 2, 1) := by decide +kernel
theorem dX11_year_120 : decode cX11_year 120 = .ok (.aload_n 1, 1) := by decide +kernel
theorem dX11_year_121 : decode cX11_year 121 = .ok (.invokestatic 108, 3) := by decide +kernel
theorem dX11_year_124 : decode cX11_year 124 = .ok (.ior, 1) := by decide +kernel
theorem dX11_year_125 : decode cX11_year 125 = .ok (.ireturn, 1) := by decide +kernel
theorem dX11_snappedSet_0 : decode cX11_snappedSet 0 = .ok (.iconst 0, 1) := by decide +kernel
theorem dX11_snappedSet_1 : decode cX11_snappedSet 1 = .ok (.istore_n 1, 1) := by decide +kernel
theorem dX11_snappedSet_2 : decode cX11_snappedSet 2 = .ok (.iconst 0, 1) := by decide +kernel
theorem dX11_snappedSet_3 : decode cX11_snappedSet 3 = .ok (.istore_n 2, 1) := by decide +kernel
theorem dX11_snappedSet_4 : decode cX11_snappedSet 4 = .ok (.iload_n 2, 1) := by decide +kernel
theorem dX11_snappedSet_5 : decode cX11_snappedSet 5 = .ok (.aload_n 0, 1) := by decide +kernel
theorem dX11_snappedSet_6 : decode cX11_snappedSet 6 = .ok (.iconst 1, 1) := by decide +kernel
theorem dX11_snappedSet_7 : decode cX11_snappedSet 7 = .ok (.iaload, 1) := by decide +kernel
theorem dX11_snappedSet_8 : decode cX11_snappedSet 8 = .ok (.if_icmp .ge 27, 3) := by decide +kernel
theorem dX11_snappedSet_11 : decode cX11_snappedSet 11 = .ok (.iload_n 1, 1) := by decide +kernel
theorem dX11_snappedSet_12 : decode cX11_snappedSet 12 = .ok (.aload_n 0, 1) := by decide +kernel
theorem dX11_snappedSet_13 : decode cX11_snappedSet 13 = .ok (.iload_n 2, 1) := by decide +kernel
theorem dX11_snappedSet_14 : decode cX11_snappedSet 14 = .ok (.invokestatic 69, 3) := by decide +kernel
theorem dX11_snappedSet_17 : decode cX11_snappedSet 17 = .ok (.ifCond .eq 7, 3) := by decide +kernel
theorem dX11_snappedSet_20 : decode cX11_snappedSet 20 = .ok (.iconst 0, 1) := by decide +kernel
theorem dX11_snappedSet_21 : decode cX11_snappedSet 21 = .ok (.goto 6, 3) := by decide +kernel
theorem dX11_snappedSet_24 : decode cX11_snappedSet 24 = .ok (.iconst 1, 1) := by decide +kernel
theorem dX11_snappedSet_25 : decode cX11_snappedSet 25 = .ok (.iload_n 2, 1) := by decide +kernel
theorem dX11_snappedSet_26 : decode cX11_snappedSet 26 = .ok (.ishl, 1) := by decide +kernel
theorem dX11_snappedSet_27 : decode cX11_snappedSet 27 = .ok (.ior, 1) := by decide +kernel
theorem dX11_snappedSet_28 : decode cX11_snappedSet 28 = .ok (.istore_n 1, 1) := by decide +kernel
theorem dX11_snappedSet_29 : decode cX11_snappedSet 29 = .ok (.iinc 2 1, 3) := by decide +kernel
theorem dX11_snappedSet_32 : decode cX11_snappedSet 32 = .ok (.goto (-28), 3) := by decide +kernel
theorem dX11_snappedSet_35 : decode cX11_snappedSet 35 = .ok (.iload_n 1, 1) := by decide +kernel
theorem dX11_snappedSet_36 : decode cX11_snappedSet 36 = .ok (.ireturn, 1) := by decide +kernel
theorem dX11_wholeSet_0 : decode cX11_wholeSet 0 = .ok (.iconst 1, 1) := by decide +kernel
theorem dX11_wholeSet_1 : decode cX11_wholeSet 1 = .ok (.aload_n 0, 1) := by decide +kernel
theorem dX11_wholeSet_2 : decode cX11_wholeSet 2 = .ok (.iconst 1, 1) := by decide +kernel
theorem dX11_wholeSet_3 : decode cX11_wholeSet 3 = .ok (.iaload, 1) := by decide +kernel
theorem dX11_wholeSet_4 : decode cX11_wholeSet 4 = .ok (.ishl, 1) := by decide +kernel
theorem dX11_wholeSet_5 : decode cX11_wholeSet 5 = .ok (.iconst 1, 1) := by decide +kernel
theorem dX11_wholeSet_6 : decode cX11_wholeSet 6 = .ok (.isub, 1) := by decide +kernel
theorem dX11_wholeSet_7 : decode cX11_wholeSet 7 = .ok (.aload_n 0, 1) := by decide +kernel
theorem dX11_wholeSet_8 : decode cX11_wholeSet 8 = .ok (.invokestatic 120, 3) := by decide +kernel
theorem dX11_wholeSet_11 : decode cX11_wholeSet 11 = .ok (.iconst (-1), 1) := by decide +kernel
theorem dX11_wholeSet_12 : decode cX11_wholeSet 12 = .ok (.ixor, 1) := by decide +kernel
theorem dX11_wholeSet_13 : decode cX11_wholeSet 13 = .ok (.iand, 1) := by decide +kernel
theorem dX11_wholeSet_14 : decode cX11_wholeSet 14 = .ok (.ireturn, 1) := by decide +kernel
theorem dX11_here_0 : decode cX11_here 0 = .ok (.aload_n 0, 1) := by decide +kernel
theorem dX11_here_1 : decode cX11_here 1 = .ok (.getfield 123, 3) := by decide +kernel
theorem dX11_here_4 : decode cX11_here 4 = .ok (.aload_n 0, 1) := by decide +kernel
theorem dX11_here_5 : decode cX11_here 5 = .ok (.getfield 127, 3) := by decide +kernel
theorem dX11_here_8 : decode cX11_here 8 = .ok (.if_icmp .ge 24, 3) := by decide +kernel
theorem dX11_here_11 : decode cX11_here 11 = .ok (.aload_n 0, 1) := by decide +kernel
theorem dX11_here_12 : decode cX11_here 12 = .ok (.getfield 49, 3) := by decide +kernel
theorem dX11_here_15 : decode cX11_here 15 = .ok (.aload_n 0, 1) := by decide +kernel
theorem dX11_here_16 : decode cX11_here 16 = .ok (.getfield 130, 3) := by decide +kernel
theorem dX11_here_19 : decode cX11_here 19 = .ok (.aload_n 0, 1) := by decide +kernel
theorem dX11_here_20 : decode cX11_here 20 = .ok (.getfield 123, 3) := by decide +kernel
theorem dX11_here_23 : decode cX11_here 23 = .ok (.iadd, 1) := by decide +kernel
theorem dX11_here_24 : decode cX11_here 24 = .ok (.iaload, 1) := by decide +kernel
theorem dX11_here_25 : decode cX11_here 25 = .ok (.sipush 255, 3) := by decide +kernel
theorem dX11_here_28 : decode cX11_here 28 = .ok (.iand, 1) := by decide +kernel
theorem dX11_here_29 : decode cX11_here 29 = .ok (.goto 4, 3) := by decide +kernel
theorem dX11_here_32 : decode cX11_here 32 = .ok (.iconst (-1), 1) := by decide +kernel
theorem dX11_here_33 : decode cX11_here 33 = .ok (.ireturn, 1) := by decide +kernel
theorem dX11_readsNumber_0 : decode cX11_readsNumber 0 = .ok (.aload_n 0, 1) := by decide +kernel
theorem dX11_readsNumber_1 : decode cX11_readsNumber 1 = .ok (.getfield 25, 3) := by decide +kernel
theorem dX11_readsNumber_4 : decode cX11_readsNumber 4 = .ok (.iload_n 1, 1) := by decide +kernel
theorem dX11_readsNumber_5 : decode cX11_readsNumber 5 = .ok (.iconst 0, 1) := by decide +kernel
theorem dX11_readsNumber_6 : decode cX11_readsNumber 6 = .ok (.iastore, 1) := by decide +kernel
theorem dX11_readsNumber_7 : decode cX11_readsNumber 7 = .ok (.iconst 0, 1) := by decide +kernel
theorem dX11_readsNumber_8 : decode cX11_readsNumber 8 = .ok (.istore_n 3, 1) := by decide +kernel
theorem dX11_readsNumber_9 : decode cX11_readsNumber 9 = .ok (.iload_n 3, 1) := by decide +kernel
theorem dX11_readsNumber_10 : decode cX11_readsNumber 10 = .ok (.iload_n 2, 1) := by decide +kernel
theorem dX11_readsNumber_11 : decode cX11_readsNumber 11 = .ok (.if_icmp .ge 58, 3) := by decide +kernel
theorem dX11_readsNumber_14 : decode cX11_readsNumber 14 = .ok (.aload_n 0, 1) := by decide +kernel
theorem dX11_readsNumber_15 : decode cX11_readsNumber 15 = .ok (.invokevirtual 133, 3) := by decide +kernel
theorem dX11_readsNumber_18 : decode cX11_readsNumber 18 = .ok (.bipush 48, 2) := by decide +kernel
theorem dX11_readsNumber_20 : decode cX11_readsNumber 20 = .ok (.bipush 57, 2) := by decide +kernel
theorem dX11_readsNumber_22 : decode cX11_readsNumber 22 = .ok (.invokestatic 52, 3) := by decide +kernel
theorem dX11_readsNumber_25 : decode cX11_readsNumber 25 = .ok (.ifCond .ne 5, 3) := by decide +kernel
theorem dX11_readsNumber_28 : decode cX11_readsNumber 28 = .ok (.iconst 0, 1) := by decide +kernel
theorem dX11_readsNumber_29 : decode cX11_readsNumber 29 = .ok (.ireturn, 1) := by decide +kernel
theorem dX11_readsNumber_30 : decode cX11_readsNumber 30 = .ok (.aload_n 0, 1) := by decide +kernel
theorem dX11_readsNumber_31 : decode cX11_readsNumber 31 = .ok (.getfield 25, 3) := by decide +kernel
theorem dX11_readsNumber_34 : decode cX11_readsNumber 34 = .ok (.iload_n 1, 1) := by decide +kernel
theorem dX11_readsNumber_35 : decode cX11_readsNumber 35 = .ok (.bipush 10, 2) := by decide +kernel
theorem dX11_readsNumber_37 : decode cX11_readsNumber 37 = .ok (.aload_n 0, 1) := by decide +kernel
theorem dX11_readsNumber_38 : decode cX11_readsNumber 38 = .ok (.getfield 25, 3) := by decide +kernel
theorem dX11_readsNumber_41 : decode cX11_readsNumber 41 = .ok (.iload_n 1, 1) := by decide +kernel
theorem dX11_readsNumber_42 : decode cX11_readsNumber 42 = .ok (.iaload, 1) := by decide +kernel
theorem dX11_readsNumber_43 : decode cX11_readsNumber 43 = .ok (.imul, 1) := by decide +kernel
theorem dX11_readsNumber_44 : decode cX11_readsNumber 44 = .ok (.aload_n 0, 1) := by decide +kernel
theorem dX11_readsNumber_45 : decode cX11_readsNumber 45 = .ok (.invokevirtual 133, 3) := by decide +kernel
theorem dX11_readsNumber_48 : decode cX11_readsNumber 48 = .ok (.iadd, 1) := by decide +kernel
theorem dX11_readsNumber_49 : decode cX11_readsNumber 49 = .ok (.bipush 48, 2) := by decide +kernel
theorem dX11_readsNumber_51 : decode cX11_readsNumber 51 = .ok (.isub, 1) := by decide +kernel
theorem dX11_readsNumber_52 : decode cX11_readsNumber 52 = .ok (.iastore, 1) := by decide +kernel
theorem dX11_readsNumber_53 : decode cX11_readsNumber 53 = .ok (.aload_n 0, 1) := by decide +kernel
theorem dX11_readsNumber_54 : decode cX11_readsNumber 54 = .ok (.dup, 1) := by decide +kernel
theorem dX11_readsNumber_55 : decode cX11_readsNumber 55 = .ok (.getfield 123, 3) := by decide +kernel
theorem dX11_readsNumber_58 : decode cX11_readsNumber 58 = .ok (.iconst 1, 1) := by decide +kernel
theorem dX11_readsNumber_59 : decode cX11_readsNumber 59 = .ok (.iadd, 1) := by decide +kernel
theorem dX11_readsNumber_60 : decode cX11_readsNumber 60 = .ok (.putfield 123, 3) := by decide +kernel
theorem dX11_readsNumber_63 : decode cX11_readsNumber 63 = .ok (.iinc 3 1, 3) := by decide +kernel
theorem dX11_readsNumber_66 : decode cX11_readsNumber 66 = .ok (.goto (-57), 3) := by decide +kernel
theorem dX11_readsNumber_69 : decode cX11_readsNumber 69 = .ok (.iconst 1, 1) := by decide +kernel
theorem dX11_readsNumber_70 : decode cX11_readsNumber 70 = .ok (.ireturn, 1) := by decide +kernel
theorem dX11_readsStatement_0 : decode cX11_readsStatement 0 = .ok (.aload_n 0, 1) := by decide +kernel
theorem dX11_readsStatement_1 : decode cX11_readsStatement 1 = .ok (.invokevirtual 133, 3) := by decide +kernel
theorem dX11_readsStatement_4 : decode cX11_readsStatement 4 = .ok (.istore_n 1, 1) := by decide +kernel
theorem dX11_readsStatement_5 : decode cX11_readsStatement 5 = .ok (.aload_n 0, 1) := by decide +kernel
theorem dX11_readsStatement_6 : decode cX11_readsStatement 6 = .ok (.dup, 1) := by decide +kernel
theorem dX11_readsStatement_7 : decode cX11_readsStatement 7 = .ok (.getfield 123, 3) := by decide +kernel
theorem dX11_readsStatement_10 : decode cX11_readsStatement 10 = .ok (.iconst 1, 1) := by decide +kernel
theorem dX11_readsStatement_11 : decode cX11_readsStatement 11 = .ok (.iadd, 1) := by decide +kernel
theorem dX11_readsStatement_12 : decode cX11_readsStatement 12 = .ok (.putfield 123, 3) := by decide +kernel
theorem dX11_readsStatement_15 : decode cX11_readsStatement 15 = .ok (.iload_n 1, 1) := by decide +kernel
theorem dX11_readsStatement_16 : decode cX11_readsStatement 16 = .ok (.lookupswitch 152 #[(98, 70), (99, 142), (103, 115), (112, 60), (120, 142), (121, 60)], 60) := by decide +kernel
theorem dX11_readsStatement_76 : decode cX11_readsStatement 76 = .ok (.aload_n 0, 1) := by decide +kernel
theorem dX11_readsStatement_77 : decode cX11_readsStatement 77 = .ok (.iconst 0, 1) := by decide +kernel
theorem dX11_readsStatement_78 : decode cX11_readsStatement 78 = .ok (.iconst 2, 1) := by decide +kernel
theorem dX11_readsStatement_79 : decode cX11_readsStatement 79 = .ok (.invokevirtual 137, 3) := by decide +kernel
theorem dX11_readsStatement_82 : decode cX11_readsStatement 82 = .ok (.istore_n 2, 1) := by decide +kernel
theorem dX11_readsStatement_83 : decode cX11_readsStatement 83 = .ok (.goto 97, 3) := by decide +kernel
theorem dX11_readsStatement_86 : decode cX11_readsStatement 86 = .ok (.aload_n 0, 1) := by decide +kernel
theorem dX11_readsStatement_87 : decode cX11_readsStatement 87 = .ok (.iconst 0, 1) := by decide +kernel
theorem dX11_readsStatement_88 : decode cX11_readsStatement 88 = .ok (.iconst 1, 1) := by decide +kernel
theorem dX11_readsStatement_89 : decode cX11_readsStatement 89 = .ok (.invokevirtual 137, 3) := by decide +kernel
theorem dX11_readsStatement_92 : decode cX11_readsStatement 92 = .ok (.ifCond .eq 34, 3) := by decide +kernel
theorem dX11_readsStatement_95 : decode cX11_readsStatement 95 = .ok (.aload_n 0, 1) := by decide +kernel
theorem dX11_readsStatement_96 : decode cX11_readsStatement 96 = .ok (.iconst 1, 1) := by decide +kernel
theorem dX11_readsStatement_97 : decode cX11_readsStatement 97 = .ok (.iconst 1, 1) := by decide +kernel
theorem dX11_readsStatement_98 : decode cX11_readsStatement 98 = .ok (.invokevirtual 137, 3) := by decide +kernel
theorem dX11_readsStatement_101 : decode cX11_readsStatement 101 = .ok (.ifCond .eq 25, 3) := by decide +kernel
theorem dX11_readsStatement_104 : decode cX11_readsStatement 104 = .ok (.aload_n 0, 1) := by decide +kernel
theorem dX11_readsStatement_105 : decode cX11_readsStatement 105 = .ok (.iconst 2, 1) := by decide +kernel
theorem dX11_readsStatement_106 : decode cX11_readsStatement 106 = .ok (.iconst 1, 1) := by decide +kernel
theorem dX11_readsStatement_107 : decode cX11_readsStatement 107 = .ok (.invokevirtual 137, 3) := by decide +kernel
theorem dX11_readsStatement_110 : decode cX11_readsStatement 110 = .ok (.ifCond .eq 16, 3) := by decide +kernel
theorem dX11_readsStatement_113 : decode cX11_readsStatement 113 = .ok (.aload_n 0, 1) := by decide +kernel
theorem dX11_readsStatement_114 : decode cX11_readsStatement 114 = .ok (.iconst 3, 1) := by decide +kernel
theorem dX11_readsStatement_115 : decode cX11_readsStatement 115 = .ok (.iconst 1, 1) := by decide +kernel
theorem dX11_readsStatement_116 : decode cX11_readsStatement 116 = .ok (.invokevirtual 137, 3) := by decide +kernel
theorem dX11_readsStatement_119 : decode cX11_readsStatement 119 = .ok (.ifCond .eq 7, 3) := by decide +kernel
theorem dX11_readsStatement_122 : decode cX11_readsStatement 122 = .ok (.iconst 1, 1) := by decide +kernel
theorem dX11_readsStatement_123 : decode cX11_readsStatement 123 = .ok (.goto 4, 3) := by decide +kernel
theorem dX11_readsStatement_126 : decode cX11_readsStatement 126 = .ok (.iconst 0, 1) := by decide +kernel
theorem dX11_readsStatement_127 : decode cX11_readsStatement 127 = .ok (.istore_n 2, 1) := by decide +kernel
theorem dX11_readsStatement_128 : decode cX11_readsStatement 128 = .ok (.goto 52, 3) := by decide +kernel
theorem dX11_readsStatement_131 : decode cX11_readsStatement 131 = .ok (.aload_n 0, 1) := by decide +kernel
theorem dX11_readsStatement_132 : decode cX11_readsStatement 132 = .ok (.iconst 0, 1) := by decide +kernel
theorem dX11_readsStatement_133 : decode cX11_readsStatement 133 = .ok (.iconst 1, 1) := by decide +kernel
theorem dX11_readsStatement_134 : decode cX11_readsStatement 134 = .ok (.invokevirtual 137, 3) := by decide +kernel
theorem dX11_readsStatement_137 : decode cX11_readsStatement 137 = .ok (.ifCond .eq 16, 3) := by decide +kernel
theorem dX11_readsStatement_140 : decode cX11_readsStatement 140 = .ok (.aload_n 0, 1) := by decide +kernel
theorem dX11_readsStatement_141 : decode cX11_readsStatement 141 = .ok (.iconst 1, 1) := by decide +kernel
theorem dX11_readsStatement_142 : decode cX11_readsStatement 142 = .ok (.iconst 2, 1) := by decide +kernel
theorem dX11_readsStatement_143 : decode cX11_readsStatement 143 = .ok (.invokevirtual 137, 3) := by decide +kernel
theorem dX11_readsStatement_146 : decode cX11_readsStatement 146 = .ok (.ifCond .eq 7, 3) := by decide +kernel
theorem dX11_readsStatement_149 : decode cX11_readsStatement 149 = .ok (.iconst 1, 1) := by decide +kernel
theorem dX11_readsStatement_150 : decode cX11_readsStatement 150 = .ok (.goto 4, 3) := by decide +kernel
theorem dX11_readsStatement_153 : decode cX11_readsStatement 153 = .ok (.iconst 0, 1) := by decide +kernel
theorem dX11_readsStatement_154 : decode cX11_readsStatement 154 = .ok (.istore_n 2, 1) := by decide +kernel
theorem dX11_readsStatement_155 : decode cX11_readsStatement 155 = .ok (.goto 25, 3) := by decide +kernel
theorem dX11_readsStatement_158 : decode cX11_readsStatement 158 = .ok (.aload_n 0, 1) := by decide +kernel
theorem dX11_readsStatement_159 : decode cX11_readsStatement 159 = .ok (.iconst 0, 1) := by decide +kernel
theorem dX11_readsStatement_160 : decode cX11_readsStatement 160 = .ok (.iconst 1, 1) := by decide +kernel
theorem dX11_readsStatement_161 : decode cX11_readsStatement 161 = .ok (.invokevirtual 137, 3) := by decide +kernel
theorem dX11_readsStatement_164 : decode cX11_readsStatement 164 = .ok (.istore_n 2, 1) := by decide +kernel
theorem dX11_readsStatement_165 : decode cX11_readsStatement 165 = .ok (.goto 15, 3) := by decide +kernel
theorem dX11_readsStatement_168 : decode cX11_readsStatement 168 = .ok (.aload_n 0, 1) := by decide +kernel
theorem dX11_readsStatement_169 : decode cX11_readsStatement 169 = .ok (.dup, 1) := by decide +kernel
theorem dX11_readsStatement_170 : decode cX11_readsStatement 170 = .ok (.getfield 123, 3) := by decide +kernel
theorem dX11_readsStatement_173 : decode cX11_readsStatement 173 = .ok (.iconst 1, 1) := by decide +kernel
theorem dX11_readsStatement_174 : decode cX11_readsStatement 174 = .ok (.isub, 1) := by decide +kernel
theorem dX11_readsStatement_175 : decode cX11_readsStatement 175 = .ok (.putfield 123, 3) := by decide +kernel
theorem dX11_readsStatement_178 : decode cX11_readsStatement 178 = .ok (.iconst 0, 1) := by decide +kernel
theorem dX11_readsStatement_179 : decode cX11_readsStatement 179 = .ok (.ireturn, 1) := by decide +kernel
theorem dX11_readsStatement_180 : decode cX11_readsStatement 180 = .ok (.iload_n 2, 1) := by decide +kernel
theorem dX11_readsStatement_181 : decode cX11_readsStatement 181 = .ok (.ifCond .eq 12, 3) := by decide +kernel
theorem dX11_readsStatement_184 : decode cX11_readsStatement 184 = .ok (.aload_n 0, 1) := by decide +kernel
theorem dX11_readsStatement_185 : decode cX11_readsStatement 185 = .ok (.invokevirtual 133, 3) := by decide +kernel
theorem dX11_readsStatement_188 : decode cX11_readsStatement 188 = .ok (.bipush 59, 2) := by decide +kernel
theorem dX11_readsStatement_190 : decode cX11_readsStatement 190 = .ok (.if_icmp .eq 5, 3) := by decide +kernel
theorem dX11_readsStatement_193 : decode cX11_readsStatement 193 = .ok (.iconst 0, 1) := by decide +kernel
theorem dX11_readsStatement_194 : decode cX11_readsStatement 194 = .ok (.ireturn, 1) := by decide +kernel
theorem dX11_readsStatement_195 : decode cX11_readsStatement 195 = .ok (.aload_n 0, 1) := by decide +kernel
theorem dX11_readsStatement_196 : decode cX11_readsStatement 196 = .ok (.dup, 1) := by decide +kernel
theorem dX11_readsStatement_197 : decode cX11_readsStatement 197 = .ok (.getfield 123, 3) := by decide +kernel
theorem dX11_readsStatement_200 : decode cX11_readsStatement 200 = .ok (.iconst 1, 1) := by decide +kernel
theorem dX11_readsStatement_201 : decode cX11_readsStatement 201 = .ok (.iadd, 1) := by decide +kernel
theorem dX11_readsStatement_202 : decode cX11_readsStatement 202 = .ok (.putfield 123, 3) := by decide +kernel
theorem dX11_readsStatement_205 : decode cX11_readsStatement 205 = .ok (.iconst 1, 1) := by decide +kernel
theorem dX11_readsStatement_206 : decode cX11_readsStatement 206 = .ok (.ireturn, 1) := by decide +kernel
theorem dX11_adds_0 : decode cX11_adds 0 = .ok (.aload_n 0, 1) := by decide +kernel
theorem dX11_adds_1 : decode cX11_adds 1 = .ok (.getfield 9, 3) := by decide +kernel
theorem dX11_adds_4 : decode cX11_adds 4 = .ok (.iconst 1, 1) := by decide +kernel
theorem dX11_adds_5 : decode cX11_adds 5 = .ok (.iaload, 1) := by decide +kernel
theorem dX11_adds_6 : decode cX11_adds 6 = .ok (.istore 5, 2) := by decide +kernel
theorem dX11_adds_8 : decode cX11_adds 8 = .ok (.aload_n 0, 1) := by decide +kernel
theorem dX11_adds_9 : decode cX11_adds 9 = .ok (.getfield 9, 3) := by decide +kernel
theorem dX11_adds_12 : decode cX11_adds 12 = .ok (.iload 5, 2) := by decide +kernel
theorem dX11_adds_14 : decode cX11_adds 14 = .ok (.iconst 0, 1) := by decide +kernel
theorem dX11_adds_15 : decode cX11_adds 15 = .ok (.invokestatic 56, 3) := by decide +kernel
theorem dX11_adds_18 : decode cX11_adds 18 = .ok (.iload_n 1, 1) := by decide +kernel
theorem dX11_adds_19 : decode cX11_adds 19 = .ok (.iastore, 1) := by decide +kernel
theorem dX11_adds_20 : decode cX11_adds 20 = .ok (.aload_n 0, 1) := by decide +kernel
theorem dX11_adds_21 : decode cX11_adds 21 = .ok (.getfield 9, 3) := by decide +kernel
theorem dX11_adds_24 : decode cX11_adds 24 = .ok (.iload 5, 2) := by decide +kernel
theorem dX11_adds_26 : decode cX11_adds 26 = .ok (.iconst 1, 1) := by decide +kernel
theorem dX11_adds_27 : decode cX11_adds 27 = .ok (.invokestatic 56, 3) := by decide +kernel
theorem dX11_adds_30 : decode cX11_adds 30 = .ok (.iload_n 2, 1) := by decide +kernel
theorem dX11_adds_31 : decode cX11_adds 31 = .ok (.iastore, 1) := by decide +kernel
theorem dX11_adds_32 : decode cX11_adds 32 = .ok (.aload_n 0, 1) := by decide +kernel
theorem dX11_adds_33 : decode cX11_adds 33 = .ok (.getfield 9, 3) := by decide +kernel
theorem dX11_adds_36 : decode cX11_adds 36 = .ok (.iload 5, 2) := by decide +kernel
theorem dX11_adds_38 : decode cX11_adds 38 = .ok (.iconst 2, 1) := by decide +kernel
theorem dX11_adds_39 : decode cX11_adds 39 = .ok (.invokestatic 56, 3) := by decide +kernel
theorem dX11_adds_42 : decode cX11_adds 42 = .ok (.iload_n 3, 1) := by decide +kernel
theorem dX11_adds_43 : decode cX11_adds 43 = .ok (.iastore, 1) := by decide +kernel
theorem dX11_adds_44 : decode cX11_adds 44 = .ok (.aload_n 0, 1) := by decide +kernel
theorem dX11_adds_45 : decode cX11_adds 45 = .ok (.getfield 9, 3) := by decide +kernel
theorem dX11_adds_48 : decode cX11_adds 48 = .ok (.iload 5, 2) := by decide +kernel
theorem dX11_adds_50 : decode cX11_adds 50 = .ok (.iconst 3, 1) := by decide +kernel
theorem dX11_adds_51 : decode cX11_adds 51 = .ok (.invokestatic 56, 3) := by decide +kernel
theorem dX11_adds_54 : decode cX11_adds 54 = .ok (.iload 4, 2) := by decide +kernel
theorem dX11_adds_56 : decode cX11_adds 56 = .ok (.iastore, 1) := by decide +kernel
theorem dX11_adds_57 : decode cX11_adds 57 = .ok (.aload_n 0, 1) := by decide +kernel
theorem dX11_adds_58 : decode cX11_adds 58 = .ok (.getfield 9, 3) := by decide +kernel
theorem dX11_adds_61 : decode cX11_adds 61 = .ok (.iload 5, 2) := by decide +kernel
theorem dX11_adds_63 : decode cX11_adds 63 = .ok (.iconst 4, 1) := by decide +kernel
theorem dX11_adds_64 : decode cX11_adds 64 = .ok (.invokestatic 56, 3) := by decide +kernel
theorem dX11_adds_67 : decode cX11_adds 67 = .ok (.iconst 0, 1) := by decide +kernel
theorem dX11_adds_68 : decode cX11_adds 68 = .ok (.iastore, 1) := by decide +kernel
theorem dX11_adds_69 : decode cX11_adds 69 = .ok (.aload_n 0, 1) := by decide +kernel
theorem dX11_adds_70 : decode cX11_adds 70 = .ok (.getfield 9, 3) := by decide +kernel
theorem dX11_adds_73 : decode cX11_adds 73 = .ok (.iload 5, 2) := by decide +kernel
theorem dX11_adds_75 : decode cX11_adds 75 = .ok (.iconst 5, 1) := by decide +kernel
theorem dX11_adds_76 : decode cX11_adds 76 = .ok (.invokestatic 56, 3) := by decide +kernel
theorem dX11_adds_79 : decode cX11_adds 79 = .ok (.iconst 0, 1) := by decide +kernel
theorem dX11_adds_80 : decode cX11_adds 80 = .ok (.iastore, 1) := by decide +kernel
theorem dX11_adds_81 : decode cX11_adds 81 = .ok (.aload_n 0, 1) := by decide +kernel
theorem dX11_adds_82 : decode cX11_adds 82 = .ok (.getfield 9, 3) := by decide +kernel
theorem dX11_adds_85 : decode cX11_adds 85 = .ok (.iconst 1, 1) := by decide +kernel
theorem dX11_adds_86 : decode cX11_adds 86 = .ok (.dup2, 1) := by decide +kernel
theorem dX11_adds_87 : decode cX11_adds 87 = .ok (.iaload, 1) := by decide +kernel
theorem dX11_adds_88 : decode cX11_adds 88 = .ok (.iconst 1, 1) := by decide +kernel
theorem dX11_adds_89 : decode cX11_adds 89 = .ok (.iadd, 1) := by decide +kernel
theorem dX11_adds_90 : decode cX11_adds 90 = .ok (.iastore, 1) := by decide +kernel
theorem dX11_adds_91 : decode cX11_adds 91 = .ok (.aload_n 0, 1) := by decide +kernel
theorem dX11_adds_92 : decode cX11_adds 92 = .ok (.getfield 9, 3) := by decide +kernel
theorem dX11_adds_95 : decode cX11_adds 95 = .ok (.invokestatic 108, 3) := by decide +kernel
theorem dX11_adds_98 : decode cX11_adds 98 = .ok (.istore 6, 2) := by decide +kernel
theorem dX11_adds_100 : decode cX11_adds 100 = .ok (.return_, 1) := by decide +kernel
theorem dX11_addsPerson_0 : decode cX11_addsPerson 0 = .ok (.aload_n 0, 1) := by decide +kernel
theorem dX11_addsPerson_1 : decode cX11_addsPerson 1 = .ok (.getfield 9, 3) := by decide +kernel
theorem dX11_addsPerson_4 : decode cX11_addsPerson 4 = .ok (.iconst 4, 1) := by decide +kernel
theorem dX11_addsPerson_5 : decode cX11_addsPerson 5 = .ok (.aload_n 0, 1) := by decide +kernel
theorem dX11_addsPerson_6 : decode cX11_addsPerson 6 = .ok (.getfield 9, 3) := by decide +kernel
theorem dX11_addsPerson_9 : decode cX11_addsPerson 9 = .ok (.iconst 0, 1) := by decide +kernel
theorem dX11_addsPerson_10 : decode cX11_addsPerson 10 = .ok (.iaload, 1) := by decide +kernel
theorem dX11_addsPerson_11 : decode cX11_addsPerson 11 = .ok (.iadd, 1) := by decide +kernel
theorem dX11_addsPerson_12 : decode cX11_addsPerson 12 = .ok (.iload_n 1, 1) := by decide +kernel
theorem dX11_addsPerson_13 : decode cX11_addsPerson 13 = .ok (.iastore, 1) := by decide +kernel
theorem dX11_addsPerson_14 : decode cX11_addsPerson 14 = .ok (.aload_n 0, 1) := by decide +kernel
theorem dX11_addsPerson_15 : decode cX11_addsPerson 15 = .ok (.getfield 9, 3) := by decide +kernel
theorem dX11_addsPerson_18 : decode cX11_addsPerson 18 = .ok (.bipush 11, 2) := by decide +kernel
theorem dX11_addsPerson_20 : decode cX11_addsPerson 20 = .ok (.aload_n 0, 1) := by decide +kernel
theorem dX11_addsPerson_21 : decode cX11_addsPerson 21 = .ok (.getfield 9, 3) := by decide +kernel
theorem dX11_addsPerson_24 : decode cX11_addsPerson 24 = .ok (.iconst 0, 1) := by decide +kernel
theorem dX11_addsPerson_25 : decode cX11_addsPerson 25 = .ok (.iaload, 1) := by decide +kernel
theorem dX11_addsPerson_26 : decode cX11_addsPerson 26 = .ok (.iadd, 1) := by decide +kernel
theorem dX11_addsPerson_27 : decode cX11_addsPerson 27 = .ok (.iconst 0, 1) := by decide +kernel
theorem dX11_addsPerson_28 : decode cX11_addsPerson 28 = .ok (.iastore, 1) := by decide +kernel
theorem dX11_addsPerson_29 : decode cX11_addsPerson 29 = .ok (.aload_n 0, 1) := by decide +kernel
theorem dX11_addsPerson_30 : decode cX11_addsPerson 30 = .ok (.getfield 9, 3) := by decide +kernel
theorem dX11_addsPerson_33 : decode cX11_addsPerson 33 = .ok (.iconst 0, 1) := by decide +kernel
theorem dX11_addsPerson_34 : decode cX11_addsPerson 34 = .ok (.dup2, 1) := by decide +kernel
theorem dX11_addsPerson_35 : decode cX11_addsPerson 35 = .ok (.iaload, 1) := by decide +kernel
theorem dX11_addsPerson_36 : decode cX11_addsPerson 36 = .ok (.iconst 1, 1) := by decide +kernel
theorem dX11_addsPerson_37 : decode cX11_addsPerson 37 = .ok (.iadd, 1) := by decide +kernel
theorem dX11_addsPerson_38 : decode cX11_addsPerson 38 = .ok (.iastore, 1) := by decide +kernel
theorem dX11_addsPerson_39 : decode cX11_addsPerson 39 = .ok (.return_, 1) := by decide +kernel
theorem dX11_areTwo_0 : decode cX11_areTwo 0 = .ok (.aload_n 0, 1) := by decide +kernel
theorem dX11_areTwo_1 : decode cX11_areTwo 1 = .ok (.iload_n 1, 1) := by decide +kernel
theorem dX11_areTwo_2 : decode cX11_areTwo 2 = .ok (.invokevirtual 140, 3) := by decide +kernel
theorem dX11_areTwo_5 : decode cX11_areTwo 5 = .ok (.ifCond .eq 20, 3) := by decide +kernel
theorem dX11_areTwo_8 : decode cX11_areTwo 8 = .ok (.aload_n 0, 1) := by decide +kernel
theorem dX11_areTwo_9 : decode cX11_areTwo 9 = .ok (.iload_n 2, 1) := by decide +kernel
theorem dX11_areTwo_10 : decode cX11_areTwo 10 = .ok (.invokevirtual 140, 3) := by decide +kernel
theorem dX11_areTwo_13 : decode cX11_areTwo 13 = .ok (.ifCond .eq 12, 3) := by decide +kernel
theorem dX11_areTwo_16 : decode cX11_areTwo 16 = .ok (.iload_n 1, 1) := by decide +kernel
theorem dX11_areTwo_17 : decode cX11_areTwo 17 = .ok (.iload_n 2, 1) := by decide +kernel
theorem dX11_areTwo_18 : decode cX11_areTwo 18 = .ok (.if_icmp .eq 7, 3) := by decide +kernel
theorem dX11_areTwo_21 : decode cX11_areTwo 21 = .ok (.iconst 1, 1) := by decide +kernel
theorem dX11_areTwo_22 : decode cX11_areTwo 22 = .ok (.goto 4, 3) := by decide +kernel
theorem dX11_areTwo_25 : decode cX11_areTwo 25 = .ok (.iconst 0, 1) := by decide +kernel
theorem dX11_areTwo_26 : decode cX11_areTwo 26 = .ok (.ireturn, 1) := by decide +kernel
theorem dX11_isDone_0 : decode cX11_isDone 0 = .ok (.aload_n 0, 1) := by decide +kernel
theorem dX11_isDone_1 : decode cX11_isDone 1 = .ok (.getfield 25, 3) := by decide +kernel
theorem dX11_isDone_4 : decode cX11_isDone 4 = .ok (.iconst 0, 1) := by decide +kernel
theorem dX11_isDone_5 : decode cX11_isDone 5 = .ok (.iaload, 1) := by decide +kernel
theorem dX11_isDone_6 : decode cX11_isDone 6 = .ok (.istore_n 2, 1) := by decide +kernel
theorem dX11_isDone_7 : decode cX11_isDone 7 = .ok (.iconst 0, 1) := by decide +kernel
theorem dX11_isDone_8 : decode cX11_isDone 8 = .ok (.istore_n 3, 1) := by decide +kernel
theorem dX11_isDone_9 : decode cX11_isDone 9 = .ok (.iload_n 1, 1) := by decide +kernel
theorem dX11_isDone_10 : decode cX11_isDone 10 = .ok (.lookupswitch 250 #[(98, 77), (99, 179), (103, 140), (112, 50), (121, 196)], 50) := by decide +kernel
theorem dX11_isDone_60 : decode cX11_isDone 60 = .ok (.iload_n 2, 1) := by decide +kernel
theorem dX11_isDone_61 : decode cX11_isDone 61 = .ok (.invokestatic 144, 3) := by decide +kernel
theorem dX11_isDone_64 : decode cX11_isDone 64 = .ok (.ifCond .eq 14, 3) := by decide +kernel
theorem dX11_isDone_67 : decode cX11_isDone 67 = .ok (.aload_n 0, 1) := by decide +kernel
theorem dX11_isDone_68 : decode cX11_isDone 68 = .ok (.getfield 9, 3) := by decide +kernel
theorem dX11_isDone_71 : decode cX11_isDone 71 = .ok (.iconst 0, 1) := by decide +kernel
theorem dX11_isDone_72 : decode cX11_isDone 72 = .ok (.iaload, 1) := by decide +kernel
theorem dX11_isDone_73 : decode cX11_isDone 73 = .ok (.bipush 7, 2) := by decide +kernel
theorem dX11_isDone_75 : decode cX11_isDone 75 = .ok (.if_icmp .ne 5, 3) := by decide +kernel
theorem dX11_isDone_78 : decode cX11_isDone 78 = .ok (.iconst 0, 1) := by decide +kernel
theorem dX11_isDone_79 : decode cX11_isDone 79 = .ok (.ireturn, 1) := by decide +kernel
theorem dX11_isDone_80 : decode cX11_isDone 80 = .ok (.aload_n 0, 1) := by decide +kernel
theorem dX11_isDone_81 : decode cX11_isDone 81 = .ok (.iload_n 2, 1) := by decide +kernel
theorem dX11_isDone_82 : decode cX11_isDone 82 = .ok (.invokevirtual 147, 3) := by decide +kernel
theorem dX11_isDone_85 : decode cX11_isDone 85 = .ok (.iconst 1, 1) := by decide +kernel
theorem dX11_isDone_86 : decode cX11_isDone 86 = .ok (.ireturn, 1) := by decide +kernel
theorem dX11_isDone_87 : decode cX11_isDone 87 = .ok (.iload_n 2, 1) := by decide +kernel
theorem dX11_isDone_88 : decode cX11_isDone 88 = .ok (.bipush 8, 2) := by decide +kernel
theorem dX11_isDone_90 : decode cX11_isDone 90 = .ok (.if_icmp .ge 33, 3) := by decide +kernel
theorem dX11_isDone_93 : decode cX11_isDone 93 = .ok (.aload_n 0, 1) := by decide +kernel
theorem dX11_isDone_94 : decode cX11_isDone 94 = .ok (.aload_n 0, 1) := by decide +kernel
theorem dX11_isDone_95 : decode cX11_isDone 95 = .ok (.getfield 25, 3) := by decide +kernel
theorem dX11_isDone_98 : decode cX11_isDone 98 = .ok (.iconst 2, 1) := by decide +kernel
theorem dX11_isDone_99 : decode cX11_isDone 99 = .ok (.iaload, 1) := by decide +kernel
theorem dX11_isDone_100 : decode cX11_isDone 100 = .ok (.aload_n 0, 1) := by decide +kernel
theorem dX11_isDone_101 : decode cX11_isDone 101 = .ok (.getfield 25, 3) := by decide +kernel
theorem dX11_isDone_104 : decode cX11_isDone 104 = .ok (.iconst 3, 1) := by decide +kernel
theorem dX11_isDone_105 : decode cX11_isDone 105 = .ok (.iaload, 1) := by decide +kernel
theorem dX11_isDone_106 : decode cX11_isDone 106 = .ok (.invokevirtual 151, 3) := by decide +kernel
theorem dX11_isDone_109 : decode cX11_isDone 109 = .ok (.ifCond .eq 14, 3) := by decide +kernel
theorem dX11_isDone_112 : decode cX11_isDone 112 = .ok (.aload_n 0, 1) := by decide +kernel
theorem dX11_isDone_113 : decode cX11_isDone 113 = .ok (.getfield 9, 3) := by decide +kernel
theorem dX11_isDone_116 : decode cX11_isDone 116 = .ok (.iconst 1, 1) := by decide +kernel
theorem dX11_isDone_117 : decode cX11_isDone 117 = .ok (.iaload, 1) := by decide +kernel
theorem dX11_isDone_118 : decode cX11_isDone 118 = .ok (.bipush 10, 2) := by decide +kernel
theorem dX11_isDone_120 : decode cX11_isDone 120 = .ok (.if_icmp .ne 5, 3) := by decide +kernel
theorem dX11_isDone_123 : decode cX11_isDone 123 = .ok (.iconst 0, 1) := by decide +kernel
theorem dX11_isDone_124 : decode cX11_isDone 124 = .ok (.ireturn, 1) := by decide +kernel
theorem dX11_isDone_125 : decode cX11_isDone 125 = .ok (.aload_n 0, 1) := by decide +kernel
theorem dX11_isDone_126 : decode cX11_isDone 126 = .ok (.iload_n 2, 1) := by decide +kernel
theorem dX11_isDone_127 : decode cX11_isDone 127 = .ok (.aload_n 0, 1) := by decide +kernel
theorem dX11_isDone_128 : decode cX11_isDone 128 = .ok (.getfield 25, 3) := by decide +kernel
theorem dX11_isDone_131 : decode cX11_isDone 131 = .ok (.iconst 1, 1) := by decide +kernel
theorem dX11_isDone_132 : decode cX11_isDone 132 = .ok (.iaload, 1) := by decide +kernel
theorem dX11_isDone_133 : decode cX11_isDone 133 = .ok (.aload_n 0, 1) := by decide +kernel
theorem dX11_isDone_134 : decode cX11_isDone 134 = .ok (.getfield 25, 3) := by decide +kernel
theorem dX11_isDone_137 : decode cX11_isDone 137 = .ok (.iconst 2, 1) := by decide +kernel
theorem dX11_isDone_138 : decode cX11_isDone 138 = .ok (.iaload, 1) := by decide +kernel
theorem dX11_isDone_139 : decode cX11_isDone 139 = .ok (.aload_n 0, 1) := by decide +kernel
theorem dX11_isDone_140 : decode cX11_isDone 140 = .ok (.getfield 25, 3) := by decide +kernel
theorem dX11_isDone_143 : decode cX11_isDone 143 = .ok (.iconst 3, 1) := by decide +kernel
theorem dX11_isDone_144 : decode cX11_isDone 144 = .ok (.iaload, 1) := by decide +kernel
theorem dX11_isDone_145 : decode cX11_isDone 145 = .ok (.invokevirtual 154, 3) := by decide +kernel
theorem dX11_isDone_148 : decode cX11_isDone 148 = .ok (.iconst 1, 1) := by decide +kernel
theorem dX11_isDone_149 : decode cX11_isDone 149 = .ok (.ireturn, 1) := by decide +kernel
theorem dX11_isDone_150 : decode cX11_isDone 150 = .ok (.aload_n 0, 1) := by decide +kernel
theorem dX11_isDone_151 : decode cX11_isDone 151 = .ok (.iload_n 2, 1) := by decide +kernel
theorem dX11_isDone_152 : decode cX11_isDone 152 = .ok (.invokevirtual 140, 3) := by decide +kernel
theorem dX11_isDone_155 : decode cX11_isDone 155 = .ok (.ifCond .eq 15, 3) := by decide +kernel
theorem dX11_isDone_158 : decode cX11_isDone 158 = .ok (.aload_n 0, 1) := by decide +kernel
theorem dX11_isDone_159 : decode cX11_isDone 159 = .ok (.getfield 25, 3) := by decide +kernel
theorem dX11_isDone_162 : decode cX11_isDone 162 = .ok (.iconst 1, 1) := by decide +kernel
theorem dX11_isDone_163 : decode cX11_isDone 163 = .ok (.iaload, 1) := by decide +kernel
theorem dX11_isDone_164 : decode cX11_isDone 164 = .ok (.invokestatic 144, 3) := by decide +kernel
theorem dX11_isDone_167 : decode cX11_isDone 167 = .ok (.ifCond .ne 5, 3) := by decide +kernel
theorem dX11_isDone_170 : decode cX11_isDone 170 = .ok (.iconst 0, 1) := by decide +kernel
theorem dX11_isDone_171 : decode cX11_isDone 171 = .ok (.ireturn, 1) := by decide +kernel
theorem dX11_isDone_172 : decode cX11_isDone 172 = .ok (.aload_n 0, 1) := by decide +kernel
theorem dX11_isDone_173 : decode cX11_isDone 173 = .ok (.getfield 9, 3) := by decide +kernel
theorem dX11_isDone_176 : decode cX11_isDone 176 = .ok (.iload_n 2, 1) := by decide +kernel
theorem dX11_isDone_177 : decode cX11_isDone 177 = .ok (.aload_n 0, 1) := by decide +kernel
theorem dX11_isDone_178 : decode cX11_isDone 178 = .ok (.getfield 25, 3) := by decide +kernel
theorem dX11_isDone_181 : decode cX11_isDone 181 = .ok (.iconst 1, 1) := by decide +kernel
theorem dX11_isDone_182 : decode cX11_isDone 182 = .ok (.iaload, 1) := by decide +kernel
theorem dX11_isDone_183 : decode cX11_isDone 183 = .ok (.invokestatic 158, 3) := by decide +kernel
theorem dX11_isDone_186 : decode cX11_isDone 186 = .ok (.istore_n 3, 1) := by decide +kernel
theorem dX11_isDone_187 : decode cX11_isDone 187 = .ok (.iconst 1, 1) := by decide +kernel
theorem dX11_isDone_188 : decode cX11_isDone 188 = .ok (.ireturn, 1) := by decide +kernel
theorem dX11_isDone_189 : decode cX11_isDone 189 = .ok (.aload_n 0, 1) := by decide +kernel
theorem dX11_isDone_190 : decode cX11_isDone 190 = .ok (.getfield 9, 3) := by decide +kernel
theorem dX11_isDone_193 : decode cX11_isDone 193 = .ok (.iconst 3, 1) := by decide +kernel
theorem dX11_isDone_194 : decode cX11_isDone 194 = .ok (.iload_n 2, 1) := by decide +kernel
theorem dX11_isDone_195 : decode cX11_isDone 195 = .ok (.iastore, 1) := by decide +kernel
theorem dX11_isDone_196 : decode cX11_isDone 196 = .ok (.aload_n 0, 1) := by decide +kernel
theorem dX11_isDone_197 : decode cX11_isDone 197 = .ok (.getfield 9, 3) := by decide +kernel
theorem dX11_isDone_200 : decode cX11_isDone 200 = .ok (.invokestatic 108, 3) := by decide +kernel
theorem dX11_isDone_203 : decode cX11_isDone 203 = .ok (.istore_n 3, 1) := by decide +kernel
theorem dX11_isDone_204 : decode cX11_isDone 204 = .ok (.iconst 1, 1) := by decide +kernel
theorem dX11_isDone_205 : decode cX11_isDone 205 = .ok (.ireturn, 1) := by decide +kernel
theorem dX11_isDone_206 : decode cX11_isDone 206 = .ok (.iload_n 2, 1) := by decide +kernel
theorem dX11_isDone_207 : decode cX11_isDone 207 = .ok (.iconst 1, 1) := by decide +kernel
theorem dX11_isDone_208 : decode cX11_isDone 208 = .ok (.bipush 60, 2) := by decide +kernel
theorem dX11_isDone_210 : decode cX11_isDone 210 = .ok (.invokestatic 52, 3) := by decide +kernel
theorem dX11_isDone_213 : decode cX11_isDone 213 = .ok (.ifCond .eq 17, 3) := by decide +kernel
theorem dX11_isDone_216 : decode cX11_isDone 216 = .ok (.aload_n 0, 1) := by decide +kernel
theorem dX11_isDone_217 : decode cX11_isDone 217 = .ok (.getfield 9, 3) := by decide +kernel
theorem dX11_isDone_220 : decode cX11_isDone 220 = .ok (.iconst 2, 1) := by decide +kernel
theorem dX11_isDone_221 : decode cX11_isDone 221 = .ok (.iaload, 1) := by decide +kernel
theorem dX11_isDone_222 : decode cX11_isDone 222 = .ok (.iload_n 2, 1) := by decide +kernel
theorem dX11_isDone_223 : decode cX11_isDone 223 = .ok (.iadd, 1) := by decide +kernel
theorem dX11_isDone_224 : decode cX11_isDone 224 = .ok (.sipush 999, 3) := by decide +kernel
theorem dX11_isDone_227 : decode cX11_isDone 227 = .ok (.if_icmp .le 5, 3) := by decide +kernel
theorem dX11_isDone_230 : decode cX11_isDone 230 = .ok (.iconst 0, 1) := by decide +kernel
theorem dX11_isDone_231 : decode cX11_isDone 231 = .ok (.ireturn, 1) := by decide +kernel
theorem dX11_isDone_232 : decode cX11_isDone 232 = .ok (.iconst 0, 1) := by decide +kernel
theorem dX11_isDone_233 : decode cX11_isDone 233 = .ok (.istore 4, 2) := by decide +kernel
theorem dX11_isDone_235 : decode cX11_isDone 235 = .ok (.iload 4, 2) := by decide +kernel
theorem dX11_isDone_237 : decode cX11_isDone 237 = .ok (.iload_n 2, 1) := by decide +kernel
theorem dX11_isDone_238 : decode cX11_isDone 238 = .ok (.if_icmp .ge 20, 3) := by decide +kernel
theorem dX11_isDone_241 : decode cX11_isDone 241 = .ok (.iload_n 3, 1) := by decide +kernel
theorem dX11_isDone_242 : decode cX11_isDone 242 = .ok (.aload_n 0, 1) := by decide +kernel
theorem dX11_isDone_243 : decode cX11_isDone 243 = .ok (.aload_n 0, 1) := by decide +kernel
theorem dX11_isDone_244 : decode cX11_isDone 244 = .ok (.getfield 9, 3) := by decide +kernel
theorem dX11_isDone_247 : decode cX11_isDone 247 = .ok (.invokevirtual 161, 3) := by decide +kernel
theorem dX11_isDone_250 : decode cX11_isDone 250 = .ok (.ior, 1) := by decide +kernel
theorem dX11_isDone_251 : decode cX11_isDone 251 = .ok (.istore_n 3, 1) := by decide +kernel
theorem dX11_isDone_252 : decode cX11_isDone 252 = .ok (.iinc 4 1, 3) := by decide +kernel
theorem dX11_isDone_255 : decode cX11_isDone 255 = .ok (.goto (-20), 3) := by decide +kernel
theorem dX11_isDone_258 : decode cX11_isDone 258 = .ok (.iconst 1, 1) := by decide +kernel
theorem dX11_isDone_259 : decode cX11_isDone 259 = .ok (.ireturn, 1) := by decide +kernel
theorem dX11_isDone_260 : decode cX11_isDone 260 = .ok (.aload_n 0, 1) := by decide +kernel
theorem dX11_isDone_261 : decode cX11_isDone 261 = .ok (.iload_n 2, 1) := by decide +kernel
theorem dX11_isDone_262 : decode cX11_isDone 262 = .ok (.invokevirtual 164, 3) := by decide +kernel
theorem dX11_isDone_265 : decode cX11_isDone 265 = .ok (.ifCond .eq 14, 3) := by decide +kernel
theorem dX11_isDone_268 : decode cX11_isDone 268 = .ok (.aload_n 0, 1) := by decide +kernel
theorem dX11_isDone_269 : decode cX11_isDone 269 = .ok (.getfield 9, 3) := by decide +kernel
theorem dX11_isDone_272 : decode cX11_isDone 272 = .ok (.iload_n 2, 1) := by decide +kernel
theorem dX11_isDone_273 : decode cX11_isDone 273 = .ok (.invokestatic 69, 3) := by decide +kernel
theorem dX11_isDone_276 : decode cX11_isDone 276 = .ok (.ifCond .ne 5, 3) := by decide +kernel
theorem dX11_isDone_279 : decode cX11_isDone 279 = .ok (.iconst 0, 1) := by decide +kernel
theorem dX11_isDone_280 : decode cX11_isDone 280 = .ok (.ireturn, 1) := by decide +kernel
theorem dX11_isDone_281 : decode cX11_isDone 281 = .ok (.aload_n 0, 1) := by decide +kernel
theorem dX11_isDone_282 : decode cX11_isDone 282 = .ok (.getfield 9, 3) := by decide +kernel
theorem dX11_isDone_285 : decode cX11_isDone 285 = .ok (.iload_n 2, 1) := by decide +kernel
theorem dX11_isDone_286 : decode cX11_isDone 286 = .ok (.iconst 5, 1) := by decide +kernel
theorem dX11_isDone_287 : decode cX11_isDone 287 = .ok (.invokestatic 56, 3) := by decide +kernel
theorem dX11_isDone_290 : decode cX11_isDone 290 = .ok (.iconst 1, 1) := by decide +kernel
theorem dX11_isDone_291 : decode cX11_isDone 291 = .ok (.iastore, 1) := by decide +kernel
theorem dX11_isDone_292 : decode cX11_isDone 292 = .ok (.iconst 1, 1) := by decide +kernel
theorem dX11_isDone_293 : decode cX11_isDone 293 = .ok (.ireturn, 1) := by decide +kernel
theorem dX11_town_0 : decode cX11_town 0 = .ok (.aload_n 0, 1) := by decide +kernel
theorem dX11_town_1 : decode cX11_town 1 = .ok (.iload_n 1, 1) := by decide +kernel
theorem dX11_town_2 : decode cX11_town 2 = .ok (.iconst 0, 1) := by decide +kernel
theorem dX11_town_3 : decode cX11_town 3 = .ok (.invokevirtual 167, 3) := by decide +kernel
theorem dX11_town_6 : decode cX11_town 6 = .ok (.istore_n 2, 1) := by decide +kernel
theorem dX11_town_7 : decode cX11_town 7 = .ok (.iload_n 2, 1) := by decide +kernel
theorem dX11_town_8 : decode cX11_town 8 = .ok (.ifCond .eq 5, 3) := by decide +kernel
theorem dX11_town_11 : decode cX11_town 11 = .ok (.iload_n 2, 1) := by decide +kernel
theorem dX11_town_12 : decode cX11_town 12 = .ok (.ireturn, 1) := by decide +kernel
theorem dX11_town_13 : decode cX11_town 13 = .ok (.aload_n 0, 1) := by decide +kernel
theorem dX11_town_14 : decode cX11_town 14 = .ok (.bipush 100, 2) := by decide +kernel
theorem dX11_town_16 : decode cX11_town 16 = .ok (.iload_n 1, 1) := by decide +kernel
theorem dX11_town_17 : decode cX11_town 17 = .ok (.imul, 1) := by decide +kernel
theorem dX11_town_18 : decode cX11_town 18 = .ok (.putfield 130, 3) := by decide +kernel
theorem dX11_town_21 : decode cX11_town 21 = .ok (.aload_n 0, 1) := by decide +kernel
theorem dX11_town_22 : decode cX11_town 22 = .ok (.aload_n 0, 1) := by decide +kernel
theorem dX11_town_23 : decode cX11_town 23 = .ok (.getfield 46, 3) := by decide +kernel
theorem dX11_town_26 : decode cX11_town 26 = .ok (.iload_n 1, 1) := by decide +kernel
theorem dX11_town_27 : decode cX11_town 27 = .ok (.iaload, 1) := by decide +kernel
theorem dX11_town_28 : decode cX11_town 28 = .ok (.putfield 127, 3) := by decide +kernel
theorem dX11_town_31 : decode cX11_town 31 = .ok (.aload_n 0, 1) := by decide +kernel
theorem dX11_town_32 : decode cX11_town 32 = .ok (.iconst 0, 1) := by decide +kernel
theorem dX11_town_33 : decode cX11_town 33 = .ok (.putfield 123, 3) := by decide +kernel
theorem dX11_town_36 : decode cX11_town 36 = .ok (.iconst 0, 1) := by decide +kernel
theorem dX11_town_37 : decode cX11_town 37 = .ok (.istore_n 3, 1) := by decide +kernel
theorem dX11_town_38 : decode cX11_town 38 = .ok (.iconst 0, 1) := by decide +kernel
theorem dX11_town_39 : decode cX11_town 39 = .ok (.istore 4, 2) := by decide +kernel
theorem dX11_town_41 : decode cX11_town 41 = .ok (.aload_n 0, 1) := by decide +kernel
theorem dX11_town_42 : decode cX11_town 42 = .ok (.invokevirtual 170, 3) := by decide +kernel
theorem dX11_town_45 : decode cX11_town 45 = .ok (.ifCond .ne 13, 3) := by decide +kernel
theorem dX11_town_48 : decode cX11_town 48 = .ok (.sipush (-1000), 3) := by decide +kernel
theorem dX11_town_51 : decode cX11_town 51 = .ok (.aload_n 0, 1) := by decide +kernel
theorem dX11_town_52 : decode cX11_town 52 = .ok (.getfield 123, 3) := by decide +kernel
theorem dX11_town_55 : decode cX11_town 55 = .ok (.isub, 1) := by decide +kernel
theorem dX11_town_56 : decode cX11_town 56 = .ok (.istore 4, 2) := by decide +kernel
theorem dX11_town_58 : decode cX11_town 58 = .ok (.iinc 3 1, 3) := by decide +kernel
theorem dX11_town_61 : decode cX11_town 61 = .ok (.iload 4, 2) := by decide +kernel
theorem dX11_town_63 : decode cX11_town 63 = .ok (.ifCond .ne 14, 3) := by decide +kernel
theorem dX11_town_66 : decode cX11_town 66 = .ok (.aload_n 0, 1) := by decide +kernel
theorem dX11_town_67 : decode cX11_town 67 = .ok (.getfield 123, 3) := by decide +kernel
theorem dX11_town_70 : decode cX11_town 70 = .ok (.aload_n 0, 1) := by decide +kernel
theorem dX11_town_71 : decode cX11_town 71 = .ok (.getfield 127, 3) := by decide +kernel
theorem dX11_town_74 : decode cX11_town 74 = .ok (.if_icmp .lt (-33), 3) := by decide +kernel
theorem dX11_town_77 : decode cX11_town 77 = .ok (.aload_n 0, 1) := by decide +kernel
theorem dX11_town_78 : decode cX11_town 78 = .ok (.getfield 9, 3) := by decide +kernel
theorem dX11_town_81 : decode cX11_town 81 = .ok (.aload_n 0, 1) := by decide +kernel
theorem dX11_town_82 : decode cX11_town 82 = .ok (.getfield 19, 3) := by decide +kernel
theorem dX11_town_85 : decode cX11_town 85 = .ok (.invokestatic 112, 3) := by decide +kernel
theorem dX11_town_88 : decode cX11_town 88 = .ok (.aload_n 0, 1) := by decide +kernel
theorem dX11_town_89 : decode cX11_town 89 = .ok (.iconst 0, 1) := by decide +kernel
theorem dX11_town_90 : decode cX11_town 90 = .ok (.putfield 123, 3) := by decide +kernel
theorem dX11_town_93 : decode cX11_town 93 = .ok (.iload 4, 2) := by decide +kernel
theorem dX11_town_95 : decode cX11_town 95 = .ok (.ifCond .ne 66, 3) := by decide +kernel
theorem dX11_town_98 : decode cX11_town 98 = .ok (.aload_n 0, 1) := by decide +kernel
theorem dX11_town_99 : decode cX11_town 99 = .ok (.getfield 123, 3) := by decide +kernel
theorem dX11_town_102 : decode cX11_town 102 = .ok (.aload_n 0, 1) := by decide +kernel
theorem dX11_town_103 : decode cX11_town 103 = .ok (.getfield 127, 3) := by decide +kernel
theorem dX11_town_106 : decode cX11_town 106 = .ok (.if_icmp .ge 55, 3) := by decide +kernel
theorem dX11_town_109 : decode cX11_town 109 = .ok (.aload_n 0, 1) := by decide +kernel
theorem dX11_town_110 : decode cX11_town 110 = .ok (.getfield 123, 3) := by decide +kernel
theorem dX11_town_113 : decode cX11_town 113 = .ok (.istore 5, 2) := by decide +kernel
theorem dX11_town_115 : decode cX11_town 115 = .ok (.aload_n 0, 1) := by decide +kernel
theorem dX11_town_116 : decode cX11_town 116 = .ok (.invokevirtual 133, 3) := by decide +kernel
theorem dX11_town_119 : decode cX11_town 119 = .ok (.istore 6, 2) := by decide +kernel
theorem dX11_town_121 : decode cX11_town 121 = .ok (.aload_n 0, 1) := by decide +kernel
theorem dX11_town_122 : decode cX11_town 122 = .ok (.invokevirtual 170, 3) := by decide +kernel
theorem dX11_town_125 : decode cX11_town 125 = .ok (.istore 7, 2) := by decide +kernel
theorem dX11_town_127 : decode cX11_town 127 = .ok (.aload_n 0, 1) := by decide +kernel
theorem dX11_town_128 : decode cX11_town 128 = .ok (.iload 6, 2) := by decide +kernel
theorem dX11_town_130 : decode cX11_town 130 = .ok (.invokevirtual 174, 3) := by decide +kernel
theorem dX11_town_133 : decode cX11_town 133 = .ok (.ifCond .eq 6, 3) := by decide +kernel
theorem dX11_town_136 : decode cX11_town 136 = .ok (.goto (-43), 3) := by decide +kernel
theorem dX11_town_139 : decode cX11_town 139 = .ok (.sipush (-2000), 3) := by decide +kernel
theorem dX11_town_142 : decode cX11_town 142 = .ok (.iload 5, 2) := by decide +kernel
theorem dX11_town_144 : decode cX11_town 144 = .ok (.isub, 1) := by decide +kernel
theorem dX11_town_145 : decode cX11_town 145 = .ok (.istore 4, 2) := by decide +kernel
theorem dX11_town_147 : decode cX11_town 147 = .ok (.aload_n 0, 1) := by decide +kernel
theorem dX11_town_148 : decode cX11_town 148 = .ok (.getfield 19, 3) := by decide +kernel
theorem dX11_town_151 : decode cX11_town 151 = .ok (.aload_n 0, 1) := by decide +kernel
theorem dX11_town_152 : decode cX11_town 152 = .ok (.getfield 9, 3) := by decide +kernel
theorem dX11_town_155 : decode cX11_town 155 = .ok (.invokestatic 112, 3) := by decide +kernel
theorem dX11_town_158 : decode cX11_town 158 = .ok (.goto (-65), 3) := by decide +kernel
theorem dX11_town_161 : decode cX11_town 161 = .ok (.iload 4, 2) := by decide +kernel
theorem dX11_town_163 : decode cX11_town 163 = .ok (.ifCond .ne 7, 3) := by decide +kernel
theorem dX11_town_166 : decode cX11_town 166 = .ok (.iload_n 3, 1) := by decide +kernel
theorem dX11_town_167 : decode cX11_town 167 = .ok (.goto 5, 3) := by decide +kernel
theorem dX11_town_170 : decode cX11_town 170 = .ok (.iload 4, 2) := by decide +kernel
theorem dX11_town_172 : decode cX11_town 172 = .ok (.ireturn, 1) := by decide +kernel
theorem dX11_person_0 : decode cX11_person 0 = .ok (.aload_n 0, 1) := by decide +kernel
theorem dX11_person_1 : decode cX11_person 1 = .ok (.iload_n 1, 1) := by decide +kernel
theorem dX11_person_2 : decode cX11_person 2 = .ok (.invokevirtual 140, 3) := by decide +kernel
theorem dX11_person_5 : decode cX11_person 5 = .ok (.ifCond .eq 12, 3) := by decide +kernel
theorem dX11_person_8 : decode cX11_person 8 = .ok (.iload_n 2, 1) := by decide +kernel
theorem dX11_person_9 : decode cX11_person 9 = .ok (.iconst 0, 1) := by decide +kernel
theorem dX11_person_10 : decode cX11_person 10 = .ok (.iconst 3, 1) := by decide +kernel
theorem dX11_person_11 : decode cX11_person 11 = .ok (.invokestatic 52, 3) := by decide +kernel
theorem dX11_person_14 : decode cX11_person 14 = .ok (.ifCond .ne 5, 3) := by decide +kernel
theorem dX11_person_17 : decode cX11_person 17 = .ok (.iconst (-1), 1) := by decide +kernel
theorem dX11_person_18 : decode cX11_person 18 = .ok (.ireturn, 1) := by decide +kernel
theorem dX11_person_19 : decode cX11_person 19 = .ok (.iload_n 2, 1) := by decide +kernel
theorem dX11_person_20 : decode cX11_person 20 = .ok (.ifCond .ne 14, 3) := by decide +kernel
theorem dX11_person_23 : decode cX11_person 23 = .ok (.aload_n 0, 1) := by decide +kernel
theorem dX11_person_24 : decode cX11_person 24 = .ok (.getfield 9, 3) := by decide +kernel
theorem dX11_person_27 : decode cX11_person 27 = .ok (.iconst 4, 1) := by decide +kernel
theorem dX11_person_28 : decode cX11_person 28 = .ok (.iload_n 1, 1) := by decide +kernel
theorem dX11_person_29 : decode cX11_person 29 = .ok (.iadd, 1) := by decide +kernel
theorem dX11_person_30 : decode cX11_person 30 = .ok (.iaload, 1) := by decide +kernel
theorem dX11_person_31 : decode cX11_person 31 = .ok (.goto 38, 3) := by decide +kernel
theorem dX11_person_34 : decode cX11_person 34 = .ok (.iload_n 2, 1) := by decide +kernel
theorem dX11_person_35 : decode cX11_person 35 = .ok (.iconst 1, 1) := by decide +kernel
theorem dX11_person_36 : decode cX11_person 36 = .ok (.if_icmp .ne 15, 3) := by decide +kernel
theorem dX11_person_39 : decode cX11_person 39 = .ok (.aload_n 0, 1) := by decide +kernel
theorem dX11_person_40 : decode cX11_person 40 = .ok (.getfield 9, 3) := by decide +kernel
theorem dX11_person_43 : decode cX11_person 43 = .ok (.bipush 11, 2) := by decide +kernel
theorem dX11_person_45 : decode cX11_person 45 = .ok (.iload_n 1, 1) := by decide +kernel
theorem dX11_person_46 : decode cX11_person 46 = .ok (.iadd, 1) := by decide +kernel
theorem dX11_person_47 : decode cX11_person 47 = .ok (.iaload, 1) := by decide +kernel
theorem dX11_person_48 : decode cX11_person 48 = .ok (.goto 21, 3) := by decide +kernel
theorem dX11_person_51 : decode cX11_person 51 = .ok (.aload_n 0, 1) := by decide +kernel
theorem dX11_person_52 : decode cX11_person 52 = .ok (.getfield 9, 3) := by decide +kernel
theorem dX11_person_55 : decode cX11_person 55 = .ok (.iload_n 1, 1) := by decide +kernel
theorem dX11_person_56 : decode cX11_person 56 = .ok (.iload_n 2, 1) := by decide +kernel
theorem dX11_person_57 : decode cX11_person 57 = .ok (.iconst 2, 1) := by decide +kernel
theorem dX11_person_58 : decode cX11_person 58 = .ok (.if_icmp .ne 7, 3) := by decide +kernel
theorem dX11_person_61 : decode cX11_person 61 = .ok (.iconst (-1), 1) := by decide +kernel
theorem dX11_person_62 : decode cX11_person 62 = .ok (.goto 4, 3) := by decide +kernel
theorem dX11_person_65 : decode cX11_person 65 = .ok (.iconst 1, 1) := by decide +kernel
theorem dX11_person_66 : decode cX11_person 66 = .ok (.invokestatic 116, 3) := by decide +kernel
theorem dX11_person_69 : decode cX11_person 69 = .ok (.ireturn, 1) := by decide +kernel
theorem dX11_band_0 : decode cX11_band 0 = .ok (.aload_n 0, 1) := by decide +kernel
theorem dX11_band_1 : decode cX11_band 1 = .ok (.iload_n 1, 1) := by decide +kernel
theorem dX11_band_2 : decode cX11_band 2 = .ok (.invokevirtual 164, 3) := by decide +kernel
theorem dX11_band_5 : decode cX11_band 5 = .ok (.ifCond .eq 13, 3) := by decide +kernel
theorem dX11_band_8 : decode cX11_band 8 = .ok (.iload_n 2, 1) := by decide +kernel
theorem dX11_band_9 : decode cX11_band 9 = .ok (.iconst 0, 1) := by decide +kernel
theorem dX11_band_10 : decode cX11_band 10 = .ok (.bipush 8, 2) := by decide +kernel
theorem dX11_band_12 : decode cX11_band 12 = .ok (.invokestatic 52, 3) := by decide +kernel
theorem dX11_band_15 : decode cX11_band 15 = .ok (.ifCond .ne 5, 3) := by decide +kernel
theorem dX11_band_18 : decode cX11_band 18 = .ok (.iconst (-1), 1) := by decide +kernel
theorem dX11_band_19 : decode cX11_band 19 = .ok (.ireturn, 1) := by decide +kernel
theorem dX11_band_20 : decode cX11_band 20 = .ok (.iload_n 2, 1) := by decide +kernel
theorem dX11_band_21 : decode cX11_band 21 = .ok (.bipush 6, 2) := by decide +kernel
theorem dX11_band_23 : decode cX11_band 23 = .ok (.if_icmp .ge 16, 3) := by decide +kernel
theorem dX11_band_26 : decode cX11_band 26 = .ok (.aload_n 0, 1) := by decide +kernel
theorem dX11_band_27 : decode cX11_band 27 = .ok (.getfield 9, 3) := by decide +kernel
theorem dX11_band_30 : decode cX11_band 30 = .ok (.iload_n 1, 1) := by decide +kernel
theorem dX11_band_31 : decode cX11_band 31 = .ok (.iload_n 2, 1) := by decide +kernel
theorem dX11_band_32 : decode cX11_band 32 = .ok (.invokestatic 56, 3) := by decide +kernel
theorem dX11_band_35 : decode cX11_band 35 = .ok (.iaload, 1) := by decide +kernel
theorem dX11_band_36 : decode cX11_band 36 = .ok (.goto 45, 3) := by decide +kernel
theorem dX11_band_39 : decode cX11_band 39 = .ok (.iload_n 2, 1) := by decide +kernel
theorem dX11_band_40 : decode cX11_band 40 = .ok (.bipush 6, 2) := by decide +kernel
theorem dX11_band_42 : decode cX11_band 42 = .ok (.if_icmp .ne 14, 3) := by decide +kernel
theorem dX11_band_45 : decode cX11_band 45 = .ok (.aload_n 0, 1) := by decide +kernel
theorem dX11_band_46 : decode cX11_band 46 = .ok (.getfield 9, 3) := by decide +kernel
theorem dX11_band_49 : decode cX11_band 49 = .ok (.iload_n 1, 1) := by decide +kernel
theorem dX11_band_50 : decode cX11_band 50 = .ok (.invokestatic 73, 3) := by decide +kernel
theorem dX11_band_53 : decode cX11_band 53 = .ok (.goto 28, 3) := by decide +kernel
theorem dX11_band_56 : decode cX11_band 56 = .ok (.iload_n 2, 1) := by decide +kernel
theorem dX11_band_57 : decode cX11_band 57 = .ok (.bipush 7, 2) := by decide +kernel
theorem dX11_band_59 : decode cX11_band 59 = .ok (.if_icmp .ne 14, 3) := by decide +kernel
theorem dX11_band_62 : decode cX11_band 62 = .ok (.aload_n 0, 1) := by decide +kernel
theorem dX11_band_63 : decode cX11_band 63 = .ok (.getfield 9, 3) := by decide +kernel
theorem dX11_band_66 : decode cX11_band 66 = .ok (.iload_n 1, 1) := by decide +kernel
theorem dX11_band_67 : decode cX11_band 67 = .ok (.invokestatic 105, 3) := by decide +kernel
theorem dX11_band_70 : decode cX11_band 70 = .ok (.goto 11, 3) := by decide +kernel
theorem dX11_band_73 : decode cX11_band 73 = .ok (.aload_n 0, 1) := by decide +kernel
theorem dX11_band_74 : decode cX11_band 74 = .ok (.getfield 9, 3) := by decide +kernel
theorem dX11_band_77 : decode cX11_band 77 = .ok (.iload_n 1, 1) := by decide +kernel
theorem dX11_band_78 : decode cX11_band 78 = .ok (.invokestatic 84, 3) := by decide +kernel
theorem dX11_band_81 : decode cX11_band 81 = .ok (.ireturn, 1) := by decide +kernel
theorem dX11_comes_0 : decode cX11_comes 0 = .ok (.iload_n 1, 1) := by decide +kernel
theorem dX11_comes_1 : decode cX11_comes 1 = .ok (.invokestatic 144, 3) := by decide +kernel
theorem dX11_comes_4 : decode cX11_comes 4 = .ok (.ifCond .ne 5, 3) := by decide +kernel
theorem dX11_comes_7 : decode cX11_comes 7 = .ok (.iconst (-1), 1) := by decide +kernel
theorem dX11_comes_8 : decode cX11_comes 8 = .ok (.ireturn, 1) := by decide +kernel
theorem dX11_comes_9 : decode cX11_comes 9 = .ok (.aload_n 0, 1) := by decide +kernel
theorem dX11_comes_10 : decode cX11_comes 10 = .ok (.getfield 9, 3) := by decide +kernel
theorem dX11_comes_13 : decode cX11_comes 13 = .ok (.iconst 0, 1) := by decide +kernel
theorem dX11_comes_14 : decode cX11_comes 14 = .ok (.iaload, 1) := by decide +kernel
theorem dX11_comes_15 : decode cX11_comes 15 = .ok (.bipush 7, 2) := by decide +kernel
theorem dX11_comes_17 : decode cX11_comes 17 = .ok (.if_icmp .ne 6, 3) := by decide +kernel
theorem dX11_comes_20 : decode cX11_comes 20 = .ok (.bipush (-2), 2) := by decide +kernel
theorem dX11_comes_22 : decode cX11_comes 22 = .ok (.ireturn, 1) := by decide +kernel
theorem dX11_comes_23 : decode cX11_comes 23 = .ok (.aload_n 0, 1) := by decide +kernel
theorem dX11_comes_24 : decode cX11_comes 24 = .ok (.iload_n 1, 1) := by decide +kernel
theorem dX11_comes_25 : decode cX11_comes 25 = .ok (.invokevirtual 147, 3) := by decide +kernel
theorem dX11_comes_28 : decode cX11_comes 28 = .ok (.aload_n 0, 1) := by decide +kernel
theorem dX11_comes_29 : decode cX11_comes 29 = .ok (.getfield 9, 3) := by decide +kernel
theorem dX11_comes_32 : decode cX11_comes 32 = .ok (.iconst 0, 1) := by decide +kernel
theorem dX11_comes_33 : decode cX11_comes 33 = .ok (.iaload, 1) := by decide +kernel
theorem dX11_comes_34 : decode cX11_comes 34 = .ok (.iconst 1, 1) := by decide +kernel
theorem dX11_comes_35 : decode cX11_comes 35 = .ok (.isub, 1) := by decide +kernel
theorem dX11_comes_36 : decode cX11_comes 36 = .ok (.ireturn, 1) := by decide +kernel
theorem dX11_ties_0 : decode cX11_ties 0 = .ok (.aload_n 0, 1) := by decide +kernel
theorem dX11_ties_1 : decode cX11_ties 1 = .ok (.iload_n 2, 1) := by decide +kernel
theorem dX11_ties_2 : decode cX11_ties 2 = .ok (.iload_n 3, 1) := by decide +kernel
theorem dX11_ties_3 : decode cX11_ties 3 = .ok (.invokevirtual 151, 3) := by decide +kernel
theorem dX11_ties_6 : decode cX11_ties 6 = .ok (.ifCond .ne 5, 3) := by decide +kernel
theorem dX11_ties_9 : decode cX11_ties 9 = .ok (.iconst (-1), 1) := by decide +kernel
theorem dX11_ties_10 : decode cX11_ties 10 = .ok (.ireturn, 1) := by decide +kernel
theorem dX11_ties_11 : decode cX11_ties 11 = .ok (.aload_n 0, 1) := by decide +kernel
theorem dX11_ties_12 : decode cX11_ties 12 = .ok (.iload_n 1, 1) := by decide +kernel
theorem dX11_ties_13 : decode cX11_ties 13 = .ok (.invokevirtual 177, 3) := by decide +kernel
theorem dX11_ties_16 : decode cX11_ties 16 = .ok (.istore 4, 2) := by decide +kernel
theorem dX11_ties_18 : decode cX11_ties 18 = .ok (.iload 4, 2) := by decide +kernel
theorem dX11_ties_20 : decode cX11_ties 20 = .ok (.ifCond .eq 6, 3) := by decide +kernel
theorem dX11_ties_23 : decode cX11_ties 23 = .ok (.iload 4, 2) := by decide +kernel
theorem dX11_ties_25 : decode cX11_ties 25 = .ok (.ireturn, 1) := by decide +kernel
theorem dX11_ties_26 : decode cX11_ties 26 = .ok (.aload_n 0, 1) := by decide +kernel
theorem dX11_ties_27 : decode cX11_ties 27 = .ok (.getfield 9, 3) := by decide +kernel
theorem dX11_ties_30 : decode cX11_ties 30 = .ok (.iconst 1, 1) := by decide +kernel
theorem dX11_ties_31 : decode cX11_ties 31 = .ok (.iaload, 1) := by decide +kernel
theorem dX11_ties_32 : decode cX11_ties 32 = .ok (.bipush 10, 2) := by decide +kernel
theorem dX11_ties_34 : decode cX11_ties 34 = .ok (.if_icmp .ne 6, 3) := by decide +kernel
theorem dX11_ties_37 : decode cX11_ties 37 = .ok (.bipush (-2), 2) := by decide +kernel
theorem dX11_ties_39 : decode cX11_ties 39 = .ok (.ireturn, 1) := by decide +kernel
theorem dX11_ties_40 : decode cX11_ties 40 = .ok (.aload_n 0, 1) := by decide +kernel
theorem dX11_ties_41 : decode cX11_ties 41 = .ok (.aload_n 0, 1) := by decide +kernel
theorem dX11_ties_42 : decode cX11_ties 42 = .ok (.getfield 37, 3) := by decide +kernel
theorem dX11_ties_45 : decode cX11_ties 45 = .ok (.iload_n 1, 1) := by decide +kernel
theorem dX11_ties_46 : decode cX11_ties 46 = .ok (.iaload, 1) := by decide +kernel
theorem dX11_ties_47 : decode cX11_ties 47 = .ok (.aload_n 0, 1) := by decide +kernel
theorem dX11_ties_48 : decode cX11_ties 48 = .ok (.getfield 40, 3) := by decide +kernel
theorem dX11_ties_51 : decode cX11_ties 51 = .ok (.iload_n 1, 1) := by decide +kernel
theorem dX11_ties_52 : decode cX11_ties 52 = .ok (.iaload, 1) := by decide +kernel
theorem dX11_ties_53 : decode cX11_ties 53 = .ok (.iload_n 2, 1) := by decide +kernel
theorem dX11_ties_54 : decode cX11_ties 54 = .ok (.iload_n 3, 1) := by decide +kernel
theorem dX11_ties_55 : decode cX11_ties 55 = .ok (.invokevirtual 154, 3) := by decide +kernel
theorem dX11_ties_58 : decode cX11_ties 58 = .ok (.aload_n 0, 1) := by decide +kernel
theorem dX11_ties_59 : decode cX11_ties 59 = .ok (.getfield 9, 3) := by decide +kernel
theorem dX11_ties_62 : decode cX11_ties 62 = .ok (.iconst 1, 1) := by decide +kernel
theorem dX11_ties_63 : decode cX11_ties 63 = .ok (.iaload, 1) := by decide +kernel
theorem dX11_ties_64 : decode cX11_ties 64 = .ok (.iconst 1, 1) := by decide +kernel
theorem dX11_ties_65 : decode cX11_ties 65 = .ok (.isub, 1) := by decide +kernel
theorem dX11_ties_66 : decode cX11_ties 66 = .ok (.ireturn, 1) := by decide +kernel
theorem dX11_goes_0 : decode cX11_goes 0 = .ok (.aload_n 0, 1) := by decide +kernel
theorem dX11_goes_1 : decode cX11_goes 1 = .ok (.iload_n 1, 1) := by decide +kernel
theorem dX11_goes_2 : decode cX11_goes 2 = .ok (.invokevirtual 140, 3) := by decide +kernel
theorem dX11_goes_5 : decode cX11_goes 5 = .ok (.ifCond .eq 25, 3) := by decide +kernel
theorem dX11_goes_8 : decode cX11_goes 8 = .ok (.iload_n 2, 1) := by decide +kernel
theorem dX11_goes_9 : decode cX11_goes 9 = .ok (.invokestatic 144, 3) := by decide +kernel
theorem dX11_goes_12 : decode cX11_goes 12 = .ok (.ifCond .eq 18, 3) := by decide +kernel
theorem dX11_goes_15 : decode cX11_goes 15 = .ok (.aload_n 0, 1) := by decide +kernel
theorem dX11_goes_16 : decode cX11_goes 16 = .ok (.getfield 9, 3) := by decide +kernel
theorem dX11_goes_19 : decode cX11_goes 19 = .ok (.iload_n 1, 1) := by decide +kernel
theorem dX11_goes_20 : decode cX11_goes 20 = .ok (.iload_n 2, 1) := by decide +kernel
theorem dX11_goes_21 : decode cX11_goes 21 = .ok (.invokestatic 158, 3) := by decide +kernel
theorem dX11_goes_24 : decode cX11_goes 24 = .ok (.invokestatic 180, 3) := by decide +kernel
theorem dX11_goes_27 : decode cX11_goes 27 = .ok (.goto 4, 3) := by decide +kernel
theorem dX11_goes_30 : decode cX11_goes 30 = .ok (.iconst (-1), 1) := by decide +kernel
theorem dX11_goes_31 : decode cX11_goes 31 = .ok (.ireturn, 1) := by decide +kernel
theorem dX11_cold_0 : decode cX11_cold 0 = .ok (.iload_n 1, 1) := by decide +kernel
theorem dX11_cold_1 : decode cX11_cold 1 = .ok (.iconst 0, 1) := by decide +kernel
theorem dX11_cold_2 : decode cX11_cold 2 = .ok (.bipush 9, 2) := by decide +kernel
theorem dX11_cold_4 : decode cX11_cold 4 = .ok (.invokestatic 52, 3) := by decide +kernel
theorem dX11_cold_7 : decode cX11_cold 7 = .ok (.ifCond .ne 5, 3) := by decide +kernel
theorem dX11_cold_10 : decode cX11_cold 10 = .ok (.iconst (-1), 1) := by decide +kernel
theorem dX11_cold_11 : decode cX11_cold 11 = .ok (.ireturn, 1) := by decide +kernel
theorem dX11_cold_12 : decode cX11_cold 12 = .ok (.aload_n 0, 1) := by decide +kernel
theorem dX11_cold_13 : decode cX11_cold 13 = .ok (.getfield 9, 3) := by decide +kernel
theorem dX11_cold_16 : decode cX11_cold 16 = .ok (.iconst 3, 1) := by decide +kernel
theorem dX11_cold_17 : decode cX11_cold 17 = .ok (.iload_n 1, 1) := by decide +kernel
theorem dX11_cold_18 : decode cX11_cold 18 = .ok (.iastore, 1) := by decide +kernel
theorem dX11_cold_19 : decode cX11_cold 19 = .ok (.aload_n 0, 1) := by decide +kernel
theorem dX11_cold_20 : decode cX11_cold 20 = .ok (.getfield 9, 3) := by decide +kernel
theorem dX11_cold_23 : decode cX11_cold 23 = .ok (.invokestatic 108, 3) := by decide +kernel
theorem dX11_cold_26 : decode cX11_cold 26 = .ok (.invokestatic 180, 3) := by decide +kernel
theorem dX11_cold_29 : decode cX11_cold 29 = .ok (.ireturn, 1) := by decide +kernel
theorem dX11_years_0 : decode cX11_years 0 = .ok (.iload_n 1, 1) := by decide +kernel
theorem dX11_years_1 : decode cX11_years 1 = .ok (.iconst 1, 1) := by decide +kernel
theorem dX11_years_2 : decode cX11_years 2 = .ok (.bipush 60, 2) := by decide +kernel
theorem dX11_years_4 : decode cX11_years 4 = .ok (.invokestatic 52, 3) := by decide +kernel
theorem dX11_years_7 : decode cX11_years 7 = .ok (.ifCond .ne 5, 3) := by decide +kernel
theorem dX11_years_10 : decode cX11_years 10 = .ok (.iconst (-1), 1) := by decide +kernel
theorem dX11_years_11 : decode cX11_years 11 = .ok (.ireturn, 1) := by decide +kernel
theorem dX11_years_12 : decode cX11_years 12 = .ok (.aload_n 0, 1) := by decide +kernel
theorem dX11_years_13 : decode cX11_years 13 = .ok (.getfield 9, 3) := by decide +kernel
theorem dX11_years_16 : decode cX11_years 16 = .ok (.iconst 2, 1) := by decide +kernel
theorem dX11_years_17 : decode cX11_years 17 = .ok (.iaload, 1) := by decide +kernel
theorem dX11_years_18 : decode cX11_years 18 = .ok (.iload_n 1, 1) := by decide +kernel
theorem dX11_years_19 : decode cX11_years 19 = .ok (.iadd, 1) := by decide +kernel
theorem dX11_years_20 : decode cX11_years 20 = .ok (.sipush 999, 3) := by decide +kernel
theorem dX11_years_23 : decode cX11_years 23 = .ok (.if_icmp .le 6, 3) := by decide +kernel
theorem dX11_years_26 : decode cX11_years 26 = .ok (.bipush (-3), 2) := by decide +kernel
theorem dX11_years_28 : decode cX11_years 28 = .ok (.ireturn, 1) := by decide +kernel
theorem dX11_years_29 : decode cX11_years 29 = .ok (.iconst 0, 1) := by decide +kernel
theorem dX11_years_30 : decode cX11_years 30 = .ok (.istore_n 2, 1) := by decide +kernel
theorem dX11_years_31 : decode cX11_years 31 = .ok (.iconst 0, 1) := by decide +kernel
theorem dX11_years_32 : decode cX11_years 32 = .ok (.istore_n 3, 1) := by decide +kernel
theorem dX11_years_33 : decode cX11_years 33 = .ok (.iload_n 3, 1) := by decide +kernel
theorem dX11_years_34 : decode cX11_years 34 = .ok (.iload_n 1, 1) := by decide +kernel
theorem dX11_years_35 : decode cX11_years 35 = .ok (.if_icmp .ge 20, 3) := by decide +kernel
theorem dX11_years_38 : decode cX11_years 38 = .ok (.iload_n 2, 1) := by decide +kernel
theorem dX11_years_39 : decode cX11_years 39 = .ok (.aload_n 0, 1) := by decide +kernel
theorem dX11_years_40 : decode cX11_years 40 = .ok (.aload_n 0, 1) := by decide +kernel
theorem dX11_years_41 : decode cX11_years 41 = .ok (.getfield 9, 3) := by decide +kernel
theorem dX11_years_44 : decode cX11_years 44 = .ok (.invokevirtual 161, 3) := by decide +kernel
theorem dX11_years_47 : decode cX11_years 47 = .ok (.ior, 1) := by decide +kernel
theorem dX11_years_48 : decode cX11_years 48 = .ok (.istore_n 2, 1) := by decide +kernel
theorem dX11_years_49 : decode cX11_years 49 = .ok (.iinc 3 1, 3) := by decide +kernel
theorem dX11_years_52 : decode cX11_years 52 = .ok (.goto (-19), 3) := by decide +kernel
theorem dX11_years_55 : decode cX11_years 55 = .ok (.iload_n 2, 1) := by decide +kernel
theorem dX11_years_56 : decode cX11_years 56 = .ok (.invokestatic 180, 3) := by decide +kernel
theorem dX11_years_59 : decode cX11_years 59 = .ok (.ireturn, 1) := by decide +kernel
theorem dX11_cuts_0 : decode cX11_cuts 0 = .ok (.aload_n 0, 1) := by decide +kernel
theorem dX11_cuts_1 : decode cX11_cuts 1 = .ok (.iload_n 1, 1) := by decide +kernel
theorem dX11_cuts_2 : decode cX11_cuts 2 = .ok (.invokevirtual 164, 3) := by decide +kernel
theorem dX11_cuts_5 : decode cX11_cuts 5 = .ok (.ifCond .ne 5, 3) := by decide +kernel
theorem dX11_cuts_8 : decode cX11_cuts 8 = .ok (.iconst (-1), 1) := by decide +kernel
theorem dX11_cuts_9 : decode cX11_cuts 9 = .ok (.ireturn, 1) := by decide +kernel
theorem dX11_cuts_10 : decode cX11_cuts 10 = .ok (.aload_n 0, 1) := by decide +kernel
theorem dX11_cuts_11 : decode cX11_cuts 11 = .ok (.getfield 9, 3) := by decide +kernel
theorem dX11_cuts_14 : decode cX11_cuts 14 = .ok (.iload_n 1, 1) := by decide +kernel
theorem dX11_cuts_15 : decode cX11_cuts 15 = .ok (.invokestatic 69, 3) := by decide +kernel
theorem dX11_cuts_18 : decode cX11_cuts 18 = .ok (.ifCond .ne 6, 3) := by decide +kernel
theorem dX11_cuts_21 : decode cX11_cuts 21 = .ok (.bipush (-3), 2) := by decide +kernel
theorem dX11_cuts_23 : decode cX11_cuts 23 = .ok (.ireturn, 1) := by decide +kernel
theorem dX11_cuts_24 : decode cX11_cuts 24 = .ok (.aload_n 0, 1) := by decide +kernel
theorem dX11_cuts_25 : decode cX11_cuts 25 = .ok (.getfield 9, 3) := by decide +kernel
theorem dX11_cuts_28 : decode cX11_cuts 28 = .ok (.iload_n 1, 1) := by decide +kernel
theorem dX11_cuts_29 : decode cX11_cuts 29 = .ok (.iconst 5, 1) := by decide +kernel
theorem dX11_cuts_30 : decode cX11_cuts 30 = .ok (.invokestatic 56, 3) := by decide +kernel
theorem dX11_cuts_33 : decode cX11_cuts 33 = .ok (.iconst 1, 1) := by decide +kernel
theorem dX11_cuts_34 : decode cX11_cuts 34 = .ok (.iastore, 1) := by decide +kernel
theorem dX11_cuts_35 : decode cX11_cuts 35 = .ok (.aload_n 0, 1) := by decide +kernel
theorem dX11_cuts_36 : decode cX11_cuts 36 = .ok (.getfield 9, 3) := by decide +kernel
theorem dX11_cuts_39 : decode cX11_cuts 39 = .ok (.invokestatic 120, 3) := by decide +kernel
theorem dX11_cuts_42 : decode cX11_cuts 42 = .ok (.invokestatic 180, 3) := by decide +kernel
theorem dX11_cuts_45 : decode cX11_cuts 45 = .ok (.ireturn, 1) := by decide +kernel
theorem dX11_farthestOf_0 : decode cX11_farthestOf 0 = .ok (.aload_n 0, 1) := by decide +kernel
theorem dX11_farthestOf_1 : decode cX11_farthestOf 1 = .ok (.getfield 9, 3) := by decide +kernel
theorem dX11_farthestOf_4 : decode cX11_farthestOf 4 = .ok (.aload_n 0, 1) := by decide +kernel
theorem dX11_farthestOf_5 : decode cX11_farthestOf 5 = .ok (.getfield 13, 3) := by decide +kernel
theorem dX11_farthestOf_8 : decode cX11_farthestOf 8 = .ok (.invokestatic 112, 3) := by decide +kernel
theorem dX11_farthestOf_11 : decode cX11_farthestOf 11 = .ok (.aload_n 0, 1) := by decide +kernel
theorem dX11_farthestOf_12 : decode cX11_farthestOf 12 = .ok (.getfield 9, 3) := by decide +kernel
theorem dX11_farthestOf_15 : decode cX11_farthestOf 15 = .ok (.iconst 4, 1) := by decide +kernel
theorem dX11_farthestOf_16 : decode cX11_farthestOf 16 = .ok (.iload_n 1, 1) := by decide +kernel
theorem dX11_farthestOf_17 : decode cX11_farthestOf 17 = .ok (.iadd, 1) := by decide +kernel
theorem dX11_farthestOf_18 : decode cX11_farthestOf 18 = .ok (.iaload, 1) := by decide +kernel
theorem dX11_farthestOf_19 : decode cX11_farthestOf 19 = .ok (.istore_n 3, 1) := by decide +kernel
theorem dX11_farthestOf_20 : decode cX11_farthestOf 20 = .ok (.iload_n 3, 1) := by decide +kernel
theorem dX11_farthestOf_21 : decode cX11_farthestOf 21 = .ok (.iload_n 2, 1) := by decide +kernel
theorem dX11_farthestOf_22 : decode cX11_farthestOf 22 = .ok (.iadd, 1) := by decide +kernel
theorem dX11_farthestOf_23 : decode cX11_farthestOf 23 = .ok (.invokestatic 144, 3) := by decide +kernel
theorem dX11_farthestOf_26 : decode cX11_farthestOf 26 = .ok (.ifCond .eq 55, 3) := by decide +kernel
theorem dX11_farthestOf_29 : decode cX11_farthestOf 29 = .ok (.aload_n 0, 1) := by decide +kernel
theorem dX11_farthestOf_30 : decode cX11_farthestOf 30 = .ok (.getfield 13, 3) := by decide +kernel
theorem dX11_farthestOf_33 : decode cX11_farthestOf 33 = .ok (.iconst 4, 1) := by decide +kernel
theorem dX11_farthestOf_34 : decode cX11_farthestOf 34 = .ok (.iload_n 1, 1) := by decide +kernel
theorem dX11_farthestOf_35 : decode cX11_farthestOf 35 = .ok (.iadd, 1) := by decide +kernel
theorem dX11_farthestOf_36 : decode cX11_farthestOf 36 = .ok (.iload_n 3, 1) := by decide +kernel
theorem dX11_farthestOf_37 : decode cX11_farthestOf 37 = .ok (.iload_n 2, 1) := by decide +kernel
theorem dX11_farthestOf_38 : decode cX11_farthestOf 38 = .ok (.iadd, 1) := by decide +kernel
theorem dX11_farthestOf_39 : decode cX11_farthestOf 39 = .ok (.iastore, 1) := by decide +kernel
theorem dX11_farthestOf_40 : decode cX11_farthestOf 40 = .ok (.iconst 0, 1) := by decide +kernel
theorem dX11_farthestOf_41 : decode cX11_farthestOf 41 = .ok (.istore 4, 2) := by decide +kernel
theorem dX11_farthestOf_43 : decode cX11_farthestOf 43 = .ok (.iload 4, 2) := by decide +kernel
theorem dX11_farthestOf_45 : decode cX11_farthestOf 45 = .ok (.aload_n 0, 1) := by decide +kernel
theorem dX11_farthestOf_46 : decode cX11_farthestOf 46 = .ok (.getfield 13, 3) := by decide +kernel
theorem dX11_farthestOf_49 : decode cX11_farthestOf 49 = .ok (.iconst 1, 1) := by decide +kernel
theorem dX11_farthestOf_50 : decode cX11_farthestOf 50 = .ok (.iaload, 1) := by decide +kernel
theorem dX11_farthestOf_51 : decode cX11_farthestOf 51 = .ok (.if_icmp .ge 23, 3) := by decide +kernel
theorem dX11_farthestOf_54 : decode cX11_farthestOf 54 = .ok (.aload_n 0, 1) := by decide +kernel
theorem dX11_farthestOf_55 : decode cX11_farthestOf 55 = .ok (.getfield 13, 3) := by decide +kernel
theorem dX11_farthestOf_58 : decode cX11_farthestOf 58 = .ok (.iload 4, 2) := by decide +kernel
theorem dX11_farthestOf_60 : decode cX11_farthestOf 60 = .ok (.invokestatic 90, 3) := by decide +kernel
theorem dX11_farthestOf_63 : decode cX11_farthestOf 63 = .ok (.ifCond .eq 5, 3) := by decide +kernel
theorem dX11_farthestOf_66 : decode cX11_farthestOf 66 = .ok (.iload_n 3, 1) := by decide +kernel
theorem dX11_farthestOf_67 : decode cX11_farthestOf 67 = .ok (.ireturn, 1) := by decide +kernel
theorem dX11_farthestOf_68 : decode cX11_farthestOf 68 = .ok (.iinc 4 1, 3) := by decide +kernel
theorem dX11_farthestOf_71 : decode cX11_farthestOf 71 = .ok (.goto (-28), 3) := by decide +kernel
theorem dX11_farthestOf_74 : decode cX11_farthestOf 74 = .ok (.iload_n 3, 1) := by decide +kernel
theorem dX11_farthestOf_75 : decode cX11_farthestOf 75 = .ok (.iload_n 2, 1) := by decide +kernel
theorem dX11_farthestOf_76 : decode cX11_farthestOf 76 = .ok (.iadd, 1) := by decide +kernel
theorem dX11_farthestOf_77 : decode cX11_farthestOf 77 = .ok (.istore_n 3, 1) := by decide +kernel
theorem dX11_farthestOf_78 : decode cX11_farthestOf 78 = .ok (.goto (-58), 3) := by decide +kernel
theorem dX11_farthestOf_81 : decode cX11_farthestOf 81 = .ok (.iload_n 3, 1) := by decide +kernel
theorem dX11_farthestOf_82 : decode cX11_farthestOf 82 = .ok (.ireturn, 1) := by decide +kernel
theorem dX11_mayGo_0 : decode cX11_mayGo 0 = .ok (.aload_n 0, 1) := by decide +kernel
theorem dX11_mayGo_1 : decode cX11_mayGo 1 = .ok (.iload_n 1, 1) := by decide +kernel
theorem dX11_mayGo_2 : decode cX11_mayGo 2 = .ok (.invokevirtual 140, 3) := by decide +kernel
theorem dX11_mayGo_5 : decode cX11_mayGo 5 = .ok (.ifCond .eq 29, 3) := by decide +kernel
theorem dX11_mayGo_8 : decode cX11_mayGo 8 = .ok (.iload_n 2, 1) := by decide +kernel
theorem dX11_mayGo_9 : decode cX11_mayGo 9 = .ok (.iconst 0, 1) := by decide +kernel
theorem dX11_mayGo_10 : decode cX11_mayGo 10 = .ok (.iconst 1, 1) := by decide +kernel
theorem dX11_mayGo_11 : decode cX11_mayGo 11 = .ok (.invokestatic 52, 3) := by decide +kernel
theorem dX11_mayGo_14 : decode cX11_mayGo 14 = .ok (.ifCond .eq 20, 3) := by decide +kernel
theorem dX11_mayGo_17 : decode cX11_mayGo 17 = .ok (.aload_n 0, 1) := by decide +kernel
theorem dX11_mayGo_18 : decode cX11_mayGo 18 = .ok (.iload_n 1, 1) := by decide +kernel
theorem dX11_mayGo_19 : decode cX11_mayGo 19 = .ok (.iload_n 2, 1) := by decide +kernel
theorem dX11_mayGo_20 : decode cX11_mayGo 20 = .ok (.ifCond .ne 7, 3) := by decide +kernel
theorem dX11_mayGo_23 : decode cX11_mayGo 23 = .ok (.iconst (-1), 1) := by decide +kernel
theorem dX11_mayGo_24 : decode cX11_mayGo 24 = .ok (.goto 4, 3) := by decide +kernel
theorem dX11_mayGo_27 : decode cX11_mayGo 27 = .ok (.iconst 1, 1) := by decide +kernel
theorem dX11_mayGo_28 : decode cX11_mayGo 28 = .ok (.invokevirtual 183, 3) := by decide +kernel
theorem dX11_mayGo_31 : decode cX11_mayGo 31 = .ok (.goto 4, 3) := by decide +kernel
theorem dX11_mayGo_34 : decode cX11_mayGo 34 = .ok (.iconst (-1), 1) := by decide +kernel
theorem dX11_mayGo_35 : decode cX11_mayGo 35 = .ok (.ireturn, 1) := by decide +kernel
theorem dX11_rest_0 : decode cX11_rest 0 = .ok (.aload_n 0, 1) := by decide +kernel
theorem dX11_rest_1 : decode cX11_rest 1 = .ok (.iload_n 1, 1) := by decide +kernel
theorem dX11_rest_2 : decode cX11_rest 2 = .ok (.invokevirtual 140, 3) := by decide +kernel
theorem dX11_rest_5 : decode cX11_rest 5 = .ok (.ifCond .ne 5, 3) := by decide +kernel
theorem dX11_rest_8 : decode cX11_rest 8 = .ok (.iconst (-1), 1) := by decide +kernel
theorem dX11_rest_9 : decode cX11_rest 9 = .ok (.ireturn, 1) := by decide +kernel
theorem dX11_rest_10 : decode cX11_rest 10 = .ok (.aload_n 0, 1) := by decide +kernel
theorem dX11_rest_11 : decode cX11_rest 11 = .ok (.iload_n 1, 1) := by decide +kernel
theorem dX11_rest_12 : decode cX11_rest 12 = .ok (.iconst (-1), 1) := by decide +kernel
theorem dX11_rest_13 : decode cX11_rest 13 = .ok (.invokevirtual 183, 3) := by decide +kernel
theorem dX11_rest_16 : decode cX11_rest 16 = .ok (.istore_n 2, 1) := by decide +kernel
theorem dX11_rest_17 : decode cX11_rest 17 = .ok (.aload_n 0, 1) := by decide +kernel
theorem dX11_rest_18 : decode cX11_rest 18 = .ok (.iload_n 1, 1) := by decide +kernel
theorem dX11_rest_19 : decode cX11_rest 19 = .ok (.iconst 1, 1) := by decide +kernel
theorem dX11_rest_20 : decode cX11_rest 20 = .ok (.invokevirtual 183, 3) := by decide +kernel
theorem dX11_rest_23 : decode cX11_rest 23 = .ok (.istore_n 3, 1) := by decide +kernel
theorem dX11_rest_24 : decode cX11_rest 24 = .ok (.iload_n 2, 1) := by decide +kernel
theorem dX11_rest_25 : decode cX11_rest 25 = .ok (.istore 4, 2) := by decide +kernel
theorem dX11_rest_27 : decode cX11_rest 27 = .ok (.ldc 186, 2) := by decide +kernel
theorem dX11_rest_29 : decode cX11_rest 29 = .ok (.istore 5, 2) := by decide +kernel
theorem dX11_rest_31 : decode cX11_rest 31 = .ok (.aload_n 0, 1) := by decide +kernel
theorem dX11_rest_32 : decode cX11_rest 32 = .ok (.getfield 9, 3) := by decide +kernel
theorem dX11_rest_35 : decode cX11_rest 35 = .ok (.aload_n 0, 1) := by decide +kernel
theorem dX11_rest_36 : decode cX11_rest 36 = .ok (.getfield 13, 3) := by decide +kernel
theorem dX11_rest_39 : decode cX11_rest 39 = .ok (.invokestatic 112, 3) := by decide +kernel
theorem dX11_rest_42 : decode cX11_rest 42 = .ok (.iload_n 2, 1) := by decide +kernel
theorem dX11_rest_43 : decode cX11_rest 43 = .ok (.istore 6, 2) := by decide +kernel
theorem dX11_rest_45 : decode cX11_rest 45 = .ok (.iload 6, 2) := by decide +kernel
theorem dX11_rest_47 : decode cX11_rest 47 = .ok (.iload_n 3, 1) := by decide +kernel
theorem dX11_rest_48 : decode cX11_rest 48 = .ok (.if_icmp .gt 60, 3) := by decide +kernel
theorem dX11_rest_51 : decode cX11_rest 51 = .ok (.aload_n 0, 1) := by decide +kernel
theorem dX11_rest_52 : decode cX11_rest 52 = .ok (.getfield 13, 3) := by decide +kernel
theorem dX11_rest_55 : decode cX11_rest 55 = .ok (.iconst 4, 1) := by decide +kernel
theorem dX11_rest_56 : decode cX11_rest 56 = .ok (.iload_n 1, 1) := by decide +kernel
theorem dX11_rest_57 : decode cX11_rest 57 = .ok (.iadd, 1) := by decide +kernel
theorem dX11_rest_58 : decode cX11_rest 58 = .ok (.iload 6, 2) := by decide +kernel
theorem dX11_rest_60 : decode cX11_rest 60 = .ok (.iastore, 1) := by decide +kernel
theorem dX11_rest_61 : decode cX11_rest 61 = .ok (.aload_n 0, 1) := by decide +kernel
theorem dX11_rest_62 : decode cX11_rest 62 = .ok (.getfield 13, 3) := by decide +kernel
theorem dX11_rest_65 : decode cX11_rest 65 = .ok (.iload_n 1, 1) := by decide +kernel
theorem dX11_rest_66 : decode cX11_rest 66 = .ok (.iconst 1, 1) := by decide +kernel
theorem dX11_rest_67 : decode cX11_rest 67 = .ok (.invokestatic 116, 3) := by decide +kernel
theorem dX11_rest_70 : decode cX11_rest 70 = .ok (.aload_n 0, 1) := by decide +kernel
theorem dX11_rest_71 : decode cX11_rest 71 = .ok (.getfield 13, 3) := by decide +kernel
theorem dX11_rest_74 : decode cX11_rest 74 = .ok (.iload_n 1, 1) := by decide +kernel
theorem dX11_rest_75 : decode cX11_rest 75 = .ok (.iconst (-1), 1) := by decide +kernel
theorem dX11_rest_76 : decode cX11_rest 76 = .ok (.invokestatic 116, 3) := by decide +kernel
theorem dX11_rest_79 : decode cX11_rest 79 = .ok (.invokestatic 60, 3) := by decide +kernel
theorem dX11_rest_82 : decode cX11_rest 82 = .ok (.istore 7, 2) := by decide +kernel
theorem dX11_rest_84 : decode cX11_rest 84 = .ok (.iload 7, 2) := by decide +kernel
theorem dX11_rest_86 : decode cX11_rest 86 = .ok (.iload 5, 2) := by decide +kernel
theorem dX11_rest_88 : decode cX11_rest 88 = .ok (.if_icmp .lt 6, 3) := by decide +kernel
theorem dX11_rest_91 : decode cX11_rest 91 = .ok (.goto 11, 3) := by decide +kernel
theorem dX11_rest_94 : decode cX11_rest 94 = .ok (.iload 6, 2) := by decide +kernel
theorem dX11_rest_96 : decode cX11_rest 96 = .ok (.istore 4, 2) := by decide +kernel
theorem dX11_rest_98 : decode cX11_rest 98 = .ok (.iload 7, 2) := by decide +kernel
theorem dX11_rest_100 : decode cX11_rest 100 = .ok (.istore 5, 2) := by decide +kernel
theorem dX11_rest_102 : decode cX11_rest 102 = .ok (.iinc 6 1, 3) := by decide +kernel
theorem dX11_rest_105 : decode cX11_rest 105 = .ok (.goto (-60), 3) := by decide +kernel
theorem dX11_rest_108 : decode cX11_rest 108 = .ok (.iload 4, 2) := by decide +kernel
theorem dX11_rest_110 : decode cX11_rest 110 = .ok (.ireturn, 1) := by decide +kernel
theorem dX11_yearsOn_0 : decode cX11_yearsOn 0 = .ok (.aload_n 0, 1) := by decide +kernel
theorem dX11_yearsOn_1 : decode cX11_yearsOn 1 = .ok (.getfield 9, 3) := by decide +kernel
theorem dX11_yearsOn_4 : decode cX11_yearsOn 4 = .ok (.aload_n 0, 1) := by decide +kernel
theorem dX11_yearsOn_5 : decode cX11_yearsOn 5 = .ok (.getfield 13, 3) := by decide +kernel
theorem dX11_yearsOn_8 : decode cX11_yearsOn 8 = .ok (.invokestatic 112, 3) := by decide +kernel
theorem dX11_yearsOn_11 : decode cX11_yearsOn 11 = .ok (.iconst 0, 1) := by decide +kernel
theorem dX11_yearsOn_12 : decode cX11_yearsOn 12 = .ok (.istore_n 2, 1) := by decide +kernel
theorem dX11_yearsOn_13 : decode cX11_yearsOn 13 = .ok (.iconst 0, 1) := by decide +kernel
theorem dX11_yearsOn_14 : decode cX11_yearsOn 14 = .ok (.istore_n 3, 1) := by decide +kernel
theorem dX11_yearsOn_15 : decode cX11_yearsOn 15 = .ok (.iload_n 3, 1) := by decide +kernel
theorem dX11_yearsOn_16 : decode cX11_yearsOn 16 = .ok (.iload_n 1, 1) := by decide +kernel
theorem dX11_yearsOn_17 : decode cX11_yearsOn 17 = .ok (.if_icmp .ge 20, 3) := by decide +kernel
theorem dX11_yearsOn_20 : decode cX11_yearsOn 20 = .ok (.iload_n 2, 1) := by decide +kernel
theorem dX11_yearsOn_21 : decode cX11_yearsOn 21 = .ok (.aload_n 0, 1) := by decide +kernel
theorem dX11_yearsOn_22 : decode cX11_yearsOn 22 = .ok (.aload_n 0, 1) := by decide +kernel
theorem dX11_yearsOn_23 : decode cX11_yearsOn 23 = .ok (.getfield 13, 3) := by decide +kernel
theorem dX11_yearsOn_26 : decode cX11_yearsOn 26 = .ok (.invokevirtual 161, 3) := by decide +kernel
theorem dX11_yearsOn_29 : decode cX11_yearsOn 29 = .ok (.ior, 1) := by decide +kernel
theorem dX11_yearsOn_30 : decode cX11_yearsOn 30 = .ok (.istore_n 2, 1) := by decide +kernel
theorem dX11_yearsOn_31 : decode cX11_yearsOn 31 = .ok (.iinc 3 1, 3) := by decide +kernel
theorem dX11_yearsOn_34 : decode cX11_yearsOn 34 = .ok (.goto (-19), 3) := by decide +kernel
theorem dX11_yearsOn_37 : decode cX11_yearsOn 37 = .ok (.return_, 1) := by decide +kernel
theorem dX11_placeIn_0 : decode cX11_placeIn 0 = .ok (.aload_n 0, 1) := by decide +kernel
theorem dX11_placeIn_1 : decode cX11_placeIn 1 = .ok (.iload_n 1, 1) := by decide +kernel
theorem dX11_placeIn_2 : decode cX11_placeIn 2 = .ok (.invokevirtual 140, 3) := by decide +kernel
theorem dX11_placeIn_5 : decode cX11_placeIn 5 = .ok (.ifCond .eq 13, 3) := by decide +kernel
theorem dX11_placeIn_8 : decode cX11_placeIn 8 = .ok (.iload_n 2, 1) := by decide +kernel
theorem dX11_placeIn_9 : decode cX11_placeIn 9 = .ok (.iconst 0, 1) := by decide +kernel
theorem dX11_placeIn_10 : decode cX11_placeIn 10 = .ok (.bipush 60, 2) := by decide +kernel
theorem dX11_placeIn_12 : decode cX11_placeIn 12 = .ok (.invokestatic 52, 3) := by decide +kernel
theorem dX11_placeIn_15 : decode cX11_placeIn 15 = .ok (.ifCond .ne 5, 3) := by decide +kernel
theorem dX11_placeIn_18 : decode cX11_placeIn 18 = .ok (.iconst (-1), 1) := by decide +kernel
theorem dX11_placeIn_19 : decode cX11_placeIn 19 = .ok (.ireturn, 1) := by decide +kernel
theorem dX11_placeIn_20 : decode cX11_placeIn 20 = .ok (.aload_n 0, 1) := by decide +kernel
theorem dX11_placeIn_21 : decode cX11_placeIn 21 = .ok (.iload_n 2, 1) := by decide +kernel
theorem dX11_placeIn_22 : decode cX11_placeIn 22 = .ok (.invokevirtual 187, 3) := by decide +kernel
theorem dX11_placeIn_25 : decode cX11_placeIn 25 = .ok (.aload_n 0, 1) := by decide +kernel
theorem dX11_placeIn_26 : decode cX11_placeIn 26 = .ok (.getfield 13, 3) := by decide +kernel
theorem dX11_placeIn_29 : decode cX11_placeIn 29 = .ok (.iconst 4, 1) := by decide +kernel
theorem dX11_placeIn_30 : decode cX11_placeIn 30 = .ok (.iload_n 1, 1) := by decide +kernel
theorem dX11_placeIn_31 : decode cX11_placeIn 31 = .ok (.iadd, 1) := by decide +kernel
theorem dX11_placeIn_32 : decode cX11_placeIn 32 = .ok (.iaload, 1) := by decide +kernel
theorem dX11_placeIn_33 : decode cX11_placeIn 33 = .ok (.ireturn, 1) := by decide +kernel
theorem dX11_snappedIn_0 : decode cX11_snappedIn 0 = .ok (.iload_n 1, 1) := by decide +kernel
theorem dX11_snappedIn_1 : decode cX11_snappedIn 1 = .ok (.iconst 0, 1) := by decide +kernel
theorem dX11_snappedIn_2 : decode cX11_snappedIn 2 = .ok (.bipush 60, 2) := by decide +kernel
theorem dX11_snappedIn_4 : decode cX11_snappedIn 4 = .ok (.invokestatic 52, 3) := by decide +kernel
theorem dX11_snappedIn_7 : decode cX11_snappedIn 7 = .ok (.ifCond .ne 5, 3) := by decide +kernel
theorem dX11_snappedIn_10 : decode cX11_snappedIn 10 = .ok (.iconst (-1), 1) := by decide +kernel
theorem dX11_snappedIn_11 : decode cX11_snappedIn 11 = .ok (.ireturn, 1) := by decide +kernel
theorem dX11_snappedIn_12 : decode cX11_snappedIn 12 = .ok (.aload_n 0, 1) := by decide +kernel
theorem dX11_snappedIn_13 : decode cX11_snappedIn 13 = .ok (.iload_n 1, 1) := by decide +kernel
theorem dX11_snappedIn_14 : decode cX11_snappedIn 14 = .ok (.invokevirtual 187, 3) := by decide +kernel
theorem dX11_snappedIn_17 : decode cX11_snappedIn 17 = .ok (.aload_n 0, 1) := by decide +kernel
theorem dX11_snappedIn_18 : decode cX11_snappedIn 18 = .ok (.getfield 13, 3) := by decide +kernel
theorem dX11_snappedIn_21 : decode cX11_snappedIn 21 = .ok (.invokestatic 120, 3) := by decide +kernel
theorem dX11_snappedIn_24 : decode cX11_snappedIn 24 = .ok (.ireturn, 1) := by decide +kernel
theorem dX11_still_0 : decode cX11_still 0 = .ok (.aload_n 0, 1) := by decide +kernel
theorem dX11_still_1 : decode cX11_still 1 = .ok (.getfield 9, 3) := by decide +kernel
theorem dX11_still_4 : decode cX11_still 4 = .ok (.aload_n 0, 1) := by decide +kernel
theorem dX11_still_5 : decode cX11_still 5 = .ok (.getfield 13, 3) := by decide +kernel
theorem dX11_still_8 : decode cX11_still 8 = .ok (.invokestatic 112, 3) := by decide +kernel
theorem dX11_still_11 : decode cX11_still 11 = .ok (.iconst 0, 1) := by decide +kernel
theorem dX11_still_12 : decode cX11_still 12 = .ok (.istore_n 1, 1) := by decide +kernel
theorem dX11_still_13 : decode cX11_still 13 = .ok (.iload_n 1, 1) := by decide +kernel
theorem dX11_still_14 : decode cX11_still 14 = .ok (.bipush 60, 2) := by decide +kernel
theorem dX11_still_16 : decode cX11_still 16 = .ok (.if_icmp .gt 88, 3) := by decide +kernel
theorem dX11_still_19 : decode cX11_still 19 = .ok (.aload_n 0, 1) := by decide +kernel
theorem dX11_still_20 : decode cX11_still 20 = .ok (.getfield 13, 3) := by decide +kernel
theorem dX11_still_23 : decode cX11_still 23 = .ok (.aload_n 0, 1) := by decide +kernel
theorem dX11_still_24 : decode cX11_still 24 = .ok (.getfield 19, 3) := by decide +kernel
theorem dX11_still_27 : decode cX11_still 27 = .ok (.invokestatic 112, 3) := by decide +kernel
theorem dX11_still_30 : decode cX11_still 30 = .ok (.aload_n 0, 1) := by decide +kernel
theorem dX11_still_31 : decode cX11_still 31 = .ok (.aload_n 0, 1) := by decide +kernel
theorem dX11_still_32 : decode cX11_still 32 = .ok (.getfield 13, 3) := by decide +kernel
theorem dX11_still_35 : decode cX11_still 35 = .ok (.invokevirtual 161, 3) := by decide +kernel
theorem dX11_still_38 : decode cX11_still 38 = .ok (.ifCond .ne 7, 3) := by decide +kernel
theorem dX11_still_41 : decode cX11_still 41 = .ok (.iconst 1, 1) := by decide +kernel
theorem dX11_still_42 : decode cX11_still 42 = .ok (.goto 4, 3) := by decide +kernel
theorem dX11_still_45 : decode cX11_still 45 = .ok (.iconst 0, 1) := by decide +kernel
theorem dX11_still_46 : decode cX11_still 46 = .ok (.istore_n 2, 1) := by decide +kernel
theorem dX11_still_47 : decode cX11_still 47 = .ok (.iconst 0, 1) := by decide +kernel
theorem dX11_still_48 : decode cX11_still 48 = .ok (.istore_n 3, 1) := by decide +kernel
theorem dX11_still_49 : decode cX11_still 49 = .ok (.iload_n 3, 1) := by decide +kernel
theorem dX11_still_50 : decode cX11_still 50 = .ok (.aload_n 0, 1) := by decide +kernel
theorem dX11_still_51 : decode cX11_still 51 = .ok (.getfield 13, 3) := by decide +kernel
theorem dX11_still_54 : decode cX11_still 54 = .ok (.iconst 0, 1) := by decide +kernel
theorem dX11_still_55 : decode cX11_still 55 = .ok (.iaload, 1) := by decide +kernel
theorem dX11_still_56 : decode cX11_still 56 = .ok (.if_icmp .ge 36, 3) := by decide +kernel
theorem dX11_still_59 : decode cX11_still 59 = .ok (.iload_n 2, 1) := by decide +kernel
theorem dX11_still_60 : decode cX11_still 60 = .ok (.aload_n 0, 1) := by decide +kernel
theorem dX11_still_61 : decode cX11_still 61 = .ok (.getfield 13, 3) := by decide +kernel
theorem dX11_still_64 : decode cX11_still 64 = .ok (.iconst 4, 1) := by decide +kernel
theorem dX11_still_65 : decode cX11_still 65 = .ok (.iload_n 3, 1) := by decide +kernel
theorem dX11_still_66 : decode cX11_still 66 = .ok (.iadd, 1) := by decide +kernel
theorem dX11_still_67 : decode cX11_still 67 = .ok (.iaload, 1) := by decide +kernel
theorem dX11_still_68 : decode cX11_still 68 = .ok (.aload_n 0, 1) := by decide +kernel
theorem dX11_still_69 : decode cX11_still 69 = .ok (.getfield 19, 3) := by decide +kernel
theorem dX11_still_72 : decode cX11_still 72 = .ok (.iconst 4, 1) := by decide +kernel
theorem dX11_still_73 : decode cX11_still 73 = .ok (.iload_n 3, 1) := by decide +kernel
theorem dX11_still_74 : decode cX11_still 74 = .ok (.iadd, 1) := by decide +kernel
theorem dX11_still_75 : decode cX11_still 75 = .ok (.iaload, 1) := by decide +kernel
theorem dX11_still_76 : decode cX11_still 76 = .ok (.if_icmp .ne 7, 3) := by decide +kernel
theorem dX11_still_79 : decode cX11_still 79 = .ok (.iconst 1, 1) := by decide +kernel
theorem dX11_still_80 : decode cX11_still 80 = .ok (.goto 4, 3) := by decide +kernel
theorem dX11_still_83 : decode cX11_still 83 = .ok (.iconst 0, 1) := by decide +kernel
theorem dX11_still_84 : decode cX11_still 84 = .ok (.iand, 1) := by decide +kernel
theorem dX11_still_85 : decode cX11_still 85 = .ok (.istore_n 2, 1) := by decide +kernel
theorem dX11_still_86 : decode cX11_still 86 = .ok (.iinc 3 1, 3) := by decide +kernel
theorem dX11_still_89 : decode cX11_still 89 = .ok (.goto (-40), 3) := by decide +kernel
theorem dX11_still_92 : decode cX11_still 92 = .ok (.iload_n 2, 1) := by decide +kernel
theorem dX11_still_93 : decode cX11_still 93 = .ok (.ifCond .eq 5, 3) := by decide +kernel
theorem dX11_still_96 : decode cX11_still 96 = .ok (.iload_n 1, 1) := by decide +kernel
theorem dX11_still_97 : decode cX11_still 97 = .ok (.ireturn, 1) := by decide +kernel
theorem dX11_still_98 : decode cX11_still 98 = .ok (.iinc 1 1, 3) := by decide +kernel
theorem dX11_still_101 : decode cX11_still 101 = .ok (.goto (-88), 3) := by decide +kernel
theorem dX11_still_104 : decode cX11_still 104 = .ok (.bipush (-4), 2) := by decide +kernel
theorem dX11_still_106 : decode cX11_still 106 = .ok (.ireturn, 1) := by decide +kernel
theorem dX11_firstSnap_0 : decode cX11_firstSnap 0 = .ok (.iload_n 1, 1) := by decide +kernel
theorem dX11_firstSnap_1 : decode cX11_firstSnap 1 = .ok (.iconst 0, 1) := by decide +kernel
theorem dX11_firstSnap_2 : decode cX11_firstSnap 2 = .ok (.iconst 1, 1) := by decide +kernel
theorem dX11_firstSnap_3 : decode cX11_firstSnap 3 = .ok (.invokestatic 52, 3) := by decide +kernel
theorem dX11_firstSnap_6 : decode cX11_firstSnap 6 = .ok (.ifCond .ne 5, 3) := by decide +kernel
theorem dX11_firstSnap_9 : decode cX11_firstSnap 9 = .ok (.iconst (-1), 1) := by decide +kernel
theorem dX11_firstSnap_10 : decode cX11_firstSnap 10 = .ok (.ireturn, 1) := by decide +kernel
theorem dX11_firstSnap_11 : decode cX11_firstSnap 11 = .ok (.aload_n 0, 1) := by decide +kernel
theorem dX11_firstSnap_12 : decode cX11_firstSnap 12 = .ok (.getfield 9, 3) := by decide +kernel
theorem dX11_firstSnap_15 : decode cX11_firstSnap 15 = .ok (.aload_n 0, 1) := by decide +kernel
theorem dX11_firstSnap_16 : decode cX11_firstSnap 16 = .ok (.getfield 13, 3) := by decide +kernel
theorem dX11_firstSnap_19 : decode cX11_firstSnap 19 = .ok (.invokestatic 112, 3) := by decide +kernel
theorem dX11_firstSnap_22 : decode cX11_firstSnap 22 = .ok (.iconst 1, 1) := by decide +kernel
theorem dX11_firstSnap_23 : decode cX11_firstSnap 23 = .ok (.istore_n 2, 1) := by decide +kernel
theorem dX11_firstSnap_24 : decode cX11_firstSnap 24 = .ok (.iload_n 2, 1) := by decide +kernel
theorem dX11_firstSnap_25 : decode cX11_firstSnap 25 = .ok (.bipush 60, 2) := by decide +kernel
theorem dX11_firstSnap_27 : decode cX11_firstSnap 27 = .ok (.if_icmp .gt 55, 3) := by decide +kernel
theorem dX11_firstSnap_30 : decode cX11_firstSnap 30 = .ok (.aload_n 0, 1) := by decide +kernel
theorem dX11_firstSnap_31 : decode cX11_firstSnap 31 = .ok (.aload_n 0, 1) := by decide +kernel
theorem dX11_firstSnap_32 : decode cX11_firstSnap 32 = .ok (.getfield 13, 3) := by decide +kernel
theorem dX11_firstSnap_35 : decode cX11_firstSnap 35 = .ok (.invokevirtual 161, 3) := by decide +kernel
theorem dX11_firstSnap_38 : decode cX11_firstSnap 38 = .ok (.istore_n 3, 1) := by decide +kernel
theorem dX11_firstSnap_39 : decode cX11_firstSnap 39 = .ok (.iconst 0, 1) := by decide +kernel
theorem dX11_firstSnap_40 : decode cX11_firstSnap 40 = .ok (.istore 4, 2) := by decide +kernel
theorem dX11_firstSnap_42 : decode cX11_firstSnap 42 = .ok (.iload_n 3, 1) := by decide +kernel
theorem dX11_firstSnap_43 : decode cX11_firstSnap 43 = .ok (.ifCond .eq 18, 3) := by decide +kernel
theorem dX11_firstSnap_46 : decode cX11_firstSnap 46 = .ok (.iload_n 3, 1) := by decide +kernel
theorem dX11_firstSnap_47 : decode cX11_firstSnap 47 = .ok (.iload 4, 2) := by decide +kernel
theorem dX11_firstSnap_49 : decode cX11_firstSnap 49 = .ok (.invokestatic 93, 3) := by decide +kernel
theorem dX11_firstSnap_52 : decode cX11_firstSnap 52 = .ok (.ifCond .ne 9, 3) := by decide +kernel
theorem dX11_firstSnap_55 : decode cX11_firstSnap 55 = .ok (.iinc 4 1, 3) := by decide +kernel
theorem dX11_firstSnap_58 : decode cX11_firstSnap 58 = .ok (.goto (-16), 3) := by decide +kernel
theorem dX11_firstSnap_61 : decode cX11_firstSnap 61 = .ok (.iload_n 3, 1) := by decide +kernel
theorem dX11_firstSnap_62 : decode cX11_firstSnap 62 = .ok (.ifCond .eq 14, 3) := by decide +kernel
theorem dX11_firstSnap_65 : decode cX11_firstSnap 65 = .ok (.iload_n 1, 1) := by decide +kernel
theorem dX11_firstSnap_66 : decode cX11_firstSnap 66 = .ok (.ifCond .ne 7, 3) := by decide +kernel
theorem dX11_firstSnap_69 : decode cX11_firstSnap 69 = .ok (.iload_n 2, 1) := by decide +kernel
theorem dX11_firstSnap_70 : decode cX11_firstSnap 70 = .ok (.goto 5, 3) := by decide +kernel
theorem dX11_firstSnap_73 : decode cX11_firstSnap 73 = .ok (.iload 4, 2) := by decide +kernel
theorem dX11_firstSnap_75 : decode cX11_firstSnap 75 = .ok (.ireturn, 1) := by decide +kernel
theorem dX11_firstSnap_76 : decode cX11_firstSnap 76 = .ok (.iinc 2 1, 3) := by decide +kernel
theorem dX11_firstSnap_79 : decode cX11_firstSnap 79 = .ok (.goto (-55), 3) := by decide +kernel
theorem dX11_firstSnap_82 : decode cX11_firstSnap 82 = .ok (.bipush (-4), 2) := by decide +kernel
theorem dX11_firstSnap_84 : decode cX11_firstSnap 84 = .ok (.ireturn, 1) := by decide +kernel
theorem dX11_farAll_0 : decode cX11_farAll 0 = .ok (.iconst 0, 1) := by decide +kernel
theorem dX11_farAll_1 : decode cX11_farAll 1 = .ok (.istore_n 2, 1) := by decide +kernel
theorem dX11_farAll_2 : decode cX11_farAll 2 = .ok (.iconst 0, 1) := by decide +kernel
theorem dX11_farAll_3 : decode cX11_farAll 3 = .ok (.istore_n 3, 1) := by decide +kernel
theorem dX11_farAll_4 : decode cX11_farAll 4 = .ok (.iload_n 3, 1) := by decide +kernel
theorem dX11_farAll_5 : decode cX11_farAll 5 = .ok (.aload_n 0, 1) := by decide +kernel
theorem dX11_farAll_6 : decode cX11_farAll 6 = .ok (.getfield 9, 3) := by decide +kernel
theorem dX11_farAll_9 : decode cX11_farAll 9 = .ok (.iconst 0, 1) := by decide +kernel
theorem dX11_farAll_10 : decode cX11_farAll 10 = .ok (.iaload, 1) := by decide +kernel
theorem dX11_farAll_11 : decode cX11_farAll 11 = .ok (.if_icmp .ge 24, 3) := by decide +kernel
theorem dX11_farAll_14 : decode cX11_farAll 14 = .ok (.iload_n 2, 1) := by decide +kernel
theorem dX11_farAll_15 : decode cX11_farAll 15 = .ok (.iload_n 1, 1) := by decide +kernel
theorem dX11_farAll_16 : decode cX11_farAll 16 = .ok (.aload_n 0, 1) := by decide +kernel
theorem dX11_farAll_17 : decode cX11_farAll 17 = .ok (.getfield 9, 3) := by decide +kernel
theorem dX11_farAll_20 : decode cX11_farAll 20 = .ok (.iconst 4, 1) := by decide +kernel
theorem dX11_farAll_21 : decode cX11_farAll 21 = .ok (.iload_n 3, 1) := by decide +kernel
theorem dX11_farAll_22 : decode cX11_farAll 22 = .ok (.iadd, 1) := by decide +kernel
theorem dX11_farAll_23 : decode cX11_farAll 23 = .ok (.iaload, 1) := by decide +kernel
theorem dX11_farAll_24 : decode cX11_farAll 24 = .ok (.invokestatic 60, 3) := by decide +kernel
theorem dX11_farAll_27 : decode cX11_farAll 27 = .ok (.iadd, 1) := by decide +kernel
theorem dX11_farAll_28 : decode cX11_farAll 28 = .ok (.istore_n 2, 1) := by decide +kernel
theorem dX11_farAll_29 : decode cX11_farAll 29 = .ok (.iinc 3 1, 3) := by decide +kernel
theorem dX11_farAll_32 : decode cX11_farAll 32 = .ok (.goto (-28), 3) := by decide +kernel
theorem dX11_farAll_35 : decode cX11_farAll 35 = .ok (.iload_n 2, 1) := by decide +kernel
theorem dX11_farAll_36 : decode cX11_farAll 36 = .ok (.ireturn, 1) := by decide +kernel
theorem dX11_christmasPlace_0 : decode cX11_christmasPlace 0 = .ok (.iconst 0, 1) := by decide +kernel
theorem dX11_christmasPlace_1 : decode cX11_christmasPlace 1 = .ok (.istore_n 1, 1) := by decide +kernel
theorem dX11_christmasPlace_2 : decode cX11_christmasPlace 2 = .ok (.iconst 1, 1) := by decide +kernel
theorem dX11_christmasPlace_3 : decode cX11_christmasPlace 3 = .ok (.istore_n 2, 1) := by decide +kernel
theorem dX11_christmasPlace_4 : decode cX11_christmasPlace 4 = .ok (.iload_n 2, 1) := by decide +kernel
theorem dX11_christmasPlace_5 : decode cX11_christmasPlace 5 = .ok (.bipush 30, 2) := by decide +kernel
theorem dX11_christmasPlace_7 : decode cX11_christmasPlace 7 = .ok (.if_icmp .gt 24, 3) := by decide +kernel
theorem dX11_christmasPlace_10 : decode cX11_christmasPlace 10 = .ok (.aload_n 0, 1) := by decide +kernel
theorem dX11_christmasPlace_11 : decode cX11_christmasPlace 11 = .ok (.iload_n 2, 1) := by decide +kernel
theorem dX11_christmasPlace_12 : decode cX11_christmasPlace 12 = .ok (.invokevirtual 190, 3) := by decide +kernel
theorem dX11_christmasPlace_15 : decode cX11_christmasPlace 15 = .ok (.aload_n 0, 1) := by decide +kernel
theorem dX11_christmasPlace_16 : decode cX11_christmasPlace 16 = .ok (.iload_n 1, 1) := by decide +kernel
theorem dX11_christmasPlace_17 : decode cX11_christmasPlace 17 = .ok (.invokevirtual 190, 3) := by decide +kernel
theorem dX11_christmasPlace_20 : decode cX11_christmasPlace 20 = .ok (.if_icmp .ge 5, 3) := by decide +kernel
theorem dX11_christmasPlace_23 : decode cX11_christmasPlace 23 = .ok (.iload_n 2, 1) := by decide +kernel
theorem dX11_christmasPlace_24 : decode cX11_christmasPlace 24 = .ok (.istore_n 1, 1) := by decide +kernel
theorem dX11_christmasPlace_25 : decode cX11_christmasPlace 25 = .ok (.iinc 2 1, 3) := by decide +kernel
theorem dX11_christmasPlace_28 : decode cX11_christmasPlace 28 = .ok (.goto (-24), 3) := by decide +kernel
theorem dX11_christmasPlace_31 : decode cX11_christmasPlace 31 = .ok (.iload_n 1, 1) := by decide +kernel
theorem dX11_christmasPlace_32 : decode cX11_christmasPlace 32 = .ok (.ireturn, 1) := by decide +kernel
theorem dX11_christmas_0 : decode cX11_christmas 0 = .ok (.iload_n 1, 1) := by decide +kernel
theorem dX11_christmas_1 : decode cX11_christmas 1 = .ok (.iconst 0, 1) := by decide +kernel
theorem dX11_christmas_2 : decode cX11_christmas 2 = .ok (.iconst 2, 1) := by decide +kernel
theorem dX11_christmas_3 : decode cX11_christmas 3 = .ok (.invokestatic 52, 3) := by decide +kernel
theorem dX11_christmas_6 : decode cX11_christmas 6 = .ok (.ifCond .ne 5, 3) := by decide +kernel
theorem dX11_christmas_9 : decode cX11_christmas 9 = .ok (.iconst (-1), 1) := by decide +kernel
theorem dX11_christmas_10 : decode cX11_christmas 10 = .ok (.ireturn, 1) := by decide +kernel
theorem dX11_christmas_11 : decode cX11_christmas 11 = .ok (.aload_n 0, 1) := by decide +kernel
theorem dX11_christmas_12 : decode cX11_christmas 12 = .ok (.invokevirtual 193, 3) := by decide +kernel
theorem dX11_christmas_15 : decode cX11_christmas 15 = .ok (.istore_n 2, 1) := by decide +kernel
theorem dX11_christmas_16 : decode cX11_christmas 16 = .ok (.iload_n 1, 1) := by decide +kernel
theorem dX11_christmas_17 : decode cX11_christmas 17 = .ok (.iconst 2, 1) := by decide +kernel
theorem dX11_christmas_18 : decode cX11_christmas 18 = .ok (.if_icmp .ge 17, 3) := by decide +kernel
theorem dX11_christmas_21 : decode cX11_christmas 21 = .ok (.iload_n 1, 1) := by decide +kernel
theorem dX11_christmas_22 : decode cX11_christmas 22 = .ok (.ifCond .ne 7, 3) := by decide +kernel
theorem dX11_christmas_25 : decode cX11_christmas 25 = .ok (.iload_n 2, 1) := by decide +kernel
theorem dX11_christmas_26 : decode cX11_christmas 26 = .ok (.goto 8, 3) := by decide +kernel
theorem dX11_christmas_29 : decode cX11_christmas 29 = .ok (.aload_n 0, 1) := by decide +kernel
theorem dX11_christmas_30 : decode cX11_christmas 30 = .ok (.iload_n 2, 1) := by decide +kernel
theorem dX11_christmas_31 : decode cX11_christmas 31 = .ok (.invokevirtual 190, 3) := by decide +kernel
theorem dX11_christmas_34 : decode cX11_christmas 34 = .ok (.ireturn, 1) := by decide +kernel
theorem dX11_christmas_35 : decode cX11_christmas 35 = .ok (.aload_n 0, 1) := by decide +kernel
theorem dX11_christmas_36 : decode cX11_christmas 36 = .ok (.getfield 9, 3) := by decide +kernel
theorem dX11_christmas_39 : decode cX11_christmas 39 = .ok (.aload_n 0, 1) := by decide +kernel
theorem dX11_christmas_40 : decode cX11_christmas 40 = .ok (.getfield 13, 3) := by decide +kernel
theorem dX11_christmas_43 : decode cX11_christmas 43 = .ok (.invokestatic 112, 3) := by decide +kernel
theorem dX11_christmas_46 : decode cX11_christmas 46 = .ok (.iconst 0, 1) := by decide +kernel
theorem dX11_christmas_47 : decode cX11_christmas 47 = .ok (.istore_n 3, 1) := by decide +kernel
theorem dX11_christmas_48 : decode cX11_christmas 48 = .ok (.iconst 0, 1) := by decide +kernel
theorem dX11_christmas_49 : decode cX11_christmas 49 = .ok (.istore 4, 2) := by decide +kernel
theorem dX11_christmas_51 : decode cX11_christmas 51 = .ok (.iload 4, 2) := by decide +kernel
theorem dX11_christmas_53 : decode cX11_christmas 53 = .ok (.aload_n 0, 1) := by decide +kernel
theorem dX11_christmas_54 : decode cX11_christmas 54 = .ok (.getfield 13, 3) := by decide +kernel
theorem dX11_christmas_57 : decode cX11_christmas 57 = .ok (.iconst 0, 1) := by decide +kernel
theorem dX11_christmas_58 : decode cX11_christmas 58 = .ok (.iaload, 1) := by decide +kernel
theorem dX11_christmas_59 : decode cX11_christmas 59 = .ok (.if_icmp .ge 22, 3) := by decide +kernel
theorem dX11_christmas_62 : decode cX11_christmas 62 = .ok (.iload_n 3, 1) := by decide +kernel
theorem dX11_christmas_63 : decode cX11_christmas 63 = .ok (.aload_n 0, 1) := by decide +kernel
theorem dX11_christmas_64 : decode cX11_christmas 64 = .ok (.getfield 13, 3) := by decide +kernel
theorem dX11_christmas_67 : decode cX11_christmas 67 = .ok (.iload 4, 2) := by decide +kernel
theorem dX11_christmas_69 : decode cX11_christmas 69 = .ok (.iload_n 2, 1) := by decide +kernel
theorem dX11_christmas_70 : decode cX11_christmas 70 = .ok (.invokestatic 158, 3) := by decide +kernel
theorem dX11_christmas_73 : decode cX11_christmas 73 = .ok (.ior, 1) := by decide +kernel
theorem dX11_christmas_74 : decode cX11_christmas 74 = .ok (.istore_n 3, 1) := by decide +kernel
theorem dX11_christmas_75 : decode cX11_christmas 75 = .ok (.iinc 4 1, 3) := by decide +kernel
theorem dX11_christmas_78 : decode cX11_christmas 78 = .ok (.goto (-27), 3) := by decide +kernel
theorem dX11_christmas_81 : decode cX11_christmas 81 = .ok (.iload_n 3, 1) := by decide +kernel
theorem dX11_christmas_82 : decode cX11_christmas 82 = .ok (.invokestatic 180, 3) := by decide +kernel
theorem dX11_christmas_85 : decode cX11_christmas 85 = .ok (.ireturn, 1) := by decide +kernel
theorem dX11_ordersFrom_0 : decode cX11_ordersFrom 0 = .ok (.iload_n 3, 1) := by decide +kernel
theorem dX11_ordersFrom_1 : decode cX11_ordersFrom 1 = .ok (.invokestatic 180, 3) := by decide +kernel
theorem dX11_ordersFrom_4 : decode cX11_ordersFrom 4 = .ok (.aload_n 0, 1) := by decide +kernel
theorem dX11_ordersFrom_5 : decode cX11_ordersFrom 5 = .ok (.getfield 196, 3) := by decide +kernel
theorem dX11_ordersFrom_8 : decode cX11_ordersFrom 8 = .ok (.if_icmp .lt 4, 3) := by decide +kernel
theorem dX11_ordersFrom_11 : decode cX11_ordersFrom 11 = .ok (.return_, 1) := by decide +kernel
theorem dX11_ordersFrom_12 : decode cX11_ordersFrom 12 = .ok (.iload_n 2, 1) := by decide +kernel
theorem dX11_ordersFrom_13 : decode cX11_ordersFrom 13 = .ok (.ifCond .ne 42, 3) := by decide +kernel
theorem dX11_ordersFrom_16 : decode cX11_ordersFrom 16 = .ok (.aload_n 0, 1) := by decide +kernel
theorem dX11_ordersFrom_17 : decode cX11_ordersFrom 17 = .ok (.iload_n 3, 1) := by decide +kernel
theorem dX11_ordersFrom_18 : decode cX11_ordersFrom 18 = .ok (.invokestatic 180, 3) := by decide +kernel
theorem dX11_ordersFrom_21 : decode cX11_ordersFrom 21 = .ok (.putfield 196, 3) := by decide +kernel
theorem dX11_ordersFrom_24 : decode cX11_ordersFrom 24 = .ok (.iconst 0, 1) := by decide +kernel
theorem dX11_ordersFrom_25 : decode cX11_ordersFrom 25 = .ok (.istore 4, 2) := by decide +kernel
theorem dX11_ordersFrom_27 : decode cX11_ordersFrom 27 = .ok (.iload 4, 2) := by decide +kernel
theorem dX11_ordersFrom_29 : decode cX11_ordersFrom 29 = .ok (.bipush 7, 2) := by decide +kernel
theorem dX11_ordersFrom_31 : decode cX11_ordersFrom 31 = .ok (.if_icmp .ge 23, 3) := by decide +kernel
theorem dX11_ordersFrom_34 : decode cX11_ordersFrom 34 = .ok (.aload_n 0, 1) := by decide +kernel
theorem dX11_ordersFrom_35 : decode cX11_ordersFrom 35 = .ok (.getfield 31, 3) := by decide +kernel
theorem dX11_ordersFrom_38 : decode cX11_ordersFrom 38 = .ok (.iload 4, 2) := by decide +kernel
theorem dX11_ordersFrom_40 : decode cX11_ordersFrom 40 = .ok (.aload_n 0, 1) := by decide +kernel
theorem dX11_ordersFrom_41 : decode cX11_ordersFrom 41 = .ok (.getfield 28, 3) := by decide +kernel
theorem dX11_ordersFrom_44 : decode cX11_ordersFrom 44 = .ok (.iload 4, 2) := by decide +kernel
theorem dX11_ordersFrom_46 : decode cX11_ordersFrom 46 = .ok (.iaload, 1) := by decide +kernel
theorem dX11_ordersFrom_47 : decode cX11_ordersFrom 47 = .ok (.iastore, 1) := by decide +kernel
theorem dX11_ordersFrom_48 : decode cX11_ordersFrom 48 = .ok (.iinc 4 1, 3) := by decide +kernel
theorem dX11_ordersFrom_51 : decode cX11_ordersFrom 51 = .ok (.goto (-24), 3) := by decide +kernel
theorem dX11_ordersFrom_54 : decode cX11_ordersFrom 54 = .ok (.return_, 1) := by decide +kernel
theorem dX11_ordersFrom_55 : decode cX11_ordersFrom 55 = .ok (.iconst 0, 1) := by decide +kernel
theorem dX11_ordersFrom_56 : decode cX11_ordersFrom 56 = .ok (.istore 4, 2) := by decide +kernel
theorem dX11_ordersFrom_58 : decode cX11_ordersFrom 58 = .ok (.iload 4, 2) := by decide +kernel
theorem dX11_ordersFrom_60 : decode cX11_ordersFrom 60 = .ok (.aload_n 0, 1) := by decide +kernel
theorem dX11_ordersFrom_61 : decode cX11_ordersFrom 61 = .ok (.getfield 9, 3) := by decide +kernel
theorem dX11_ordersFrom_64 : decode cX11_ordersFrom 64 = .ok (.iconst 0, 1) := by decide +kernel
theorem dX11_ordersFrom_65 : decode cX11_ordersFrom 65 = .ok (.iaload, 1) := by decide +kernel
theorem dX11_ordersFrom_66 : decode cX11_ordersFrom 66 = .ok (.if_icmp .ge 187, 3) := by decide +kernel
theorem dX11_ordersFrom_69 : decode cX11_ordersFrom 69 = .ok (.iload_n 2, 1) := by decide +kernel
theorem dX11_ordersFrom_70 : decode cX11_ordersFrom 70 = .ok (.iload 4, 2) := by decide +kernel
theorem dX11_ordersFrom_72 : decode cX11_ordersFrom 72 = .ok (.invokestatic 93, 3) := by decide +kernel
theorem dX11_ordersFrom_75 : decode cX11_ordersFrom 75 = .ok (.ifCond .ne 6, 3) := by decide +kernel
theorem dX11_ordersFrom_78 : decode cX11_ordersFrom 78 = .ok (.goto 169, 3) := by decide +kernel
theorem dX11_ordersFrom_81 : decode cX11_ordersFrom 81 = .ok (.aload_n 0, 1) := by decide +kernel
theorem dX11_ordersFrom_82 : decode cX11_ordersFrom 82 = .ok (.getfield 28, 3) := by decide +kernel
theorem dX11_ordersFrom_85 : decode cX11_ordersFrom 85 = .ok (.iload_n 1, 1) := by decide +kernel
theorem dX11_ordersFrom_86 : decode cX11_ordersFrom 86 = .ok (.iload 4, 2) := by decide +kernel
theorem dX11_ordersFrom_88 : decode cX11_ordersFrom 88 = .ok (.iastore, 1) := by decide +kernel
theorem dX11_ordersFrom_89 : decode cX11_ordersFrom 89 = .ok (.iconst 0, 1) := by decide +kernel
theorem dX11_ordersFrom_90 : decode cX11_ordersFrom 90 = .ok (.istore 5, 2) := by decide +kernel
theorem dX11_ordersFrom_92 : decode cX11_ordersFrom 92 = .ok (.iload 5, 2) := by decide +kernel
theorem dX11_ordersFrom_94 : decode cX11_ordersFrom 94 = .ok (.aload_n 0, 1) := by decide +kernel
theorem dX11_ordersFrom_95 : decode cX11_ordersFrom 95 = .ok (.getfield 9, 3) := by decide +kernel
theorem dX11_ordersFrom_98 : decode cX11_ordersFrom 98 = .ok (.iconst 0, 1) := by decide +kernel
theorem dX11_ordersFrom_99 : decode cX11_ordersFrom 99 = .ok (.iaload, 1) := by decide +kernel
theorem dX11_ordersFrom_100 : decode cX11_ordersFrom 100 = .ok (.if_icmp .ge 50, 3) := by decide +kernel
theorem dX11_ordersFrom_103 : decode cX11_ordersFrom 103 = .ok (.aload_n 0, 1) := by decide +kernel
theorem dX11_ordersFrom_104 : decode cX11_ordersFrom 104 = .ok (.getfield 13, 3) := by decide +kernel
theorem dX11_ordersFrom_107 : decode cX11_ordersFrom 107 = .ok (.iconst 4, 1) := by decide +kernel
theorem dX11_ordersFrom_108 : decode cX11_ordersFrom 108 = .ok (.iload 5, 2) := by decide +kernel
theorem dX11_ordersFrom_110 : decode cX11_ordersFrom 110 = .ok (.iadd, 1) := by decide +kernel
theorem dX11_ordersFrom_111 : decode cX11_ordersFrom 111 = .ok (.iload_n 2, 1) := by decide +kernel
theorem dX11_ordersFrom_112 : decode cX11_ordersFrom 112 = .ok (.iload 5, 2) := by decide +kernel
theorem dX11_ordersFrom_114 : decode cX11_ordersFrom 114 = .ok (.invokestatic 93, 3) := by decide +kernel
theorem dX11_ordersFrom_117 : decode cX11_ordersFrom 117 = .ok (.ifCond .eq 22, 3) := by decide +kernel
theorem dX11_ordersFrom_120 : decode cX11_ordersFrom 120 = .ok (.iload 5, 2) := by decide +kernel
theorem dX11_ordersFrom_122 : decode cX11_ordersFrom 122 = .ok (.iload 4, 2) := by decide +kernel
theorem dX11_ordersFrom_124 : decode cX11_ordersFrom 124 = .ok (.if_icmp .eq 15, 3) := by decide +kernel
theorem dX11_ordersFrom_127 : decode cX11_ordersFrom 127 = .ok (.aload_n 0, 1) := by decide +kernel
theorem dX11_ordersFrom_128 : decode cX11_ordersFrom 128 = .ok (.getfield 9, 3) := by decide +kernel
theorem dX11_ordersFrom_131 : decode cX11_ordersFrom 131 = .ok (.iconst 4, 1) := by decide +kernel
theorem dX11_ordersFrom_132 : decode cX11_ordersFrom 132 = .ok (.iload 5, 2) := by decide +kernel
theorem dX11_ordersFrom_134 : decode cX11_ordersFrom 134 = .ok (.iadd, 1) := by decide +kernel
theorem dX11_ordersFrom_135 : decode cX11_ordersFrom 135 = .ok (.iaload, 1) := by decide +kernel
theorem dX11_ordersFrom_136 : decode cX11_ordersFrom 136 = .ok (.goto 7, 3) := by decide +kernel
theorem dX11_ordersFrom_139 : decode cX11_ordersFrom 139 = .ok (.aload_n 0, 1) := by decide +kernel
theorem dX11_ordersFrom_140 : decode cX11_ordersFrom 140 = .ok (.getfield 199, 3) := by decide +kernel
theorem dX11_ordersFrom_143 : decode cX11_ordersFrom 143 = .ok (.iastore, 1) := by decide +kernel
theorem dX11_ordersFrom_144 : decode cX11_ordersFrom 144 = .ok (.iinc 5 1, 3) := by decide +kernel
theorem dX11_ordersFrom_147 : decode cX11_ordersFrom 147 = .ok (.goto (-55), 3) := by decide +kernel
theorem dX11_ordersFrom_150 : decode cX11_ordersFrom 150 = .ok (.iconst 0, 1) := by decide +kernel
theorem dX11_ordersFrom_151 : decode cX11_ordersFrom 151 = .ok (.istore 5, 2) := by decide +kernel
theorem dX11_ordersFrom_153 : decode cX11_ordersFrom 153 = .ok (.iconst 0, 1) := by decide +kernel
theorem dX11_ordersFrom_154 : decode cX11_ordersFrom 154 = .ok (.istore 6, 2) := by decide +kernel
theorem dX11_ordersFrom_156 : decode cX11_ordersFrom 156 = .ok (.iload 6, 2) := by decide +kernel
theorem dX11_ordersFrom_158 : decode cX11_ordersFrom 158 = .ok (.aload_n 0, 1) := by decide +kernel
theorem dX11_ordersFrom_159 : decode cX11_ordersFrom 159 = .ok (.getfield 9, 3) := by decide +kernel
theorem dX11_ordersFrom_162 : decode cX11_ordersFrom 162 = .ok (.iconst 1, 1) := by decide +kernel
theorem dX11_ordersFrom_163 : decode cX11_ordersFrom 163 = .ok (.iaload, 1) := by decide +kernel
theorem dX11_ordersFrom_164 : decode cX11_ordersFrom 164 = .ok (.if_icmp .ge 64, 3) := by decide +kernel
theorem dX11_ordersFrom_167 : decode cX11_ordersFrom 167 = .ok (.iload 5, 2) := by decide +kernel
theorem dX11_ordersFrom_169 : decode cX11_ordersFrom 169 = .ok (.iload_n 3, 1) := by decide +kernel
theorem dX11_ordersFrom_170 : decode cX11_ordersFrom 170 = .ok (.iload 6, 2) := by decide +kernel
theorem dX11_ordersFrom_172 : decode cX11_ordersFrom 172 = .ok (.invokestatic 93, 3) := by decide +kernel
theorem dX11_ordersFrom_175 : decode cX11_ordersFrom 175 = .ok (.ifCond .ne 43, 3) := by decide +kernel
theorem dX11_ordersFrom_178 : decode cX11_ordersFrom 178 = .ok (.aload_n 0, 1) := by decide +kernel
theorem dX11_ordersFrom_179 : decode cX11_ordersFrom 179 = .ok (.getfield 9, 3) := by decide +kernel
theorem dX11_ordersFrom_182 : decode cX11_ordersFrom 182 = .ok (.iload 6, 2) := by decide +kernel
theorem dX11_ordersFrom_184 : decode cX11_ordersFrom 184 = .ok (.invokestatic 69, 3) := by decide +kernel
theorem dX11_ordersFrom_187 : decode cX11_ordersFrom 187 = .ok (.ifCond .eq 31, 3) := by decide +kernel
theorem dX11_ordersFrom_190 : decode cX11_ordersFrom 190 = .ok (.aload_n 0, 1) := by decide +kernel
theorem dX11_ordersFrom_191 : decode cX11_ordersFrom 191 = .ok (.getfield 13, 3) := by decide +kernel
theorem dX11_ordersFrom_194 : decode cX11_ordersFrom 194 = .ok (.iload 6, 2) := by decide +kernel
theorem dX11_ordersFrom_196 : decode cX11_ordersFrom 196 = .ok (.invokestatic 73, 3) := by decide +kernel
theorem dX11_ordersFrom_199 : decode cX11_ordersFrom 199 = .ok (.aload_n 0, 1) := by decide +kernel
theorem dX11_ordersFrom_200 : decode cX11_ordersFrom 200 = .ok (.getfield 9, 3) := by decide +kernel
theorem dX11_ordersFrom_203 : decode cX11_ordersFrom 203 = .ok (.iload 6, 2) := by decide +kernel
theorem dX11_ordersFrom_205 : decode cX11_ordersFrom 205 = .ok (.invokestatic 84, 3) := by decide +kernel
theorem dX11_ordersFrom_208 : decode cX11_ordersFrom 208 = .ok (.if_icmp .le 10, 3) := by decide +kernel
theorem dX11_ordersFrom_211 : decode cX11_ordersFrom 211 = .ok (.iconst 1, 1) := by decide +kernel
theorem dX11_ordersFrom_212 : decode cX11_ordersFrom 212 = .ok (.iload 6, 2) := by decide +kernel
theorem dX11_ordersFrom_214 : decode cX11_ordersFrom 214 = .ok (.ishl, 1) := by decide +kernel
theorem dX11_ordersFrom_215 : decode cX11_ordersFrom 215 = .ok (.goto 4, 3) := by decide +kernel
theorem dX11_ordersFrom_218 : decode cX11_ordersFrom 218 = .ok (.iconst 0, 1) := by decide +kernel
theorem dX11_ordersFrom_219 : decode cX11_ordersFrom 219 = .ok (.ior, 1) := by decide +kernel
theorem dX11_ordersFrom_220 : decode cX11_ordersFrom 220 = .ok (.istore 5, 2) := by decide +kernel
theorem dX11_ordersFrom_222 : decode cX11_ordersFrom 222 = .ok (.iinc 6 1, 3) := by decide +kernel
theorem dX11_ordersFrom_225 : decode cX11_ordersFrom 225 = .ok (.goto (-69), 3) := by decide +kernel
theorem dX11_ordersFrom_228 : decode cX11_ordersFrom 228 = .ok (.aload_n 0, 1) := by decide +kernel
theorem dX11_ordersFrom_229 : decode cX11_ordersFrom 229 = .ok (.iload_n 1, 1) := by decide +kernel
theorem dX11_ordersFrom_230 : decode cX11_ordersFrom 230 = .ok (.iconst 1, 1) := by decide +kernel
theorem dX11_ordersFrom_231 : decode cX11_ordersFrom 231 = .ok (.iadd, 1) := by decide +kernel
theorem dX11_ordersFrom_232 : decode cX11_ordersFrom 232 = .ok (.iload_n 2, 1) := by decide +kernel
theorem dX11_ordersFrom_233 : decode cX11_ordersFrom 233 = .ok (.iconst 1, 1) := by decide +kernel
theorem dX11_ordersFrom_234 : decode cX11_ordersFrom 234 = .ok (.iload 4, 2) := by decide +kernel
theorem dX11_ordersFrom_236 : decode cX11_ordersFrom 236 = .ok (.ishl, 1) := by decide +kernel
theorem dX11_ordersFrom_237 : decode cX11_ordersFrom 237 = .ok (.iconst (-1), 1) := by decide +kernel
theorem dX11_ordersFrom_238 : decode cX11_ordersFrom 238 = .ok (.ixor, 1) := by decide +kernel
theorem dX11_ordersFrom_239 : decode cX11_ordersFrom 239 = .ok (.iand, 1) := by decide +kernel
theorem dX11_ordersFrom_240 : decode cX11_ordersFrom 240 = .ok (.iload_n 3, 1) := by decide +kernel
theorem dX11_ordersFrom_241 : decode cX11_ordersFrom 241 = .ok (.iload 5, 2) := by decide +kernel
theorem dX11_ordersFrom_243 : decode cX11_ordersFrom 243 = .ok (.ior, 1) := by decide +kernel
theorem dX11_ordersFrom_244 : decode cX11_ordersFrom 244 = .ok (.invokevirtual 202, 3) := by decide +kernel
theorem dX11_ordersFrom_247 : decode cX11_ordersFrom 247 = .ok (.iinc 4 1, 3) := by decide +kernel
theorem dX11_ordersFrom_250 : decode cX11_ordersFrom 250 = .ok (.goto (-192), 3) := by decide +kernel
theorem dX11_ordersFrom_253 : decode cX11_ordersFrom 253 = .ok (.return_, 1) := by decide +kernel
theorem dX11_order_0 : decode cX11_order 0 = .ok (.iload_n 1, 1) := by decide +kernel
theorem dX11_order_1 : decode cX11_order 1 = .ok (.iconst (-1), 1) := by decide +kernel
theorem dX11_order_2 : decode cX11_order 2 = .ok (.if_icmp .eq 13, 3) := by decide +kernel
theorem dX11_order_5 : decode cX11_order 5 = .ok (.aload_n 0, 1) := by decide +kernel
theorem dX11_order_6 : decode cX11_order 6 = .ok (.iload_n 1, 1) := by decide +kernel
theorem dX11_order_7 : decode cX11_order 7 = .ok (.invokevirtual 140, 3) := by decide +kernel
theorem dX11_order_10 : decode cX11_order 10 = .ok (.ifCond .ne 5, 3) := by decide +kernel
theorem dX11_order_13 : decode cX11_order 13 = .ok (.iconst (-1), 1) := by decide +kernel
theorem dX11_order_14 : decode cX11_order 14 = .ok (.ireturn, 1) := by decide +kernel
theorem dX11_order_15 : decode cX11_order 15 = .ok (.aload_n 0, 1) := by decide +kernel
theorem dX11_order_16 : decode cX11_order 16 = .ok (.aload_n 0, 1) := by decide +kernel
theorem dX11_order_17 : decode cX11_order 17 = .ok (.invokevirtual 193, 3) := by decide +kernel
theorem dX11_order_20 : decode cX11_order 20 = .ok (.putfield 199, 3) := by decide +kernel
theorem dX11_order_23 : decode cX11_order 23 = .ok (.aload_n 0, 1) := by decide +kernel
theorem dX11_order_24 : decode cX11_order 24 = .ok (.getfield 9, 3) := by decide +kernel
theorem dX11_order_27 : decode cX11_order 27 = .ok (.aload_n 0, 1) := by decide +kernel
theorem dX11_order_28 : decode cX11_order 28 = .ok (.getfield 13, 3) := by decide +kernel
theorem dX11_order_31 : decode cX11_order 31 = .ok (.invokestatic 112, 3) := by decide +kernel
theorem dX11_order_34 : decode cX11_order 34 = .ok (.aload_n 0, 1) := by decide +kernel
theorem dX11_order_35 : decode cX11_order 35 = .ok (.ldc 186, 2) := by decide +kernel
theorem dX11_order_37 : decode cX11_order 37 = .ok (.putfield 196, 3) := by decide +kernel
theorem dX11_order_40 : decode cX11_order 40 = .ok (.aload_n 0, 1) := by decide +kernel
theorem dX11_order_41 : decode cX11_order 41 = .ok (.iconst 0, 1) := by decide +kernel
theorem dX11_order_42 : decode cX11_order 42 = .ok (.iconst 1, 1) := by decide +kernel
theorem dX11_order_43 : decode cX11_order 43 = .ok (.aload_n 0, 1) := by decide +kernel
theorem dX11_order_44 : decode cX11_order 44 = .ok (.getfield 9, 3) := by decide +kernel
theorem dX11_order_47 : decode cX11_order 47 = .ok (.iconst 0, 1) := by decide +kernel
theorem dX11_order_48 : decode cX11_order 48 = .ok (.iaload, 1) := by decide +kernel
theorem dX11_order_49 : decode cX11_order 49 = .ok (.ishl, 1) := by decide +kernel
theorem dX11_order_50 : decode cX11_order 50 = .ok (.iconst 1, 1) := by decide +kernel
theorem dX11_order_51 : decode cX11_order 51 = .ok (.isub, 1) := by decide +kernel
theorem dX11_order_52 : decode cX11_order 52 = .ok (.iconst 0, 1) := by decide +kernel
theorem dX11_order_53 : decode cX11_order 53 = .ok (.invokevirtual 202, 3) := by decide +kernel
theorem dX11_order_56 : decode cX11_order 56 = .ok (.iload_n 1, 1) := by decide +kernel
theorem dX11_order_57 : decode cX11_order 57 = .ok (.ifCond .ge 10, 3) := by decide +kernel
theorem dX11_order_60 : decode cX11_order 60 = .ok (.aload_n 0, 1) := by decide +kernel
theorem dX11_order_61 : decode cX11_order 61 = .ok (.getfield 196, 3) := by decide +kernel
theorem dX11_order_64 : decode cX11_order 64 = .ok (.goto 9, 3) := by decide +kernel
theorem dX11_order_67 : decode cX11_order 67 = .ok (.aload_n 0, 1) := by decide +kernel
theorem dX11_order_68 : decode cX11_order 68 = .ok (.getfield 31, 3) := by decide +kernel
theorem dX11_order_71 : decode cX11_order 71 = .ok (.iload_n 1, 1) := by decide +kernel
theorem dX11_order_72 : decode cX11_order 72 = .ok (.iaload, 1) := by decide +kernel
theorem dX11_order_73 : decode cX11_order 73 = .ok (.ireturn, 1) := by decide +kernel
theorem dX11_letGo_0 : decode cX11_letGo 0 = .ok (.aload_n 0, 1) := by decide +kernel
theorem dX11_letGo_1 : decode cX11_letGo 1 = .ok (.iload_n 1, 1) := by decide +kernel
theorem dX11_letGo_2 : decode cX11_letGo 2 = .ok (.invokevirtual 140, 3) := by decide +kernel
theorem dX11_letGo_5 : decode cX11_letGo 5 = .ok (.ifCond .eq 10, 3) := by decide +kernel
theorem dX11_letGo_8 : decode cX11_letGo 8 = .ok (.iload_n 2, 1) := by decide +kernel
theorem dX11_letGo_9 : decode cX11_letGo 9 = .ok (.invokestatic 144, 3) := by decide +kernel
theorem dX11_letGo_12 : decode cX11_letGo 12 = .ok (.ifCond .ne 5, 3) := by decide +kernel
theorem dX11_letGo_15 : decode cX11_letGo 15 = .ok (.iconst (-1), 1) := by decide +kernel
theorem dX11_letGo_16 : decode cX11_letGo 16 = .ok (.ireturn, 1) := by decide +kernel
theorem dX11_letGo_17 : decode cX11_letGo 17 = .ok (.aload_n 0, 1) := by decide +kernel
theorem dX11_letGo_18 : decode cX11_letGo 18 = .ok (.getfield 9, 3) := by decide +kernel
theorem dX11_letGo_21 : decode cX11_letGo 21 = .ok (.aload_n 0, 1) := by decide +kernel
theorem dX11_letGo_22 : decode cX11_letGo 22 = .ok (.getfield 13, 3) := by decide +kernel
theorem dX11_letGo_25 : decode cX11_letGo 25 = .ok (.invokestatic 112, 3) := by decide +kernel
theorem dX11_letGo_28 : decode cX11_letGo 28 = .ok (.aload_n 0, 1) := by decide +kernel
theorem dX11_letGo_29 : decode cX11_letGo 29 = .ok (.getfield 13, 3) := by decide +kernel
theorem dX11_letGo_32 : decode cX11_letGo 32 = .ok (.iload_n 1, 1) := by decide +kernel
theorem dX11_letGo_33 : decode cX11_letGo 33 = .ok (.iload_n 2, 1) := by decide +kernel
theorem dX11_letGo_34 : decode cX11_letGo 34 = .ok (.invokestatic 158, 3) := by decide +kernel
theorem dX11_letGo_37 : decode cX11_letGo 37 = .ok (.ireturn, 1) := by decide +kernel
theorem dX11_endsWithin_0 : decode cX11_endsWithin 0 = .ok (.aload_n 0, 1) := by decide +kernel
theorem dX11_endsWithin_1 : decode cX11_endsWithin 1 = .ok (.getfield 9, 3) := by decide +kernel
theorem dX11_endsWithin_4 : decode cX11_endsWithin 4 = .ok (.iconst 4, 1) := by decide +kernel
theorem dX11_endsWithin_5 : decode cX11_endsWithin 5 = .ok (.aload_n 0, 1) := by decide +kernel
theorem dX11_endsWithin_6 : decode cX11_endsWithin 6 = .ok (.getfield 9, 3) := by decide +kernel
theorem dX11_endsWithin_9 : decode cX11_endsWithin 9 = .ok (.iload_n 2, 1) := by decide +kernel
theorem dX11_endsWithin_10 : decode cX11_endsWithin 10 = .ok (.iconst 2, 1) := by decide +kernel
theorem dX11_endsWithin_11 : decode cX11_endsWithin 11 = .ok (.invokestatic 56, 3) := by decide +kernel
theorem dX11_endsWithin_14 : decode cX11_endsWithin 14 = .ok (.iaload, 1) := by decide +kernel
theorem dX11_endsWithin_15 : decode cX11_endsWithin 15 = .ok (.iadd, 1) := by decide +kernel
theorem dX11_endsWithin_16 : decode cX11_endsWithin 16 = .ok (.iaload, 1) := by decide +kernel
theorem dX11_endsWithin_17 : decode cX11_endsWithin 17 = .ok (.istore_n 3, 1) := by decide +kernel
theorem dX11_endsWithin_18 : decode cX11_endsWithin 18 = .ok (.aload_n 0, 1) := by decide +kernel
theorem dX11_endsWithin_19 : decode cX11_endsWithin 19 = .ok (.getfield 9, 3) := by decide +kernel
theorem dX11_endsWithin_22 : decode cX11_endsWithin 22 = .ok (.iconst 4, 1) := by decide +kernel
theorem dX11_endsWithin_23 : decode cX11_endsWithin 23 = .ok (.aload_n 0, 1) := by decide +kernel
theorem dX11_endsWithin_24 : decode cX11_endsWithin 24 = .ok (.getfield 9, 3) := by decide +kernel
theorem dX11_endsWithin_27 : decode cX11_endsWithin 27 = .ok (.iload_n 2, 1) := by decide +kernel
theorem dX11_endsWithin_28 : decode cX11_endsWithin 28 = .ok (.iconst 3, 1) := by decide +kernel
theorem dX11_endsWithin_29 : decode cX11_endsWithin 29 = .ok (.invokestatic 56, 3) := by decide +kernel
theorem dX11_endsWithin_32 : decode cX11_endsWithin 32 = .ok (.iaload, 1) := by decide +kernel
theorem dX11_endsWithin_33 : decode cX11_endsWithin 33 = .ok (.iadd, 1) := by decide +kernel
theorem dX11_endsWithin_34 : decode cX11_endsWithin 34 = .ok (.iaload, 1) := by decide +kernel
theorem dX11_endsWithin_35 : decode cX11_endsWithin 35 = .ok (.istore 4, 2) := by decide +kernel
theorem dX11_endsWithin_37 : decode cX11_endsWithin 37 = .ok (.iconst 0, 1) := by decide +kernel
theorem dX11_endsWithin_38 : decode cX11_endsWithin 38 = .ok (.istore 5, 2) := by decide +kernel
theorem dX11_endsWithin_40 : decode cX11_endsWithin 40 = .ok (.iconst 2, 1) := by decide +kernel
theorem dX11_endsWithin_41 : decode cX11_endsWithin 41 = .ok (.istore 6, 2) := by decide +kernel
theorem dX11_endsWithin_43 : decode cX11_endsWithin 43 = .ok (.iload 6, 2) := by decide +kernel
theorem dX11_endsWithin_45 : decode cX11_endsWithin 45 = .ok (.iconst 3, 1) := by decide +kernel
theorem dX11_endsWithin_46 : decode cX11_endsWithin 46 = .ok (.if_icmp .gt 61, 3) := by decide +kernel
theorem dX11_endsWithin_49 : decode cX11_endsWithin 49 = .ok (.aload_n 0, 1) := by decide +kernel
theorem dX11_endsWithin_50 : decode cX11_endsWithin 50 = .ok (.getfield 9, 3) := by decide +kernel
theorem dX11_endsWithin_53 : decode cX11_endsWithin 53 = .ok (.iconst 4, 1) := by decide +kernel
theorem dX11_endsWithin_54 : decode cX11_endsWithin 54 = .ok (.aload_n 0, 1) := by decide +kernel
theorem dX11_endsWithin_55 : decode cX11_endsWithin 55 = .ok (.getfield 9, 3) := by decide +kernel
theorem dX11_endsWithin_58 : decode cX11_endsWithin 58 = .ok (.iload_n 1, 1) := by decide +kernel
theorem dX11_endsWithin_59 : decode cX11_endsWithin 59 = .ok (.iload 6, 2) := by decide +kernel
theorem dX11_endsWithin_61 : decode cX11_endsWithin 61 = .ok (.invokestatic 56, 3) := by decide +kernel
theorem dX11_endsWithin_64 : decode cX11_endsWithin 64 = .ok (.iaload, 1) := by decide +kernel
theorem dX11_endsWithin_65 : decode cX11_endsWithin 65 = .ok (.iadd, 1) := by decide +kernel
theorem dX11_endsWithin_66 : decode cX11_endsWithin 66 = .ok (.iaload, 1) := by decide +kernel
theorem dX11_endsWithin_67 : decode cX11_endsWithin 67 = .ok (.istore 7, 2) := by decide +kernel
theorem dX11_endsWithin_69 : decode cX11_endsWithin 69 = .ok (.iload 5, 2) := by decide +kernel
theorem dX11_endsWithin_71 : decode cX11_endsWithin 71 = .ok (.iload 7, 2) := by decide +kernel
theorem dX11_endsWithin_73 : decode cX11_endsWithin 73 = .ok (.iload_n 3, 1) := by decide +kernel
theorem dX11_endsWithin_74 : decode cX11_endsWithin 74 = .ok (.iload 4, 2) := by decide +kernel
theorem dX11_endsWithin_76 : decode cX11_endsWithin 76 = .ok (.invokestatic 87, 3) := by decide +kernel
theorem dX11_endsWithin_79 : decode cX11_endsWithin 79 = .ok (.if_icmp .le 18, 3) := by decide +kernel
theorem dX11_endsWithin_82 : decode cX11_endsWithin 82 = .ok (.iload 7, 2) := by decide +kernel
theorem dX11_endsWithin_84 : decode cX11_endsWithin 84 = .ok (.iload_n 3, 1) := by decide +kernel
theorem dX11_endsWithin_85 : decode cX11_endsWithin 85 = .ok (.iload 4, 2) := by decide +kernel
theorem dX11_endsWithin_87 : decode cX11_endsWithin 87 = .ok (.invokestatic 66, 3) := by decide +kernel
theorem dX11_endsWithin_90 : decode cX11_endsWithin 90 = .ok (.if_icmp .ge 7, 3) := by decide +kernel
theorem dX11_endsWithin_93 : decode cX11_endsWithin 93 = .ok (.iconst 1, 1) := by decide +kernel
theorem dX11_endsWithin_94 : decode cX11_endsWithin 94 = .ok (.goto 4, 3) := by decide +kernel
theorem dX11_endsWithin_97 : decode cX11_endsWithin 97 = .ok (.iconst 0, 1) := by decide +kernel
theorem dX11_endsWithin_98 : decode cX11_endsWithin 98 = .ok (.iadd, 1) := by decide +kernel
theorem dX11_endsWithin_99 : decode cX11_endsWithin 99 = .ok (.istore 5, 2) := by decide +kernel
theorem dX11_endsWithin_101 : decode cX11_endsWithin 101 = .ok (.iinc 6 1, 3) := by decide +kernel
theorem dX11_endsWithin_104 : decode cX11_endsWithin 104 = .ok (.goto (-61), 3) := by decide +kernel
theorem dX11_endsWithin_107 : decode cX11_endsWithin 107 = .ok (.iload 5, 2) := by decide +kernel
theorem dX11_endsWithin_109 : decode cX11_endsWithin 109 = .ok (.ireturn, 1) := by decide +kernel
theorem dX11_doCross_0 : decode cX11_doCross 0 = .ok (.aload_n 0, 1) := by decide +kernel
