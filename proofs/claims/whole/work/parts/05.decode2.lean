theorem dX10_init_0 : decode cX10_init 0 = .ok (.aload_n 0, 1) := by decide +kernel
theorem dX10_init_1 : decode cX10_init 1 = .ok (.invokespecial 1, 3) := by decide +kernel
theorem dX10_init_4 : decode cX10_init 4 = .ok (.aload_n 0, 1) := by decide +kernel
theorem dX10_init_5 : decode cX10_init 5 = .ok (.new 7, 3) := by decide +kernel
theorem dX10_init_8 : decode cX10_init 8 = .ok (.dup, 1) := by decide +kernel
theorem dX10_init_9 : decode cX10_init 9 = .ok (.invokespecial 9, 3) := by decide +kernel
theorem dX10_init_12 : decode cX10_init 12 = .ok (.putfield 10, 3) := by decide +kernel
theorem dX10_init_15 : decode cX10_init 15 = .ok (.aload_n 0, 1) := by decide +kernel
theorem dX10_init_16 : decode cX10_init 16 = .ok (.new 7, 3) := by decide +kernel
theorem dX10_init_19 : decode cX10_init 19 = .ok (.dup, 1) := by decide +kernel
theorem dX10_init_20 : decode cX10_init 20 = .ok (.invokespecial 9, 3) := by decide +kernel
theorem dX10_init_23 : decode cX10_init 23 = .ok (.putfield 16, 3) := by decide +kernel
theorem dX10_init_26 : decode cX10_init 26 = .ok (.aload_n 0, 1) := by decide +kernel
theorem dX10_init_27 : decode cX10_init 27 = .ok (.new 7, 3) := by decide +kernel
theorem dX10_init_30 : decode cX10_init 30 = .ok (.dup, 1) := by decide +kernel
theorem dX10_init_31 : decode cX10_init 31 = .ok (.invokespecial 9, 3) := by decide +kernel
theorem dX10_init_34 : decode cX10_init 34 = .ok (.putfield 19, 3) := by decide +kernel
theorem dX10_init_37 : decode cX10_init 37 = .ok (.aload_n 0, 1) := by decide +kernel
theorem dX10_init_38 : decode cX10_init 38 = .ok (.new 22, 3) := by decide +kernel
theorem dX10_init_41 : decode cX10_init 41 = .ok (.dup, 1) := by decide +kernel
theorem dX10_init_42 : decode cX10_init 42 = .ok (.aload_n 0, 1) := by decide +kernel
theorem dX10_init_43 : decode cX10_init 43 = .ok (.getfield 10, 3) := by decide +kernel
theorem dX10_init_46 : decode cX10_init 46 = .ok (.aload_n 0, 1) := by decide +kernel
theorem dX10_init_47 : decode cX10_init 47 = .ok (.getfield 16, 3) := by decide +kernel
theorem dX10_init_50 : decode cX10_init 50 = .ok (.invokespecial 24, 3) := by decide +kernel
theorem dX10_init_53 : decode cX10_init 53 = .ok (.putfield 27, 3) := by decide +kernel
theorem dX10_init_56 : decode cX10_init 56 = .ok (.aload_n 0, 1) := by decide +kernel
theorem dX10_init_57 : decode cX10_init 57 = .ok (.new 31, 3) := by decide +kernel
theorem dX10_init_60 : decode cX10_init 60 = .ok (.dup, 1) := by decide +kernel
theorem dX10_init_61 : decode cX10_init 61 = .ok (.aload_n 0, 1) := by decide +kernel
theorem dX10_init_62 : decode cX10_init 62 = .ok (.getfield 10, 3) := by decide +kernel
theorem dX10_init_65 : decode cX10_init 65 = .ok (.aload_n 0, 1) := by decide +kernel
theorem dX10_init_66 : decode cX10_init 66 = .ok (.getfield 16, 3) := by decide +kernel
theorem dX10_init_69 : decode cX10_init 69 = .ok (.invokespecial 33, 3) := by decide +kernel
theorem dX10_init_72 : decode cX10_init 72 = .ok (.putfield 34, 3) := by decide +kernel
theorem dX10_init_75 : decode cX10_init 75 = .ok (.aload_n 0, 1) := by decide +kernel
theorem dX10_init_76 : decode cX10_init 76 = .ok (.new 38, 3) := by decide +kernel
theorem dX10_init_79 : decode cX10_init 79 = .ok (.dup, 1) := by decide +kernel
theorem dX10_init_80 : decode cX10_init 80 = .ok (.aload_n 0, 1) := by decide +kernel
theorem dX10_init_81 : decode cX10_init 81 = .ok (.getfield 10, 3) := by decide +kernel
theorem dX10_init_84 : decode cX10_init 84 = .ok (.invokespecial 40, 3) := by decide +kernel
theorem dX10_init_87 : decode cX10_init 87 = .ok (.putfield 43, 3) := by decide +kernel
theorem dX10_init_90 : decode cX10_init 90 = .ok (.aload_n 0, 1) := by decide +kernel
theorem dX10_init_91 : decode cX10_init 91 = .ok (.new 47, 3) := by decide +kernel
theorem dX10_init_94 : decode cX10_init 94 = .ok (.dup, 1) := by decide +kernel
theorem dX10_init_95 : decode cX10_init 95 = .ok (.aload_n 0, 1) := by decide +kernel
theorem dX10_init_96 : decode cX10_init 96 = .ok (.getfield 10, 3) := by decide +kernel
theorem dX10_init_99 : decode cX10_init 99 = .ok (.invokespecial 49, 3) := by decide +kernel
theorem dX10_init_102 : decode cX10_init 102 = .ok (.putfield 50, 3) := by decide +kernel
theorem dX10_init_105 : decode cX10_init 105 = .ok (.aload_n 0, 1) := by decide +kernel
theorem dX10_init_106 : decode cX10_init 106 = .ok (.new 54, 3) := by decide +kernel
theorem dX10_init_109 : decode cX10_init 109 = .ok (.dup, 1) := by decide +kernel
theorem dX10_init_110 : decode cX10_init 110 = .ok (.aload_n 0, 1) := by decide +kernel
theorem dX10_init_111 : decode cX10_init 111 = .ok (.getfield 10, 3) := by decide +kernel
theorem dX10_init_114 : decode cX10_init 114 = .ok (.aload_n 0, 1) := by decide +kernel
theorem dX10_init_115 : decode cX10_init 115 = .ok (.getfield 16, 3) := by decide +kernel
theorem dX10_init_118 : decode cX10_init 118 = .ok (.invokespecial 56, 3) := by decide +kernel
theorem dX10_init_121 : decode cX10_init 121 = .ok (.putfield 57, 3) := by decide +kernel
theorem dX10_init_124 : decode cX10_init 124 = .ok (.aload_n 0, 1) := by decide +kernel
theorem dX10_init_125 : decode cX10_init 125 = .ok (.new 61, 3) := by decide +kernel
theorem dX10_init_128 : decode cX10_init 128 = .ok (.dup, 1) := by decide +kernel
theorem dX10_init_129 : decode cX10_init 129 = .ok (.aload_n 0, 1) := by decide +kernel
theorem dX10_init_130 : decode cX10_init 130 = .ok (.getfield 10, 3) := by decide +kernel
theorem dX10_init_133 : decode cX10_init 133 = .ok (.aload_n 0, 1) := by decide +kernel
theorem dX10_init_134 : decode cX10_init 134 = .ok (.getfield 16, 3) := by decide +kernel
theorem dX10_init_137 : decode cX10_init 137 = .ok (.invokespecial 63, 3) := by decide +kernel
theorem dX10_init_140 : decode cX10_init 140 = .ok (.putfield 64, 3) := by decide +kernel
theorem dX10_init_143 : decode cX10_init 143 = .ok (.aload_n 0, 1) := by decide +kernel
theorem dX10_init_144 : decode cX10_init 144 = .ok (.bipush 8, 2) := by decide +kernel
theorem dX10_init_146 : decode cX10_init 146 = .ok (.anewarray 68, 3) := by decide +kernel
theorem dX10_init_149 : decode cX10_init 149 = .ok (.putfield 70, 3) := by decide +kernel
theorem dX10_init_152 : decode cX10_init 152 = .ok (.iconst 0, 1) := by decide +kernel
theorem dX10_init_153 : decode cX10_init 153 = .ok (.istore_n 1, 1) := by decide +kernel
theorem dX10_init_154 : decode cX10_init 154 = .ok (.iload_n 1, 1) := by decide +kernel
theorem dX10_init_155 : decode cX10_init 155 = .ok (.bipush 8, 2) := by decide +kernel
theorem dX10_init_157 : decode cX10_init 157 = .ok (.if_icmp .ge 22, 3) := by decide +kernel
theorem dX10_init_160 : decode cX10_init 160 = .ok (.aload_n 0, 1) := by decide +kernel
theorem dX10_init_161 : decode cX10_init 161 = .ok (.getfield 70, 3) := by decide +kernel
theorem dX10_init_164 : decode cX10_init 164 = .ok (.iload_n 1, 1) := by decide +kernel
theorem dX10_init_165 : decode cX10_init 165 = .ok (.new 68, 3) := by decide +kernel
theorem dX10_init_168 : decode cX10_init 168 = .ok (.dup, 1) := by decide +kernel
theorem dX10_init_169 : decode cX10_init 169 = .ok (.invokespecial 74, 3) := by decide +kernel
theorem dX10_init_172 : decode cX10_init 172 = .ok (.aastore, 1) := by decide +kernel
theorem dX10_init_173 : decode cX10_init 173 = .ok (.iinc 1 1, 3) := by decide +kernel
theorem dX10_init_176 : decode cX10_init 176 = .ok (.goto (-22), 3) := by decide +kernel
theorem dX10_init_179 : decode cX10_init 179 = .ok (.return_, 1) := by decide +kernel
theorem dX10_town_0 : decode cX10_town 0 = .ok (.aload_n 0, 1) := by decide +kernel
theorem dX10_town_1 : decode cX10_town 1 = .ok (.iload_n 1, 1) := by decide +kernel
theorem dX10_town_2 : decode cX10_town 2 = .ok (.invokevirtual 75, 3) := by decide +kernel
theorem dX10_town_5 : decode cX10_town 5 = .ok (.istore_n 2, 1) := by decide +kernel
theorem dX10_town_6 : decode cX10_town 6 = .ok (.iload_n 2, 1) := by decide +kernel
theorem dX10_town_7 : decode cX10_town 7 = .ok (.ifCond .eq 5, 3) := by decide +kernel
theorem dX10_town_10 : decode cX10_town 10 = .ok (.iload_n 2, 1) := by decide +kernel
theorem dX10_town_11 : decode cX10_town 11 = .ok (.ireturn, 1) := by decide +kernel
theorem dX10_town_12 : decode cX10_town 12 = .ok (.aload_n 0, 1) := by decide +kernel
theorem dX10_town_13 : decode cX10_town 13 = .ok (.getfield 70, 3) := by decide +kernel
theorem dX10_town_16 : decode cX10_town 16 = .ok (.iload_n 1, 1) := by decide +kernel
theorem dX10_town_17 : decode cX10_town 17 = .ok (.aaload, 1) := by decide +kernel
theorem dX10_town_18 : decode cX10_town 18 = .ok (.astore_n 3, 1) := by decide +kernel
theorem dX10_town_19 : decode cX10_town 19 = .ok (.aload_n 3, 1) := by decide +kernel
theorem dX10_town_20 : decode cX10_town 20 = .ok (.getfield 79, 3) := by decide +kernel
theorem dX10_town_23 : decode cX10_town 23 = .ok (.ifCond .eq 6, 3) := by decide +kernel
theorem dX10_town_26 : decode cX10_town 26 = .ok (.bipush (-12), 2) := by decide +kernel
theorem dX10_town_28 : decode cX10_town 28 = .ok (.ireturn, 1) := by decide +kernel
theorem dX10_town_29 : decode cX10_town 29 = .ok (.aload_n 3, 1) := by decide +kernel
theorem dX10_town_30 : decode cX10_town 30 = .ok (.invokestatic 83, 3) := by decide +kernel
theorem dX10_town_33 : decode cX10_town 33 = .ok (.istore 4, 2) := by decide +kernel
theorem dX10_town_35 : decode cX10_town 35 = .ok (.iload 4, 2) := by decide +kernel
theorem dX10_town_37 : decode cX10_town 37 = .ok (.iconst (-1), 1) := by decide +kernel
theorem dX10_town_38 : decode cX10_town 38 = .ok (.if_icmp .eq 10, 3) := by decide +kernel
theorem dX10_town_41 : decode cX10_town 41 = .ok (.sipush (-1000), 3) := by decide +kernel
theorem dX10_town_44 : decode cX10_town 44 = .ok (.iload 4, 2) := by decide +kernel
theorem dX10_town_46 : decode cX10_town 46 = .ok (.isub, 1) := by decide +kernel
theorem dX10_town_47 : decode cX10_town 47 = .ok (.ireturn, 1) := by decide +kernel
theorem dX10_town_48 : decode cX10_town 48 = .ok (.aload_n 0, 1) := by decide +kernel
theorem dX10_town_49 : decode cX10_town 49 = .ok (.getfield 16, 3) := by decide +kernel
theorem dX10_town_52 : decode cX10_town 52 = .ok (.aload_n 0, 1) := by decide +kernel
theorem dX10_town_53 : decode cX10_town 53 = .ok (.getfield 10, 3) := by decide +kernel
theorem dX10_town_56 : decode cX10_town 56 = .ok (.invokevirtual 89, 3) := by decide +kernel
theorem dX10_town_59 : decode cX10_town 59 = .ok (.iconst 0, 1) := by decide +kernel
theorem dX10_town_60 : decode cX10_town 60 = .ok (.istore 5, 2) := by decide +kernel
theorem dX10_town_62 : decode cX10_town 62 = .ok (.iconst 0, 1) := by decide +kernel
theorem dX10_town_63 : decode cX10_town 63 = .ok (.istore 6, 2) := by decide +kernel
theorem dX10_town_65 : decode cX10_town 65 = .ok (.iload 6, 2) := by decide +kernel
theorem dX10_town_67 : decode cX10_town 67 = .ok (.aload_n 3, 1) := by decide +kernel
theorem dX10_town_68 : decode cX10_town 68 = .ok (.getfield 92, 3) := by decide +kernel
theorem dX10_town_71 : decode cX10_town 71 = .ok (.if_icmp .ge 47, 3) := by decide +kernel
theorem dX10_town_74 : decode cX10_town 74 = .ok (.aload_n 3, 1) := by decide +kernel
theorem dX10_town_75 : decode cX10_town 75 = .ok (.iload 6, 2) := by decide +kernel
theorem dX10_town_77 : decode cX10_town 77 = .ok (.invokevirtual 95, 3) := by decide +kernel
theorem dX10_town_80 : decode cX10_town 80 = .ok (.invokestatic 98, 3) := by decide +kernel
theorem dX10_town_83 : decode cX10_town 83 = .ok (.ifCond .ne 6, 3) := by decide +kernel
theorem dX10_town_86 : decode cX10_town 86 = .ok (.goto 26, 3) := by decide +kernel
theorem dX10_town_89 : decode cX10_town 89 = .ok (.aload_n 3, 1) := by decide +kernel
theorem dX10_town_90 : decode cX10_town 90 = .ok (.iload 6, 2) := by decide +kernel
theorem dX10_town_92 : decode cX10_town 92 = .ok (.aload_n 0, 1) := by decide +kernel
theorem dX10_town_93 : decode cX10_town 93 = .ok (.getfield 16, 3) := by decide +kernel
theorem dX10_town_96 : decode cX10_town 96 = .ok (.invokestatic 101, 3) := by decide +kernel
theorem dX10_town_99 : decode cX10_town 99 = .ok (.ifCond .ne 10, 3) := by decide +kernel
theorem dX10_town_102 : decode cX10_town 102 = .ok (.sipush (-2000), 3) := by decide +kernel
theorem dX10_town_105 : decode cX10_town 105 = .ok (.iload 6, 2) := by decide +kernel
theorem dX10_town_107 : decode cX10_town 107 = .ok (.isub, 1) := by decide +kernel
theorem dX10_town_108 : decode cX10_town 108 = .ok (.ireturn, 1) := by decide +kernel
theorem dX10_town_109 : decode cX10_town 109 = .ok (.iinc 5 1, 3) := by decide +kernel
theorem dX10_town_112 : decode cX10_town 112 = .ok (.iinc 6 1, 3) := by decide +kernel
theorem dX10_town_115 : decode cX10_town 115 = .ok (.goto (-50), 3) := by decide +kernel
theorem dX10_town_118 : decode cX10_town 118 = .ok (.aload_n 0, 1) := by decide +kernel
theorem dX10_town_119 : decode cX10_town 119 = .ok (.getfield 10, 3) := by decide +kernel
theorem dX10_town_122 : decode cX10_town 122 = .ok (.aload_n 0, 1) := by decide +kernel
theorem dX10_town_123 : decode cX10_town 123 = .ok (.getfield 16, 3) := by decide +kernel
theorem dX10_town_126 : decode cX10_town 126 = .ok (.invokevirtual 89, 3) := by decide +kernel
theorem dX10_town_129 : decode cX10_town 129 = .ok (.iload 5, 2) := by decide +kernel
theorem dX10_town_131 : decode cX10_town 131 = .ok (.ireturn, 1) := by decide +kernel
theorem dX10_person_0 : decode cX10_person 0 = .ok (.aload_n 0, 1) := by decide +kernel
theorem dX10_person_1 : decode cX10_person 1 = .ok (.getfield 10, 3) := by decide +kernel
theorem dX10_person_4 : decode cX10_person 4 = .ok (.iload_n 1, 1) := by decide +kernel
theorem dX10_person_5 : decode cX10_person 5 = .ok (.invokevirtual 105, 3) := by decide +kernel
theorem dX10_person_8 : decode cX10_person 8 = .ok (.ifCond .ne 5, 3) := by decide +kernel
theorem dX10_person_11 : decode cX10_person 11 = .ok (.iconst (-1), 1) := by decide +kernel
theorem dX10_person_12 : decode cX10_person 12 = .ok (.ireturn, 1) := by decide +kernel
theorem dX10_person_13 : decode cX10_person 13 = .ok (.iload_n 2, 1) := by decide +kernel
theorem dX10_person_14 : decode cX10_person 14 = .ok (.tableswitch 70 0 3 #[30, 40, 50, 60], 30) := by decide +kernel
theorem dX10_person_44 : decode cX10_person 44 = .ok (.aload_n 0, 1) := by decide +kernel
theorem dX10_person_45 : decode cX10_person 45 = .ok (.getfield 10, 3) := by decide +kernel
theorem dX10_person_48 : decode cX10_person 48 = .ok (.getfield 109, 3) := by decide +kernel
theorem dX10_person_51 : decode cX10_person 51 = .ok (.iload_n 1, 1) := by decide +kernel
theorem dX10_person_52 : decode cX10_person 52 = .ok (.iaload, 1) := by decide +kernel
theorem dX10_person_53 : decode cX10_person 53 = .ok (.ireturn, 1) := by decide +kernel
theorem dX10_person_54 : decode cX10_person 54 = .ok (.aload_n 0, 1) := by decide +kernel
theorem dX10_person_55 : decode cX10_person 55 = .ok (.getfield 10, 3) := by decide +kernel
theorem dX10_person_58 : decode cX10_person 58 = .ok (.getfield 113, 3) := by decide +kernel
theorem dX10_person_61 : decode cX10_person 61 = .ok (.iload_n 1, 1) := by decide +kernel
theorem dX10_person_62 : decode cX10_person 62 = .ok (.iaload, 1) := by decide +kernel
theorem dX10_person_63 : decode cX10_person 63 = .ok (.ireturn, 1) := by decide +kernel
theorem dX10_person_64 : decode cX10_person 64 = .ok (.aload_n 0, 1) := by decide +kernel
theorem dX10_person_65 : decode cX10_person 65 = .ok (.getfield 10, 3) := by decide +kernel
theorem dX10_person_68 : decode cX10_person 68 = .ok (.iload_n 1, 1) := by decide +kernel
theorem dX10_person_69 : decode cX10_person 69 = .ok (.iconst (-1), 1) := by decide +kernel
theorem dX10_person_70 : decode cX10_person 70 = .ok (.invokevirtual 116, 3) := by decide +kernel
theorem dX10_person_73 : decode cX10_person 73 = .ok (.ireturn, 1) := by decide +kernel
theorem dX10_person_74 : decode cX10_person 74 = .ok (.aload_n 0, 1) := by decide +kernel
theorem dX10_person_75 : decode cX10_person 75 = .ok (.getfield 10, 3) := by decide +kernel
theorem dX10_person_78 : decode cX10_person 78 = .ok (.iload_n 1, 1) := by decide +kernel
theorem dX10_person_79 : decode cX10_person 79 = .ok (.iconst 1, 1) := by decide +kernel
theorem dX10_person_80 : decode cX10_person 80 = .ok (.invokevirtual 116, 3) := by decide +kernel
theorem dX10_person_83 : decode cX10_person 83 = .ok (.ireturn, 1) := by decide +kernel
theorem dX10_person_84 : decode cX10_person 84 = .ok (.iconst (-1), 1) := by decide +kernel
theorem dX10_person_85 : decode cX10_person 85 = .ok (.ireturn, 1) := by decide +kernel
theorem dX10_band_0 : decode cX10_band 0 = .ok (.aload_n 0, 1) := by decide +kernel
theorem dX10_band_1 : decode cX10_band 1 = .ok (.getfield 10, 3) := by decide +kernel
theorem dX10_band_4 : decode cX10_band 4 = .ok (.iload_n 1, 1) := by decide +kernel
theorem dX10_band_5 : decode cX10_band 5 = .ok (.invokevirtual 120, 3) := by decide +kernel
theorem dX10_band_8 : decode cX10_band 8 = .ok (.ifCond .ne 5, 3) := by decide +kernel
theorem dX10_band_11 : decode cX10_band 11 = .ok (.iconst (-1), 1) := by decide +kernel
theorem dX10_band_12 : decode cX10_band 12 = .ok (.ireturn, 1) := by decide +kernel
theorem dX10_band_13 : decode cX10_band 13 = .ok (.iload_n 2, 1) := by decide +kernel
theorem dX10_band_14 : decode cX10_band 14 = .ok (.tableswitch 160 0 8 #[50, 60, 70, 80, 90, 100, 117, 126, 135], 50) := by decide +kernel
theorem dX10_band_64 : decode cX10_band 64 = .ok (.aload_n 0, 1) := by decide +kernel
theorem dX10_band_65 : decode cX10_band 65 = .ok (.getfield 10, 3) := by decide +kernel
theorem dX10_band_68 : decode cX10_band 68 = .ok (.getfield 123, 3) := by decide +kernel
theorem dX10_band_71 : decode cX10_band 71 = .ok (.iload_n 1, 1) := by decide +kernel
theorem dX10_band_72 : decode cX10_band 72 = .ok (.iaload, 1) := by decide +kernel
theorem dX10_band_73 : decode cX10_band 73 = .ok (.ireturn, 1) := by decide +kernel
theorem dX10_band_74 : decode cX10_band 74 = .ok (.aload_n 0, 1) := by decide +kernel
theorem dX10_band_75 : decode cX10_band 75 = .ok (.getfield 10, 3) := by decide +kernel
theorem dX10_band_78 : decode cX10_band 78 = .ok (.getfield 126, 3) := by decide +kernel
theorem dX10_band_81 : decode cX10_band 81 = .ok (.iload_n 1, 1) := by decide +kernel
theorem dX10_band_82 : decode cX10_band 82 = .ok (.iaload, 1) := by decide +kernel
theorem dX10_band_83 : decode cX10_band 83 = .ok (.ireturn, 1) := by decide +kernel
theorem dX10_band_84 : decode cX10_band 84 = .ok (.aload_n 0, 1) := by decide +kernel
theorem dX10_band_85 : decode cX10_band 85 = .ok (.getfield 10, 3) := by decide +kernel
theorem dX10_band_88 : decode cX10_band 88 = .ok (.getfield 129, 3) := by decide +kernel
theorem dX10_band_91 : decode cX10_band 91 = .ok (.iload_n 1, 1) := by decide +kernel
theorem dX10_band_92 : decode cX10_band 92 = .ok (.iaload, 1) := by decide +kernel
theorem dX10_band_93 : decode cX10_band 93 = .ok (.ireturn, 1) := by decide +kernel
theorem dX10_band_94 : decode cX10_band 94 = .ok (.aload_n 0, 1) := by decide +kernel
theorem dX10_band_95 : decode cX10_band 95 = .ok (.getfield 10, 3) := by decide +kernel
theorem dX10_band_98 : decode cX10_band 98 = .ok (.getfield 132, 3) := by decide +kernel
theorem dX10_band_101 : decode cX10_band 101 = .ok (.iload_n 1, 1) := by decide +kernel
theorem dX10_band_102 : decode cX10_band 102 = .ok (.iaload, 1) := by decide +kernel
theorem dX10_band_103 : decode cX10_band 103 = .ok (.ireturn, 1) := by decide +kernel
theorem dX10_band_104 : decode cX10_band 104 = .ok (.aload_n 0, 1) := by decide +kernel
theorem dX10_band_105 : decode cX10_band 105 = .ok (.getfield 10, 3) := by decide +kernel
theorem dX10_band_108 : decode cX10_band 108 = .ok (.getfield 135, 3) := by decide +kernel
theorem dX10_band_111 : decode cX10_band 111 = .ok (.iload_n 1, 1) := by decide +kernel
theorem dX10_band_112 : decode cX10_band 112 = .ok (.iaload, 1) := by decide +kernel
theorem dX10_band_113 : decode cX10_band 113 = .ok (.ireturn, 1) := by decide +kernel
theorem dX10_band_114 : decode cX10_band 114 = .ok (.aload_n 0, 1) := by decide +kernel
theorem dX10_band_115 : decode cX10_band 115 = .ok (.getfield 10, 3) := by decide +kernel
theorem dX10_band_118 : decode cX10_band 118 = .ok (.iload_n 1, 1) := by decide +kernel
theorem dX10_band_119 : decode cX10_band 119 = .ok (.invokevirtual 138, 3) := by decide +kernel
theorem dX10_band_122 : decode cX10_band 122 = .ok (.ifCond .eq 7, 3) := by decide +kernel
theorem dX10_band_125 : decode cX10_band 125 = .ok (.iconst 1, 1) := by decide +kernel
theorem dX10_band_126 : decode cX10_band 126 = .ok (.goto 4, 3) := by decide +kernel
theorem dX10_band_129 : decode cX10_band 129 = .ok (.iconst 0, 1) := by decide +kernel
theorem dX10_band_130 : decode cX10_band 130 = .ok (.ireturn, 1) := by decide +kernel
theorem dX10_band_131 : decode cX10_band 131 = .ok (.aload_n 0, 1) := by decide +kernel
theorem dX10_band_132 : decode cX10_band 132 = .ok (.getfield 10, 3) := by decide +kernel
theorem dX10_band_135 : decode cX10_band 135 = .ok (.iload_n 1, 1) := by decide +kernel
theorem dX10_band_136 : decode cX10_band 136 = .ok (.invokevirtual 141, 3) := by decide +kernel
theorem dX10_band_139 : decode cX10_band 139 = .ok (.ireturn, 1) := by decide +kernel
theorem dX10_band_140 : decode cX10_band 140 = .ok (.aload_n 0, 1) := by decide +kernel
theorem dX10_band_141 : decode cX10_band 141 = .ok (.getfield 10, 3) := by decide +kernel
theorem dX10_band_144 : decode cX10_band 144 = .ok (.iload_n 1, 1) := by decide +kernel
theorem dX10_band_145 : decode cX10_band 145 = .ok (.invokevirtual 144, 3) := by decide +kernel
theorem dX10_band_148 : decode cX10_band 148 = .ok (.ireturn, 1) := by decide +kernel
theorem dX10_band_149 : decode cX10_band 149 = .ok (.aload_n 0, 1) := by decide +kernel
theorem dX10_band_150 : decode cX10_band 150 = .ok (.getfield 10, 3) := by decide +kernel
theorem dX10_band_153 : decode cX10_band 153 = .ok (.iload_n 1, 1) := by decide +kernel
theorem dX10_band_154 : decode cX10_band 154 = .ok (.aload_n 0, 1) := by decide +kernel
theorem dX10_band_155 : decode cX10_band 155 = .ok (.getfield 10, 3) := by decide +kernel
theorem dX10_band_158 : decode cX10_band 158 = .ok (.getfield 135, 3) := by decide +kernel
theorem dX10_band_161 : decode cX10_band 161 = .ok (.iload_n 1, 1) := by decide +kernel
theorem dX10_band_162 : decode cX10_band 162 = .ok (.iaload, 1) := by decide +kernel
theorem dX10_band_163 : decode cX10_band 163 = .ok (.aload_n 0, 1) := by decide +kernel
theorem dX10_band_164 : decode cX10_band 164 = .ok (.getfield 10, 3) := by decide +kernel
theorem dX10_band_167 : decode cX10_band 167 = .ok (.getfield 147, 3) := by decide +kernel
theorem dX10_band_170 : decode cX10_band 170 = .ok (.invokevirtual 150, 3) := by decide +kernel
theorem dX10_band_173 : decode cX10_band 173 = .ok (.ireturn, 1) := by decide +kernel
theorem dX10_band_174 : decode cX10_band 174 = .ok (.iconst (-1), 1) := by decide +kernel
theorem dX10_band_175 : decode cX10_band 175 = .ok (.ireturn, 1) := by decide +kernel
theorem dX10_comes_0 : decode cX10_comes 0 = .ok (.iload_n 1, 1) := by decide +kernel
theorem dX10_comes_1 : decode cX10_comes 1 = .ok (.bipush 30, 2) := by decide +kernel
theorem dX10_comes_3 : decode cX10_comes 3 = .ok (.invokestatic 154, 3) := by decide +kernel
theorem dX10_comes_6 : decode cX10_comes 6 = .ok (.ifCond .ne 5, 3) := by decide +kernel
theorem dX10_comes_9 : decode cX10_comes 9 = .ok (.iconst (-1), 1) := by decide +kernel
theorem dX10_comes_10 : decode cX10_comes 10 = .ok (.ireturn, 1) := by decide +kernel
theorem dX10_comes_11 : decode cX10_comes 11 = .ok (.aload_n 0, 1) := by decide +kernel
theorem dX10_comes_12 : decode cX10_comes 12 = .ok (.getfield 10, 3) := by decide +kernel
theorem dX10_comes_15 : decode cX10_comes 15 = .ok (.getfield 158, 3) := by decide +kernel
theorem dX10_comes_18 : decode cX10_comes 18 = .ok (.bipush 7, 2) := by decide +kernel
theorem dX10_comes_20 : decode cX10_comes 20 = .ok (.if_icmp .ge 14, 3) := by decide +kernel
theorem dX10_comes_23 : decode cX10_comes 23 = .ok (.aload_n 0, 1) := by decide +kernel
theorem dX10_comes_24 : decode cX10_comes 24 = .ok (.getfield 10, 3) := by decide +kernel
theorem dX10_comes_27 : decode cX10_comes 27 = .ok (.iload_n 1, 1) := by decide +kernel
theorem dX10_comes_28 : decode cX10_comes 28 = .ok (.invokevirtual 161, 3) := by decide +kernel
theorem dX10_comes_31 : decode cX10_comes 31 = .ok (.goto 5, 3) := by decide +kernel
theorem dX10_comes_34 : decode cX10_comes 34 = .ok (.bipush (-2), 2) := by decide +kernel
theorem dX10_comes_36 : decode cX10_comes 36 = .ok (.ireturn, 1) := by decide +kernel
theorem dX10_ties_0 : decode cX10_ties 0 = .ok (.iload_n 1, 1) := by decide +kernel
theorem dX10_ties_1 : decode cX10_ties 1 = .ok (.invokestatic 164, 3) := by decide +kernel
theorem dX10_ties_4 : decode cX10_ties 4 = .ok (.ifCond .eq 15, 3) := by decide +kernel
theorem dX10_ties_7 : decode cX10_ties 7 = .ok (.aload_n 0, 1) := by decide +kernel
theorem dX10_ties_8 : decode cX10_ties 8 = .ok (.getfield 10, 3) := by decide +kernel
theorem dX10_ties_11 : decode cX10_ties 11 = .ok (.iload_n 2, 1) := by decide +kernel
theorem dX10_ties_12 : decode cX10_ties 12 = .ok (.iload_n 3, 1) := by decide +kernel
theorem dX10_ties_13 : decode cX10_ties 13 = .ok (.invokevirtual 167, 3) := by decide +kernel
theorem dX10_ties_16 : decode cX10_ties 16 = .ok (.ifCond .ne 5, 3) := by decide +kernel
theorem dX10_ties_19 : decode cX10_ties 19 = .ok (.iconst (-1), 1) := by decide +kernel
theorem dX10_ties_20 : decode cX10_ties 20 = .ok (.ireturn, 1) := by decide +kernel
theorem dX10_ties_21 : decode cX10_ties 21 = .ok (.aload_n 0, 1) := by decide +kernel
theorem dX10_ties_22 : decode cX10_ties 22 = .ok (.iload_n 1, 1) := by decide +kernel
theorem dX10_ties_23 : decode cX10_ties 23 = .ok (.invokevirtual 170, 3) := by decide +kernel
theorem dX10_ties_26 : decode cX10_ties 26 = .ok (.istore 4, 2) := by decide +kernel
theorem dX10_ties_28 : decode cX10_ties 28 = .ok (.iload 4, 2) := by decide +kernel
theorem dX10_ties_30 : decode cX10_ties 30 = .ok (.ifCond .eq 6, 3) := by decide +kernel
theorem dX10_ties_33 : decode cX10_ties 33 = .ok (.iload 4, 2) := by decide +kernel
theorem dX10_ties_35 : decode cX10_ties 35 = .ok (.ireturn, 1) := by decide +kernel
theorem dX10_ties_36 : decode cX10_ties 36 = .ok (.aload_n 0, 1) := by decide +kernel
theorem dX10_ties_37 : decode cX10_ties 37 = .ok (.getfield 10, 3) := by decide +kernel
theorem dX10_ties_40 : decode cX10_ties 40 = .ok (.getfield 173, 3) := by decide +kernel
theorem dX10_ties_43 : decode cX10_ties 43 = .ok (.bipush 10, 2) := by decide +kernel
theorem dX10_ties_45 : decode cX10_ties 45 = .ok (.if_icmp .lt 6, 3) := by decide +kernel
theorem dX10_ties_48 : decode cX10_ties 48 = .ok (.bipush (-2), 2) := by decide +kernel
theorem dX10_ties_50 : decode cX10_ties 50 = .ok (.ireturn, 1) := by decide +kernel
theorem dX10_ties_51 : decode cX10_ties 51 = .ok (.aload_n 0, 1) := by decide +kernel
theorem dX10_ties_52 : decode cX10_ties 52 = .ok (.getfield 10, 3) := by decide +kernel
theorem dX10_ties_55 : decode cX10_ties 55 = .ok (.aload_n 0, 1) := by decide +kernel
theorem dX10_ties_56 : decode cX10_ties 56 = .ok (.getfield 70, 3) := by decide +kernel
theorem dX10_ties_59 : decode cX10_ties 59 = .ok (.iload_n 1, 1) := by decide +kernel
theorem dX10_ties_60 : decode cX10_ties 60 = .ok (.aaload, 1) := by decide +kernel
theorem dX10_ties_61 : decode cX10_ties 61 = .ok (.getfield 176, 3) := by decide +kernel
theorem dX10_ties_64 : decode cX10_ties 64 = .ok (.aload_n 0, 1) := by decide +kernel
theorem dX10_ties_65 : decode cX10_ties 65 = .ok (.getfield 70, 3) := by decide +kernel
theorem dX10_ties_68 : decode cX10_ties 68 = .ok (.iload_n 1, 1) := by decide +kernel
theorem dX10_ties_69 : decode cX10_ties 69 = .ok (.aaload, 1) := by decide +kernel
theorem dX10_ties_70 : decode cX10_ties 70 = .ok (.getfield 178, 3) := by decide +kernel
theorem dX10_ties_73 : decode cX10_ties 73 = .ok (.iload_n 2, 1) := by decide +kernel
theorem dX10_ties_74 : decode cX10_ties 74 = .ok (.iload_n 3, 1) := by decide +kernel
theorem dX10_ties_75 : decode cX10_ties 75 = .ok (.invokevirtual 180, 3) := by decide +kernel
theorem dX10_ties_78 : decode cX10_ties 78 = .ok (.ireturn, 1) := by decide +kernel
theorem dX10_goes_0 : decode cX10_goes 0 = .ok (.aload_n 0, 1) := by decide +kernel
theorem dX10_goes_1 : decode cX10_goes 1 = .ok (.getfield 10, 3) := by decide +kernel
theorem dX10_goes_4 : decode cX10_goes 4 = .ok (.iload_n 1, 1) := by decide +kernel
theorem dX10_goes_5 : decode cX10_goes 5 = .ok (.invokevirtual 105, 3) := by decide +kernel
theorem dX10_goes_8 : decode cX10_goes 8 = .ok (.ifCond .eq 12, 3) := by decide +kernel
theorem dX10_goes_11 : decode cX10_goes 11 = .ok (.iload_n 2, 1) := by decide +kernel
theorem dX10_goes_12 : decode cX10_goes 12 = .ok (.bipush 30, 2) := by decide +kernel
theorem dX10_goes_14 : decode cX10_goes 14 = .ok (.invokestatic 154, 3) := by decide +kernel
theorem dX10_goes_17 : decode cX10_goes 17 = .ok (.ifCond .ne 5, 3) := by decide +kernel
theorem dX10_goes_20 : decode cX10_goes 20 = .ok (.iconst (-1), 1) := by decide +kernel
theorem dX10_goes_21 : decode cX10_goes 21 = .ok (.ireturn, 1) := by decide +kernel
theorem dX10_goes_22 : decode cX10_goes 22 = .ok (.aload_n 0, 1) := by decide +kernel
theorem dX10_goes_23 : decode cX10_goes 23 = .ok (.getfield 10, 3) := by decide +kernel
theorem dX10_goes_26 : decode cX10_goes 26 = .ok (.iload_n 1, 1) := by decide +kernel
theorem dX10_goes_27 : decode cX10_goes 27 = .ok (.iload_n 2, 1) := by decide +kernel
theorem dX10_goes_28 : decode cX10_goes 28 = .ok (.invokevirtual 184, 3) := by decide +kernel
theorem dX10_goes_31 : decode cX10_goes 31 = .ok (.ireturn, 1) := by decide +kernel
theorem dX10_cold_0 : decode cX10_cold 0 = .ok (.iload_n 1, 1) := by decide +kernel
theorem dX10_cold_1 : decode cX10_cold 1 = .ok (.bipush 9, 2) := by decide +kernel
theorem dX10_cold_3 : decode cX10_cold 3 = .ok (.invokestatic 154, 3) := by decide +kernel
theorem dX10_cold_6 : decode cX10_cold 6 = .ok (.ifCond .eq 14, 3) := by decide +kernel
theorem dX10_cold_9 : decode cX10_cold 9 = .ok (.aload_n 0, 1) := by decide +kernel
theorem dX10_cold_10 : decode cX10_cold 10 = .ok (.getfield 10, 3) := by decide +kernel
theorem dX10_cold_13 : decode cX10_cold 13 = .ok (.iload_n 1, 1) := by decide +kernel
theorem dX10_cold_14 : decode cX10_cold 14 = .ok (.invokevirtual 187, 3) := by decide +kernel
theorem dX10_cold_17 : decode cX10_cold 17 = .ok (.goto 4, 3) := by decide +kernel
theorem dX10_cold_20 : decode cX10_cold 20 = .ok (.iconst (-1), 1) := by decide +kernel
theorem dX10_cold_21 : decode cX10_cold 21 = .ok (.ireturn, 1) := by decide +kernel
theorem dX10_years_0 : decode cX10_years 0 = .ok (.iload_n 1, 1) := by decide +kernel
theorem dX10_years_1 : decode cX10_years 1 = .ok (.iconst 1, 1) := by decide +kernel
theorem dX10_years_2 : decode cX10_years 2 = .ok (.if_icmp .lt 9, 3) := by decide +kernel
theorem dX10_years_5 : decode cX10_years 5 = .ok (.iload_n 1, 1) := by decide +kernel
theorem dX10_years_6 : decode cX10_years 6 = .ok (.bipush 60, 2) := by decide +kernel
theorem dX10_years_8 : decode cX10_years 8 = .ok (.if_icmp .le 5, 3) := by decide +kernel
theorem dX10_years_11 : decode cX10_years 11 = .ok (.iconst (-1), 1) := by decide +kernel
theorem dX10_years_12 : decode cX10_years 12 = .ok (.ireturn, 1) := by decide +kernel
theorem dX10_years_13 : decode cX10_years 13 = .ok (.aload_n 0, 1) := by decide +kernel
theorem dX10_years_14 : decode cX10_years 14 = .ok (.getfield 10, 3) := by decide +kernel
theorem dX10_years_17 : decode cX10_years 17 = .ok (.getfield 190, 3) := by decide +kernel
theorem dX10_years_20 : decode cX10_years 20 = .ok (.iload_n 1, 1) := by decide +kernel
theorem dX10_years_21 : decode cX10_years 21 = .ok (.iadd, 1) := by decide +kernel
theorem dX10_years_22 : decode cX10_years 22 = .ok (.sipush 999, 3) := by decide +kernel
theorem dX10_years_25 : decode cX10_years 25 = .ok (.if_icmp .le 6, 3) := by decide +kernel
theorem dX10_years_28 : decode cX10_years 28 = .ok (.bipush (-3), 2) := by decide +kernel
theorem dX10_years_30 : decode cX10_years 30 = .ok (.ireturn, 1) := by decide +kernel
theorem dX10_years_31 : decode cX10_years 31 = .ok (.aload_n 0, 1) := by decide +kernel
theorem dX10_years_32 : decode cX10_years 32 = .ok (.getfield 10, 3) := by decide +kernel
theorem dX10_years_35 : decode cX10_years 35 = .ok (.invokevirtual 193, 3) := by decide +kernel
theorem dX10_years_38 : decode cX10_years 38 = .ok (.istore_n 2, 1) := by decide +kernel
theorem dX10_years_39 : decode cX10_years 39 = .ok (.aload_n 0, 1) := by decide +kernel
theorem dX10_years_40 : decode cX10_years 40 = .ok (.getfield 10, 3) := by decide +kernel
theorem dX10_years_43 : decode cX10_years 43 = .ok (.iload_n 1, 1) := by decide +kernel
theorem dX10_years_44 : decode cX10_years 44 = .ok (.invokevirtual 197, 3) := by decide +kernel
theorem dX10_years_47 : decode cX10_years 47 = .ok (.aload_n 0, 1) := by decide +kernel
theorem dX10_years_48 : decode cX10_years 48 = .ok (.getfield 10, 3) := by decide +kernel
theorem dX10_years_51 : decode cX10_years 51 = .ok (.invokevirtual 193, 3) := by decide +kernel
theorem dX10_years_54 : decode cX10_years 54 = .ok (.iload_n 2, 1) := by decide +kernel
theorem dX10_years_55 : decode cX10_years 55 = .ok (.isub, 1) := by decide +kernel
theorem dX10_years_56 : decode cX10_years 56 = .ok (.ireturn, 1) := by decide +kernel
theorem dX10_cuts_0 : decode cX10_cuts 0 = .ok (.aload_n 0, 1) := by decide +kernel
theorem dX10_cuts_1 : decode cX10_cuts 1 = .ok (.getfield 10, 3) := by decide +kernel
theorem dX10_cuts_4 : decode cX10_cuts 4 = .ok (.iload_n 1, 1) := by decide +kernel
theorem dX10_cuts_5 : decode cX10_cuts 5 = .ok (.invokevirtual 120, 3) := by decide +kernel
theorem dX10_cuts_8 : decode cX10_cuts 8 = .ok (.ifCond .ne 5, 3) := by decide +kernel
theorem dX10_cuts_11 : decode cX10_cuts 11 = .ok (.iconst (-1), 1) := by decide +kernel
theorem dX10_cuts_12 : decode cX10_cuts 12 = .ok (.ireturn, 1) := by decide +kernel
theorem dX10_cuts_13 : decode cX10_cuts 13 = .ok (.aload_n 0, 1) := by decide +kernel
theorem dX10_cuts_14 : decode cX10_cuts 14 = .ok (.getfield 10, 3) := by decide +kernel
theorem dX10_cuts_17 : decode cX10_cuts 17 = .ok (.iload_n 1, 1) := by decide +kernel
theorem dX10_cuts_18 : decode cX10_cuts 18 = .ok (.invokevirtual 138, 3) := by decide +kernel
theorem dX10_cuts_21 : decode cX10_cuts 21 = .ok (.ifCond .eq 6, 3) := by decide +kernel
theorem dX10_cuts_24 : decode cX10_cuts 24 = .ok (.bipush (-3), 2) := by decide +kernel
theorem dX10_cuts_26 : decode cX10_cuts 26 = .ok (.ireturn, 1) := by decide +kernel
theorem dX10_cuts_27 : decode cX10_cuts 27 = .ok (.aload_n 0, 1) := by decide +kernel
theorem dX10_cuts_28 : decode cX10_cuts 28 = .ok (.getfield 10, 3) := by decide +kernel
theorem dX10_cuts_31 : decode cX10_cuts 31 = .ok (.dup, 1) := by decide +kernel
theorem dX10_cuts_32 : decode cX10_cuts 32 = .ok (.getfield 201, 3) := by decide +kernel
theorem dX10_cuts_35 : decode cX10_cuts 35 = .ok (.iconst 1, 1) := by decide +kernel
theorem dX10_cuts_36 : decode cX10_cuts 36 = .ok (.iload_n 1, 1) := by decide +kernel
theorem dX10_cuts_37 : decode cX10_cuts 37 = .ok (.ishl, 1) := by decide +kernel
theorem dX10_cuts_38 : decode cX10_cuts 38 = .ok (.ior, 1) := by decide +kernel
theorem dX10_cuts_39 : decode cX10_cuts 39 = .ok (.putfield 201, 3) := by decide +kernel
theorem dX10_cuts_42 : decode cX10_cuts 42 = .ok (.aload_n 0, 1) := by decide +kernel
theorem dX10_cuts_43 : decode cX10_cuts 43 = .ok (.getfield 10, 3) := by decide +kernel
theorem dX10_cuts_46 : decode cX10_cuts 46 = .ok (.invokevirtual 193, 3) := by decide +kernel
theorem dX10_cuts_49 : decode cX10_cuts 49 = .ok (.ireturn, 1) := by decide +kernel
theorem dX10_mayGo_0 : decode cX10_mayGo 0 = .ok (.aload_n 0, 1) := by decide +kernel
theorem dX10_mayGo_1 : decode cX10_mayGo 1 = .ok (.getfield 10, 3) := by decide +kernel
theorem dX10_mayGo_4 : decode cX10_mayGo 4 = .ok (.iload_n 1, 1) := by decide +kernel
theorem dX10_mayGo_5 : decode cX10_mayGo 5 = .ok (.invokevirtual 105, 3) := by decide +kernel
theorem dX10_mayGo_8 : decode cX10_mayGo 8 = .ok (.ifCond .eq 11, 3) := by decide +kernel
theorem dX10_mayGo_11 : decode cX10_mayGo 11 = .ok (.iload_n 2, 1) := by decide +kernel
theorem dX10_mayGo_12 : decode cX10_mayGo 12 = .ok (.iconst 1, 1) := by decide +kernel
theorem dX10_mayGo_13 : decode cX10_mayGo 13 = .ok (.invokestatic 154, 3) := by decide +kernel
theorem dX10_mayGo_16 : decode cX10_mayGo 16 = .ok (.ifCond .ne 5, 3) := by decide +kernel
theorem dX10_mayGo_19 : decode cX10_mayGo 19 = .ok (.iconst (-1), 1) := by decide +kernel
theorem dX10_mayGo_20 : decode cX10_mayGo 20 = .ok (.ireturn, 1) := by decide +kernel
theorem dX10_mayGo_21 : decode cX10_mayGo 21 = .ok (.aload_n 0, 1) := by decide +kernel
theorem dX10_mayGo_22 : decode cX10_mayGo 22 = .ok (.getfield 27, 3) := by decide +kernel
theorem dX10_mayGo_25 : decode cX10_mayGo 25 = .ok (.iload_n 1, 1) := by decide +kernel
theorem dX10_mayGo_26 : decode cX10_mayGo 26 = .ok (.iload_n 2, 1) := by decide +kernel
theorem dX10_mayGo_27 : decode cX10_mayGo 27 = .ok (.ifCond .ne 7, 3) := by decide +kernel
theorem dX10_mayGo_30 : decode cX10_mayGo 30 = .ok (.iconst (-1), 1) := by decide +kernel
theorem dX10_mayGo_31 : decode cX10_mayGo 31 = .ok (.goto 4, 3) := by decide +kernel
theorem dX10_mayGo_34 : decode cX10_mayGo 34 = .ok (.iconst 1, 1) := by decide +kernel
theorem dX10_mayGo_35 : decode cX10_mayGo 35 = .ok (.invokevirtual 204, 3) := by decide +kernel
theorem dX10_mayGo_38 : decode cX10_mayGo 38 = .ok (.ireturn, 1) := by decide +kernel
theorem dX10_rest_0 : decode cX10_rest 0 = .ok (.aload_n 0, 1) := by decide +kernel
theorem dX10_rest_1 : decode cX10_rest 1 = .ok (.getfield 10, 3) := by decide +kernel
theorem dX10_rest_4 : decode cX10_rest 4 = .ok (.iload_n 1, 1) := by decide +kernel
theorem dX10_rest_5 : decode cX10_rest 5 = .ok (.invokevirtual 105, 3) := by decide +kernel
theorem dX10_rest_8 : decode cX10_rest 8 = .ok (.ifCond .eq 14, 3) := by decide +kernel
theorem dX10_rest_11 : decode cX10_rest 11 = .ok (.aload_n 0, 1) := by decide +kernel
theorem dX10_rest_12 : decode cX10_rest 12 = .ok (.getfield 27, 3) := by decide +kernel
theorem dX10_rest_15 : decode cX10_rest 15 = .ok (.iload_n 1, 1) := by decide +kernel
theorem dX10_rest_16 : decode cX10_rest 16 = .ok (.invokevirtual 207, 3) := by decide +kernel
theorem dX10_rest_19 : decode cX10_rest 19 = .ok (.goto 4, 3) := by decide +kernel
theorem dX10_rest_22 : decode cX10_rest 22 = .ok (.iconst (-1), 1) := by decide +kernel
theorem dX10_rest_23 : decode cX10_rest 23 = .ok (.ireturn, 1) := by decide +kernel
theorem dX10_placeIn_0 : decode cX10_placeIn 0 = .ok (.aload_n 0, 1) := by decide +kernel
theorem dX10_placeIn_1 : decode cX10_placeIn 1 = .ok (.getfield 10, 3) := by decide +kernel
theorem dX10_placeIn_4 : decode cX10_placeIn 4 = .ok (.iload_n 1, 1) := by decide +kernel
theorem dX10_placeIn_5 : decode cX10_placeIn 5 = .ok (.invokevirtual 105, 3) := by decide +kernel
theorem dX10_placeIn_8 : decode cX10_placeIn 8 = .ok (.ifCond .eq 12, 3) := by decide +kernel
theorem dX10_placeIn_11 : decode cX10_placeIn 11 = .ok (.iload_n 2, 1) := by decide +kernel
theorem dX10_placeIn_12 : decode cX10_placeIn 12 = .ok (.bipush 60, 2) := by decide +kernel
theorem dX10_placeIn_14 : decode cX10_placeIn 14 = .ok (.invokestatic 154, 3) := by decide +kernel
theorem dX10_placeIn_17 : decode cX10_placeIn 17 = .ok (.ifCond .ne 5, 3) := by decide +kernel
theorem dX10_placeIn_20 : decode cX10_placeIn 20 = .ok (.iconst (-1), 1) := by decide +kernel
theorem dX10_placeIn_21 : decode cX10_placeIn 21 = .ok (.ireturn, 1) := by decide +kernel
theorem dX10_placeIn_22 : decode cX10_placeIn 22 = .ok (.aload_n 0, 1) := by decide +kernel
theorem dX10_placeIn_23 : decode cX10_placeIn 23 = .ok (.getfield 34, 3) := by decide +kernel
theorem dX10_placeIn_26 : decode cX10_placeIn 26 = .ok (.iload_n 2, 1) := by decide +kernel
theorem dX10_placeIn_27 : decode cX10_placeIn 27 = .ok (.invokevirtual 210, 3) := by decide +kernel
theorem dX10_placeIn_30 : decode cX10_placeIn 30 = .ok (.getfield 109, 3) := by decide +kernel
theorem dX10_placeIn_33 : decode cX10_placeIn 33 = .ok (.iload_n 1, 1) := by decide +kernel
theorem dX10_placeIn_34 : decode cX10_placeIn 34 = .ok (.iaload, 1) := by decide +kernel
theorem dX10_placeIn_35 : decode cX10_placeIn 35 = .ok (.ireturn, 1) := by decide +kernel
theorem dX10_snappedIn_0 : decode cX10_snappedIn 0 = .ok (.iload_n 1, 1) := by decide +kernel
theorem dX10_snappedIn_1 : decode cX10_snappedIn 1 = .ok (.bipush 60, 2) := by decide +kernel
theorem dX10_snappedIn_3 : decode cX10_snappedIn 3 = .ok (.invokestatic 154, 3) := by decide +kernel
theorem dX10_snappedIn_6 : decode cX10_snappedIn 6 = .ok (.ifCond .eq 17, 3) := by decide +kernel
theorem dX10_snappedIn_9 : decode cX10_snappedIn 9 = .ok (.aload_n 0, 1) := by decide +kernel
theorem dX10_snappedIn_10 : decode cX10_snappedIn 10 = .ok (.getfield 34, 3) := by decide +kernel
theorem dX10_snappedIn_13 : decode cX10_snappedIn 13 = .ok (.iload_n 1, 1) := by decide +kernel
theorem dX10_snappedIn_14 : decode cX10_snappedIn 14 = .ok (.invokevirtual 210, 3) := by decide +kernel
theorem dX10_snappedIn_17 : decode cX10_snappedIn 17 = .ok (.getfield 201, 3) := by decide +kernel
theorem dX10_snappedIn_20 : decode cX10_snappedIn 20 = .ok (.goto 4, 3) := by decide +kernel
theorem dX10_snappedIn_23 : decode cX10_snappedIn 23 = .ok (.iconst (-1), 1) := by decide +kernel
theorem dX10_snappedIn_24 : decode cX10_snappedIn 24 = .ok (.ireturn, 1) := by decide +kernel
theorem dX10_still_0 : decode cX10_still 0 = .ok (.aload_n 0, 1) := by decide +kernel
theorem dX10_still_1 : decode cX10_still 1 = .ok (.getfield 34, 3) := by decide +kernel
theorem dX10_still_4 : decode cX10_still 4 = .ok (.invokevirtual 214, 3) := by decide +kernel
theorem dX10_still_7 : decode cX10_still 7 = .ok (.ireturn, 1) := by decide +kernel
theorem dX10_firstSnap_0 : decode cX10_firstSnap 0 = .ok (.iload_n 1, 1) := by decide +kernel
theorem dX10_firstSnap_1 : decode cX10_firstSnap 1 = .ok (.iconst 1, 1) := by decide +kernel
theorem dX10_firstSnap_2 : decode cX10_firstSnap 2 = .ok (.invokestatic 154, 3) := by decide +kernel
theorem dX10_firstSnap_5 : decode cX10_firstSnap 5 = .ok (.ifCond .eq 22, 3) := by decide +kernel
theorem dX10_firstSnap_8 : decode cX10_firstSnap 8 = .ok (.aload_n 0, 1) := by decide +kernel
theorem dX10_firstSnap_9 : decode cX10_firstSnap 9 = .ok (.getfield 34, 3) := by decide +kernel
theorem dX10_firstSnap_12 : decode cX10_firstSnap 12 = .ok (.iload_n 1, 1) := by decide +kernel
theorem dX10_firstSnap_13 : decode cX10_firstSnap 13 = .ok (.ifCond .ne 7, 3) := by decide +kernel
theorem dX10_firstSnap_16 : decode cX10_firstSnap 16 = .ok (.iconst 1, 1) := by decide +kernel
theorem dX10_firstSnap_17 : decode cX10_firstSnap 17 = .ok (.goto 4, 3) := by decide +kernel
theorem dX10_firstSnap_20 : decode cX10_firstSnap 20 = .ok (.iconst 0, 1) := by decide +kernel
theorem dX10_firstSnap_21 : decode cX10_firstSnap 21 = .ok (.invokevirtual 217, 3) := by decide +kernel
theorem dX10_firstSnap_24 : decode cX10_firstSnap 24 = .ok (.goto 4, 3) := by decide +kernel
theorem dX10_firstSnap_27 : decode cX10_firstSnap 27 = .ok (.iconst (-1), 1) := by decide +kernel
theorem dX10_firstSnap_28 : decode cX10_firstSnap 28 = .ok (.ireturn, 1) := by decide +kernel
theorem dX10_christmas_0 : decode cX10_christmas 0 = .ok (.iload_n 1, 1) := by decide +kernel
theorem dX10_christmas_1 : decode cX10_christmas 1 = .ok (.tableswitch 58 0 2 #[27, 35, 50], 27) := by decide +kernel
theorem dX10_christmas_28 : decode cX10_christmas 28 = .ok (.aload_n 0, 1) := by decide +kernel
theorem dX10_christmas_29 : decode cX10_christmas 29 = .ok (.getfield 27, 3) := by decide +kernel
theorem dX10_christmas_32 : decode cX10_christmas 32 = .ok (.invokevirtual 221, 3) := by decide +kernel
theorem dX10_christmas_35 : decode cX10_christmas 35 = .ok (.ireturn, 1) := by decide +kernel
theorem dX10_christmas_36 : decode cX10_christmas 36 = .ok (.aload_n 0, 1) := by decide +kernel
theorem dX10_christmas_37 : decode cX10_christmas 37 = .ok (.getfield 27, 3) := by decide +kernel
theorem dX10_christmas_40 : decode cX10_christmas 40 = .ok (.aload_n 0, 1) := by decide +kernel
theorem dX10_christmas_41 : decode cX10_christmas 41 = .ok (.getfield 27, 3) := by decide +kernel
theorem dX10_christmas_44 : decode cX10_christmas 44 = .ok (.invokevirtual 221, 3) := by decide +kernel
theorem dX10_christmas_47 : decode cX10_christmas 47 = .ok (.invokevirtual 224, 3) := by decide +kernel
theorem dX10_christmas_50 : decode cX10_christmas 50 = .ok (.ireturn, 1) := by decide +kernel
theorem dX10_christmas_51 : decode cX10_christmas 51 = .ok (.aload_n 0, 1) := by decide +kernel
theorem dX10_christmas_52 : decode cX10_christmas 52 = .ok (.getfield 27, 3) := by decide +kernel
theorem dX10_christmas_55 : decode cX10_christmas 55 = .ok (.invokevirtual 227, 3) := by decide +kernel
theorem dX10_christmas_58 : decode cX10_christmas 58 = .ok (.ireturn, 1) := by decide +kernel
theorem dX10_christmas_59 : decode cX10_christmas 59 = .ok (.iconst (-1), 1) := by decide +kernel
theorem dX10_christmas_60 : decode cX10_christmas 60 = .ok (.ireturn, 1) := by decide +kernel
theorem dX10_order_0 : decode cX10_order 0 = .ok (.iload_n 1, 1) := by decide +kernel
theorem dX10_order_1 : decode cX10_order 1 = .ok (.iconst (-1), 1) := by decide +kernel
theorem dX10_order_2 : decode cX10_order 2 = .ok (.if_icmp .lt 14, 3) := by decide +kernel
theorem dX10_order_5 : decode cX10_order 5 = .ok (.iload_n 1, 1) := by decide +kernel
theorem dX10_order_6 : decode cX10_order 6 = .ok (.aload_n 0, 1) := by decide +kernel
theorem dX10_order_7 : decode cX10_order 7 = .ok (.getfield 10, 3) := by decide +kernel
theorem dX10_order_10 : decode cX10_order 10 = .ok (.getfield 158, 3) := by decide +kernel
theorem dX10_order_13 : decode cX10_order 13 = .ok (.if_icmp .lt 5, 3) := by decide +kernel
theorem dX10_order_16 : decode cX10_order 16 = .ok (.iconst (-1), 1) := by decide +kernel
theorem dX10_order_17 : decode cX10_order 17 = .ok (.ireturn, 1) := by decide +kernel
theorem dX10_order_18 : decode cX10_order 18 = .ok (.aload_n 0, 1) := by decide +kernel
theorem dX10_order_19 : decode cX10_order 19 = .ok (.getfield 27, 3) := by decide +kernel
theorem dX10_order_22 : decode cX10_order 22 = .ok (.invokevirtual 230, 3) := by decide +kernel
theorem dX10_order_25 : decode cX10_order 25 = .ok (.iload_n 1, 1) := by decide +kernel
theorem dX10_order_26 : decode cX10_order 26 = .ok (.ifCond .ge 13, 3) := by decide +kernel
theorem dX10_order_29 : decode cX10_order 29 = .ok (.aload_n 0, 1) := by decide +kernel
theorem dX10_order_30 : decode cX10_order 30 = .ok (.getfield 27, 3) := by decide +kernel
theorem dX10_order_33 : decode cX10_order 33 = .ok (.invokevirtual 233, 3) := by decide +kernel
theorem dX10_order_36 : decode cX10_order 36 = .ok (.goto 11, 3) := by decide +kernel
theorem dX10_order_39 : decode cX10_order 39 = .ok (.aload_n 0, 1) := by decide +kernel
theorem dX10_order_40 : decode cX10_order 40 = .ok (.getfield 27, 3) := by decide +kernel
theorem dX10_order_43 : decode cX10_order 43 = .ok (.iload_n 1, 1) := by decide +kernel
theorem dX10_order_44 : decode cX10_order 44 = .ok (.invokevirtual 236, 3) := by decide +kernel
theorem dX10_order_47 : decode cX10_order 47 = .ok (.ireturn, 1) := by decide +kernel
theorem dX10_letGo_0 : decode cX10_letGo 0 = .ok (.aload_n 0, 1) := by decide +kernel
theorem dX10_letGo_1 : decode cX10_letGo 1 = .ok (.getfield 10, 3) := by decide +kernel
theorem dX10_letGo_4 : decode cX10_letGo 4 = .ok (.iload_n 1, 1) := by decide +kernel
theorem dX10_letGo_5 : decode cX10_letGo 5 = .ok (.invokevirtual 105, 3) := by decide +kernel
theorem dX10_letGo_8 : decode cX10_letGo 8 = .ok (.ifCond .eq 12, 3) := by decide +kernel
theorem dX10_letGo_11 : decode cX10_letGo 11 = .ok (.iload_n 2, 1) := by decide +kernel
theorem dX10_letGo_12 : decode cX10_letGo 12 = .ok (.bipush 30, 2) := by decide +kernel
theorem dX10_letGo_14 : decode cX10_letGo 14 = .ok (.invokestatic 154, 3) := by decide +kernel
theorem dX10_letGo_17 : decode cX10_letGo 17 = .ok (.ifCond .ne 5, 3) := by decide +kernel
theorem dX10_letGo_20 : decode cX10_letGo 20 = .ok (.iconst (-1), 1) := by decide +kernel
theorem dX10_letGo_21 : decode cX10_letGo 21 = .ok (.ireturn, 1) := by decide +kernel
theorem dX10_letGo_22 : decode cX10_letGo 22 = .ok (.aload_n 0, 1) := by decide +kernel
theorem dX10_letGo_23 : decode cX10_letGo 23 = .ok (.getfield 27, 3) := by decide +kernel
theorem dX10_letGo_26 : decode cX10_letGo 26 = .ok (.iload_n 1, 1) := by decide +kernel
theorem dX10_letGo_27 : decode cX10_letGo 27 = .ok (.iload_n 2, 1) := by decide +kernel
theorem dX10_letGo_28 : decode cX10_letGo 28 = .ok (.invokevirtual 239, 3) := by decide +kernel
theorem dX10_letGo_31 : decode cX10_letGo 31 = .ok (.ireturn, 1) := by decide +kernel
theorem dX10_crossing_0 : decode cX10_crossing 0 = .ok (.iload_n 1, 1) := by decide +kernel
theorem dX10_crossing_1 : decode cX10_crossing 1 = .ok (.lookupswitch 43 #[(0, 27), (1, 35)], 27) := by decide +kernel
theorem dX10_crossing_28 : decode cX10_crossing 28 = .ok (.aload_n 0, 1) := by decide +kernel
theorem dX10_crossing_29 : decode cX10_crossing 29 = .ok (.getfield 43, 3) := by decide +kernel
theorem dX10_crossing_32 : decode cX10_crossing 32 = .ok (.invokevirtual 242, 3) := by decide +kernel
theorem dX10_crossing_35 : decode cX10_crossing 35 = .ok (.ireturn, 1) := by decide +kernel
theorem dX10_crossing_36 : decode cX10_crossing 36 = .ok (.aload_n 0, 1) := by decide +kernel
theorem dX10_crossing_37 : decode cX10_crossing 37 = .ok (.getfield 43, 3) := by decide +kernel
theorem dX10_crossing_40 : decode cX10_crossing 40 = .ok (.invokevirtual 245, 3) := by decide +kernel
theorem dX10_crossing_43 : decode cX10_crossing 43 = .ok (.ireturn, 1) := by decide +kernel
theorem dX10_crossing_44 : decode cX10_crossing 44 = .ok (.iconst (-1), 1) := by decide +kernel
theorem dX10_crossing_45 : decode cX10_crossing 45 = .ok (.ireturn, 1) := by decide +kernel
theorem dX10_untangle_0 : decode cX10_untangle 0 = .ok (.aload_n 0, 1) := by decide +kernel
theorem dX10_untangle_1 : decode cX10_untangle 1 = .ok (.getfield 43, 3) := by decide +kernel
theorem dX10_untangle_4 : decode cX10_untangle 4 = .ok (.invokevirtual 248, 3) := by decide +kernel
theorem dX10_untangle_7 : decode cX10_untangle 7 = .ok (.ireturn, 1) := by decide +kernel
theorem dX10_clans_0 : decode cX10_clans 0 = .ok (.iload_n 1, 1) := by decide +kernel
theorem dX10_clans_1 : decode cX10_clans 1 = .ok (.lookupswitch 43 #[(0, 27), (1, 35)], 27) := by decide +kernel
theorem dX10_clans_28 : decode cX10_clans 28 = .ok (.aload_n 0, 1) := by decide +kernel
theorem dX10_clans_29 : decode cX10_clans 29 = .ok (.getfield 50, 3) := by decide +kernel
theorem dX10_clans_32 : decode cX10_clans 32 = .ok (.invokevirtual 251, 3) := by decide +kernel
theorem dX10_clans_35 : decode cX10_clans 35 = .ok (.ireturn, 1) := by decide +kernel
theorem dX10_clans_36 : decode cX10_clans 36 = .ok (.aload_n 0, 1) := by decide +kernel
theorem dX10_clans_37 : decode cX10_clans 37 = .ok (.getfield 50, 3) := by decide +kernel
theorem dX10_clans_40 : decode cX10_clans 40 = .ok (.invokevirtual 252, 3) := by decide +kernel
theorem dX10_clans_43 : decode cX10_clans 43 = .ok (.ireturn, 1) := by decide +kernel
theorem dX10_clans_44 : decode cX10_clans 44 = .ok (.iconst (-1), 1) := by decide +kernel
theorem dX10_clans_45 : decode cX10_clans 45 = .ok (.ireturn, 1) := by decide +kernel
theorem dX10_cousins_0 : decode cX10_cousins 0 = .ok (.aload_n 0, 1) := by decide +kernel
theorem dX10_cousins_1 : decode cX10_cousins 1 = .ok (.getfield 10, 3) := by decide +kernel
theorem dX10_cousins_4 : decode cX10_cousins 4 = .ok (.iload_n 1, 1) := by decide +kernel
theorem dX10_cousins_5 : decode cX10_cousins 5 = .ok (.iload_n 2, 1) := by decide +kernel
theorem dX10_cousins_6 : decode cX10_cousins 6 = .ok (.invokevirtual 167, 3) := by decide +kernel
theorem dX10_cousins_9 : decode cX10_cousins 9 = .ok (.ifCond .eq 15, 3) := by decide +kernel
theorem dX10_cousins_12 : decode cX10_cousins 12 = .ok (.aload_n 0, 1) := by decide +kernel
theorem dX10_cousins_13 : decode cX10_cousins 13 = .ok (.getfield 50, 3) := by decide +kernel
theorem dX10_cousins_16 : decode cX10_cousins 16 = .ok (.iload_n 1, 1) := by decide +kernel
theorem dX10_cousins_17 : decode cX10_cousins 17 = .ok (.iload_n 2, 1) := by decide +kernel
theorem dX10_cousins_18 : decode cX10_cousins 18 = .ok (.invokevirtual 255, 3) := by decide +kernel
theorem dX10_cousins_21 : decode cX10_cousins 21 = .ok (.goto 4, 3) := by decide +kernel
theorem dX10_cousins_24 : decode cX10_cousins 24 = .ok (.iconst (-1), 1) := by decide +kernel
theorem dX10_cousins_25 : decode cX10_cousins 25 = .ok (.ireturn, 1) := by decide +kernel
theorem dX10_bridges_0 : decode cX10_bridges 0 = .ok (.aload_n 0, 1) := by decide +kernel
theorem dX10_bridges_1 : decode cX10_bridges 1 = .ok (.getfield 50, 3) := by decide +kernel
theorem dX10_bridges_4 : decode cX10_bridges 4 = .ok (.invokevirtual 258, 3) := by decide +kernel
theorem dX10_bridges_7 : decode cX10_bridges 7 = .ok (.ireturn, 1) := by decide +kernel
theorem dX10_renew_0 : decode cX10_renew 0 = .ok (.iload_n 1, 1) := by decide +kernel
theorem dX10_renew_1 : decode cX10_renew 1 = .ok (.iconst 4, 1) := by decide +kernel
theorem dX10_renew_2 : decode cX10_renew 2 = .ok (.invokestatic 154, 3) := by decide +kernel
theorem dX10_renew_5 : decode cX10_renew 5 = .ok (.ifCond .eq 11, 3) := by decide +kernel
theorem dX10_renew_8 : decode cX10_renew 8 = .ok (.iload_n 2, 1) := by decide +kernel
theorem dX10_renew_9 : decode cX10_renew 9 = .ok (.iconst 1, 1) := by decide +kernel
theorem dX10_renew_10 : decode cX10_renew 10 = .ok (.invokestatic 154, 3) := by decide +kernel
theorem dX10_renew_13 : decode cX10_renew 13 = .ok (.ifCond .ne 5, 3) := by decide +kernel
theorem dX10_renew_16 : decode cX10_renew 16 = .ok (.iconst (-1), 1) := by decide +kernel
theorem dX10_renew_17 : decode cX10_renew 17 = .ok (.ireturn, 1) := by decide +kernel
theorem dX10_renew_18 : decode cX10_renew 18 = .ok (.aload_n 0, 1) := by decide +kernel
theorem dX10_renew_19 : decode cX10_renew 19 = .ok (.getfield 57, 3) := by decide +kernel
theorem dX10_renew_22 : decode cX10_renew 22 = .ok (.iload_n 1, 1) := by decide +kernel
theorem dX10_renew_23 : decode cX10_renew 23 = .ok (.invokevirtual 261, 3) := by decide +kernel
theorem dX10_renew_26 : decode cX10_renew 26 = .ok (.istore_n 3, 1) := by decide +kernel
theorem dX10_renew_27 : decode cX10_renew 27 = .ok (.iload_n 2, 1) := by decide +kernel
theorem dX10_renew_28 : decode cX10_renew 28 = .ok (.ifCond .ne 7, 3) := by decide +kernel
theorem dX10_renew_31 : decode cX10_renew 31 = .ok (.iload_n 3, 1) := by decide +kernel
theorem dX10_renew_32 : decode cX10_renew 32 = .ok (.goto 11, 3) := by decide +kernel
theorem dX10_renew_35 : decode cX10_renew 35 = .ok (.aload_n 0, 1) := by decide +kernel
theorem dX10_renew_36 : decode cX10_renew 36 = .ok (.getfield 57, 3) := by decide +kernel
theorem dX10_renew_39 : decode cX10_renew 39 = .ok (.iload_n 3, 1) := by decide +kernel
theorem dX10_renew_40 : decode cX10_renew 40 = .ok (.invokevirtual 264, 3) := by decide +kernel
theorem dX10_renew_43 : decode cX10_renew 43 = .ok (.ireturn, 1) := by decide +kernel
theorem dX10_frost_0 : decode cX10_frost 0 = .ok (.iload_n 1, 1) := by decide +kernel
theorem dX10_frost_1 : decode cX10_frost 1 = .ok (.iconst 1, 1) := by decide +kernel
theorem dX10_frost_2 : decode cX10_frost 2 = .ok (.invokestatic 154, 3) := by decide +kernel
theorem dX10_frost_5 : decode cX10_frost 5 = .ok (.ifCond .eq 22, 3) := by decide +kernel
theorem dX10_frost_8 : decode cX10_frost 8 = .ok (.aload_n 0, 1) := by decide +kernel
theorem dX10_frost_9 : decode cX10_frost 9 = .ok (.getfield 57, 3) := by decide +kernel
theorem dX10_frost_12 : decode cX10_frost 12 = .ok (.iload_n 1, 1) := by decide +kernel
theorem dX10_frost_13 : decode cX10_frost 13 = .ok (.ifCond .ne 7, 3) := by decide +kernel
theorem dX10_frost_16 : decode cX10_frost 16 = .ok (.iconst 1, 1) := by decide +kernel
theorem dX10_frost_17 : decode cX10_frost 17 = .ok (.goto 4, 3) := by decide +kernel
theorem dX10_frost_20 : decode cX10_frost 20 = .ok (.iconst 0, 1) := by decide +kernel
theorem dX10_frost_21 : decode cX10_frost 21 = .ok (.invokevirtual 267, 3) := by decide +kernel
theorem dX10_frost_24 : decode cX10_frost 24 = .ok (.goto 4, 3) := by decide +kernel
theorem dX10_frost_27 : decode cX10_frost 27 = .ok (.iconst (-1), 1) := by decide +kernel
theorem dX10_frost_28 : decode cX10_frost 28 = .ok (.ireturn, 1) := by decide +kernel
theorem dX10_lurch_0 : decode cX10_lurch 0 = .ok (.iload_n 1, 1) := by decide +kernel
theorem dX10_lurch_1 : decode cX10_lurch 1 = .ok (.invokestatic 164, 3) := by decide +kernel
theorem dX10_lurch_4 : decode cX10_lurch 4 = .ok (.ifCond .eq 11, 3) := by decide +kernel
theorem dX10_lurch_7 : decode cX10_lurch 7 = .ok (.iload_n 2, 1) := by decide +kernel
theorem dX10_lurch_8 : decode cX10_lurch 8 = .ok (.iconst 1, 1) := by decide +kernel
theorem dX10_lurch_9 : decode cX10_lurch 9 = .ok (.invokestatic 154, 3) := by decide +kernel
theorem dX10_lurch_12 : decode cX10_lurch 12 = .ok (.ifCond .ne 5, 3) := by decide +kernel
theorem dX10_lurch_15 : decode cX10_lurch 15 = .ok (.iconst (-1), 1) := by decide +kernel
theorem dX10_lurch_16 : decode cX10_lurch 16 = .ok (.ireturn, 1) := by decide +kernel
theorem dX10_lurch_17 : decode cX10_lurch 17 = .ok (.aload_n 0, 1) := by decide +kernel
theorem dX10_lurch_18 : decode cX10_lurch 18 = .ok (.iload_n 1, 1) := by decide +kernel
theorem dX10_lurch_19 : decode cX10_lurch 19 = .ok (.invokevirtual 75, 3) := by decide +kernel
theorem dX10_lurch_22 : decode cX10_lurch 22 = .ok (.istore_n 3, 1) := by decide +kernel
theorem dX10_lurch_23 : decode cX10_lurch 23 = .ok (.iload_n 3, 1) := by decide +kernel
theorem dX10_lurch_24 : decode cX10_lurch 24 = .ok (.ifCond .eq 5, 3) := by decide +kernel
theorem dX10_lurch_27 : decode cX10_lurch 27 = .ok (.iload_n 3, 1) := by decide +kernel
theorem dX10_lurch_28 : decode cX10_lurch 28 = .ok (.ireturn, 1) := by decide +kernel
theorem dX10_lurch_29 : decode cX10_lurch 29 = .ok (.aload_n 0, 1) := by decide +kernel
theorem dX10_lurch_30 : decode cX10_lurch 30 = .ok (.getfield 70, 3) := by decide +kernel
theorem dX10_lurch_33 : decode cX10_lurch 33 = .ok (.iload_n 1, 1) := by decide +kernel
theorem dX10_lurch_34 : decode cX10_lurch 34 = .ok (.aaload, 1) := by decide +kernel
theorem dX10_lurch_35 : decode cX10_lurch 35 = .ok (.getfield 92, 3) := by decide +kernel
theorem dX10_lurch_38 : decode cX10_lurch 38 = .ok (.aload_n 0, 1) := by decide +kernel
theorem dX10_lurch_39 : decode cX10_lurch 39 = .ok (.getfield 10, 3) := by decide +kernel
theorem dX10_lurch_42 : decode cX10_lurch 42 = .ok (.getfield 158, 3) := by decide +kernel
theorem dX10_lurch_45 : decode cX10_lurch 45 = .ok (.if_icmp .le 6, 3) := by decide +kernel
theorem dX10_lurch_48 : decode cX10_lurch 48 = .ok (.bipush (-13), 2) := by decide +kernel
theorem dX10_lurch_50 : decode cX10_lurch 50 = .ok (.ireturn, 1) := by decide +kernel
theorem dX10_lurch_51 : decode cX10_lurch 51 = .ok (.aload_n 0, 1) := by decide +kernel
theorem dX10_lurch_52 : decode cX10_lurch 52 = .ok (.getfield 57, 3) := by decide +kernel
theorem dX10_lurch_55 : decode cX10_lurch 55 = .ok (.aload_n 0, 1) := by decide +kernel
theorem dX10_lurch_56 : decode cX10_lurch 56 = .ok (.getfield 70, 3) := by decide +kernel
theorem dX10_lurch_59 : decode cX10_lurch 59 = .ok (.iload_n 1, 1) := by decide +kernel
theorem dX10_lurch_60 : decode cX10_lurch 60 = .ok (.aaload, 1) := by decide +kernel
theorem dX10_lurch_61 : decode cX10_lurch 61 = .ok (.invokevirtual 270, 3) := by decide +kernel
theorem dX10_lurch_64 : decode cX10_lurch 64 = .ok (.istore 4, 2) := by decide +kernel
theorem dX10_lurch_66 : decode cX10_lurch 66 = .ok (.iload_n 2, 1) := by decide +kernel
theorem dX10_lurch_67 : decode cX10_lurch 67 = .ok (.ifCond .ne 8, 3) := by decide +kernel
theorem dX10_lurch_70 : decode cX10_lurch 70 = .ok (.iload 4, 2) := by decide +kernel
theorem dX10_lurch_72 : decode cX10_lurch 72 = .ok (.goto 8, 3) := by decide +kernel
theorem dX10_lurch_75 : decode cX10_lurch 75 = .ok (.iload 4, 2) := by decide +kernel
theorem dX10_lurch_77 : decode cX10_lurch 77 = .ok (.invokestatic 273, 3) := by decide +kernel
theorem dX10_lurch_80 : decode cX10_lurch 80 = .ok (.ireturn, 1) := by decide +kernel
theorem dX10_gauges_0 : decode cX10_gauges 0 = .ok (.iload_n 1, 1) := by decide +kernel
theorem dX10_gauges_1 : decode cX10_gauges 1 = .ok (.invokestatic 164, 3) := by decide +kernel
theorem dX10_gauges_4 : decode cX10_gauges 4 = .ok (.ifCond .eq 20, 3) := by decide +kernel
theorem dX10_gauges_7 : decode cX10_gauges 7 = .ok (.iload_n 2, 1) := by decide +kernel
theorem dX10_gauges_8 : decode cX10_gauges 8 = .ok (.bipush 9, 2) := by decide +kernel
theorem dX10_gauges_10 : decode cX10_gauges 10 = .ok (.invokestatic 154, 3) := by decide +kernel
theorem dX10_gauges_13 : decode cX10_gauges 13 = .ok (.ifCond .eq 11, 3) := by decide +kernel
theorem dX10_gauges_16 : decode cX10_gauges 16 = .ok (.iload_n 3, 1) := by decide +kernel
theorem dX10_gauges_17 : decode cX10_gauges 17 = .ok (.iconst 1, 1) := by decide +kernel
theorem dX10_gauges_18 : decode cX10_gauges 18 = .ok (.invokestatic 154, 3) := by decide +kernel
theorem dX10_gauges_21 : decode cX10_gauges 21 = .ok (.ifCond .ne 5, 3) := by decide +kernel
theorem dX10_gauges_24 : decode cX10_gauges 24 = .ok (.iconst (-1), 1) := by decide +kernel
theorem dX10_gauges_25 : decode cX10_gauges 25 = .ok (.ireturn, 1) := by decide +kernel
theorem dX10_gauges_26 : decode cX10_gauges 26 = .ok (.aload_n 0, 1) := by decide +kernel
theorem dX10_gauges_27 : decode cX10_gauges 27 = .ok (.iload_n 1, 1) := by decide +kernel
theorem dX10_gauges_28 : decode cX10_gauges 28 = .ok (.invokevirtual 75, 3) := by decide +kernel
theorem dX10_gauges_31 : decode cX10_gauges 31 = .ok (.istore 4, 2) := by decide +kernel
theorem dX10_gauges_33 : decode cX10_gauges 33 = .ok (.iload 4, 2) := by decide +kernel
theorem dX10_gauges_35 : decode cX10_gauges 35 = .ok (.ifCond .eq 6, 3) := by decide +kernel
theorem dX10_gauges_38 : decode cX10_gauges 38 = .ok (.iload 4, 2) := by decide +kernel
theorem dX10_gauges_40 : decode cX10_gauges 40 = .ok (.ireturn, 1) := by decide +kernel
theorem dX10_gauges_41 : decode cX10_gauges 41 = .ok (.aload_n 0, 1) := by decide +kernel
theorem dX10_gauges_42 : decode cX10_gauges 42 = .ok (.getfield 57, 3) := by decide +kernel
theorem dX10_gauges_45 : decode cX10_gauges 45 = .ok (.aload_n 0, 1) := by decide +kernel
theorem dX10_gauges_46 : decode cX10_gauges 46 = .ok (.getfield 70, 3) := by decide +kernel
theorem dX10_gauges_49 : decode cX10_gauges 49 = .ok (.iload_n 1, 1) := by decide +kernel
theorem dX10_gauges_50 : decode cX10_gauges 50 = .ok (.aaload, 1) := by decide +kernel
theorem dX10_gauges_51 : decode cX10_gauges 51 = .ok (.iload_n 2, 1) := by decide +kernel
theorem dX10_gauges_52 : decode cX10_gauges 52 = .ok (.invokevirtual 278, 3) := by decide +kernel
theorem dX10_gauges_55 : decode cX10_gauges 55 = .ok (.istore 5, 2) := by decide +kernel
theorem dX10_gauges_57 : decode cX10_gauges 57 = .ok (.iload_n 3, 1) := by decide +kernel
theorem dX10_gauges_58 : decode cX10_gauges 58 = .ok (.ifCond .ne 8, 3) := by decide +kernel
theorem dX10_gauges_61 : decode cX10_gauges 61 = .ok (.iload 5, 2) := by decide +kernel
theorem dX10_gauges_63 : decode cX10_gauges 63 = .ok (.goto 8, 3) := by decide +kernel
theorem dX10_gauges_66 : decode cX10_gauges 66 = .ok (.iload 5, 2) := by decide +kernel
theorem dX10_gauges_68 : decode cX10_gauges 68 = .ok (.invokestatic 273, 3) := by decide +kernel
theorem dX10_gauges_71 : decode cX10_gauges 71 = .ok (.ireturn, 1) := by decide +kernel
theorem dX10_two_0 : decode cX10_two 0 = .ok (.aload_n 0, 1) := by decide +kernel
theorem dX10_two_1 : decode cX10_two 1 = .ok (.getfield 10, 3) := by decide +kernel
theorem dX10_two_4 : decode cX10_two 4 = .ok (.iload_n 1, 1) := by decide +kernel
theorem dX10_two_5 : decode cX10_two 5 = .ok (.iload_n 2, 1) := by decide +kernel
theorem dX10_two_6 : decode cX10_two 6 = .ok (.invokevirtual 167, 3) := by decide +kernel
theorem dX10_two_9 : decode cX10_two 9 = .ok (.ifCond .ne 5, 3) := by decide +kernel
theorem dX10_two_12 : decode cX10_two 12 = .ok (.iconst (-1), 1) := by decide +kernel
theorem dX10_two_13 : decode cX10_two 13 = .ok (.ireturn, 1) := by decide +kernel
theorem dX10_two_14 : decode cX10_two 14 = .ok (.aload_n 0, 1) := by decide +kernel
theorem dX10_two_15 : decode cX10_two 15 = .ok (.getfield 10, 3) := by decide +kernel
theorem dX10_two_18 : decode cX10_two 18 = .ok (.getfield 109, 3) := by decide +kernel
theorem dX10_two_21 : decode cX10_two 21 = .ok (.iload_n 1, 1) := by decide +kernel
theorem dX10_two_22 : decode cX10_two 22 = .ok (.iaload, 1) := by decide +kernel
theorem dX10_two_23 : decode cX10_two 23 = .ok (.aload_n 0, 1) := by decide +kernel
theorem dX10_two_24 : decode cX10_two 24 = .ok (.getfield 10, 3) := by decide +kernel
theorem dX10_two_27 : decode cX10_two 27 = .ok (.getfield 109, 3) := by decide +kernel
theorem dX10_two_30 : decode cX10_two 30 = .ok (.iload_n 2, 1) := by decide +kernel
theorem dX10_two_31 : decode cX10_two 31 = .ok (.iaload, 1) := by decide +kernel
theorem dX10_two_32 : decode cX10_two 32 = .ok (.if_icmp .ne 6, 3) := by decide +kernel
theorem dX10_two_35 : decode cX10_two 35 = .ok (.bipush (-3), 2) := by decide +kernel
theorem dX10_two_37 : decode cX10_two 37 = .ok (.ireturn, 1) := by decide +kernel
theorem dX10_two_38 : decode cX10_two 38 = .ok (.aload_n 0, 1) := by decide +kernel
theorem dX10_two_39 : decode cX10_two 39 = .ok (.getfield 57, 3) := by decide +kernel
theorem dX10_two_42 : decode cX10_two 42 = .ok (.iload_n 1, 1) := by decide +kernel
theorem dX10_two_43 : decode cX10_two 43 = .ok (.iload_n 2, 1) := by decide +kernel
theorem dX10_two_44 : decode cX10_two 44 = .ok (.invokevirtual 282, 3) := by decide +kernel
theorem dX10_two_47 : decode cX10_two 47 = .ok (.ireturn, 1) := by decide +kernel
theorem dX10_night_0 : decode cX10_night 0 = .ok (.aload_n 0, 1) := by decide +kernel
theorem dX10_night_1 : decode cX10_night 1 = .ok (.getfield 10, 3) := by decide +kernel
theorem dX10_night_4 : decode cX10_night 4 = .ok (.iload_n 1, 1) := by decide +kernel
theorem dX10_night_5 : decode cX10_night 5 = .ok (.iload_n 2, 1) := by decide +kernel
theorem dX10_night_6 : decode cX10_night 6 = .ok (.invokevirtual 167, 3) := by decide +kernel
theorem dX10_night_9 : decode cX10_night 9 = .ok (.ifCond .eq 23, 3) := by decide +kernel
theorem dX10_night_12 : decode cX10_night 12 = .ok (.iload_n 3, 1) := by decide +kernel
theorem dX10_night_13 : decode cX10_night 13 = .ok (.iconst 2, 1) := by decide +kernel
theorem dX10_night_14 : decode cX10_night 14 = .ok (.if_icmp .lt 18, 3) := by decide +kernel
theorem dX10_night_17 : decode cX10_night 17 = .ok (.iload_n 3, 1) := by decide +kernel
theorem dX10_night_18 : decode cX10_night 18 = .ok (.bipush 20, 2) := by decide +kernel
theorem dX10_night_20 : decode cX10_night 20 = .ok (.if_icmp .gt 12, 3) := by decide +kernel
theorem dX10_night_23 : decode cX10_night 23 = .ok (.iload 4, 2) := by decide +kernel
theorem dX10_night_25 : decode cX10_night 25 = .ok (.iconst 1, 1) := by decide +kernel
theorem dX10_night_26 : decode cX10_night 26 = .ok (.invokestatic 154, 3) := by decide +kernel
theorem dX10_night_29 : decode cX10_night 29 = .ok (.ifCond .ne 7, 3) := by decide +kernel
theorem dX10_night_32 : decode cX10_night 32 = .ok (.ldc2_w 285, 3) := by decide +kernel
theorem dX10_night_35 : decode cX10_night 35 = .ok (.lreturn, 1) := by decide +kernel
theorem dX10_night_36 : decode cX10_night 36 = .ok (.aload_n 0, 1) := by decide +kernel
theorem dX10_night_37 : decode cX10_night 37 = .ok (.getfield 50, 3) := by decide +kernel
theorem dX10_night_40 : decode cX10_night 40 = .ok (.iload_n 1, 1) := by decide +kernel
theorem dX10_night_41 : decode cX10_night 41 = .ok (.iload_n 2, 1) := by decide +kernel
theorem dX10_night_42 : decode cX10_night 42 = .ok (.iload_n 3, 1) := by decide +kernel
theorem dX10_night_43 : decode cX10_night 43 = .ok (.invokevirtual 287, 3) := by decide +kernel
theorem dX10_night_46 : decode cX10_night 46 = .ok (.aload_n 0, 1) := by decide +kernel
theorem dX10_night_47 : decode cX10_night 47 = .ok (.getfield 50, 3) := by decide +kernel
theorem dX10_night_50 : decode cX10_night 50 = .ok (.iload_n 3, 1) := by decide +kernel
theorem dX10_night_51 : decode cX10_night 51 = .ok (.invokevirtual 291, 3) := by decide +kernel
theorem dX10_night_54 : decode cX10_night 54 = .ok (.iload 4, 2) := by decide +kernel
theorem dX10_night_56 : decode cX10_night 56 = .ok (.invokestatic 295, 3) := by decide +kernel
theorem dX10_night_59 : decode cX10_night 59 = .ok (.lreturn, 1) := by decide +kernel
theorem dX10_mean_0 : decode cX10_mean 0 = .ok (.iload_n 1, 1) := by decide +kernel
theorem dX10_mean_1 : decode cX10_mean 1 = .ok (.iconst 1, 1) := by decide +kernel
theorem dX10_mean_2 : decode cX10_mean 2 = .ok (.invokestatic 154, 3) := by decide +kernel
theorem dX10_mean_5 : decode cX10_mean 5 = .ok (.ifCond .ne 7, 3) := by decide +kernel
theorem dX10_mean_8 : decode cX10_mean 8 = .ok (.ldc2_w 285, 3) := by decide +kernel
theorem dX10_mean_11 : decode cX10_mean 11 = .ok (.lreturn, 1) := by decide +kernel
theorem dX10_mean_12 : decode cX10_mean 12 = .ok (.aload_n 0, 1) := by decide +kernel
theorem dX10_mean_13 : decode cX10_mean 13 = .ok (.getfield 10, 3) := by decide +kernel
theorem dX10_mean_16 : decode cX10_mean 16 = .ok (.getfield 173, 3) := by decide +kernel
theorem dX10_mean_19 : decode cX10_mean 19 = .ok (.aload_n 0, 1) := by decide +kernel
theorem dX10_mean_20 : decode cX10_mean 20 = .ok (.getfield 10, 3) := by decide +kernel
theorem dX10_mean_23 : decode cX10_mean 23 = .ok (.invokevirtual 193, 3) := by decide +kernel
theorem dX10_mean_26 : decode cX10_mean 26 = .ok (.isub, 1) := by decide +kernel
theorem dX10_mean_27 : decode cX10_mean 27 = .ok (.istore_n 2, 1) := by decide +kernel
theorem dX10_mean_28 : decode cX10_mean 28 = .ok (.aload_n 0, 1) := by decide +kernel
theorem dX10_mean_29 : decode cX10_mean 29 = .ok (.getfield 10, 3) := by decide +kernel
theorem dX10_mean_32 : decode cX10_mean 32 = .ok (.invokevirtual 299, 3) := by decide +kernel
theorem dX10_mean_35 : decode cX10_mean 35 = .ok (.i2l, 1) := by decide +kernel
theorem dX10_mean_36 : decode cX10_mean 36 = .ok (.iload_n 2, 1) := by decide +kernel
theorem dX10_mean_37 : decode cX10_mean 37 = .ok (.iconst 1, 1) := by decide +kernel
theorem dX10_mean_38 : decode cX10_mean 38 = .ok (.if_icmp .ge 7, 3) := by decide +kernel
theorem dX10_mean_41 : decode cX10_mean 41 = .ok (.lconst 1, 1) := by decide +kernel
theorem dX10_mean_42 : decode cX10_mean 42 = .ok (.goto 5, 3) := by decide +kernel
theorem dX10_mean_45 : decode cX10_mean 45 = .ok (.iload_n 2, 1) := by decide +kernel
theorem dX10_mean_46 : decode cX10_mean 46 = .ok (.i2l, 1) := by decide +kernel
theorem dX10_mean_47 : decode cX10_mean 47 = .ok (.iload_n 1, 1) := by decide +kernel
theorem dX10_mean_48 : decode cX10_mean 48 = .ok (.invokestatic 295, 3) := by decide +kernel
theorem dX10_mean_51 : decode cX10_mean 51 = .ok (.lreturn, 1) := by decide +kernel
theorem dX10_farthest_0 : decode cX10_farthest 0 = .ok (.iload_n 1, 1) := by decide +kernel
theorem dX10_farthest_1 : decode cX10_farthest 1 = .ok (.iconst 1, 1) := by decide +kernel
theorem dX10_farthest_2 : decode cX10_farthest 2 = .ok (.invokestatic 154, 3) := by decide +kernel
theorem dX10_farthest_5 : decode cX10_farthest 5 = .ok (.ifCond .eq 22, 3) := by decide +kernel
theorem dX10_farthest_8 : decode cX10_farthest 8 = .ok (.aload_n 0, 1) := by decide +kernel
theorem dX10_farthest_9 : decode cX10_farthest 9 = .ok (.getfield 27, 3) := by decide +kernel
theorem dX10_farthest_12 : decode cX10_farthest 12 = .ok (.iload_n 1, 1) := by decide +kernel
theorem dX10_farthest_13 : decode cX10_farthest 13 = .ok (.ifCond .ne 7, 3) := by decide +kernel
theorem dX10_farthest_16 : decode cX10_farthest 16 = .ok (.iconst 1, 1) := by decide +kernel
theorem dX10_farthest_17 : decode cX10_farthest 17 = .ok (.goto 4, 3) := by decide +kernel
theorem dX10_farthest_20 : decode cX10_farthest 20 = .ok (.iconst 0, 1) := by decide +kernel
theorem dX10_farthest_21 : decode cX10_farthest 21 = .ok (.invokevirtual 302, 3) := by decide +kernel
theorem dX10_farthest_24 : decode cX10_farthest 24 = .ok (.goto 4, 3) := by decide +kernel
theorem dX10_farthest_27 : decode cX10_farthest 27 = .ok (.iconst (-1), 1) := by decide +kernel
theorem dX10_farthest_28 : decode cX10_farthest 28 = .ok (.ireturn, 1) := by decide +kernel
theorem dX10_forged_0 : decode cX10_forged 0 = .ok (.aload_n 0, 1) := by decide +kernel
theorem dX10_forged_1 : decode cX10_forged 1 = .ok (.iload_n 1, 1) := by decide +kernel
theorem dX10_forged_2 : decode cX10_forged 2 = .ok (.invokevirtual 75, 3) := by decide +kernel
theorem dX10_forged_5 : decode cX10_forged 5 = .ok (.istore_n 2, 1) := by decide +kernel
theorem dX10_forged_6 : decode cX10_forged 6 = .ok (.iload_n 2, 1) := by decide +kernel
theorem dX10_forged_7 : decode cX10_forged 7 = .ok (.ifCond .eq 5, 3) := by decide +kernel
theorem dX10_forged_10 : decode cX10_forged 10 = .ok (.iload_n 2, 1) := by decide +kernel
theorem dX10_forged_11 : decode cX10_forged 11 = .ok (.ireturn, 1) := by decide +kernel
theorem dX10_forged_12 : decode cX10_forged 12 = .ok (.aload_n 0, 1) := by decide +kernel
theorem dX10_forged_13 : decode cX10_forged 13 = .ok (.getfield 64, 3) := by decide +kernel
theorem dX10_forged_16 : decode cX10_forged 16 = .ok (.aload_n 0, 1) := by decide +kernel
theorem dX10_forged_17 : decode cX10_forged 17 = .ok (.getfield 70, 3) := by decide +kernel
theorem dX10_forged_20 : decode cX10_forged 20 = .ok (.iload_n 1, 1) := by decide +kernel
theorem dX10_forged_21 : decode cX10_forged 21 = .ok (.aaload, 1) := by decide +kernel
theorem dX10_forged_22 : decode cX10_forged 22 = .ok (.invokevirtual 305, 3) := by decide +kernel
theorem dX10_forged_25 : decode cX10_forged 25 = .ok (.ifCond .eq 19, 3) := by decide +kernel
theorem dX10_forged_28 : decode cX10_forged 28 = .ok (.aload_n 0, 1) := by decide +kernel
theorem dX10_forged_29 : decode cX10_forged 29 = .ok (.getfield 64, 3) := by decide +kernel
theorem dX10_forged_32 : decode cX10_forged 32 = .ok (.aload_n 0, 1) := by decide +kernel
theorem dX10_forged_33 : decode cX10_forged 33 = .ok (.getfield 70, 3) := by decide +kernel
theorem dX10_forged_36 : decode cX10_forged 36 = .ok (.iload_n 1, 1) := by decide +kernel
theorem dX10_forged_37 : decode cX10_forged 37 = .ok (.aaload, 1) := by decide +kernel
theorem dX10_forged_38 : decode cX10_forged 38 = .ok (.invokevirtual 309, 3) := by decide +kernel
theorem dX10_forged_41 : decode cX10_forged 41 = .ok (.goto 5, 3) := by decide +kernel
theorem dX10_forged_44 : decode cX10_forged 44 = .ok (.bipush (-13), 2) := by decide +kernel
theorem dX10_forged_46 : decode cX10_forged 46 = .ok (.ireturn, 1) := by decide +kernel
theorem dX10_judge_0 : decode cX10_judge 0 = .ok (.aload_n 0, 1) := by decide +kernel
theorem dX10_judge_1 : decode cX10_judge 1 = .ok (.iload_n 1, 1) := by decide +kernel
theorem dX10_judge_2 : decode cX10_judge 2 = .ok (.invokevirtual 75, 3) := by decide +kernel
theorem dX10_judge_5 : decode cX10_judge 5 = .ok (.istore_n 2, 1) := by decide +kernel
theorem dX10_judge_6 : decode cX10_judge 6 = .ok (.iload_n 2, 1) := by decide +kernel
theorem dX10_judge_7 : decode cX10_judge 7 = .ok (.ifCond .eq 7, 3) := by decide +kernel
theorem dX10_judge_10 : decode cX10_judge 10 = .ok (.iload_n 2, 1) := by decide +kernel
theorem dX10_judge_11 : decode cX10_judge 11 = .ok (.goto 16, 3) := by decide +kernel
theorem dX10_judge_14 : decode cX10_judge 14 = .ok (.aload_n 0, 1) := by decide +kernel
theorem dX10_judge_15 : decode cX10_judge 15 = .ok (.getfield 34, 3) := by decide +kernel
theorem dX10_judge_18 : decode cX10_judge 18 = .ok (.aload_n 0, 1) := by decide +kernel
theorem dX10_judge_19 : decode cX10_judge 19 = .ok (.getfield 70, 3) := by decide +kernel
theorem dX10_judge_22 : decode cX10_judge 22 = .ok (.iload_n 1, 1) := by decide +kernel
theorem dX10_judge_23 : decode cX10_judge 23 = .ok (.aaload, 1) := by decide +kernel
theorem dX10_judge_24 : decode cX10_judge 24 = .ok (.invokevirtual 312, 3) := by decide +kernel
theorem dX10_judge_27 : decode cX10_judge 27 = .ok (.ireturn, 1) := by decide +kernel
theorem dX10_generations_0 : decode cX10_generations 0 = .ok (.iload_n 1, 1) := by decide +kernel
theorem dX10_generations_1 : decode cX10_generations 1 = .ok (.iconst 1, 1) := by decide +kernel
theorem dX10_generations_2 : decode cX10_generations 2 = .ok (.if_icmp .lt 17, 3) := by decide +kernel
theorem dX10_generations_5 : decode cX10_generations 5 = .ok (.iload_n 1, 1) := by decide +kernel
theorem dX10_generations_6 : decode cX10_generations 6 = .ok (.bipush 20, 2) := by decide +kernel
theorem dX10_generations_8 : decode cX10_generations 8 = .ok (.if_icmp .gt 11, 3) := by decide +kernel
theorem dX10_generations_11 : decode cX10_generations 11 = .ok (.iload_n 3, 1) := by decide +kernel
theorem dX10_generations_12 : decode cX10_generations 12 = .ok (.iconst 1, 1) := by decide +kernel
theorem dX10_generations_13 : decode cX10_generations 13 = .ok (.invokestatic 154, 3) := by decide +kernel
theorem dX10_generations_16 : decode cX10_generations 16 = .ok (.ifCond .ne 5, 3) := by decide +kernel
theorem dX10_generations_19 : decode cX10_generations 19 = .ok (.iconst (-1), 1) := by decide +kernel
theorem dX10_generations_20 : decode cX10_generations 20 = .ok (.ireturn, 1) := by decide +kernel
theorem dX10_generations_21 : decode cX10_generations 21 = .ok (.aload_n 0, 1) := by decide +kernel
theorem dX10_generations_22 : decode cX10_generations 22 = .ok (.getfield 10, 3) := by decide +kernel
theorem dX10_generations_25 : decode cX10_generations 25 = .ok (.getfield 158, 3) := by decide +kernel
theorem dX10_generations_28 : decode cX10_generations 28 = .ok (.iconst 1, 1) := by decide +kernel
theorem dX10_generations_29 : decode cX10_generations 29 = .ok (.if_icmp .ge 6, 3) := by decide +kernel
theorem dX10_generations_32 : decode cX10_generations 32 = .ok (.bipush (-3), 2) := by decide +kernel
theorem dX10_generations_34 : decode cX10_generations 34 = .ok (.ireturn, 1) := by decide +kernel
theorem dX10_generations_35 : decode cX10_generations 35 = .ok (.aload_n 0, 1) := by decide +kernel
theorem dX10_generations_36 : decode cX10_generations 36 = .ok (.getfield 64, 3) := by decide +kernel
theorem dX10_generations_39 : decode cX10_generations 39 = .ok (.iload_n 1, 1) := by decide +kernel
theorem dX10_generations_40 : decode cX10_generations 40 = .ok (.iload_n 2, 1) := by decide +kernel
theorem dX10_generations_41 : decode cX10_generations 41 = .ok (.iload_n 3, 1) := by decide +kernel
theorem dX10_generations_42 : decode cX10_generations 42 = .ok (.ifCond .ne 7, 3) := by decide +kernel
theorem dX10_generations_45 : decode cX10_generations 45 = .ok (.iconst 1, 1) := by decide +kernel
theorem dX10_generations_46 : decode cX10_generations 46 = .ok (.goto 4, 3) := by decide +kernel
theorem dX10_generations_49 : decode cX10_generations 49 = .ok (.iconst 0, 1) := by decide +kernel
theorem dX10_generations_50 : decode cX10_generations 50 = .ok (.invokevirtual 315, 3) := by decide +kernel
theorem dX10_generations_53 : decode cX10_generations 53 = .ok (.ireturn, 1) := by decide +kernel
theorem dX10_image_0 : decode cX10_image 0 = .ok (.aload_n 0, 1) := by decide +kernel
theorem dX10_image_1 : decode cX10_image 1 = .ok (.getfield 19, 3) := by decide +kernel
theorem dX10_image_4 : decode cX10_image 4 = .ok (.aload_n 0, 1) := by decide +kernel
theorem dX10_image_5 : decode cX10_image 5 = .ok (.getfield 10, 3) := by decide +kernel
theorem dX10_image_8 : decode cX10_image 8 = .ok (.invokevirtual 89, 3) := by decide +kernel
theorem dX10_image_11 : decode cX10_image 11 = .ok (.aload_n 0, 1) := by decide +kernel
theorem dX10_image_12 : decode cX10_image 12 = .ok (.iconst 1, 1) := by decide +kernel
theorem dX10_image_13 : decode cX10_image 13 = .ok (.putfield 319, 3) := by decide +kernel
theorem dX10_image_16 : decode cX10_image 16 = .ok (.aload_n 0, 1) := by decide +kernel
theorem dX10_image_17 : decode cX10_image 17 = .ok (.getfield 10, 3) := by decide +kernel
theorem dX10_image_20 : decode cX10_image 20 = .ok (.getfield 190, 3) := by decide +kernel
theorem dX10_image_23 : decode cX10_image 23 = .ok (.ireturn, 1) := by decide +kernel
theorem dX10_restore_0 : decode cX10_restore 0 = .ok (.aload_n 0, 1) := by decide +kernel
theorem dX10_restore_1 : decode cX10_restore 1 = .ok (.getfield 319, 3) := by decide +kernel
theorem dX10_restore_4 : decode cX10_restore 4 = .ok (.ifCond .ne 6, 3) := by decide +kernel
theorem dX10_restore_7 : decode cX10_restore 7 = .ok (.bipush (-3), 2) := by decide +kernel
theorem dX10_restore_9 : decode cX10_restore 9 = .ok (.ireturn, 1) := by decide +kernel
theorem dX10_restore_10 : decode cX10_restore 10 = .ok (.aload_n 0, 1) := by decide +kernel
theorem dX10_restore_11 : decode cX10_restore 11 = .ok (.getfield 10, 3) := by decide +kernel
theorem dX10_restore_14 : decode cX10_restore 14 = .ok (.aload_n 0, 1) := by decide +kernel
theorem dX10_restore_15 : decode cX10_restore 15 = .ok (.getfield 19, 3) := by decide +kernel
theorem dX10_restore_18 : decode cX10_restore 18 = .ok (.invokevirtual 89, 3) := by decide +kernel
theorem dX10_restore_21 : decode cX10_restore 21 = .ok (.aload_n 0, 1) := by decide +kernel
theorem dX10_restore_22 : decode cX10_restore 22 = .ok (.getfield 10, 3) := by decide +kernel
theorem dX10_restore_25 : decode cX10_restore 25 = .ok (.getfield 190, 3) := by decide +kernel
theorem dX10_restore_28 : decode cX10_restore 28 = .ok (.ireturn, 1) := by decide +kernel
theorem dX10_count_0 : decode cX10_count 0 = .ok (.iload_n 1, 1) := by decide +kernel
theorem dX10_count_1 : decode cX10_count 1 = .ok (.tableswitch 99 0 6 #[43, 51, 59, 67, 75, 83, 91], 43) := by decide +kernel
theorem dX10_count_44 : decode cX10_count 44 = .ok (.aload_n 0, 1) := by decide +kernel
theorem dX10_count_45 : decode cX10_count 45 = .ok (.getfield 10, 3) := by decide +kernel
theorem dX10_count_48 : decode cX10_count 48 = .ok (.getfield 158, 3) := by decide +kernel
theorem dX10_count_51 : decode cX10_count 51 = .ok (.ireturn, 1) := by decide +kernel
theorem dX10_count_52 : decode cX10_count 52 = .ok (.aload_n 0, 1) := by decide +kernel
theorem dX10_count_53 : decode cX10_count 53 = .ok (.getfield 10, 3) := by decide +kernel
theorem dX10_count_56 : decode cX10_count 56 = .ok (.getfield 173, 3) := by decide +kernel
theorem dX10_count_59 : decode cX10_count 59 = .ok (.ireturn, 1) := by decide +kernel
theorem dX10_count_60 : decode cX10_count 60 = .ok (.aload_n 0, 1) := by decide +kernel
theorem dX10_count_61 : decode cX10_count 61 = .ok (.getfield 10, 3) := by decide +kernel
theorem dX10_count_64 : decode cX10_count 64 = .ok (.getfield 190, 3) := by decide +kernel
theorem dX10_count_67 : decode cX10_count 67 = .ok (.ireturn, 1) := by decide +kernel
theorem dX10_count_68 : decode cX10_count 68 = .ok (.aload_n 0, 1) := by decide +kernel
theorem dX10_count_69 : decode cX10_count 69 = .ok (.getfield 10, 3) := by decide +kernel
theorem dX10_count_72 : decode cX10_count 72 = .ok (.getfield 147, 3) := by decide +kernel
theorem dX10_count_75 : decode cX10_count 75 = .ok (.ireturn, 1) := by decide +kernel
theorem dX10_count_76 : decode cX10_count 76 = .ok (.aload_n 0, 1) := by decide +kernel
theorem dX10_count_77 : decode cX10_count 77 = .ok (.getfield 10, 3) := by decide +kernel
theorem dX10_count_80 : decode cX10_count 80 = .ok (.getfield 201, 3) := by decide +kernel
theorem dX10_count_83 : decode cX10_count 83 = .ok (.ireturn, 1) := by decide +kernel
theorem dX10_count_84 : decode cX10_count 84 = .ok (.aload_n 0, 1) := by decide +kernel
theorem dX10_count_85 : decode cX10_count 85 = .ok (.getfield 10, 3) := by decide +kernel
theorem dX10_count_88 : decode cX10_count 88 = .ok (.invokevirtual 323, 3) := by decide +kernel
theorem dX10_count_91 : decode cX10_count 91 = .ok (.ireturn, 1) := by decide +kernel
theorem dX10_count_92 : decode cX10_count 92 = .ok (.aload_n 0, 1) := by decide +kernel
theorem dX10_count_93 : decode cX10_count 93 = .ok (.getfield 10, 3) := by decide +kernel
theorem dX10_count_96 : decode cX10_count 96 = .ok (.invokevirtual 326, 3) := by decide +kernel
theorem dX10_count_99 : decode cX10_count 99 = .ok (.ireturn, 1) := by decide +kernel
theorem dX10_count_100 : decode cX10_count 100 = .ok (.iconst (-1), 1) := by decide +kernel
theorem dX10_count_101 : decode cX10_count 101 = .ok (.ireturn, 1) := by decide +kernel
theorem dX10_keep_0 : decode cX10_keep 0 = .ok (.iload_n 1, 1) := by decide +kernel
theorem dX10_keep_1 : decode cX10_keep 1 = .ok (.invokestatic 164, 3) := by decide +kernel
theorem dX10_keep_4 : decode cX10_keep 4 = .ok (.ifCond .eq 11, 3) := by decide +kernel
theorem dX10_keep_7 : decode cX10_keep 7 = .ok (.iload_n 2, 1) := by decide +kernel
theorem dX10_keep_8 : decode cX10_keep 8 = .ok (.iconst 1, 1) := by decide +kernel
theorem dX10_keep_9 : decode cX10_keep 9 = .ok (.invokestatic 154, 3) := by decide +kernel
theorem dX10_keep_12 : decode cX10_keep 12 = .ok (.ifCond .ne 5, 3) := by decide +kernel
theorem dX10_keep_15 : decode cX10_keep 15 = .ok (.iconst (-1), 1) := by decide +kernel
theorem dX10_keep_16 : decode cX10_keep 16 = .ok (.ireturn, 1) := by decide +kernel
theorem dX10_keep_17 : decode cX10_keep 17 = .ok (.iload_n 2, 1) := by decide +kernel
theorem dX10_keep_18 : decode cX10_keep 18 = .ok (.ifCond .ne 15, 3) := by decide +kernel
theorem dX10_keep_21 : decode cX10_keep 21 = .ok (.aload_n 0, 1) := by decide +kernel
theorem dX10_keep_22 : decode cX10_keep 22 = .ok (.getfield 70, 3) := by decide +kernel
theorem dX10_keep_25 : decode cX10_keep 25 = .ok (.iload_n 1, 1) := by decide +kernel
theorem dX10_keep_26 : decode cX10_keep 26 = .ok (.aaload, 1) := by decide +kernel
theorem dX10_keep_27 : decode cX10_keep 27 = .ok (.iconst 0, 1) := by decide +kernel
theorem dX10_keep_28 : decode cX10_keep 28 = .ok (.putfield 329, 3) := by decide +kernel
theorem dX10_keep_31 : decode cX10_keep 31 = .ok (.iconst 0, 1) := by decide +kernel
theorem dX10_keep_32 : decode cX10_keep 32 = .ok (.ireturn, 1) := by decide +kernel
theorem dX10_keep_33 : decode cX10_keep 33 = .ok (.iload_n 3, 1) := by decide +kernel
theorem dX10_keep_34 : decode cX10_keep 34 = .ok (.bipush 7, 2) := by decide +kernel
theorem dX10_keep_36 : decode cX10_keep 36 = .ok (.invokestatic 154, 3) := by decide +kernel
theorem dX10_keep_39 : decode cX10_keep 39 = .ok (.ifCond .eq 13, 3) := by decide +kernel
theorem dX10_keep_42 : decode cX10_keep 42 = .ok (.iload 4, 2) := by decide +kernel
theorem dX10_keep_44 : decode cX10_keep 44 = .ok (.bipush 9, 2) := by decide +kernel
theorem dX10_keep_46 : decode cX10_keep 46 = .ok (.invokestatic 154, 3) := by decide +kernel
theorem dX10_keep_49 : decode cX10_keep 49 = .ok (.ifCond .ne 5, 3) := by decide +kernel
theorem dX10_keep_52 : decode cX10_keep 52 = .ok (.iconst (-1), 1) := by decide +kernel
theorem dX10_keep_53 : decode cX10_keep 53 = .ok (.ireturn, 1) := by decide +kernel
theorem dX10_keep_54 : decode cX10_keep 54 = .ok (.aload_n 0, 1) := by decide +kernel
theorem dX10_keep_55 : decode cX10_keep 55 = .ok (.getfield 70, 3) := by decide +kernel
theorem dX10_keep_58 : decode cX10_keep 58 = .ok (.iload_n 1, 1) := by decide +kernel
theorem dX10_keep_59 : decode cX10_keep 59 = .ok (.aaload, 1) := by decide +kernel
theorem dX10_keep_60 : decode cX10_keep 60 = .ok (.iload_n 3, 1) := by decide +kernel
theorem dX10_keep_61 : decode cX10_keep 61 = .ok (.iload 4, 2) := by decide +kernel
theorem dX10_keep_63 : decode cX10_keep 63 = .ok (.invokevirtual 334, 3) := by decide +kernel
theorem dX10_keep_66 : decode cX10_keep 66 = .ok (.iconst 0, 1) := by decide +kernel
theorem dX10_keep_67 : decode cX10_keep 67 = .ok (.ireturn, 1) := by decide +kernel
theorem dX10_row_0 : decode cX10_row 0 = .ok (.iload_n 1, 1) := by decide +kernel
theorem dX10_row_1 : decode cX10_row 1 = .ok (.invokestatic 164, 3) := by decide +kernel
theorem dX10_row_4 : decode cX10_row 4 = .ok (.ifCond .eq 17, 3) := by decide +kernel
theorem dX10_row_7 : decode cX10_row 7 = .ok (.iload_n 2, 1) := by decide +kernel
theorem dX10_row_8 : decode cX10_row 8 = .ok (.iconst 2, 1) := by decide +kernel
theorem dX10_row_9 : decode cX10_row 9 = .ok (.invokestatic 154, 3) := by decide +kernel
theorem dX10_row_12 : decode cX10_row 12 = .ok (.ifCond .eq 9, 3) := by decide +kernel
theorem dX10_row_15 : decode cX10_row 15 = .ok (.iload_n 3, 1) := by decide +kernel
theorem dX10_row_16 : decode cX10_row 16 = .ok (.bipush 100, 2) := by decide +kernel
theorem dX10_row_18 : decode cX10_row 18 = .ok (.if_icmp .le 5, 3) := by decide +kernel
theorem dX10_row_21 : decode cX10_row 21 = .ok (.iconst (-1), 1) := by decide +kernel
theorem dX10_row_22 : decode cX10_row 22 = .ok (.ireturn, 1) := by decide +kernel
theorem dX10_row_23 : decode cX10_row 23 = .ok (.iload_n 3, 1) := by decide +kernel
theorem dX10_row_24 : decode cX10_row 24 = .ok (.ifCond .ge 6, 3) := by decide +kernel
theorem dX10_row_27 : decode cX10_row 27 = .ok (.bipush (-14), 2) := by decide +kernel
theorem dX10_row_29 : decode cX10_row 29 = .ok (.ireturn, 1) := by decide +kernel
theorem dX10_row_30 : decode cX10_row 30 = .ok (.aload_n 0, 1) := by decide +kernel
theorem dX10_row_31 : decode cX10_row 31 = .ok (.getfield 70, 3) := by decide +kernel
theorem dX10_row_34 : decode cX10_row 34 = .ok (.iload_n 1, 1) := by decide +kernel
theorem dX10_row_35 : decode cX10_row 35 = .ok (.aaload, 1) := by decide +kernel
theorem dX10_row_36 : decode cX10_row 36 = .ok (.iload_n 2, 1) := by decide +kernel
theorem dX10_row_37 : decode cX10_row 37 = .ok (.iload_n 3, 1) := by decide +kernel
theorem dX10_row_38 : decode cX10_row 38 = .ok (.invokevirtual 338, 3) := by decide +kernel
theorem dX10_row_41 : decode cX10_row 41 = .ok (.iconst 0, 1) := by decide +kernel
theorem dX10_row_42 : decode cX10_row 42 = .ok (.ireturn, 1) := by decide +kernel
theorem dX10_put_0 : decode cX10_put 0 = .ok (.aload_n 0, 1) := by decide +kernel
theorem dX10_put_1 : decode cX10_put 1 = .ok (.iload_n 1, 1) := by decide +kernel
theorem dX10_put_2 : decode cX10_put 2 = .ok (.invokevirtual 75, 3) := by decide +kernel
theorem dX10_put_5 : decode cX10_put 5 = .ok (.istore 4, 2) := by decide +kernel
theorem dX10_put_7 : decode cX10_put 7 = .ok (.iload 4, 2) := by decide +kernel
theorem dX10_put_9 : decode cX10_put 9 = .ok (.ifCond .eq 6, 3) := by decide +kernel
theorem dX10_put_12 : decode cX10_put 12 = .ok (.iload 4, 2) := by decide +kernel
theorem dX10_put_14 : decode cX10_put 14 = .ok (.ireturn, 1) := by decide +kernel
theorem dX10_put_15 : decode cX10_put 15 = .ok (.aload_n 0, 1) := by decide +kernel
theorem dX10_put_16 : decode cX10_put 16 = .ok (.getfield 70, 3) := by decide +kernel
theorem dX10_put_19 : decode cX10_put 19 = .ok (.iload_n 1, 1) := by decide +kernel
theorem dX10_put_20 : decode cX10_put 20 = .ok (.aaload, 1) := by decide +kernel
theorem dX10_put_21 : decode cX10_put 21 = .ok (.iload_n 2, 1) := by decide +kernel
theorem dX10_put_22 : decode cX10_put 22 = .ok (.invokevirtual 341, 3) := by decide +kernel
theorem dX10_put_25 : decode cX10_put 25 = .ok (.ifCond .ne 6, 3) := by decide +kernel
theorem dX10_put_28 : decode cX10_put 28 = .ok (.bipush (-13), 2) := by decide +kernel
theorem dX10_put_30 : decode cX10_put 30 = .ok (.ireturn, 1) := by decide +kernel
theorem dX10_put_31 : decode cX10_put 31 = .ok (.aload_n 0, 1) := by decide +kernel
theorem dX10_put_32 : decode cX10_put 32 = .ok (.getfield 70, 3) := by decide +kernel
theorem dX10_put_35 : decode cX10_put 35 = .ok (.iload_n 1, 1) := by decide +kernel
theorem dX10_put_36 : decode cX10_put 36 = .ok (.aaload, 1) := by decide +kernel
theorem dX10_put_37 : decode cX10_put 37 = .ok (.iload_n 2, 1) := by decide +kernel
theorem dX10_put_38 : decode cX10_put 38 = .ok (.iload_n 3, 1) := by decide +kernel
theorem dX10_put_39 : decode cX10_put 39 = .ok (.invokevirtual 344, 3) := by decide +kernel
theorem dX10_put_42 : decode cX10_put 42 = .ok (.iconst 0, 1) := by decide +kernel
theorem dX10_put_43 : decode cX10_put 43 = .ok (.ireturn, 1) := by decide +kernel
theorem dX10_element_0 : decode cX10_element 0 = .ok (.iload_n 1, 1) := by decide +kernel
theorem dX10_element_1 : decode cX10_element 1 = .ok (.invokestatic 164, 3) := by decide +kernel
theorem dX10_element_4 : decode cX10_element 4 = .ok (.ifCond .ne 14, 3) := by decide +kernel
theorem dX10_element_7 : decode cX10_element 7 = .ok (.new 347, 3) := by decide +kernel
theorem dX10_element_10 : decode cX10_element 10 = .ok (.dup, 1) := by decide +kernel
theorem dX10_element_11 : decode cX10_element 11 = .ok (.ldc_w 349, 3) := by decide +kernel
theorem dX10_element_14 : decode cX10_element 14 = .ok (.invokespecial 351, 3) := by decide +kernel
theorem dX10_element_17 : decode cX10_element 17 = .ok (.athrow, 1) := by decide +kernel
theorem dX10_element_18 : decode cX10_element 18 = .ok (.aload_n 0, 1) := by decide +kernel
theorem dX10_element_19 : decode cX10_element 19 = .ok (.getfield 70, 3) := by decide +kernel
theorem dX10_element_22 : decode cX10_element 22 = .ok (.iload_n 1, 1) := by decide +kernel
theorem dX10_element_23 : decode cX10_element 23 = .ok (.aaload, 1) := by decide +kernel
theorem dX10_element_24 : decode cX10_element 24 = .ok (.getfield 329, 3) := by decide +kernel
theorem dX10_element_27 : decode cX10_element 27 = .ok (.iconst 2, 1) := by decide +kernel
theorem dX10_element_28 : decode cX10_element 28 = .ok (.if_icmp .ne 16, 3) := by decide +kernel
theorem dX10_element_31 : decode cX10_element 31 = .ok (.aload_n 0, 1) := by decide +kernel
theorem dX10_element_32 : decode cX10_element 32 = .ok (.getfield 70, 3) := by decide +kernel
theorem dX10_element_35 : decode cX10_element 35 = .ok (.iload_n 1, 1) := by decide +kernel
theorem dX10_element_36 : decode cX10_element 36 = .ok (.aaload, 1) := by decide +kernel
theorem dX10_element_37 : decode cX10_element 37 = .ok (.iload_n 2, 1) := by decide +kernel
theorem dX10_element_38 : decode cX10_element 38 = .ok (.invokevirtual 341, 3) := by decide +kernel
theorem dX10_element_41 : decode cX10_element 41 = .ok (.ifCond .ne 14, 3) := by decide +kernel
theorem dX10_element_44 : decode cX10_element 44 = .ok (.new 354, 3) := by decide +kernel
theorem dX10_element_47 : decode cX10_element 47 = .ok (.dup, 1) := by decide +kernel
theorem dX10_element_48 : decode cX10_element 48 = .ok (.ldc_w 356, 3) := by decide +kernel
theorem dX10_element_51 : decode cX10_element 51 = .ok (.invokespecial 358, 3) := by decide +kernel
theorem dX10_element_54 : decode cX10_element 54 = .ok (.athrow, 1) := by decide +kernel
theorem dX10_element_55 : decode cX10_element 55 = .ok (.aload_n 0, 1) := by decide +kernel
theorem dX10_element_56 : decode cX10_element 56 = .ok (.getfield 70, 3) := by decide +kernel
theorem dX10_element_59 : decode cX10_element 59 = .ok (.iload_n 1, 1) := by decide +kernel
theorem dX10_element_60 : decode cX10_element 60 = .ok (.aaload, 1) := by decide +kernel
theorem dX10_element_61 : decode cX10_element 61 = .ok (.iload_n 2, 1) := by decide +kernel
theorem dX10_element_62 : decode cX10_element 62 = .ok (.invokevirtual 95, 3) := by decide +kernel
theorem dX10_element_65 : decode cX10_element 65 = .ok (.i2l, 1) := by decide +kernel
theorem dX10_element_66 : decode cX10_element 66 = .ok (.lreturn, 1) := by decide +kernel
theorem dX10_copy_0 : decode cX10_copy 0 = .ok (.iload_n 1, 1) := by decide +kernel
theorem dX10_copy_1 : decode cX10_copy 1 = .ok (.invokestatic 164, 3) := by decide +kernel
theorem dX10_copy_4 : decode cX10_copy 4 = .ok (.ifCond .eq 10, 3) := by decide +kernel
theorem dX10_copy_7 : decode cX10_copy 7 = .ok (.iload_n 3, 1) := by decide +kernel
theorem dX10_copy_8 : decode cX10_copy 8 = .ok (.invokestatic 164, 3) := by decide +kernel
theorem dX10_copy_11 : decode cX10_copy 11 = .ok (.ifCond .ne 5, 3) := by decide +kernel
theorem dX10_copy_14 : decode cX10_copy 14 = .ok (.iconst (-1), 1) := by decide +kernel
theorem dX10_copy_15 : decode cX10_copy 15 = .ok (.ireturn, 1) := by decide +kernel
theorem dX10_copy_16 : decode cX10_copy 16 = .ok (.aload_n 0, 1) := by decide +kernel
theorem dX10_copy_17 : decode cX10_copy 17 = .ok (.getfield 70, 3) := by decide +kernel
theorem dX10_copy_20 : decode cX10_copy 20 = .ok (.iload_n 1, 1) := by decide +kernel
theorem dX10_copy_21 : decode cX10_copy 21 = .ok (.aaload, 1) := by decide +kernel
theorem dX10_copy_22 : decode cX10_copy 22 = .ok (.astore 6, 2) := by decide +kernel
theorem dX10_copy_24 : decode cX10_copy 24 = .ok (.aload_n 0, 1) := by decide +kernel
theorem dX10_copy_25 : decode cX10_copy 25 = .ok (.getfield 70, 3) := by decide +kernel
theorem dX10_copy_28 : decode cX10_copy 28 = .ok (.iload_n 3, 1) := by decide +kernel
theorem dX10_copy_29 : decode cX10_copy 29 = .ok (.aaload, 1) := by decide +kernel
theorem dX10_copy_30 : decode cX10_copy 30 = .ok (.astore 7, 2) := by decide +kernel
theorem dX10_copy_32 : decode cX10_copy 32 = .ok (.aload 6, 2) := by decide +kernel
theorem dX10_copy_34 : decode cX10_copy 34 = .ok (.getfield 329, 3) := by decide +kernel
theorem dX10_copy_37 : decode cX10_copy 37 = .ok (.ifCond .eq 11, 3) := by decide +kernel
theorem dX10_copy_40 : decode cX10_copy 40 = .ok (.aload 7, 2) := by decide +kernel
theorem dX10_copy_42 : decode cX10_copy 42 = .ok (.getfield 329, 3) := by decide +kernel
theorem dX10_copy_45 : decode cX10_copy 45 = .ok (.ifCond .ne 6, 3) := by decide +kernel
theorem dX10_copy_48 : decode cX10_copy 48 = .ok (.bipush (-11), 2) := by decide +kernel
theorem dX10_copy_50 : decode cX10_copy 50 = .ok (.ireturn, 1) := by decide +kernel
theorem dX10_copy_51 : decode cX10_copy 51 = .ok (.aload 6, 2) := by decide +kernel
theorem dX10_copy_53 : decode cX10_copy 53 = .ok (.getfield 329, 3) := by decide +kernel
theorem dX10_copy_56 : decode cX10_copy 56 = .ok (.iconst 2, 1) := by decide +kernel
theorem dX10_copy_57 : decode cX10_copy 57 = .ok (.if_icmp .ne 25, 3) := by decide +kernel
theorem dX10_copy_60 : decode cX10_copy 60 = .ok (.aload 7, 2) := by decide +kernel
theorem dX10_copy_62 : decode cX10_copy 62 = .ok (.getfield 329, 3) := by decide +kernel
theorem dX10_copy_65 : decode cX10_copy 65 = .ok (.iconst 2, 1) := by decide +kernel
theorem dX10_copy_66 : decode cX10_copy 66 = .ok (.if_icmp .ne 16, 3) := by decide +kernel
theorem dX10_copy_69 : decode cX10_copy 69 = .ok (.aload 6, 2) := by decide +kernel
theorem dX10_copy_71 : decode cX10_copy 71 = .ok (.getfield 79, 3) := by decide +kernel
theorem dX10_copy_74 : decode cX10_copy 74 = .ok (.aload 7, 2) := by decide +kernel
theorem dX10_copy_76 : decode cX10_copy 76 = .ok (.getfield 79, 3) := by decide +kernel
theorem dX10_copy_79 : decode cX10_copy 79 = .ok (.if_icmp .eq 6, 3) := by decide +kernel
theorem dX10_copy_82 : decode cX10_copy 82 = .ok (.bipush (-12), 2) := by decide +kernel
theorem dX10_copy_84 : decode cX10_copy 84 = .ok (.ireturn, 1) := by decide +kernel
theorem dX10_copy_85 : decode cX10_copy 85 = .ok (.iload 5, 2) := by decide +kernel
theorem dX10_copy_87 : decode cX10_copy 87 = .ok (.ifCond .lt 26, 3) := by decide +kernel
theorem dX10_copy_90 : decode cX10_copy 90 = .ok (.aload 6, 2) := by decide +kernel
theorem dX10_copy_92 : decode cX10_copy 92 = .ok (.iload_n 2, 1) := by decide +kernel
theorem dX10_copy_93 : decode cX10_copy 93 = .ok (.iload 5, 2) := by decide +kernel
theorem dX10_copy_95 : decode cX10_copy 95 = .ok (.invokevirtual 359, 3) := by decide +kernel
theorem dX10_copy_98 : decode cX10_copy 98 = .ok (.ifCond .eq 15, 3) := by decide +kernel
theorem dX10_copy_101 : decode cX10_copy 101 = .ok (.aload 7, 2) := by decide +kernel
theorem dX10_copy_103 : decode cX10_copy 103 = .ok (.iload 4, 2) := by decide +kernel
theorem dX10_copy_105 : decode cX10_copy 105 = .ok (.iload 5, 2) := by decide +kernel
theorem dX10_copy_107 : decode cX10_copy 107 = .ok (.invokevirtual 359, 3) := by decide +kernel
theorem dX10_copy_110 : decode cX10_copy 110 = .ok (.ifCond .ne 6, 3) := by decide +kernel
theorem dX10_copy_113 : decode cX10_copy 113 = .ok (.bipush (-13), 2) := by decide +kernel
theorem dX10_copy_115 : decode cX10_copy 115 = .ok (.ireturn, 1) := by decide +kernel
theorem dX10_copy_116 : decode cX10_copy 116 = .ok (.aload 6, 2) := by decide +kernel
theorem dX10_copy_118 : decode cX10_copy 118 = .ok (.getfield 362, 3) := by decide +kernel
theorem dX10_copy_121 : decode cX10_copy 121 = .ok (.iload_n 2, 1) := by decide +kernel
theorem dX10_copy_122 : decode cX10_copy 122 = .ok (.aload 7, 2) := by decide +kernel
theorem dX10_copy_124 : decode cX10_copy 124 = .ok (.getfield 362, 3) := by decide +kernel
theorem dX10_copy_127 : decode cX10_copy 127 = .ok (.iload 4, 2) := by decide +kernel
theorem dX10_copy_129 : decode cX10_copy 129 = .ok (.iload 5, 2) := by decide +kernel
theorem dX10_copy_131 : decode cX10_copy 131 = .ok (.invokestatic 365, 3) := by decide +kernel
theorem dX10_copy_134 : decode cX10_copy 134 = .ok (.iload 5, 2) := by decide +kernel
theorem dX10_copy_136 : decode cX10_copy 136 = .ok (.ireturn, 1) := by decide +kernel
theorem dX10_cost_0 : decode cX10_cost 0 = .ok (.aload_n 0, 1) := by decide +kernel
theorem dX10_cost_1 : decode cX10_cost 1 = .ok (.iload_n 1, 1) := by decide +kernel
theorem dX10_cost_2 : decode cX10_cost 2 = .ok (.invokevirtual 170, 3) := by decide +kernel
theorem dX10_cost_5 : decode cX10_cost 5 = .ok (.istore_n 2, 1) := by decide +kernel
theorem dX10_cost_6 : decode cX10_cost 6 = .ok (.iload_n 2, 1) := by decide +kernel
theorem dX10_cost_7 : decode cX10_cost 7 = .ok (.ifCond .eq 7, 3) := by decide +kernel
theorem dX10_cost_10 : decode cX10_cost 10 = .ok (.iload_n 2, 1) := by decide +kernel
theorem dX10_cost_11 : decode cX10_cost 11 = .ok (.goto 24, 3) := by decide +kernel
theorem dX10_cost_14 : decode cX10_cost 14 = .ok (.aload_n 0, 1) := by decide +kernel
theorem dX10_cost_15 : decode cX10_cost 15 = .ok (.getfield 70, 3) := by decide +kernel
theorem dX10_cost_18 : decode cX10_cost 18 = .ok (.iload_n 1, 1) := by decide +kernel
theorem dX10_cost_19 : decode cX10_cost 19 = .ok (.aaload, 1) := by decide +kernel
theorem dX10_cost_20 : decode cX10_cost 20 = .ok (.getfield 176, 3) := by decide +kernel
theorem dX10_cost_23 : decode cX10_cost 23 = .ok (.aload_n 0, 1) := by decide +kernel
theorem dX10_cost_24 : decode cX10_cost 24 = .ok (.getfield 70, 3) := by decide +kernel
theorem dX10_cost_27 : decode cX10_cost 27 = .ok (.iload_n 1, 1) := by decide +kernel
theorem dX10_cost_28 : decode cX10_cost 28 = .ok (.aaload, 1) := by decide +kernel
theorem dX10_cost_29 : decode cX10_cost 29 = .ok (.getfield 178, 3) := by decide +kernel
theorem dX10_cost_32 : decode cX10_cost 32 = .ok (.invokestatic 371, 3) := by decide +kernel
theorem dX10_cost_35 : decode cX10_cost 35 = .ok (.ireturn, 1) := by decide +kernel
theorem dX10_toss_0 : decode cX10_toss 0 = .ok (.aload_n 0, 1) := by decide +kernel
theorem dX10_toss_1 : decode cX10_toss 1 = .ok (.iload_n 1, 1) := by decide +kernel
theorem dX10_toss_2 : decode cX10_toss 2 = .ok (.invokevirtual 170, 3) := by decide +kernel
theorem dX10_toss_5 : decode cX10_toss 5 = .ok (.istore_n 2, 1) := by decide +kernel
theorem dX10_toss_6 : decode cX10_toss 6 = .ok (.iload_n 2, 1) := by decide +kernel
theorem dX10_toss_7 : decode cX10_toss 7 = .ok (.ifCond .eq 5, 3) := by decide +kernel
theorem dX10_toss_10 : decode cX10_toss 10 = .ok (.iload_n 2, 1) := by decide +kernel
theorem dX10_toss_11 : decode cX10_toss 11 = .ok (.ireturn, 1) := by decide +kernel
theorem dX10_toss_12 : decode cX10_toss 12 = .ok (.aload_n 0, 1) := by decide +kernel
theorem dX10_toss_13 : decode cX10_toss 13 = .ok (.getfield 70, 3) := by decide +kernel
theorem dX10_toss_16 : decode cX10_toss 16 = .ok (.iload_n 1, 1) := by decide +kernel
theorem dX10_toss_17 : decode cX10_toss 17 = .ok (.aaload, 1) := by decide +kernel
theorem dX10_toss_18 : decode cX10_toss 18 = .ok (.getfield 176, 3) := by decide +kernel
theorem dX10_toss_21 : decode cX10_toss 21 = .ok (.istore_n 3, 1) := by decide +kernel
theorem dX10_toss_22 : decode cX10_toss 22 = .ok (.aload_n 0, 1) := by decide +kernel
theorem dX10_toss_23 : decode cX10_toss 23 = .ok (.getfield 70, 3) := by decide +kernel
theorem dX10_toss_26 : decode cX10_toss 26 = .ok (.iload_n 1, 1) := by decide +kernel
theorem dX10_toss_27 : decode cX10_toss 27 = .ok (.aaload, 1) := by decide +kernel
theorem dX10_toss_28 : decode cX10_toss 28 = .ok (.getfield 178, 3) := by decide +kernel
theorem dX10_toss_31 : decode cX10_toss 31 = .ok (.istore 4, 2) := by decide +kernel
theorem dX10_toss_33 : decode cX10_toss 33 = .ok (.iload_n 3, 1) := by decide +kernel
theorem dX10_toss_34 : decode cX10_toss 34 = .ok (.iload 4, 2) := by decide +kernel
theorem dX10_toss_36 : decode cX10_toss 36 = .ok (.invokestatic 374, 3) := by decide +kernel
theorem dX10_toss_39 : decode cX10_toss 39 = .ok (.goto 29, 3) := by decide +kernel
theorem dX10_toss_42 : decode cX10_toss 42 = .ok (.astore 5, 2) := by decide +kernel
theorem dX10_toss_44 : decode cX10_toss 44 = .ok (.sipush 200, 3) := by decide +kernel
theorem dX10_toss_47 : decode cX10_toss 47 = .ok (.iload_n 3, 1) := by decide +kernel
theorem dX10_toss_48 : decode cX10_toss 48 = .ok (.iload 4, 2) := by decide +kernel
theorem dX10_toss_50 : decode cX10_toss 50 = .ok (.invokestatic 371, 3) := by decide +kernel
theorem dX10_toss_53 : decode cX10_toss 53 = .ok (.iadd, 1) := by decide +kernel
theorem dX10_toss_54 : decode cX10_toss 54 = .ok (.ireturn, 1) := by decide +kernel
theorem dX10_toss_55 : decode cX10_toss 55 = .ok (.astore 5, 2) := by decide +kernel
theorem dX10_toss_57 : decode cX10_toss 57 = .ok (.bipush 100, 2) := by decide +kernel
theorem dX10_toss_59 : decode cX10_toss 59 = .ok (.iload 4, 2) := by decide +kernel
theorem dX10_toss_61 : decode cX10_toss 61 = .ok (.iadd, 1) := by decide +kernel
theorem dX10_toss_62 : decode cX10_toss 62 = .ok (.ireturn, 1) := by decide +kernel
theorem dX10_toss_63 : decode cX10_toss 63 = .ok (.astore 5, 2) := by decide +kernel
theorem dX10_toss_65 : decode cX10_toss 65 = .ok (.iload 4, 2) := by decide +kernel
theorem dX10_toss_67 : decode cX10_toss 67 = .ok (.ireturn, 1) := by decide +kernel
theorem dX10_toss_68 : decode cX10_toss 68 = .ok (.bipush (-15), 2) := by decide +kernel
theorem dX10_toss_70 : decode cX10_toss 70 = .ok (.ireturn, 1) := by decide +kernel
theorem dX10_isUpTo_0 : decode cX10_isUpTo 0 = .ok (.iload_n 0, 1) := by decide +kernel
theorem dX10_isUpTo_1 : decode cX10_isUpTo 1 = .ok (.ifCond .lt 12, 3) := by decide +kernel
theorem dX10_isUpTo_4 : decode cX10_isUpTo 4 = .ok (.iload_n 0, 1) := by decide +kernel
theorem dX10_isUpTo_5 : decode cX10_isUpTo 5 = .ok (.iload_n 1, 1) := by decide +kernel
theorem dX10_isUpTo_6 : decode cX10_isUpTo 6 = .ok (.if_icmp .gt 7, 3) := by decide +kernel
theorem dX10_isUpTo_9 : decode cX10_isUpTo 9 = .ok (.iconst 1, 1) := by decide +kernel
theorem dX10_isUpTo_10 : decode cX10_isUpTo 10 = .ok (.goto 4, 3) := by decide +kernel
theorem dX10_isUpTo_13 : decode cX10_isUpTo 13 = .ok (.iconst 0, 1) := by decide +kernel
theorem dX10_isUpTo_14 : decode cX10_isUpTo 14 = .ok (.ireturn, 1) := by decide +kernel
theorem dX10_lowestOf_0 : decode cX10_lowestOf 0 = .ok (.iconst 0, 1) := by decide +kernel
theorem dX10_lowestOf_1 : decode cX10_lowestOf 1 = .ok (.istore_n 1, 1) := by decide +kernel
theorem dX10_lowestOf_2 : decode cX10_lowestOf 2 = .ok (.iload_n 1, 1) := by decide +kernel
theorem dX10_lowestOf_3 : decode cX10_lowestOf 3 = .ok (.bipush 32, 2) := by decide +kernel
theorem dX10_lowestOf_5 : decode cX10_lowestOf 5 = .ok (.if_icmp .ge 20, 3) := by decide +kernel
theorem dX10_lowestOf_8 : decode cX10_lowestOf 8 = .ok (.iload_n 0, 1) := by decide +kernel
theorem dX10_lowestOf_9 : decode cX10_lowestOf 9 = .ok (.iload_n 1, 1) := by decide +kernel
theorem dX10_lowestOf_10 : decode cX10_lowestOf 10 = .ok (.ishr, 1) := by decide +kernel
theorem dX10_lowestOf_11 : decode cX10_lowestOf 11 = .ok (.iconst 1, 1) := by decide +kernel
theorem dX10_lowestOf_12 : decode cX10_lowestOf 12 = .ok (.iand, 1) := by decide +kernel
theorem dX10_lowestOf_13 : decode cX10_lowestOf 13 = .ok (.iconst 1, 1) := by decide +kernel
theorem dX10_lowestOf_14 : decode cX10_lowestOf 14 = .ok (.if_icmp .ne 5, 3) := by decide +kernel
theorem dX10_lowestOf_17 : decode cX10_lowestOf 17 = .ok (.iload_n 1, 1) := by decide +kernel
theorem dX10_lowestOf_18 : decode cX10_lowestOf 18 = .ok (.ireturn, 1) := by decide +kernel
theorem dX10_lowestOf_19 : decode cX10_lowestOf 19 = .ok (.iinc 1 1, 3) := by decide +kernel
theorem dX10_lowestOf_22 : decode cX10_lowestOf 22 = .ok (.goto (-20), 3) := by decide +kernel
theorem dX10_lowestOf_25 : decode cX10_lowestOf 25 = .ok (.bipush (-4), 2) := by decide +kernel
theorem dX10_lowestOf_27 : decode cX10_lowestOf 27 = .ok (.ireturn, 1) := by decide +kernel
theorem dX10_isShelf_0 : decode cX10_isShelf 0 = .ok (.iload_n 0, 1) := by decide +kernel
theorem dX10_isShelf_1 : decode cX10_isShelf 1 = .ok (.ifCond .lt 13, 3) := by decide +kernel
theorem dX10_isShelf_4 : decode cX10_isShelf 4 = .ok (.iload_n 0, 1) := by decide +kernel
theorem dX10_isShelf_5 : decode cX10_isShelf 5 = .ok (.bipush 8, 2) := by decide +kernel
theorem dX10_isShelf_7 : decode cX10_isShelf 7 = .ok (.if_icmp .ge 7, 3) := by decide +kernel
theorem dX10_isShelf_10 : decode cX10_isShelf 10 = .ok (.iconst 1, 1) := by decide +kernel
theorem dX10_isShelf_11 : decode cX10_isShelf 11 = .ok (.goto 4, 3) := by decide +kernel
theorem dX10_isShelf_14 : decode cX10_isShelf 14 = .ok (.iconst 0, 1) := by decide +kernel
theorem dX10_isShelf_15 : decode cX10_isShelf 15 = .ok (.ireturn, 1) := by decide +kernel
theorem dX10_rowRefusal_0 : decode cX10_rowRefusal 0 = .ok (.aload_n 0, 1) := by decide +kernel
theorem dX10_rowRefusal_1 : decode cX10_rowRefusal 1 = .ok (.iload_n 1, 1) := by decide +kernel
theorem dX10_rowRefusal_2 : decode cX10_rowRefusal 2 = .ok (.iconst 2, 1) := by decide +kernel
theorem dX10_rowRefusal_3 : decode cX10_rowRefusal 3 = .ok (.invokevirtual 379, 3) := by decide +kernel
theorem dX10_rowRefusal_6 : decode cX10_rowRefusal 6 = .ok (.ireturn, 1) := by decide +kernel
theorem dX10_kindRefusal_0 : decode cX10_kindRefusal 0 = .ok (.aload_n 0, 1) := by decide +kernel
theorem dX10_kindRefusal_1 : decode cX10_kindRefusal 1 = .ok (.iload_n 1, 1) := by decide +kernel
theorem dX10_kindRefusal_2 : decode cX10_kindRefusal 2 = .ok (.iconst 1, 1) := by decide +kernel
theorem dX10_kindRefusal_3 : decode cX10_kindRefusal 3 = .ok (.invokevirtual 379, 3) := by decide +kernel
theorem dX10_kindRefusal_6 : decode cX10_kindRefusal 6 = .ok (.ireturn, 1) := by decide +kernel
theorem dX10_heldRefusal_0 : decode cX10_heldRefusal 0 = .ok (.iload_n 1, 1) := by decide +kernel
theorem dX10_heldRefusal_1 : decode cX10_heldRefusal 1 = .ok (.invokestatic 164, 3) := by decide +kernel
theorem dX10_heldRefusal_4 : decode cX10_heldRefusal 4 = .ok (.ifCond .ne 5, 3) := by decide +kernel
theorem dX10_heldRefusal_7 : decode cX10_heldRefusal 7 = .ok (.iconst (-1), 1) := by decide +kernel
theorem dX10_heldRefusal_8 : decode cX10_heldRefusal 8 = .ok (.ireturn, 1) := by decide +kernel
theorem dX10_heldRefusal_9 : decode cX10_heldRefusal 9 = .ok (.aload_n 0, 1) := by decide +kernel
theorem dX10_heldRefusal_10 : decode cX10_heldRefusal 10 = .ok (.getfield 70, 3) := by decide +kernel
theorem dX10_heldRefusal_13 : decode cX10_heldRefusal 13 = .ok (.iload_n 1, 1) := by decide +kernel
theorem dX10_heldRefusal_14 : decode cX10_heldRefusal 14 = .ok (.aaload, 1) := by decide +kernel
theorem dX10_heldRefusal_15 : decode cX10_heldRefusal 15 = .ok (.getfield 329, 3) := by decide +kernel
theorem dX10_heldRefusal_18 : decode cX10_heldRefusal 18 = .ok (.ifCond .ne 6, 3) := by decide +kernel
theorem dX10_heldRefusal_21 : decode cX10_heldRefusal 21 = .ok (.bipush (-11), 2) := by decide +kernel
theorem dX10_heldRefusal_23 : decode cX10_heldRefusal 23 = .ok (.ireturn, 1) := by decide +kernel
theorem dX10_heldRefusal_24 : decode cX10_heldRefusal 24 = .ok (.aload_n 0, 1) := by decide +kernel
theorem dX10_heldRefusal_25 : decode cX10_heldRefusal 25 = .ok (.getfield 70, 3) := by decide +kernel
theorem dX10_heldRefusal_28 : decode cX10_heldRefusal 28 = .ok (.iload_n 1, 1) := by decide +kernel
theorem dX10_heldRefusal_29 : decode cX10_heldRefusal 29 = .ok (.aaload, 1) := by decide +kernel
theorem dX10_heldRefusal_30 : decode cX10_heldRefusal 30 = .ok (.getfield 329, 3) := by decide +kernel
theorem dX10_heldRefusal_33 : decode cX10_heldRefusal 33 = .ok (.iload_n 2, 1) := by decide +kernel
theorem dX10_heldRefusal_34 : decode cX10_heldRefusal 34 = .ok (.if_icmp .ne 7, 3) := by decide +kernel
theorem dX10_heldRefusal_37 : decode cX10_heldRefusal 37 = .ok (.iconst 0, 1) := by decide +kernel
theorem dX10_heldRefusal_38 : decode cX10_heldRefusal 38 = .ok (.goto 5, 3) := by decide +kernel
theorem dX10_heldRefusal_41 : decode cX10_heldRefusal 41 = .ok (.bipush (-12), 2) := by decide +kernel
theorem dX10_heldRefusal_43 : decode cX10_heldRefusal 43 = .ok (.ireturn, 1) := by decide +kernel
theorem dX10_partOfFraction_0 : decode cX10_partOfFraction 0 = .ok (.lload_n 2, 1) := by decide +kernel
theorem dX10_partOfFraction_1 : decode cX10_partOfFraction 1 = .ok (.lstore 5, 2) := by decide +kernel
theorem dX10_partOfFraction_3 : decode cX10_partOfFraction 3 = .ok (.lload_n 0, 1) := by decide +kernel
theorem dX10_partOfFraction_4 : decode cX10_partOfFraction 4 = .ok (.lstore 7, 2) := by decide +kernel
theorem dX10_partOfFraction_6 : decode cX10_partOfFraction 6 = .ok (.iconst 0, 1) := by decide +kernel
theorem dX10_partOfFraction_7 : decode cX10_partOfFraction 7 = .ok (.istore 9, 2) := by decide +kernel
theorem dX10_partOfFraction_9 : decode cX10_partOfFraction 9 = .ok (.iload 9, 2) := by decide +kernel
theorem dX10_partOfFraction_11 : decode cX10_partOfFraction 11 = .ok (.bipush 100, 2) := by decide +kernel
theorem dX10_partOfFraction_13 : decode cX10_partOfFraction 13 = .ok (.if_icmp .ge 31, 3) := by decide +kernel
theorem dX10_partOfFraction_16 : decode cX10_partOfFraction 16 = .ok (.lload 7, 2) := by decide +kernel
theorem dX10_partOfFraction_18 : decode cX10_partOfFraction 18 = .ok (.lconst 0, 1) := by decide +kernel
theorem dX10_partOfFraction_19 : decode cX10_partOfFraction 19 = .ok (.lcmp, 1) := by decide +kernel
theorem dX10_partOfFraction_20 : decode cX10_partOfFraction 20 = .ok (.ifCond .eq 24, 3) := by decide +kernel
theorem dX10_partOfFraction_23 : decode cX10_partOfFraction 23 = .ok (.lload 5, 2) := by decide +kernel
theorem dX10_partOfFraction_25 : decode cX10_partOfFraction 25 = .ok (.lload 7, 2) := by decide +kernel
theorem dX10_partOfFraction_27 : decode cX10_partOfFraction 27 = .ok (.lrem, 1) := by decide +kernel
theorem dX10_partOfFraction_28 : decode cX10_partOfFraction 28 = .ok (.lstore 10, 2) := by decide +kernel
theorem dX10_partOfFraction_30 : decode cX10_partOfFraction 30 = .ok (.lload 7, 2) := by decide +kernel
theorem dX10_partOfFraction_32 : decode cX10_partOfFraction 32 = .ok (.lstore 5, 2) := by decide +kernel
theorem dX10_partOfFraction_34 : decode cX10_partOfFraction 34 = .ok (.lload 10, 2) := by decide +kernel
theorem dX10_partOfFraction_36 : decode cX10_partOfFraction 36 = .ok (.lstore 7, 2) := by decide +kernel
theorem dX10_partOfFraction_38 : decode cX10_partOfFraction 38 = .ok (.iinc 9 1, 3) := by decide +kernel
theorem dX10_partOfFraction_41 : decode cX10_partOfFraction 41 = .ok (.goto (-32), 3) := by decide +kernel
theorem dX10_partOfFraction_44 : decode cX10_partOfFraction 44 = .ok (.iload 4, 2) := by decide +kernel
theorem dX10_partOfFraction_46 : decode cX10_partOfFraction 46 = .ok (.ifCond .ne 7, 3) := by decide +kernel
theorem dX10_partOfFraction_49 : decode cX10_partOfFraction 49 = .ok (.lload_n 0, 1) := by decide +kernel
theorem dX10_partOfFraction_50 : decode cX10_partOfFraction 50 = .ok (.goto 4, 3) := by decide +kernel
theorem dX10_partOfFraction_53 : decode cX10_partOfFraction 53 = .ok (.lload_n 2, 1) := by decide +kernel
theorem dX10_partOfFraction_54 : decode cX10_partOfFraction 54 = .ok (.lstore 9, 2) := by decide +kernel
theorem dX10_partOfFraction_56 : decode cX10_partOfFraction 56 = .ok (.lload 5, 2) := by decide +kernel
theorem dX10_partOfFraction_58 : decode cX10_partOfFraction 58 = .ok (.lconst 0, 1) := by decide +kernel
theorem dX10_partOfFraction_59 : decode cX10_partOfFraction 59 = .ok (.lcmp, 1) := by decide +kernel
theorem dX10_partOfFraction_60 : decode cX10_partOfFraction 60 = .ok (.ifCond .le 11, 3) := by decide +kernel
theorem dX10_partOfFraction_63 : decode cX10_partOfFraction 63 = .ok (.lload 9, 2) := by decide +kernel
theorem dX10_partOfFraction_65 : decode cX10_partOfFraction 65 = .ok (.lload 5, 2) := by decide +kernel
theorem dX10_partOfFraction_67 : decode cX10_partOfFraction 67 = .ok (.ldiv, 1) := by decide +kernel
theorem dX10_partOfFraction_68 : decode cX10_partOfFraction 68 = .ok (.goto 5, 3) := by decide +kernel
theorem dX10_partOfFraction_71 : decode cX10_partOfFraction 71 = .ok (.lload 9, 2) := by decide +kernel
theorem dX10_partOfFraction_73 : decode cX10_partOfFraction 73 = .ok (.lreturn, 1) := by decide +kernel
