set_option maxRecDepth 100000
theorem pw_sh_0 : pw_SH 0 = some (.inl (8, [some 1, some 13, some 25, some 37, some 47, some 48, some 50, some 51, some 53, some 54, none])) := rfl
theorem pw_sh_37 : pw_SH 37 = some (.inl (3, [some 1, some 13, some 38, some 46])) := rfl
theorem pw_sh_46 : pw_SH 46 = some (.inr (.inl 128)) := rfl
theorem pw_sh_47 : pw_SH 47 = some (.inl (7, [some 1, some 13])) := rfl
theorem pw_sh_48 : pw_SH 48 = some (.inl (5, [some 1, some 49])) := rfl
theorem pw_sh_49 : pw_SH 49 = some (.inr (.inl 10)) := rfl
theorem pw_sh_50 : pw_SH 50 = some (.inl (0, [some 1])) := rfl
theorem pw_sh_51 : pw_SH 51 = some (.inl (2, [some 1, some 13, some 52])) := rfl
theorem pw_sh_52 : pw_SH 52 = some (.inr (.inl 10)) := rfl
theorem pw_sh_53 : pw_SH 53 = some (.inl (1, [some 1, some 13, none])) := rfl
theorem pw_sh_71 : pw_SH 71 = some (.inl (9, [some 72, some 73, some 74, some 75, some 76, none, none, none, none, some 77, some 78, some 79, none, none, none, some 80, some 81, some 82, some 83, some 84, some 85, none])) := rfl
theorem pw_sh_77 : pw_SH 77 = some (.inr (.inl 4)) := rfl
theorem pw_sh_78 : pw_SH 78 = some (.inr (.inl 7)) := rfl
theorem pw_sh_79 : pw_SH 79 = some (.inr (.inl 7)) := rfl
theorem pw_sh_80 : pw_SH 80 = some (.inr (.inl 8)) := rfl
theorem pw_sh_81 : pw_SH 81 = some (.inr (.inl 8)) := rfl
theorem pw_sh_82 : pw_SH 82 = some (.inr (.inl 8)) := rfl
theorem pw_sh_83 : pw_SH 83 = some (.inr (.inl 8)) := rfl
theorem pw_sh_84 : pw_SH 84 = some (.inr (.inl 8)) := rfl
theorem pw_sh_85 : pw_SH 85 = some (.inr (.inl 800)) := rfl
theorem cfX0 : pw_CF 0 RX0 TX0 1 tyX0 := ⟨rfl, by
  intro w hw
  obtain ⟨k, hk, rfl⟩ := List.mem_map.mp hw
  have hk := List.mem_range.mp hk
  rcases (show k = 0 by omega) with rfl
  · exact pw_inT 186 (by decide +kernel) (by decide +kernel)
  , tyX0_ok, nmX0⟩
theorem cfX1 : pw_CF 1 RX1 TX1 3 tyX1 := ⟨rfl, by
  intro w hw
  obtain ⟨k, hk, rfl⟩ := List.mem_map.mp hw
  have hk := List.mem_range.mp hk
  rcases (show k = 0 ∨ k = 1 ∨ k = 2 by omega) with rfl | rfl | rfl
  · exact pw_inT 214 (by decide +kernel) (by decide +kernel)
  · exact pw_inT 216 (by decide +kernel) (by decide +kernel)
  · exact pw_inT 218 (by decide +kernel) (by decide +kernel)
  , tyX1_ok, nmX1⟩
theorem cfX2 : pw_CF 2 RX2 TX2 3 tyX2 := ⟨rfl, by
  intro w hw
  obtain ⟨k, hk, rfl⟩ := List.mem_map.mp hw
  have hk := List.mem_range.mp hk
  rcases (show k = 0 ∨ k = 1 ∨ k = 2 by omega) with rfl | rfl | rfl
  · exact pw_inT 198 (by decide +kernel) (by decide +kernel)
  · exact pw_inT 200 (by decide +kernel) (by decide +kernel)
  · exact pw_inT 202 (by decide +kernel) (by decide +kernel)
  , tyX2_ok, nmX2⟩
theorem cfX4 : pw_CF 3 RX4 TX4 4 tyX4 := ⟨rfl, by
  intro w hw
  obtain ⟨k, hk, rfl⟩ := List.mem_map.mp hw
  have hk := List.mem_range.mp hk
  rcases (show k = 0 ∨ k = 1 ∨ k = 2 ∨ k = 3 by omega) with rfl | rfl | rfl | rfl
  · exact pw_inT 144 (by decide +kernel) (by decide +kernel)
  · exact pw_inT 146 (by decide +kernel) (by decide +kernel)
  · exact pw_inT 148 (by decide +kernel) (by decide +kernel)
  · exact pw_inT 150 (by decide +kernel) (by decide +kernel)
  , tyX4_ok, nmX4⟩
theorem cfX5 : pw_CF 4 RX5 TX5 6 tyX5 := ⟨rfl, by
  intro w hw
  obtain ⟨k, hk, rfl⟩ := List.mem_map.mp hw
  have hk := List.mem_range.mp hk
  rcases (show k = 0 ∨ k = 1 ∨ k = 2 ∨ k = 3 ∨ k = 4 ∨ k = 5 by omega) with rfl | rfl | rfl | rfl | rfl | rfl
  · exact pw_inT 244 (by decide +kernel) (by decide +kernel)
  · exact pw_inT 246 (by decide +kernel) (by decide +kernel)
  · exact pw_inT 248 (by decide +kernel) (by decide +kernel)
  · exact pw_inT 250 (by decide +kernel) (by decide +kernel)
  · exact pw_inT 252 (by decide +kernel) (by decide +kernel)
  · exact pw_inT 254 (by decide +kernel) (by decide +kernel)
  , tyX5_ok, nmX5⟩
theorem cfX6 : pw_CF 5 RX6 TX6 2 tyX6 := ⟨rfl, by
  intro w hw
  obtain ⟨k, hk, rfl⟩ := List.mem_map.mp hw
  have hk := List.mem_range.mp hk
  rcases (show k = 0 ∨ k = 1 by omega) with rfl | rfl
  · exact pw_inT 174 (by decide +kernel) (by decide +kernel)
  · exact pw_inT 176 (by decide +kernel) (by decide +kernel)
  , tyX6_ok, nmX6⟩
theorem cfX7 : pw_CF 6 RX7 TX7 16 tyX7 := ⟨rfl, by
  intro w hw
  obtain ⟨k, hk, rfl⟩ := List.mem_map.mp hw
  have hk := List.mem_range.mp hk
  rcases (show k = 0 ∨ k = 1 ∨ k = 2 ∨ k = 3 ∨ k = 4 ∨ k = 5 ∨ k = 6 ∨ k = 7 ∨ k = 8 ∨ k = 9 ∨ k = 10 ∨ k = 11 ∨ k = 12 ∨ k = 13 ∨ k = 14 ∨ k = 15 by omega) with rfl | rfl | rfl | rfl | rfl | rfl | rfl | rfl | rfl | rfl | rfl | rfl | rfl | rfl | rfl | rfl
  · exact pw_inT 98 (by decide +kernel) (by decide +kernel)
  · exact pw_inT 100 (by decide +kernel) (by decide +kernel)
  · exact pw_inT 102 (by decide +kernel) (by decide +kernel)
  · exact pw_inT 104 (by decide +kernel) (by decide +kernel)
  · exact pw_inT 106 (by decide +kernel) (by decide +kernel)
  · exact pw_inT 108 (by decide +kernel) (by decide +kernel)
  · exact pw_inT 110 (by decide +kernel) (by decide +kernel)
  · exact pw_inT 112 (by decide +kernel) (by decide +kernel)
  · exact pw_inT 114 (by decide +kernel) (by decide +kernel)
  · exact pw_inT 116 (by decide +kernel) (by decide +kernel)
  · exact pw_inT 118 (by decide +kernel) (by decide +kernel)
  · exact pw_inT 120 (by decide +kernel) (by decide +kernel)
  · exact pw_inT 122 (by decide +kernel) (by decide +kernel)
  · exact pw_inT 124 (by decide +kernel) (by decide +kernel)
  · exact pw_inT 126 (by decide +kernel) (by decide +kernel)
  · exact pw_inT 128 (by decide +kernel) (by decide +kernel)
  , tyX7_ok, nmX7⟩
theorem cfX9 : pw_CF 7 RX9 TX9 2 tyX9 := ⟨rfl, by
  intro w hw
  obtain ⟨k, hk, rfl⟩ := List.mem_map.mp hw
  have hk := List.mem_range.mp hk
  rcases (show k = 0 ∨ k = 1 by omega) with rfl | rfl
  · exact pw_inT 161 (by decide +kernel) (by decide +kernel)
  · exact pw_inT 163 (by decide +kernel) (by decide +kernel)
  , tyX9_ok, nmX9⟩
theorem cfX10 : pw_CF 8 RX10 TX10 11 tyX10 := ⟨rfl, by
  intro w hw
  obtain ⟨k, hk, rfl⟩ := List.mem_map.mp hw
  have hk := List.mem_range.mp hk
  rcases (show k = 0 ∨ k = 1 ∨ k = 2 ∨ k = 3 ∨ k = 4 ∨ k = 5 ∨ k = 6 ∨ k = 7 ∨ k = 8 ∨ k = 9 ∨ k = 10 by omega) with rfl | rfl | rfl | rfl | rfl | rfl | rfl | rfl | rfl | rfl | rfl
  · exact pw_inT 268 (by decide +kernel) (by decide +kernel)
  · exact pw_inT 270 (by decide +kernel) (by decide +kernel)
  · exact pw_inT 272 (by decide +kernel) (by decide +kernel)
  · exact pw_inT 274 (by decide +kernel) (by decide +kernel)
  · exact pw_inT 276 (by decide +kernel) (by decide +kernel)
  · exact pw_inT 278 (by decide +kernel) (by decide +kernel)
  · exact pw_inT 280 (by decide +kernel) (by decide +kernel)
  · exact pw_inT 282 (by decide +kernel) (by decide +kernel)
  · exact pw_inT 284 (by decide +kernel) (by decide +kernel)
  · exact pw_inT 286 (by decide +kernel) (by decide +kernel)
  · exact pw_inT 288 (by decide +kernel) (by decide +kernel)
  , tyX10_ok, nmX10⟩
theorem cfX11 : pw_CF 9 RX11 TX11 22 tyX11 := ⟨rfl, by
  intro w hw
  obtain ⟨k, hk, rfl⟩ := List.mem_map.mp hw
  have hk := List.mem_range.mp hk
  rcases (show k = 0 ∨ k = 1 ∨ k = 2 ∨ k = 3 ∨ k = 4 ∨ k = 5 ∨ k = 6 ∨ k = 7 ∨ k = 8 ∨ k = 9 ∨ k = 10 ∨ k = 11 ∨ k = 12 ∨ k = 13 ∨ k = 14 ∨ k = 15 ∨ k = 16 ∨ k = 17 ∨ k = 18 ∨ k = 19 ∨ k = 20 ∨ k = 21 by omega) with rfl | rfl | rfl | rfl | rfl | rfl | rfl | rfl | rfl | rfl | rfl | rfl | rfl | rfl | rfl | rfl | rfl | rfl | rfl | rfl | rfl | rfl
  · exact pw_inT 1128 (by decide +kernel) (by decide +kernel)
  · exact pw_inT 1130 (by decide +kernel) (by decide +kernel)
  · exact pw_inT 1132 (by decide +kernel) (by decide +kernel)
  · exact pw_inT 1134 (by decide +kernel) (by decide +kernel)
  · exact pw_inT 1136 (by decide +kernel) (by decide +kernel)
  · exact pw_inT 1138 (by decide +kernel) (by decide +kernel)
  · exact pw_inT 1140 (by decide +kernel) (by decide +kernel)
  · exact pw_inT 1142 (by decide +kernel) (by decide +kernel)
  · exact pw_inT 1144 (by decide +kernel) (by decide +kernel)
  · exact pw_inT 1146 (by decide +kernel) (by decide +kernel)
  · exact pw_inT 1148 (by decide +kernel) (by decide +kernel)
  · exact pw_inT 1150 (by decide +kernel) (by decide +kernel)
  · exact pw_inT 1152 (by decide +kernel) (by decide +kernel)
  · exact pw_inT 1154 (by decide +kernel) (by decide +kernel)
  · exact pw_inT 1156 (by decide +kernel) (by decide +kernel)
  · exact pw_inT 1158 (by decide +kernel) (by decide +kernel)
  · exact pw_inT 1160 (by decide +kernel) (by decide +kernel)
  · exact pw_inT 1162 (by decide +kernel) (by decide +kernel)
  · exact pw_inT 1164 (by decide +kernel) (by decide +kernel)
  · exact pw_inT 1166 (by decide +kernel) (by decide +kernel)
  · exact pw_inT 1168 (by decide +kernel) (by decide +kernel)
  · exact pw_inT 1170 (by decide +kernel) (by decide +kernel)
  , tyX11_ok, nmX11⟩
theorem klJ6_265 : Cond.constant RJ6 265 (1431655765 : Int32) ∈ pw_LG := pw_inT 396 (by decide +kernel) (by decide +kernel)
theorem klJ6_266 : Cond.constant RJ6 266 (858993459 : Int32) ∈ pw_LG := pw_inT 397 (by decide +kernel) (by decide +kernel)
theorem klJ6_267 : Cond.constant RJ6 267 (252645135 : Int32) ∈ pw_LG := pw_inT 398 (by decide +kernel) (by decide +kernel)
theorem flX0_15 : pw_FL RX0 15 TX7 11 := pw_inT 72 (by decide +kernel) (by decide +kernel)
theorem flX0_39 : pw_FL RX0 39 TX7 12 := pw_inT 81 (by decide +kernel) (by decide +kernel)
theorem flX0_42 : pw_FL RX0 42 TX7 5 := pw_inT 56 (by decide +kernel) (by decide +kernel)
theorem flX0_50 : pw_FL RX0 50 TX7 6 := pw_inT 61 (by decide +kernel) (by decide +kernel)
theorem flX0_53 : pw_FL RX0 53 TX7 13 := pw_inT 88 (by decide +kernel) (by decide +kernel)
theorem flX0_9 : pw_FL RX0 9 TX0 0 := pw_inT 185 (by decide +kernel) (by decide +kernel)
theorem mlX0_31 : Cond.methodLink RX0 31 Lib.Math.max.name ∈ pw_LG := pw_inT 695 (by decide +kernel) (by decide +kernel)
theorem ms_max : Cond.static Lib.Math.max.name ∈ pw_LG := pw_inT 654 (by decide +kernel) (by decide +kernel)
theorem mc_max : Cond.code Lib.Math.max.name Lib.Math.max.code 2 (some .int) ∈ pw_LG := pw_inT 655 (by decide +kernel) (by decide +kernel)
theorem mlX0_21 : Cond.methodLink RX0 21 yX0_clanOf ∈ pw_LG := pw_inT 682 (by decide +kernel) (by decide +kernel)
theorem mlX0_25 : Cond.methodLink RX0 25 yJ6_bitCount_0f7a4 ∈ pw_LG := pw_inT 694 (by decide +kernel) (by decide +kernel)
theorem mlX0_36 : Cond.methodLink RX0 36 yX0_tiedTo ∈ pw_LG := pw_inT 686 (by decide +kernel) (by decide +kernel)
theorem mlX0_46 : Cond.methodLink RX0 46 yX7_isSnapped ∈ pw_LG := pw_inT 712 (by decide +kernel) (by decide +kernel)
theorem mlX0_56 : Cond.methodLink RX0 56 yX7_snappedCount ∈ pw_LG := pw_inT 844 (by decide +kernel) (by decide +kernel)
theorem mlX0_60 : Cond.methodLink RX0 60 yX0_power ∈ pw_LG := pw_inT 834 (by decide +kernel) (by decide +kernel)
theorem mlX0_64 : Cond.methodLink RX0 64 yX0_waysTied ∈ pw_LG := pw_inT 824 (by decide +kernel) (by decide +kernel)
theorem mlX0_68 : Cond.methodLink RX0 68 yX0_isOneClan ∈ pw_LG := pw_inT 827 (by decide +kernel) (by decide +kernel)
theorem mlX0_72 : Cond.methodLink RX0 72 yX0_labelOf ∈ pw_LG := pw_inT 831 (by decide +kernel) (by decide +kernel)
theorem mlX0_75 : Cond.methodLink RX0 75 yX0_merged ∈ pw_LG := pw_inT 837 (by decide +kernel) (by decide +kernel)
theorem mlX0_79 : Cond.methodLinkNest RX0 79 yX10_lowestOf "RubberBandsHoldFamilies" ∈ pw_LG := pw_inT 830 (by decide +kernel) (by decide +kernel)
theorem klX1_65 : Cond.constant RX1 65 (1103515245 : Int32) ∈ pw_LG := pw_inT 909 (by decide +kernel) (by decide +kernel)
theorem klX1_66 : Cond.constant RX1 66 (2147483647 : Int32) ∈ pw_LG := pw_inT 910 (by decide +kernel) (by decide +kernel)
theorem klX1_67 : Cond.constant RX1 67 (65536 : Int32) ∈ pw_LG := pw_inT 911 (by decide +kernel) (by decide +kernel)
theorem flX1_15 : pw_FL RX1 15 TX1 1 := pw_inT 212 (by decide +kernel) (by decide +kernel)
theorem flX1_18 : pw_FL RX1 18 TX5 5 := pw_inT 238 (by decide +kernel) (by decide +kernel)
theorem flX1_46 : pw_FL RX1 46 TX1 2 := pw_inT 213 (by decide +kernel) (by decide +kernel)
theorem flX1_59 : pw_FL RX1 59 TX7 11 := pw_inT 75 (by decide +kernel) (by decide +kernel)
theorem flX1_9 : pw_FL RX1 9 TX1 0 := pw_inT 211 (by decide +kernel) (by decide +kernel)
theorem mlX1_24 : Cond.methodLink RX1 24 yX5_at ∈ pw_LG := pw_inT 873 (by decide +kernel) (by decide +kernel)
theorem mlX1_28 : Cond.methodLink RX1 28 yX7_isPerson ∈ pw_LG := pw_inT 874 (by decide +kernel) (by decide +kernel)
theorem mlX1_34 : Cond.methodLinkNest RX1 34 yX10_isUpTo "RubberBandsHoldFamilies" ∈ pw_LG := pw_inT 875 (by decide +kernel) (by decide +kernel)
theorem mlX1_38 : Cond.methodLink RX1 38 yX7_becomes ∈ pw_LG := pw_inT 880 (by decide +kernel) (by decide +kernel)
theorem mlX1_42 : Cond.methodLink RX1 42 yX7_moves ∈ pw_LG := pw_inT 881 (by decide +kernel) (by decide +kernel)
theorem mlX1_49 : Cond.methodLink RX1 49 yX1_liveOne ∈ pw_LG := pw_inT 901 (by decide +kernel) (by decide +kernel)
theorem mlX1_52 : Cond.methodLink RX1 52 yX7_snappedCount ∈ pw_LG := pw_inT 912 (by decide +kernel) (by decide +kernel)
theorem mlX1_56 : Cond.methodLink RX1 56 yX7_allStung ∈ pw_LG := pw_inT 913 (by decide +kernel) (by decide +kernel)
theorem mlX1_62 : Cond.methodLink RX1 62 yX1_drawBelow ∈ pw_LG := pw_inT 905 (by decide +kernel) (by decide +kernel)
theorem mlX10_365 : Cond.methodLink RX10 365 arraycopyName ∈ pw_LG := pw_inT 967 (by decide +kernel) (by decide +kernel)
theorem ms_acopy : Cond.static arraycopyName ∈ pw_LG := pw_inT 968 (by decide +kernel) (by decide +kernel)
theorem mn_acopy : Cond.native arraycopyName ∈ pw_LG := pw_inT 969 (by decide +kernel) (by decide +kernel)
theorem ms_system : Cond.initialized "java/lang/System" ∈ pw_LG := pw_inT 20 (by decide +kernel) (by decide +kernel)
theorem klX10_285 : Cond.constantLong RX10 285 (1000000001 : Int64) ∈ pw_LG := pw_inT 819 (by decide +kernel) (by decide +kernel)
theorem flX10_10 : pw_FL RX10 10 TX10 0 := pw_inT 257 (by decide +kernel) (by decide +kernel)
theorem flX10_109 : pw_FL RX10 109 TX7 0 := pw_inT 38 (by decide +kernel) (by decide +kernel)
theorem flX10_113 : pw_FL RX10 113 TX7 1 := pw_inT 42 (by decide +kernel) (by decide +kernel)
theorem flX10_123 : pw_FL RX10 123 TX7 3 := pw_inT 47 (by decide +kernel) (by decide +kernel)
theorem flX10_126 : pw_FL RX10 126 TX7 4 := pw_inT 51 (by decide +kernel) (by decide +kernel)
theorem flX10_129 : pw_FL RX10 129 TX7 5 := pw_inT 55 (by decide +kernel) (by decide +kernel)
theorem flX10_132 : pw_FL RX10 132 TX7 6 := pw_inT 60 (by decide +kernel) (by decide +kernel)
theorem flX10_135 : pw_FL RX10 135 TX7 7 := pw_inT 66 (by decide +kernel) (by decide +kernel)
theorem flX10_147 : pw_FL RX10 147 TX7 14 := pw_inT 94 (by decide +kernel) (by decide +kernel)
theorem flX10_158 : pw_FL RX10 158 TX7 11 := pw_inT 74 (by decide +kernel) (by decide +kernel)
theorem flX10_16 : pw_FL RX10 16 TX10 1 := pw_inT 258 (by decide +kernel) (by decide +kernel)
theorem flX10_173 : pw_FL RX10 173 TX7 12 := pw_inT 82 (by decide +kernel) (by decide +kernel)
theorem flX10_176 : pw_FL RX10 176 TX5 2 := pw_inT 233 (by decide +kernel) (by decide +kernel)
theorem flX10_178 : pw_FL RX10 178 TX5 3 := pw_inT 235 (by decide +kernel) (by decide +kernel)
theorem flX10_19 : pw_FL RX10 19 TX10 2 := pw_inT 259 (by decide +kernel) (by decide +kernel)
theorem flX10_190 : pw_FL RX10 190 TX7 15 := pw_inT 96 (by decide +kernel) (by decide +kernel)
theorem flX10_201 : pw_FL RX10 201 TX7 13 := pw_inT 89 (by decide +kernel) (by decide +kernel)
theorem flX10_27 : pw_FL RX10 27 TX10 3 := pw_inT 260 (by decide +kernel) (by decide +kernel)
theorem flX10_319 : pw_FL RX10 319 TX10 10 := pw_inT 267 (by decide +kernel) (by decide +kernel)
theorem flX10_329 : pw_FL RX10 329 TX5 1 := pw_inT 231 (by decide +kernel) (by decide +kernel)
theorem flX10_34 : pw_FL RX10 34 TX10 4 := pw_inT 261 (by decide +kernel) (by decide +kernel)
theorem flX10_362 : pw_FL RX10 362 TX5 0 := pw_inT 229 (by decide +kernel) (by decide +kernel)
theorem flX10_43 : pw_FL RX10 43 TX10 5 := pw_inT 262 (by decide +kernel) (by decide +kernel)
theorem flX10_50 : pw_FL RX10 50 TX10 6 := pw_inT 263 (by decide +kernel) (by decide +kernel)
theorem flX10_57 : pw_FL RX10 57 TX10 7 := pw_inT 264 (by decide +kernel) (by decide +kernel)
theorem flX10_64 : pw_FL RX10 64 TX10 8 := pw_inT 265 (by decide +kernel) (by decide +kernel)
theorem flX10_70 : pw_FL RX10 70 TX10 9 := pw_inT 266 (by decide +kernel) (by decide +kernel)
theorem flX10_79 : pw_FL RX10 79 TX5 4 := pw_inT 236 (by decide +kernel) (by decide +kernel)
theorem flX10_92 : pw_FL RX10 92 TX5 5 := pw_inT 239 (by decide +kernel) (by decide +kernel)
theorem mlX10_101 : Cond.methodLink RX10 101 yX8_happens ∈ pw_LG := pw_inT 326 (by decide +kernel) (by decide +kernel)
theorem mlX10_105 : Cond.methodLink RX10 105 yX7_isPerson ∈ pw_LG := pw_inT 445 (by decide +kernel) (by decide +kernel)
theorem mlX10_116 : Cond.methodLink RX10 116 yX7_pulled ∈ pw_LG := pw_inT 446 (by decide +kernel) (by decide +kernel)
theorem mlX10_120 : Cond.methodLink RX10 120 yX7_isBand ∈ pw_LG := pw_inT 454 (by decide +kernel) (by decide +kernel)
theorem mlX10_138 : Cond.methodLink RX10 138 yX7_isSnapped ∈ pw_LG := pw_inT 455 (by decide +kernel) (by decide +kernel)
theorem mlX10_141 : Cond.methodLink RX10 141 yX7_stretch ∈ pw_LG := pw_inT 456 (by decide +kernel) (by decide +kernel)
theorem mlX10_144 : Cond.methodLink RX10 144 yX7_pull ∈ pw_LG := pw_inT 457 (by decide +kernel) (by decide +kernel)
theorem mlX10_150 : Cond.methodLink RX10 150 yX7_holdsAt ∈ pw_LG := pw_inT 458 (by decide +kernel) (by decide +kernel)
theorem mlX10_154 : Cond.methodLink RX10 154 yX10_isUpTo ∈ pw_LG := pw_inT 463 (by decide +kernel) (by decide +kernel)
theorem mlX10_161 : Cond.methodLink RX10 161 yX7_addPerson ∈ pw_LG := pw_inT 464 (by decide +kernel) (by decide +kernel)
theorem mlX10_164 : Cond.methodLink RX10 164 yX10_isShelf ∈ pw_LG := pw_inT 303 (by decide +kernel) (by decide +kernel)
theorem mlX10_167 : Cond.methodLink RX10 167 yX7_areTwo ∈ pw_LG := pw_inT 469 (by decide +kernel) (by decide +kernel)
theorem mlX10_170 : Cond.methodLink RX10 170 yX10_kindRefusal ∈ pw_LG := pw_inT 470 (by decide +kernel) (by decide +kernel)
theorem mlX10_180 : Cond.methodLink RX10 180 yX7_addBand ∈ pw_LG := pw_inT 474 (by decide +kernel) (by decide +kernel)
theorem mlX10_184 : Cond.methodLink RX10 184 yX7_moves ∈ pw_LG := pw_inT 479 (by decide +kernel) (by decide +kernel)
theorem mlX10_187 : Cond.methodLink RX10 187 yX7_chills ∈ pw_LG := pw_inT 484 (by decide +kernel) (by decide +kernel)
theorem mlX10_193 : Cond.methodLink RX10 193 yX7_snappedCount ∈ pw_LG := pw_inT 489 (by decide +kernel) (by decide +kernel)
theorem mlX10_197 : Cond.methodLink RX10 197 yX7_passYears ∈ pw_LG := pw_inT 493 (by decide +kernel) (by decide +kernel)
theorem mlX10_204 : Cond.methodLink RX10 204 yX4_endOfTheRoad ∈ pw_LG := pw_inT 506 (by decide +kernel) (by decide +kernel)
theorem mlX10_207 : Cond.methodLink RX10 207 yX4_restingPlace ∈ pw_LG := pw_inT 517 (by decide +kernel) (by decide +kernel)
theorem mlX10_210 : Cond.methodLink RX10 210 yX9_townIn ∈ pw_LG := pw_inT 531 (by decide +kernel) (by decide +kernel)
theorem mlX10_214 : Cond.methodLink RX10 214 yX9_yearsToStillness ∈ pw_LG := pw_inT 545 (by decide +kernel) (by decide +kernel)
theorem mlX10_217 : Cond.methodLink RX10 217 yX9_firstToSnap ∈ pw_LG := pw_inT 554 (by decide +kernel) (by decide +kernel)
theorem mlX10_221 : Cond.methodLink RX10 221 yX4_meetingPlace ∈ pw_LG := pw_inT 565 (by decide +kernel) (by decide +kernel)
theorem mlX10_224 : Cond.methodLink RX10 224 yX4_farTo ∈ pw_LG := pw_inT 573 (by decide +kernel) (by decide +kernel)
theorem mlX10_227 : Cond.methodLink RX10 227 yX4_snappedByMeeting ∈ pw_LG := pw_inT 574 (by decide +kernel) (by decide +kernel)
theorem mlX10_230 : Cond.methodLink RX10 230 yX4_weighOrders ∈ pw_LG := pw_inT 584 (by decide +kernel) (by decide +kernel)
theorem mlX10_233 : Cond.methodLink RX10 233 yX4_fewestSnapped ∈ pw_LG := pw_inT 607 (by decide +kernel) (by decide +kernel)
theorem mlX10_236 : Cond.methodLink RX10 236 yX4_inOrder ∈ pw_LG := pw_inT 611 (by decide +kernel) (by decide +kernel)
theorem mlX10_239 : Cond.methodLink RX10 239 yX4_snappedByGoing ∈ pw_LG := pw_inT 623 (by decide +kernel) (by decide +kernel)
theorem mlX10_242 : Cond.methodLink RX10 242 yX6_howMany ∈ pw_LG := pw_inT 631 (by decide +kernel) (by decide +kernel)
theorem mlX10_245 : Cond.methodLink RX10 245 yX6_firstTwo ∈ pw_LG := pw_inT 657 (by decide +kernel) (by decide +kernel)
theorem mlX10_248 : Cond.methodLink RX10 248 yX6_fewestInTheWay ∈ pw_LG := pw_inT 666 (by decide +kernel) (by decide +kernel)
theorem mlX10_251 : Cond.methodLink RX10 251 yX0_howMany ∈ pw_LG := pw_inT 678 (by decide +kernel) (by decide +kernel)
theorem mlX10_252 : Cond.methodLink RX10 252 yX0_greatest ∈ pw_LG := pw_inT 690 (by decide +kernel) (by decide +kernel)
theorem mlX10_255 : Cond.methodLink RX10 255 yX0_bandsBetween ∈ pw_LG := pw_inT 700 (by decide +kernel) (by decide +kernel)
theorem mlX10_258 : Cond.methodLink RX10 258 yX0_dividing ∈ pw_LG := pw_inT 708 (by decide +kernel) (by decide +kernel)
theorem mlX10_261 : Cond.methodLink RX10 261 yX2_bestRenewed ∈ pw_LG := pw_inT 717 (by decide +kernel) (by decide +kernel)
theorem mlX10_264 : Cond.methodLink RX10 264 yX2_spareWith ∈ pw_LG := pw_inT 727 (by decide +kernel) (by decide +kernel)
theorem mlX10_267 : Cond.methodLink RX10 267 yX2_firstFrost ∈ pw_LG := pw_inT 737 (by decide +kernel) (by decide +kernel)
theorem mlX10_270 : Cond.methodLink RX10 270 yX2_goneBy ∈ pw_LG := pw_inT 747 (by decide +kernel) (by decide +kernel)
theorem mlX10_273 : Cond.methodLink RX10 273 yJ6_bitCount_0f7a4 ∈ pw_LG := pw_inT 764 (by decide +kernel) (by decide +kernel)
theorem mlX10_278 : Cond.methodLink RX10 278 yX2_kindsPullingAs ∈ pw_LG := pw_inT 769 (by decide +kernel) (by decide +kernel)
theorem mlX10_282 : Cond.methodLink RX10 282 yX2_restingChoices ∈ pw_LG := pw_inT 785 (by decide +kernel) (by decide +kernel)
theorem mlX10_287 : Cond.methodLink RX10 287 yX0_waysStillTied ∈ pw_LG := pw_inT 820 (by decide +kernel) (by decide +kernel)
theorem mlX10_291 : Cond.methodLink RX10 291 yX0_allWays ∈ pw_LG := pw_inT 840 (by decide +kernel) (by decide +kernel)
theorem mlX10_295 : Cond.methodLink RX10 295 yX10_partOfFraction ∈ pw_LG := pw_inT 845 (by decide +kernel) (by decide +kernel)
theorem mlX10_299 : Cond.methodLink RX10 299 yX7_stretchOfWhole ∈ pw_LG := pw_inT 852 (by decide +kernel) (by decide +kernel)
theorem mlX10_302 : Cond.methodLink RX10 302 yX4_farthestTwo ∈ pw_LG := pw_inT 860 (by decide +kernel) (by decide +kernel)
theorem mlX10_305 : Cond.methodLink RX10 305 yX1_areGoings ∈ pw_LG := pw_inT 869 (by decide +kernel) (by decide +kernel)
theorem mlX10_309 : Cond.methodLink RX10 309 yX1_firstSnapping ∈ pw_LG := pw_inT 876 (by decide +kernel) (by decide +kernel)
theorem mlX10_312 : Cond.methodLink RX10 312 yX9_firstUntrue ∈ pw_LG := pw_inT 886 (by decide +kernel) (by decide +kernel)
theorem mlX10_315 : Cond.methodLink RX10 315 yX1_harmOf ∈ pw_LG := pw_inT 897 (by decide +kernel) (by decide +kernel)
theorem mlX10_323 : Cond.methodLink RX10 323 yX7_allStung ∈ pw_LG := pw_inT 929 (by decide +kernel) (by decide +kernel)
theorem mlX10_326 : Cond.methodLink RX10 326 yX7_allPull ∈ pw_LG := pw_inT 930 (by decide +kernel) (by decide +kernel)
theorem mlX10_334 : Cond.methodLink RX10 334 yX5_keepKind ∈ pw_LG := pw_inT 938 (by decide +kernel) (by decide +kernel)
theorem mlX10_338 : Cond.methodLink RX10 338 yX5_keepRow ∈ pw_LG := pw_inT 946 (by decide +kernel) (by decide +kernel)
theorem mlX10_341 : Cond.methodLink RX10 341 yX5_hasPlace ∈ pw_LG := pw_inT 954 (by decide +kernel) (by decide +kernel)
theorem mlX10_344 : Cond.methodLink RX10 344 yX5_take ∈ pw_LG := pw_inT 955 (by decide +kernel) (by decide +kernel)
theorem mlX10_359 : Cond.methodLink RX10 359 yX5_hasPart ∈ pw_LG := pw_inT 963 (by decide +kernel) (by decide +kernel)
theorem mlX10_371 : Cond.methodLink RX10 371 yX3_costs ∈ pw_LG := pw_inT 974 (by decide +kernel) (by decide +kernel)
theorem mlX10_379 : Cond.methodLink RX10 379 yX10_heldRefusal ∈ pw_LG := pw_inT 299 (by decide +kernel) (by decide +kernel)
theorem mlX10_75 : Cond.methodLink RX10 75 yX10_rowRefusal ∈ pw_LG := pw_inT 295 (by decide +kernel) (by decide +kernel)
theorem mlX10_83 : Cond.methodLink RX10 83 yX8_formFault ∈ pw_LG := pw_inT 306 (by decide +kernel) (by decide +kernel)
theorem mlX10_89 : Cond.methodLink RX10 89 yX7_becomes ∈ pw_LG := pw_inT 320 (by decide +kernel) (by decide +kernel)
theorem mlX10_95 : Cond.methodLink RX10 95 yX5_at ∈ pw_LG := pw_inT 324 (by decide +kernel) (by decide +kernel)
theorem mlX10_98 : Cond.methodLink RX10 98 yX8_digitsBehind ∈ pw_LG := pw_inT 325 (by decide +kernel) (by decide +kernel)
theorem klX11_186 : Cond.constant RX11 186 (1000000000 : Int32) ∈ pw_LG := pw_inT 1341 (by decide +kernel) (by decide +kernel)
theorem klX11_224 : Cond.constant RX11 224 (-2147483648 : Int32) ∈ pw_LG := pw_inT 1448 (by decide +kernel) (by decide +kernel)
theorem klX11_248 : Cond.constant RX11 248 (1103515245 : Int32) ∈ pw_LG := pw_inT 1496 (by decide +kernel) (by decide +kernel)
theorem klX11_249 : Cond.constant RX11 249 (2147483647 : Int32) ∈ pw_LG := pw_inT 1497 (by decide +kernel) (by decide +kernel)
theorem klX11_250 : Cond.constant RX11 250 (65536 : Int32) ∈ pw_LG := pw_inT 1498 (by decide +kernel) (by decide +kernel)
theorem klX11_239 : Cond.constantLong RX11 239 (1000000001 : Int64) ∈ pw_LG := pw_inT 1465 (by decide +kernel) (by decide +kernel)
theorem flX11_123 : pw_FL RX11 123 TX11 6 := pw_inT 1112 (by decide +kernel) (by decide +kernel)
theorem flX11_127 : pw_FL RX11 127 TX11 8 := pw_inT 1114 (by decide +kernel) (by decide +kernel)
theorem flX11_13 : pw_FL RX11 13 TX11 1 := pw_inT 1107 (by decide +kernel) (by decide +kernel)
theorem flX11_130 : pw_FL RX11 130 TX11 7 := pw_inT 1113 (by decide +kernel) (by decide +kernel)
theorem flX11_16 : pw_FL RX11 16 TX11 2 := pw_inT 1108 (by decide +kernel) (by decide +kernel)
theorem flX11_19 : pw_FL RX11 19 TX11 3 := pw_inT 1109 (by decide +kernel) (by decide +kernel)
theorem flX11_196 : pw_FL RX11 196 TX11 12 := pw_inT 1118 (by decide +kernel) (by decide +kernel)
theorem flX11_199 : pw_FL RX11 199 TX11 13 := pw_inT 1119 (by decide +kernel) (by decide +kernel)
theorem flX11_22 : pw_FL RX11 22 TX11 4 := pw_inT 1110 (by decide +kernel) (by decide +kernel)
theorem flX11_245 : pw_FL RX11 245 TX11 14 := pw_inT 1120 (by decide +kernel) (by decide +kernel)
theorem flX11_25 : pw_FL RX11 25 TX11 9 := pw_inT 1115 (by decide +kernel) (by decide +kernel)
theorem flX11_257 : pw_FL RX11 257 TX11 5 := pw_inT 1111 (by decide +kernel) (by decide +kernel)
theorem flX11_261 : pw_FL RX11 261 TX11 21 := pw_inT 1127 (by decide +kernel) (by decide +kernel)
theorem flX11_28 : pw_FL RX11 28 TX11 10 := pw_inT 1116 (by decide +kernel) (by decide +kernel)
theorem flX11_31 : pw_FL RX11 31 TX11 11 := pw_inT 1117 (by decide +kernel) (by decide +kernel)
theorem flX11_34 : pw_FL RX11 34 TX11 15 := pw_inT 1121 (by decide +kernel) (by decide +kernel)
theorem flX11_37 : pw_FL RX11 37 TX11 16 := pw_inT 1122 (by decide +kernel) (by decide +kernel)
theorem flX11_40 : pw_FL RX11 40 TX11 17 := pw_inT 1123 (by decide +kernel) (by decide +kernel)
theorem flX11_43 : pw_FL RX11 43 TX11 18 := pw_inT 1124 (by decide +kernel) (by decide +kernel)
theorem flX11_46 : pw_FL RX11 46 TX11 19 := pw_inT 1125 (by decide +kernel) (by decide +kernel)
theorem flX11_49 : pw_FL RX11 49 TX11 20 := pw_inT 1126 (by decide +kernel) (by decide +kernel)
theorem flX11_9 : pw_FL RX11 9 TX11 0 := pw_inT 1106 (by decide +kernel) (by decide +kernel)
theorem mlX11_101 : Cond.methodLink RX11 101 yX11_isRound ∈ pw_LG := pw_inT 1274 (by decide +kernel) (by decide +kernel)
theorem mlX11_105 : Cond.methodLink RX11 105 yX11_pull ∈ pw_LG := pw_inT 1277 (by decide +kernel) (by decide +kernel)
theorem mlX11_108 : Cond.methodLink RX11 108 yX11_tries ∈ pw_LG := pw_inT 1228 (by decide +kernel) (by decide +kernel)
theorem mlX11_112 : Cond.methodLink RX11 112 yX11_copies ∈ pw_LG := pw_inT 1199 (by decide +kernel) (by decide +kernel)
theorem mlX11_116 : Cond.methodLink RX11 116 yX11_pulled ∈ pw_LG := pw_inT 1271 (by decide +kernel) (by decide +kernel)
theorem mlX11_120 : Cond.methodLink RX11 120 yX11_snappedSet ∈ pw_LG := pw_inT 1326 (by decide +kernel) (by decide +kernel)
theorem mlX11_133 : Cond.methodLink RX11 133 yX11_here ∈ pw_LG := pw_inT 1191 (by decide +kernel) (by decide +kernel)
theorem mlX11_137 : Cond.methodLink RX11 137 yX11_readsNumber ∈ pw_LG := pw_inT 1195 (by decide +kernel) (by decide +kernel)
theorem mlX11_140 : Cond.methodLink RX11 140 yX11_isPerson ∈ pw_LG := pw_inT 1217 (by decide +kernel) (by decide +kernel)
theorem mlX11_144 : Cond.methodLink RX11 144 yX11_isPlace ∈ pw_LG := pw_inT 1206 (by decide +kernel) (by decide +kernel)
theorem mlX11_147 : Cond.methodLink RX11 147 yX11_addsPerson ∈ pw_LG := pw_inT 1209 (by decide +kernel) (by decide +kernel)
theorem mlX11_151 : Cond.methodLink RX11 151 yX11_areTwo ∈ pw_LG := pw_inT 1213 (by decide +kernel) (by decide +kernel)
theorem mlX11_154 : Cond.methodLink RX11 154 yX11_adds ∈ pw_LG := pw_inT 1221 (by decide +kernel) (by decide +kernel)
theorem mlX11_158 : Cond.methodLink RX11 158 yX11_goesTo ∈ pw_LG := pw_inT 1264 (by decide +kernel) (by decide +kernel)
theorem mlX11_161 : Cond.methodLink RX11 161 yX11_year ∈ pw_LG := pw_inT 1267 (by decide +kernel) (by decide +kernel)
theorem mlX11_164 : Cond.methodLink RX11 164 yX11_isBand ∈ pw_LG := pw_inT 1283 (by decide +kernel) (by decide +kernel)
theorem mlX11_167 : Cond.methodLink RX11 167 yX11_wrongRow ∈ pw_LG := pw_inT 1177 (by decide +kernel) (by decide +kernel)
theorem mlX11_170 : Cond.methodLink RX11 170 yX11_readsStatement ∈ pw_LG := pw_inT 1187 (by decide +kernel) (by decide +kernel)
theorem mlX11_174 : Cond.methodLink RX11 174 yX11_isDone ∈ pw_LG := pw_inT 1202 (by decide +kernel) (by decide +kernel)
theorem mlX11_177 : Cond.methodLink RX11 177 yX11_wrongKept ∈ pw_LG := pw_inT 1303 (by decide +kernel) (by decide +kernel)
theorem mlX11_180 : Cond.methodLink RX11 180 yX11_bits ∈ pw_LG := pw_inT 1311 (by decide +kernel) (by decide +kernel)
theorem mlX11_183 : Cond.methodLink RX11 183 yX11_farthestOf ∈ pw_LG := pw_inT 1333 (by decide +kernel) (by decide +kernel)
theorem mlX11_187 : Cond.methodLink RX11 187 yX11_yearsOn ∈ pw_LG := pw_inT 1346 (by decide +kernel) (by decide +kernel)
theorem mlX11_190 : Cond.methodLink RX11 190 yX11_farAll ∈ pw_LG := pw_inT 1370 (by decide +kernel) (by decide +kernel)
theorem mlX11_193 : Cond.methodLink RX11 193 yX11_christmasPlace ∈ pw_LG := pw_inT 1366 (by decide +kernel) (by decide +kernel)
theorem mlX11_202 : Cond.methodLink RX11 202 yX11_ordersFrom ∈ pw_LG := pw_inT 1378 (by decide +kernel) (by decide +kernel)
theorem mlX11_206 : Cond.methodLink RX11 206 yX11_endsWithin ∈ pw_LG := pw_inT 1394 (by decide +kernel) (by decide +kernel)
theorem mlX11_209 : Cond.methodLink RX11 209 yX11_doCross ∈ pw_LG := pw_inT 1390 (by decide +kernel) (by decide +kernel)
theorem mlX11_212 : Cond.methodLink RX11 212 yX11_wholeSet ∈ pw_LG := pw_inT 1402 (by decide +kernel) (by decide +kernel)
theorem mlX11_215 : Cond.methodLink RX11 215 yX11_isTangled ∈ pw_LG := pw_inT 1405 (by decide +kernel) (by decide +kernel)
theorem mlX11_218 : Cond.methodLink RX11 218 yX11_clanOf ∈ pw_LG := pw_inT 1413 (by decide +kernel) (by decide +kernel)
theorem mlX11_221 : Cond.methodLink RX11 221 yX11_sumWith ∈ pw_LG := pw_inT 1429 (by decide +kernel) (by decide +kernel)
theorem mlX11_225 : Cond.methodLink RX11 225 yX11_leastOf ∈ pw_LG := pw_inT 1445 (by decide +kernel) (by decide +kernel)
theorem mlX11_228 : Cond.methodLink RX11 228 yX11_isLurching ∈ pw_LG := pw_inT 1441 (by decide +kernel) (by decide +kernel)
theorem mlX11_231 : Cond.methodLink RX11 231 yX11_hasBy ∈ pw_LG := pw_inT 1457 (by decide +kernel) (by decide +kernel)
theorem mlX11_235 : Cond.methodLink RX11 235 yX11_gcd ∈ pw_LG := pw_inT 1469 (by decide +kernel) (by decide +kernel)
theorem mlX11_241 : Cond.methodLink RX11 241 yX11_partOf ∈ pw_LG := pw_inT 1466 (by decide +kernel) (by decide +kernel)
theorem mlX11_251 : Cond.methodLink RX11 251 yX11_drawn ∈ pw_LG := pw_inT 1492 (by decide +kernel) (by decide +kernel)
theorem mlX11_254 : Cond.methodLink RX11 254 yX11_stungAll ∈ pw_LG := pw_inT 1499 (by decide +kernel) (by decide +kernel)
theorem mlX11_264 : Cond.methodLink RX11 264 yX11_isShelf ∈ pw_LG := pw_inT 1181 (by decide +kernel) (by decide +kernel)
theorem mlX11_267 : Cond.methodLink RX11 267 yX11_costBy ∈ pw_LG := pw_inT 1542 (by decide +kernel) (by decide +kernel)
theorem mlX11_52 : Cond.methodLink RX11 52 yX11_isIn ∈ pw_LG := pw_inT 1184 (by decide +kernel) (by decide +kernel)
theorem mlX11_56 : Cond.methodLink RX11 56 yX11_of ∈ pw_LG := pw_inT 1225 (by decide +kernel) (by decide +kernel)
theorem mlX11_60 : Cond.methodLink RX11 60 yX11_far ∈ pw_LG := pw_inT 1240 (by decide +kernel) (by decide +kernel)
theorem mlX11_63 : Cond.methodLink RX11 63 yX11_slack ∈ pw_LG := pw_inT 1243 (by decide +kernel) (by decide +kernel)
theorem mlX11_66 : Cond.methodLink RX11 66 yX11_most ∈ pw_LG := pw_inT 1246 (by decide +kernel) (by decide +kernel)
theorem mlX11_69 : Cond.methodLink RX11 69 yX11_isWhole ∈ pw_LG := pw_inT 1234 (by decide +kernel) (by decide +kernel)
theorem mlX11_73 : Cond.methodLink RX11 73 yX11_stretch ∈ pw_LG := pw_inT 1237 (by decide +kernel) (by decide +kernel)
theorem mlX11_77 : Cond.methodLink RX11 77 yX11_gauge ∈ pw_LG := pw_inT 1280 (by decide +kernel) (by decide +kernel)
theorem mlX11_81 : Cond.methodLink RX11 81 yX11_holds ∈ pw_LG := pw_inT 1252 (by decide +kernel) (by decide +kernel)
theorem mlX11_84 : Cond.methodLink RX11 84 yX11_holdsNow ∈ pw_LG := pw_inT 1249 (by decide +kernel) (by decide +kernel)
theorem mlX11_87 : Cond.methodLink RX11 87 yX11_least ∈ pw_LG := pw_inT 1261 (by decide +kernel) (by decide +kernel)
theorem mlX11_90 : Cond.methodLink RX11 90 yX11_isOver ∈ pw_LG := pw_inT 1231 (by decide +kernel) (by decide +kernel)
theorem mlX11_93 : Cond.methodLink RX11 93 yX11_has ∈ pw_LG := pw_inT 1255 (by decide +kernel) (by decide +kernel)
theorem mlX11_97 : Cond.methodLink RX11 97 yX11_stings ∈ pw_LG := pw_inT 1258 (by decide +kernel) (by decide +kernel)
theorem flX2_118 : pw_FL RX2 118 TX7 0 := pw_inT 40 (by decide +kernel) (by decide +kernel)
theorem flX2_129 : pw_FL RX2 129 TX7 3 := pw_inT 49 (by decide +kernel) (by decide +kernel)
theorem flX2_132 : pw_FL RX2 132 TX7 4 := pw_inT 53 (by decide +kernel) (by decide +kernel)
theorem flX2_15 : pw_FL RX2 15 TX2 0 := pw_inT 195 (by decide +kernel) (by decide +kernel)
theorem flX2_19 : pw_FL RX2 19 TX2 1 := pw_inT 196 (by decide +kernel) (by decide +kernel)
theorem flX2_22 : pw_FL RX2 22 TX7 12 := pw_inT 80 (by decide +kernel) (by decide +kernel)
theorem flX2_28 : pw_FL RX2 28 TX7 14 := pw_inT 92 (by decide +kernel) (by decide +kernel)
theorem flX2_35 : pw_FL RX2 35 TX7 7 := pw_inT 65 (by decide +kernel) (by decide +kernel)
theorem flX2_44 : pw_FL RX2 44 TX7 13 := pw_inT 86 (by decide +kernel) (by decide +kernel)
theorem flX2_74 : pw_FL RX2 74 TX5 5 := pw_inT 243 (by decide +kernel) (by decide +kernel)
theorem flX2_79 : pw_FL RX2 79 TX7 11 := pw_inT 77 (by decide +kernel) (by decide +kernel)
theorem flX2_88 : pw_FL RX2 88 TX7 2 := pw_inT 45 (by decide +kernel) (by decide +kernel)
theorem flX2_9 : pw_FL RX2 9 TX2 2 := pw_inT 197 (by decide +kernel) (by decide +kernel)
theorem mlX2_100 : Cond.methodLink RX2 100 yX2_hasMost ∈ pw_LG := pw_inT 789 (by decide +kernel) (by decide +kernel)
theorem mlX2_104 : Cond.methodLink RX2 104 yX2_has ∈ pw_LG := pw_inT 793 (by decide +kernel) (by decide +kernel)
theorem mlX2_108 : Cond.methodLink RX2 108 yX2_stepsAway ∈ pw_LG := pw_inT 797 (by decide +kernel) (by decide +kernel)
theorem mlX2_111 : Cond.methodLink RX2 111 yX7_apart ∈ pw_LG := pw_inT 802 (by decide +kernel) (by decide +kernel)
theorem mlX2_115 : Cond.methodLink RX2 115 yX2_pullOfBoth ∈ pw_LG := pw_inT 807 (by decide +kernel) (by decide +kernel)
theorem mlX2_121 : Cond.methodLinkNest RX2 121 yX10_isUpTo "RubberBandsHoldFamilies" ∈ pw_LG := pw_inT 801 (by decide +kernel) (by decide +kernel)
theorem mlX2_125 : Cond.methodLink RX2 125 yX7_isRound ∈ pw_LG := pw_inT 811 (by decide +kernel) (by decide +kernel)
theorem mlX2_31 : Cond.methodLink RX2 31 yX7_holdsAt ∈ pw_LG := pw_inT 721 (by decide +kernel) (by decide +kernel)
theorem mlX2_38 : Cond.methodLink RX2 38 yJ6_bitCount_0f7a4 ∈ pw_LG := pw_inT 722 (by decide +kernel) (by decide +kernel)
theorem mlX2_47 : Cond.methodLink RX2 47 yX2_gainOf ∈ pw_LG := pw_inT 723 (by decide +kernel) (by decide +kernel)
theorem mlX2_50 : Cond.methodLink RX2 50 yX7_isSnapped ∈ pw_LG := pw_inT 731 (by decide +kernel) (by decide +kernel)
theorem mlX2_54 : Cond.methodLink RX2 54 yX7_stretch ∈ pw_LG := pw_inT 732 (by decide +kernel) (by decide +kernel)
theorem mlX2_57 : Cond.methodLink RX2 57 yX7_overstretched ∈ pw_LG := pw_inT 741 (by decide +kernel) (by decide +kernel)
theorem mlX2_60 : Cond.methodLinkNest RX2 60 yX10_lowestOf "RubberBandsHoldFamilies" ∈ pw_LG := pw_inT 742 (by decide +kernel) (by decide +kernel)
theorem mlX2_63 : Cond.methodLink RX2 63 yX7_becomes ∈ pw_LG := pw_inT 751 (by decide +kernel) (by decide +kernel)
theorem mlX2_67 : Cond.methodLink RX2 67 yX7_weighLeans ∈ pw_LG := pw_inT 752 (by decide +kernel) (by decide +kernel)
theorem mlX2_70 : Cond.methodLink RX2 70 yX2_leansAs ∈ pw_LG := pw_inT 753 (by decide +kernel) (by decide +kernel)
theorem mlX2_82 : Cond.methodLink RX2 82 yX5_isSkipped ∈ pw_LG := pw_inT 757 (by decide +kernel) (by decide +kernel)
theorem mlX2_85 : Cond.methodLink RX2 85 yX5_at ∈ pw_LG := pw_inT 763 (by decide +kernel) (by decide +kernel)
theorem mlX2_93 : Cond.methodLink RX2 93 yX2_pullsAs ∈ pw_LG := pw_inT 773 (by decide +kernel) (by decide +kernel)
theorem mlX2_97 : Cond.methodLink RX2 97 yX3_pull ∈ pw_LG := pw_inT 776 (by decide +kernel) (by decide +kernel)
theorem mlX3_13 : Cond.methodLink RX3 13 yX3_stretch ∈ pw_LG := pw_inT 779 (by decide +kernel) (by decide +kernel)
theorem mlX3_17 : Cond.methodLink RX3 17 yX3_gauge ∈ pw_LG := pw_inT 780 (by decide +kernel) (by decide +kernel)
theorem mlX3_7 : Cond.methodLink RX3 7 yX3_slack ∈ pw_LG := pw_inT 600 (by decide +kernel) (by decide +kernel)
theorem klX4_52 : Cond.constant RX4 52 (1000000 : Int32) ∈ pw_LG := pw_inT 522 (by decide +kernel) (by decide +kernel)
theorem flX4_100 : pw_FL RX4 100 TX7 6 := pw_inT 63 (by decide +kernel) (by decide +kernel)
theorem flX4_106 : pw_FL RX4 106 TX7 3 := pw_inT 48 (by decide +kernel) (by decide +kernel)
theorem flX4_109 : pw_FL RX4 109 TX7 4 := pw_inT 52 (by decide +kernel) (by decide +kernel)
theorem flX4_11 : pw_FL RX4 11 TX4 2 := pw_inT 142 (by decide +kernel) (by decide +kernel)
theorem flX4_118 : pw_FL RX4 118 TX7 7 := pw_inT 67 (by decide +kernel) (by decide +kernel)
theorem flX4_16 : pw_FL RX4 16 TX4 3 := pw_inT 143 (by decide +kernel) (by decide +kernel)
theorem flX4_20 : pw_FL RX4 20 TX4 0 := pw_inT 140 (by decide +kernel) (by decide +kernel)
theorem flX4_24 : pw_FL RX4 24 TX4 1 := pw_inT 141 (by decide +kernel) (by decide +kernel)
theorem flX4_33 : pw_FL RX4 33 TX7 0 := pw_inT 37 (by decide +kernel) (by decide +kernel)
theorem flX4_40 : pw_FL RX4 40 TX7 14 := pw_inT 93 (by decide +kernel) (by decide +kernel)
theorem flX4_56 : pw_FL RX4 56 TX7 2 := pw_inT 44 (by decide +kernel) (by decide +kernel)
theorem flX4_64 : pw_FL RX4 64 TX7 11 := pw_inT 73 (by decide +kernel) (by decide +kernel)
theorem flX4_90 : pw_FL RX4 90 TX7 12 := pw_inT 84 (by decide +kernel) (by decide +kernel)
theorem flX4_97 : pw_FL RX4 97 TX7 5 := pw_inT 58 (by decide +kernel) (by decide +kernel)
theorem mlX4_59 : Cond.methodLink RX4 59 Lib.Math.abs.name ∈ pw_LG := pw_inT 524 (by decide +kernel) (by decide +kernel)
theorem ms_abs : Cond.static Lib.Math.abs.name ∈ pw_LG := pw_inT 525 (by decide +kernel) (by decide +kernel)
theorem mc_abs : Cond.code Lib.Math.abs.name Lib.Math.abs.code 1 (some .int) ∈ pw_LG := pw_inT 526 (by decide +kernel) (by decide +kernel)
theorem mlX4_84 : Cond.methodLink RX4 84 Lib.Math.min.name ∈ pw_LG := pw_inT 606 (by decide +kernel) (by decide +kernel)
theorem ms_min : Cond.static Lib.Math.min.name ∈ pw_LG := pw_inT 419 (by decide +kernel) (by decide +kernel)
theorem mc_min : Cond.code Lib.Math.min.name Lib.Math.min.code 2 (some .int) ∈ pw_LG := pw_inT 420 (by decide +kernel) (by decide +kernel)
theorem mlX4_103 : Cond.methodLink RX4 103 yX4_breaksTo ∈ pw_LG := pw_inT 593 (by decide +kernel) (by decide +kernel)
theorem mlX4_112 : Cond.methodLink RX4 112 yX3_stretch ∈ pw_LG := pw_inT 597 (by decide +kernel) (by decide +kernel)
theorem mlX4_121 : Cond.methodLink RX4 121 yX7_holdsAt ∈ pw_LG := pw_inT 601 (by decide +kernel) (by decide +kernel)
theorem mlX4_124 : Cond.methodLink RX4 124 yX7_apart ∈ pw_LG := pw_inT 864 (by decide +kernel) (by decide +kernel)
theorem mlX4_27 : Cond.methodLink RX4 27 yX7_becomes ∈ pw_LG := pw_inT 510 (by decide +kernel) (by decide +kernel)
theorem mlX4_36 : Cond.methodLinkNest RX4 36 yX10_isUpTo "RubberBandsHoldFamilies" ∈ pw_LG := pw_inT 511 (by decide +kernel) (by decide +kernel)
theorem mlX4_44 : Cond.methodLink RX4 44 yX7_overstretched ∈ pw_LG := pw_inT 512 (by decide +kernel) (by decide +kernel)
theorem mlX4_48 : Cond.methodLink RX4 48 yX4_endOfTheRoad ∈ pw_LG := pw_inT 521 (by decide +kernel) (by decide +kernel)
theorem mlX4_53 : Cond.methodLink RX4 53 yX7_weighLeans ∈ pw_LG := pw_inT 523 (by decide +kernel) (by decide +kernel)
theorem mlX4_67 : Cond.methodLink RX4 67 yX4_farTo ∈ pw_LG := pw_inT 569 (by decide +kernel) (by decide +kernel)
theorem mlX4_70 : Cond.methodLink RX4 70 yX4_meetingPlace ∈ pw_LG := pw_inT 578 (by decide +kernel) (by decide +kernel)
theorem mlX4_74 : Cond.methodLink RX4 74 yX7_moves ∈ pw_LG := pw_inT 579 (by decide +kernel) (by decide +kernel)
theorem mlX4_77 : Cond.methodLink RX4 77 yX4_findFirstBreaks ∈ pw_LG := pw_inT 588 (by decide +kernel) (by decide +kernel)
theorem mlX4_81 : Cond.methodLink RX4 81 yX4_snappedIfNext ∈ pw_LG := pw_inT 602 (by decide +kernel) (by decide +kernel)
theorem mlX4_87 : Cond.methodLink RX4 87 yX4_nextInOrder ∈ pw_LG := pw_inT 615 (by decide +kernel) (by decide +kernel)
theorem mlX4_93 : Cond.methodLink RX4 93 yX7_isSnapped ∈ pw_LG := pw_inT 592 (by decide +kernel) (by decide +kernel)
theorem klX5_35 : Cond.constant RX5 35 (-2147483648 : Int32) ∈ pw_LG := pw_inT 761 (by decide +kernel) (by decide +kernel)
theorem flX5_15 : pw_FL RX5 15 TX5 1 := pw_inT 230 (by decide +kernel) (by decide +kernel)
theorem flX5_19 : pw_FL RX5 19 TX5 2 := pw_inT 232 (by decide +kernel) (by decide +kernel)
theorem flX5_22 : pw_FL RX5 22 TX5 3 := pw_inT 234 (by decide +kernel) (by decide +kernel)
theorem flX5_25 : pw_FL RX5 25 TX5 4 := pw_inT 237 (by decide +kernel) (by decide +kernel)
theorem flX5_28 : pw_FL RX5 28 TX5 5 := pw_inT 241 (by decide +kernel) (by decide +kernel)
theorem flX5_9 : pw_FL RX5 9 TX5 0 := pw_inT 228 (by decide +kernel) (by decide +kernel)
theorem mlX5_31 : Cond.methodLink RX5 31 yX5_hasPlace ∈ pw_LG := pw_inT 313 (by decide +kernel) (by decide +kernel)
theorem mlX5_36 : Cond.methodLink RX5 36 yX5_at ∈ pw_LG := pw_inT 762 (by decide +kernel) (by decide +kernel)
theorem flX6_15 : pw_FL RX6 15 TX6 0 := pw_inT 172 (by decide +kernel) (by decide +kernel)
theorem flX6_22 : pw_FL RX6 22 TX7 12 := pw_inT 79 (by decide +kernel) (by decide +kernel)
theorem flX6_48 : pw_FL RX6 48 TX7 0 := pw_inT 39 (by decide +kernel) (by decide +kernel)
theorem flX6_51 : pw_FL RX6 51 TX7 5 := pw_inT 57 (by decide +kernel) (by decide +kernel)
theorem flX6_54 : pw_FL RX6 54 TX7 6 := pw_inT 62 (by decide +kernel) (by decide +kernel)
theorem flX6_9 : pw_FL RX6 9 TX6 1 := pw_inT 173 (by decide +kernel) (by decide +kernel)
theorem mlX6_63 : Cond.methodLink RX6 63 Lib.Math.max.name ∈ pw_LG := pw_inT 653 (by decide +kernel) (by decide +kernel)
theorem mlX6_69 : Cond.methodLink RX6 69 Lib.Math.min.name ∈ pw_LG := pw_inT 648 (by decide +kernel) (by decide +kernel)
theorem mlX6_19 : Cond.methodLink RX6 19 yX6_findCrossed ∈ pw_LG := pw_inT 635 (by decide +kernel) (by decide +kernel)
theorem mlX6_28 : Cond.methodLink RX6 28 yJ6_bitCount_0f7a4 ∈ pw_LG := pw_inT 656 (by decide +kernel) (by decide +kernel)
theorem mlX6_34 : Cond.methodLinkNest RX6 34 yX10_lowestOf "RubberBandsHoldFamilies" ∈ pw_LG := pw_inT 661 (by decide +kernel) (by decide +kernel)
theorem mlX6_37 : Cond.methodLink RX6 37 yX6_isUntangled ∈ pw_LG := pw_inT 670 (by decide +kernel) (by decide +kernel)
theorem mlX6_41 : Cond.methodLink RX6 41 yX7_isSnapped ∈ pw_LG := pw_inT 639 (by decide +kernel) (by decide +kernel)
theorem mlX6_44 : Cond.methodLink RX6 44 yX6_reachesInto ∈ pw_LG := pw_inT 640 (by decide +kernel) (by decide +kernel)
theorem mlX6_57 : Cond.methodLink RX6 57 yX6_least ∈ pw_LG := pw_inT 644 (by decide +kernel) (by decide +kernel)
theorem mlX6_60 : Cond.methodLink RX6 60 yX6_greatest ∈ pw_LG := pw_inT 649 (by decide +kernel) (by decide +kernel)
theorem flX7_15 : pw_FL RX7 15 TX7 1 := pw_inT 41 (by decide +kernel) (by decide +kernel)
theorem flX7_18 : pw_FL RX7 18 TX7 2 := pw_inT 43 (by decide +kernel) (by decide +kernel)
theorem flX7_21 : pw_FL RX7 21 TX7 3 := pw_inT 46 (by decide +kernel) (by decide +kernel)
theorem flX7_24 : pw_FL RX7 24 TX7 4 := pw_inT 50 (by decide +kernel) (by decide +kernel)
theorem flX7_27 : pw_FL RX7 27 TX7 5 := pw_inT 54 (by decide +kernel) (by decide +kernel)
theorem flX7_30 : pw_FL RX7 30 TX7 6 := pw_inT 59 (by decide +kernel) (by decide +kernel)
theorem flX7_33 : pw_FL RX7 33 TX7 7 := pw_inT 64 (by decide +kernel) (by decide +kernel)
theorem flX7_36 : pw_FL RX7 36 TX7 8 := pw_inT 68 (by decide +kernel) (by decide +kernel)
theorem flX7_39 : pw_FL RX7 39 TX7 9 := pw_inT 69 (by decide +kernel) (by decide +kernel)
theorem flX7_42 : pw_FL RX7 42 TX7 10 := pw_inT 70 (by decide +kernel) (by decide +kernel)
theorem flX7_45 : pw_FL RX7 45 TX7 11 := pw_inT 71 (by decide +kernel) (by decide +kernel)
theorem flX7_49 : pw_FL RX7 49 TX7 12 := pw_inT 78 (by decide +kernel) (by decide +kernel)
theorem flX7_52 : pw_FL RX7 52 TX7 13 := pw_inT 85 (by decide +kernel) (by decide +kernel)
theorem flX7_55 : pw_FL RX7 55 TX7 14 := pw_inT 91 (by decide +kernel) (by decide +kernel)
theorem flX7_58 : pw_FL RX7 58 TX7 15 := pw_inT 95 (by decide +kernel) (by decide +kernel)
theorem flX7_9 : pw_FL RX7 9 TX7 0 := pw_inT 36 (by decide +kernel) (by decide +kernel)
theorem mlX7_110 : Cond.methodLink RX7 110 Lib.Math.min.name ∈ pw_LG := pw_inT 418 (by decide +kernel) (by decide +kernel)
theorem mlX7_71 : Cond.methodLink RX7 71 Lib.Math.abs.name ∈ pw_LG := pw_inT 806 (by decide +kernel) (by decide +kernel)
theorem mlX7_100 : Cond.methodLink RX7 100 yX3_holds ∈ pw_LG := pw_inT 366 (by decide +kernel) (by decide +kernel)
theorem mlX7_102 : Cond.methodLink RX7 102 yX7_tryAll ∈ pw_LG := pw_inT 369 (by decide +kernel) (by decide +kernel)
theorem mlX7_106 : Cond.methodLink RX7 106 yX7_passYear ∈ pw_LG := pw_inT 497 (by decide +kernel) (by decide +kernel)
theorem mlX7_113 : Cond.methodLink RX7 113 yX7_weighLeans ∈ pw_LG := pw_inT 421 (by decide +kernel) (by decide +kernel)
theorem mlX7_116 : Cond.methodLink RX7 116 yX7_stepAll ∈ pw_LG := pw_inT 429 (by decide +kernel) (by decide +kernel)
theorem mlX7_119 : Cond.methodLink RX7 119 yX7_pull ∈ pw_LG := pw_inT 425 (by decide +kernel) (by decide +kernel)
theorem mlX7_61 : Cond.methodLink RX7 61 yX7_isPerson ∈ pw_LG := pw_inT 352 (by decide +kernel) (by decide +kernel)
theorem mlX7_65 : Cond.methodLink RX7 65 yJ6_bitCount_0f7a4 ∈ pw_LG := pw_inT 393 (by decide +kernel) (by decide +kernel)
theorem mlX7_76 : Cond.methodLink RX7 76 yX7_isSnapped ∈ pw_LG := pw_inT 377 (by decide +kernel) (by decide +kernel)
theorem mlX7_79 : Cond.methodLink RX7 79 yX7_stretch ∈ pw_LG := pw_inT 381 (by decide +kernel) (by decide +kernel)
theorem mlX7_82 : Cond.methodLink RX7 82 yX7_holdsAt ∈ pw_LG := pw_inT 385 (by decide +kernel) (by decide +kernel)
theorem mlX7_86 : Cond.methodLink RX7 86 yX7_overstretched ∈ pw_LG := pw_inT 373 (by decide +kernel) (by decide +kernel)
theorem mlX7_89 : Cond.methodLink RX7 89 yX7_sting ∈ pw_LG := pw_inT 389 (by decide +kernel) (by decide +kernel)
theorem mlX7_93 : Cond.methodLink RX7 93 yX3_slack ∈ pw_LG := pw_inT 360 (by decide +kernel) (by decide +kernel)
theorem mlX7_98 : Cond.methodLink RX7 98 yX3_gauge ∈ pw_LG := pw_inT 363 (by decide +kernel) (by decide +kernel)
theorem flX8_58 : pw_FL RX8 58 TX7 11 := pw_inT 76 (by decide +kernel) (by decide +kernel)
theorem flX8_69 : pw_FL RX8 69 TX7 12 := pw_inT 83 (by decide +kernel) (by decide +kernel)
theorem flX8_84 : pw_FL RX8 84 TX7 15 := pw_inT 97 (by decide +kernel) (by decide +kernel)
theorem flX8_9 : pw_FL RX8 9 TX5 5 := pw_inT 240 (by decide +kernel) (by decide +kernel)
theorem flX8_97 : pw_FL RX8 97 TX7 13 := pw_inT 90 (by decide +kernel) (by decide +kernel)
theorem mlX8_15 : Cond.methodLink RX8 15 yX5_at ∈ pw_LG := pw_inT 309 (by decide +kernel) (by decide +kernel)
theorem mlX8_19 : Cond.methodLink RX8 19 yX8_digitsBehind ∈ pw_LG := pw_inT 317 (by decide +kernel) (by decide +kernel)
theorem mlX8_24 : Cond.methodLink RX8 24 yX8_twoDigits ∈ pw_LG := pw_inT 329 (by decide +kernel) (by decide +kernel)
theorem mlX8_28 : Cond.methodLink RX8 28 yX8_personComes ∈ pw_LG := pw_inT 335 (by decide +kernel) (by decide +kernel)
theorem mlX8_32 : Cond.methodLink RX8 32 yX8_bandComes ∈ pw_LG := pw_inT 345 (by decide +kernel) (by decide +kernel)
theorem mlX8_36 : Cond.methodLink RX8 36 yX8_digit ∈ pw_LG := pw_inT 332 (by decide +kernel) (by decide +kernel)
theorem mlX8_39 : Cond.methodLink RX8 39 yX8_personGoes ∈ pw_LG := pw_inT 399 (by decide +kernel) (by decide +kernel)
theorem mlX8_43 : Cond.methodLink RX8 43 yX7_chills ∈ pw_LG := pw_inT 407 (by decide +kernel) (by decide +kernel)
theorem mlX8_48 : Cond.methodLink RX8 48 yX8_yearsPass ∈ pw_LG := pw_inT 411 (by decide +kernel) (by decide +kernel)
theorem mlX8_51 : Cond.methodLink RX8 51 yX8_bandIsCut ∈ pw_LG := pw_inT 433 (by decide +kernel) (by decide +kernel)
theorem mlX8_54 : Cond.methodLinkNest RX8 54 yX10_isUpTo "RubberBandsHoldFamilies" ∈ pw_LG := pw_inT 338 (by decide +kernel) (by decide +kernel)
theorem mlX8_61 : Cond.methodLink RX8 61 yX7_addPerson ∈ pw_LG := pw_inT 341 (by decide +kernel) (by decide +kernel)
theorem mlX8_66 : Cond.methodLink RX8 66 yX7_areTwo ∈ pw_LG := pw_inT 348 (by decide +kernel) (by decide +kernel)
theorem mlX8_72 : Cond.methodLink RX8 72 yX7_addBand ∈ pw_LG := pw_inT 356 (by decide +kernel) (by decide +kernel)
theorem mlX8_76 : Cond.methodLink RX8 76 yX7_isPerson ∈ pw_LG := pw_inT 402 (by decide +kernel) (by decide +kernel)
theorem mlX8_80 : Cond.methodLink RX8 80 yX7_moves ∈ pw_LG := pw_inT 403 (by decide +kernel) (by decide +kernel)
theorem mlX8_87 : Cond.methodLink RX8 87 yX7_passYear ∈ pw_LG := pw_inT 414 (by decide +kernel) (by decide +kernel)
theorem mlX8_91 : Cond.methodLink RX8 91 yX7_isBand ∈ pw_LG := pw_inT 436 (by decide +kernel) (by decide +kernel)
theorem mlX8_94 : Cond.methodLink RX8 94 yX7_isSnapped ∈ pw_LG := pw_inT 440 (by decide +kernel) (by decide +kernel)
theorem flX9_15 : pw_FL RX9 15 TX9 1 := pw_inT 160 (by decide +kernel) (by decide +kernel)
theorem flX9_32 : pw_FL RX9 32 TX7 13 := pw_inT 87 (by decide +kernel) (by decide +kernel)
theorem flX9_40 : pw_FL RX9 40 TX5 5 := pw_inT 242 (by decide +kernel) (by decide +kernel)
theorem flX9_9 : pw_FL RX9 9 TX9 0 := pw_inT 159 (by decide +kernel) (by decide +kernel)
theorem mlX9_18 : Cond.methodLink RX9 18 yX7_becomes ∈ pw_LG := pw_inT 535 (by decide +kernel) (by decide +kernel)
theorem mlX9_24 : Cond.methodLink RX9 24 yX7_passYears ∈ pw_LG := pw_inT 536 (by decide +kernel) (by decide +kernel)
theorem mlX9_28 : Cond.methodLink RX9 28 yX7_passYear ∈ pw_LG := pw_inT 549 (by decide +kernel) (by decide +kernel)
theorem mlX9_36 : Cond.methodLinkNest RX9 36 yX10_lowestOf "RubberBandsHoldFamilies" ∈ pw_LG := pw_inT 558 (by decide +kernel) (by decide +kernel)
theorem mlX9_45 : Cond.methodLink RX9 45 yX5_isSkipped ∈ pw_LG := pw_inT 890 (by decide +kernel) (by decide +kernel)
theorem mlX9_49 : Cond.methodLink RX9 49 yX5_at ∈ pw_LG := pw_inT 891 (by decide +kernel) (by decide +kernel)
theorem mlX9_52 : Cond.methodLink RX9 52 yX7_snappedCount ∈ pw_LG := pw_inT 892 (by decide +kernel) (by decide +kernel)
theorem ms_math : Cond.initialized "java/lang/Math" ∈ pw_LG := pw_inT 14 (by decide +kernel) (by decide +kernel)
theorem miX0_howMany : pw_MV yX0_howMany cX0_howMany 4 (some .int) 0 := ⟨pw_inT 681 (by decide +kernel) (by decide +kernel), pw_inT 6 (by decide +kernel) (by decide +kernel), ⟨by decide +kernel, by decide +kernel⟩, by decide +kernel, pw_inT 679 (by decide +kernel) (by decide +kernel), pw_inT 680 (by decide +kernel) (by decide +kernel)⟩
theorem miX0_greatest : pw_MV yX0_greatest cX0_greatest 3 (some .int) 0 := ⟨pw_inT 693 (by decide +kernel) (by decide +kernel), pw_inT 6 (by decide +kernel) (by decide +kernel), ⟨by decide +kernel, by decide +kernel⟩, by decide +kernel, pw_inT 691 (by decide +kernel) (by decide +kernel), pw_inT 692 (by decide +kernel) (by decide +kernel)⟩
theorem miX0_bandsBetween : pw_MV yX0_bandsBetween cX0_bandsBetween 5 (some .int) 2 := ⟨pw_inT 703 (by decide +kernel) (by decide +kernel), pw_inT 6 (by decide +kernel) (by decide +kernel), ⟨by decide +kernel, by decide +kernel⟩, by decide +kernel, pw_inT 701 (by decide +kernel) (by decide +kernel), pw_inT 702 (by decide +kernel) (by decide +kernel)⟩
theorem miX0_dividing : pw_MV yX0_dividing cX0_dividing 4 (some .int) 0 := ⟨pw_inT 711 (by decide +kernel) (by decide +kernel), pw_inT 6 (by decide +kernel) (by decide +kernel), ⟨by decide +kernel, by decide +kernel⟩, by decide +kernel, pw_inT 709 (by decide +kernel) (by decide +kernel), pw_inT 710 (by decide +kernel) (by decide +kernel)⟩
theorem miX0_clanOf : pw_MV yX0_clanOf cX0_clanOf 5 (some .int) 2 := ⟨pw_inT 685 (by decide +kernel) (by decide +kernel), pw_inT 6 (by decide +kernel) (by decide +kernel), ⟨by decide +kernel, by decide +kernel⟩, by decide +kernel, pw_inT 684 (by decide +kernel) (by decide +kernel), pw_inS 12 (by decide +kernel) (by decide +kernel)⟩
theorem miX0_tiedTo : pw_MV yX0_tiedTo cX0_tiedTo 6 (some .int) 2 := ⟨pw_inT 689 (by decide +kernel) (by decide +kernel), pw_inT 6 (by decide +kernel) (by decide +kernel), ⟨by decide +kernel, by decide +kernel⟩, by decide +kernel, pw_inT 688 (by decide +kernel) (by decide +kernel), pw_inS 13 (by decide +kernel) (by decide +kernel)⟩
theorem miX0_allWays : pw_MV yX0_allWays cX0_allWays 2 (some .long) 1 := ⟨pw_inT 843 (by decide +kernel) (by decide +kernel), pw_inT 6 (by decide +kernel) (by decide +kernel), ⟨by decide +kernel, by decide +kernel⟩, by decide +kernel, pw_inT 841 (by decide +kernel) (by decide +kernel), pw_inT 842 (by decide +kernel) (by decide +kernel)⟩
theorem miX0_waysStillTied : pw_MV yX0_waysStillTied cX0_waysStillTied 6 (some .long) 3 := ⟨pw_inT 823 (by decide +kernel) (by decide +kernel), pw_inT 6 (by decide +kernel) (by decide +kernel), ⟨by decide +kernel, by decide +kernel⟩, by decide +kernel, pw_inT 821 (by decide +kernel) (by decide +kernel), pw_inT 822 (by decide +kernel) (by decide +kernel)⟩
theorem miX0_waysTied : pw_MS yX0_waysTied cX0_waysTied 9 (some .long) 5 := ⟨pw_inT 826 (by decide +kernel) (by decide +kernel), pw_inT 6 (by decide +kernel) (by decide +kernel), ⟨by decide +kernel, by decide +kernel⟩, by decide +kernel, pw_inT 825 (by decide +kernel) (by decide +kernel)⟩
theorem miX0_isOneClan : pw_MS yX0_isOneClan cX0_isOneClan 4 (some .boolean) 2 := ⟨pw_inT 829 (by decide +kernel) (by decide +kernel), pw_inT 6 (by decide +kernel) (by decide +kernel), ⟨by decide +kernel, by decide +kernel⟩, by decide +kernel, pw_inT 828 (by decide +kernel) (by decide +kernel)⟩
theorem miX0_labelOf : pw_MS yX0_labelOf cX0_labelOf 2 (some .int) 2 := ⟨pw_inT 833 (by decide +kernel) (by decide +kernel), pw_inT 6 (by decide +kernel) (by decide +kernel), ⟨by decide +kernel, by decide +kernel⟩, by decide +kernel, pw_inT 832 (by decide +kernel) (by decide +kernel)⟩
theorem miX0_merged : pw_MS yX0_merged cX0_merged 5 (some .int) 3 := ⟨pw_inT 839 (by decide +kernel) (by decide +kernel), pw_inT 6 (by decide +kernel) (by decide +kernel), ⟨by decide +kernel, by decide +kernel⟩, by decide +kernel, pw_inT 838 (by decide +kernel) (by decide +kernel)⟩
theorem miX0_power : pw_MS yX0_power cX0_power 5 (some .long) 2 := ⟨pw_inT 836 (by decide +kernel) (by decide +kernel), pw_inT 6 (by decide +kernel) (by decide +kernel), ⟨by decide +kernel, by decide +kernel⟩, by decide +kernel, pw_inT 835 (by decide +kernel) (by decide +kernel)⟩
theorem miX1_areGoings : pw_MV yX1_areGoings cX1_areGoings 3 (some .boolean) 1 := ⟨pw_inT 872 (by decide +kernel) (by decide +kernel), pw_inT 8 (by decide +kernel) (by decide +kernel), ⟨by decide +kernel, by decide +kernel⟩, by decide +kernel, pw_inT 870 (by decide +kernel) (by decide +kernel), pw_inT 871 (by decide +kernel) (by decide +kernel)⟩
theorem miX1_firstSnapping : pw_MV yX1_firstSnapping cX1_firstSnapping 3 (some .int) 1 := ⟨pw_inT 879 (by decide +kernel) (by decide +kernel), pw_inT 8 (by decide +kernel) (by decide +kernel), ⟨by decide +kernel, by decide +kernel⟩, by decide +kernel, pw_inT 877 (by decide +kernel) (by decide +kernel), pw_inT 878 (by decide +kernel) (by decide +kernel)⟩
theorem miX1_harmOf : pw_MV yX1_harmOf cX1_harmOf 6 (some .int) 3 := ⟨pw_inT 900 (by decide +kernel) (by decide +kernel), pw_inT 8 (by decide +kernel) (by decide +kernel), ⟨by decide +kernel, by decide +kernel⟩, by decide +kernel, pw_inT 898 (by decide +kernel) (by decide +kernel), pw_inT 899 (by decide +kernel) (by decide +kernel)⟩
theorem miX1_liveOne : pw_MV yX1_liveOne cX1_liveOne 3 (none) 0 := ⟨pw_inT 904 (by decide +kernel) (by decide +kernel), pw_inT 8 (by decide +kernel) (by decide +kernel), ⟨by decide +kernel, by decide +kernel⟩, by decide +kernel, pw_inT 903 (by decide +kernel) (by decide +kernel), pw_inS 20 (by decide +kernel) (by decide +kernel)⟩
theorem miX1_drawBelow : pw_MV yX1_drawBelow cX1_drawBelow 2 (some .int) 1 := ⟨pw_inT 908 (by decide +kernel) (by decide +kernel), pw_inT 8 (by decide +kernel) (by decide +kernel), ⟨by decide +kernel, by decide +kernel⟩, by decide +kernel, pw_inT 907 (by decide +kernel) (by decide +kernel), pw_inS 21 (by decide +kernel) (by decide +kernel)⟩
theorem miX2_bestRenewed : pw_MV yX2_bestRenewed cX2_bestRenewed 5 (some .int) 1 := ⟨pw_inT 720 (by decide +kernel) (by decide +kernel), pw_inT 7 (by decide +kernel) (by decide +kernel), ⟨by decide +kernel, by decide +kernel⟩, by decide +kernel, pw_inT 718 (by decide +kernel) (by decide +kernel), pw_inT 719 (by decide +kernel) (by decide +kernel)⟩
theorem miX2_gainOf : pw_MV yX2_gainOf cX2_gainOf 4 (some .int) 1 := ⟨pw_inT 726 (by decide +kernel) (by decide +kernel), pw_inT 7 (by decide +kernel) (by decide +kernel), ⟨by decide +kernel, by decide +kernel⟩, by decide +kernel, pw_inT 725 (by decide +kernel) (by decide +kernel), pw_inS 14 (by decide +kernel) (by decide +kernel)⟩
theorem miX2_spareWith : pw_MV yX2_spareWith cX2_spareWith 5 (some .int) 1 := ⟨pw_inT 730 (by decide +kernel) (by decide +kernel), pw_inT 7 (by decide +kernel) (by decide +kernel), ⟨by decide +kernel, by decide +kernel⟩, by decide +kernel, pw_inT 728 (by decide +kernel) (by decide +kernel), pw_inT 729 (by decide +kernel) (by decide +kernel)⟩
theorem miX2_firstFrost : pw_MV yX2_firstFrost cX2_firstFrost 4 (some .int) 1 := ⟨pw_inT 740 (by decide +kernel) (by decide +kernel), pw_inT 7 (by decide +kernel) (by decide +kernel), ⟨by decide +kernel, by decide +kernel⟩, by decide +kernel, pw_inT 738 (by decide +kernel) (by decide +kernel), pw_inT 739 (by decide +kernel) (by decide +kernel)⟩
theorem miX2_goneBy : pw_MV yX2_goneBy cX2_goneBy 4 (some .int) 1 := ⟨pw_inT 750 (by decide +kernel) (by decide +kernel), pw_inT 7 (by decide +kernel) (by decide +kernel), ⟨by decide +kernel, by decide +kernel⟩, by decide +kernel, pw_inT 748 (by decide +kernel) (by decide +kernel), pw_inT 749 (by decide +kernel) (by decide +kernel)⟩
theorem miX2_leansAs : pw_MV yX2_leansAs cX2_leansAs 3 (some .boolean) 1 := ⟨pw_inT 756 (by decide +kernel) (by decide +kernel), pw_inT 7 (by decide +kernel) (by decide +kernel), ⟨by decide +kernel, by decide +kernel⟩, by decide +kernel, pw_inT 755 (by decide +kernel) (by decide +kernel), pw_inS 15 (by decide +kernel) (by decide +kernel)⟩
theorem miX2_kindsPullingAs : pw_MV yX2_kindsPullingAs cX2_kindsPullingAs 5 (some .int) 2 := ⟨pw_inT 772 (by decide +kernel) (by decide +kernel), pw_inT 7 (by decide +kernel) (by decide +kernel), ⟨by decide +kernel, by decide +kernel⟩, by decide +kernel, pw_inT 770 (by decide +kernel) (by decide +kernel), pw_inT 771 (by decide +kernel) (by decide +kernel)⟩
theorem miX2_pullsAs : pw_MS yX2_pullsAs cX2_pullsAs 4 (some .boolean) 3 := ⟨pw_inT 775 (by decide +kernel) (by decide +kernel), pw_inT 7 (by decide +kernel) (by decide +kernel), ⟨by decide +kernel, by decide +kernel⟩, by decide +kernel, pw_inT 774 (by decide +kernel) (by decide +kernel)⟩
theorem miX2_restingChoices : pw_MV yX2_restingChoices cX2_restingChoices 6 (some .int) 2 := ⟨pw_inT 788 (by decide +kernel) (by decide +kernel), pw_inT 7 (by decide +kernel) (by decide +kernel), ⟨by decide +kernel, by decide +kernel⟩, by decide +kernel, pw_inT 786 (by decide +kernel) (by decide +kernel), pw_inT 787 (by decide +kernel) (by decide +kernel)⟩
theorem miX2_hasMost : pw_MV yX2_hasMost cX2_hasMost 5 (some .boolean) 4 := ⟨pw_inT 792 (by decide +kernel) (by decide +kernel), pw_inT 7 (by decide +kernel) (by decide +kernel), ⟨by decide +kernel, by decide +kernel⟩, by decide +kernel, pw_inT 791 (by decide +kernel) (by decide +kernel), pw_inS 16 (by decide +kernel) (by decide +kernel)⟩
theorem miX2_has : pw_MV yX2_has cX2_has 6 (some .int) 4 := ⟨pw_inT 796 (by decide +kernel) (by decide +kernel), pw_inT 7 (by decide +kernel) (by decide +kernel), ⟨by decide +kernel, by decide +kernel⟩, by decide +kernel, pw_inT 795 (by decide +kernel) (by decide +kernel), pw_inS 17 (by decide +kernel) (by decide +kernel)⟩
theorem miX2_stepsAway : pw_MV yX2_stepsAway cX2_stepsAway 5 (some .int) 3 := ⟨pw_inT 800 (by decide +kernel) (by decide +kernel), pw_inT 7 (by decide +kernel) (by decide +kernel), ⟨by decide +kernel, by decide +kernel⟩, by decide +kernel, pw_inT 799 (by decide +kernel) (by decide +kernel), pw_inS 18 (by decide +kernel) (by decide +kernel)⟩
theorem miX2_pullOfBoth : pw_MV yX2_pullOfBoth cX2_pullOfBoth 6 (some .int) 3 := ⟨pw_inT 810 (by decide +kernel) (by decide +kernel), pw_inT 7 (by decide +kernel) (by decide +kernel), ⟨by decide +kernel, by decide +kernel⟩, by decide +kernel, pw_inT 809 (by decide +kernel) (by decide +kernel), pw_inS 19 (by decide +kernel) (by decide +kernel)⟩
theorem miX3_slack : pw_MS yX3_slack cX3_slack 4 (some .int) 2 := ⟨pw_inT 362 (by decide +kernel) (by decide +kernel), pw_inT 12 (by decide +kernel) (by decide +kernel), ⟨by decide +kernel, by decide +kernel⟩, by decide +kernel, pw_inT 361 (by decide +kernel) (by decide +kernel)⟩
theorem miX3_gauge : pw_MS yX3_gauge cX3_gauge 3 (some .int) 1 := ⟨pw_inT 365 (by decide +kernel) (by decide +kernel), pw_inT 12 (by decide +kernel) (by decide +kernel), ⟨by decide +kernel, by decide +kernel⟩, by decide +kernel, pw_inT 364 (by decide +kernel) (by decide +kernel)⟩
theorem miX3_holds : pw_MS yX3_holds cX3_holds 5 (some .int) 2 := ⟨pw_inT 368 (by decide +kernel) (by decide +kernel), pw_inT 12 (by decide +kernel) (by decide +kernel), ⟨by decide +kernel, by decide +kernel⟩, by decide +kernel, pw_inT 367 (by decide +kernel) (by decide +kernel)⟩
theorem miX3_costs : pw_MS yX3_costs cX3_costs 5 (some .int) 2 := ⟨pw_inT 976 (by decide +kernel) (by decide +kernel), pw_inT 12 (by decide +kernel) (by decide +kernel), ⟨by decide +kernel, by decide +kernel⟩, by decide +kernel, pw_inT 975 (by decide +kernel) (by decide +kernel)⟩
theorem miX3_stretch : pw_MS yX3_stretch cX3_stretch 4 (some .int) 3 := ⟨pw_inT 599 (by decide +kernel) (by decide +kernel), pw_inT 12 (by decide +kernel) (by decide +kernel), ⟨by decide +kernel, by decide +kernel⟩, by decide +kernel, pw_inT 598 (by decide +kernel) (by decide +kernel)⟩
theorem miX3_pull : pw_MS yX3_pull cX3_pull 3 (some .int) 3 := ⟨pw_inT 778 (by decide +kernel) (by decide +kernel), pw_inT 12 (by decide +kernel) (by decide +kernel), ⟨by decide +kernel, by decide +kernel⟩, by decide +kernel, pw_inT 777 (by decide +kernel) (by decide +kernel)⟩
theorem miX4_endOfTheRoad : pw_MV yX4_endOfTheRoad cX4_endOfTheRoad 6 (some .int) 2 := ⟨pw_inT 509 (by decide +kernel) (by decide +kernel), pw_inT 3 (by decide +kernel) (by decide +kernel), ⟨by decide +kernel, by decide +kernel⟩, by decide +kernel, pw_inT 507 (by decide +kernel) (by decide +kernel), pw_inT 508 (by decide +kernel) (by decide +kernel)⟩
theorem miX4_restingPlace : pw_MV yX4_restingPlace cX4_restingPlace 8 (some .int) 1 := ⟨pw_inT 520 (by decide +kernel) (by decide +kernel), pw_inT 3 (by decide +kernel) (by decide +kernel), ⟨by decide +kernel, by decide +kernel⟩, by decide +kernel, pw_inT 518 (by decide +kernel) (by decide +kernel), pw_inT 519 (by decide +kernel) (by decide +kernel)⟩
theorem miX4_snappedByGoing : pw_MV yX4_snappedByGoing cX4_snappedByGoing 3 (some .int) 2 := ⟨pw_inT 626 (by decide +kernel) (by decide +kernel), pw_inT 3 (by decide +kernel) (by decide +kernel), ⟨by decide +kernel, by decide +kernel⟩, by decide +kernel, pw_inT 624 (by decide +kernel) (by decide +kernel), pw_inT 625 (by decide +kernel) (by decide +kernel)⟩
theorem miX4_farTo : pw_MV yX4_farTo cX4_farTo 4 (some .int) 1 := ⟨pw_inT 572 (by decide +kernel) (by decide +kernel), pw_inT 3 (by decide +kernel) (by decide +kernel), ⟨by decide +kernel, by decide +kernel⟩, by decide +kernel, pw_inT 570 (by decide +kernel) (by decide +kernel), pw_inT 571 (by decide +kernel) (by decide +kernel)⟩
theorem miX4_meetingPlace : pw_MV yX4_meetingPlace cX4_meetingPlace 3 (some .int) 0 := ⟨pw_inT 568 (by decide +kernel) (by decide +kernel), pw_inT 3 (by decide +kernel) (by decide +kernel), ⟨by decide +kernel, by decide +kernel⟩, by decide +kernel, pw_inT 566 (by decide +kernel) (by decide +kernel), pw_inT 567 (by decide +kernel) (by decide +kernel)⟩
theorem miX4_snappedByMeeting : pw_MV yX4_snappedByMeeting cX4_snappedByMeeting 4 (some .int) 0 := ⟨pw_inT 577 (by decide +kernel) (by decide +kernel), pw_inT 3 (by decide +kernel) (by decide +kernel), ⟨by decide +kernel, by decide +kernel⟩, by decide +kernel, pw_inT 575 (by decide +kernel) (by decide +kernel), pw_inT 576 (by decide +kernel) (by decide +kernel)⟩
theorem miX4_weighOrders : pw_MV yX4_weighOrders cX4_weighOrders 5 (none) 0 := ⟨pw_inT 587 (by decide +kernel) (by decide +kernel), pw_inT 3 (by decide +kernel) (by decide +kernel), ⟨by decide +kernel, by decide +kernel⟩, by decide +kernel, pw_inT 585 (by decide +kernel) (by decide +kernel), pw_inT 586 (by decide +kernel) (by decide +kernel)⟩
theorem miX4_fewestSnapped : pw_MV yX4_fewestSnapped cX4_fewestSnapped 1 (some .int) 0 := ⟨pw_inT 610 (by decide +kernel) (by decide +kernel), pw_inT 3 (by decide +kernel) (by decide +kernel), ⟨by decide +kernel, by decide +kernel⟩, by decide +kernel, pw_inT 608 (by decide +kernel) (by decide +kernel), pw_inT 609 (by decide +kernel) (by decide +kernel)⟩
theorem miX4_inOrder : pw_MV yX4_inOrder cX4_inOrder 5 (some .int) 1 := ⟨pw_inT 614 (by decide +kernel) (by decide +kernel), pw_inT 3 (by decide +kernel) (by decide +kernel), ⟨by decide +kernel, by decide +kernel⟩, by decide +kernel, pw_inT 612 (by decide +kernel) (by decide +kernel), pw_inT 613 (by decide +kernel) (by decide +kernel)⟩
theorem miX4_nextInOrder : pw_MV yX4_nextInOrder cX4_nextInOrder 3 (some .int) 1 := ⟨pw_inT 618 (by decide +kernel) (by decide +kernel), pw_inT 3 (by decide +kernel) (by decide +kernel), ⟨by decide +kernel, by decide +kernel⟩, by decide +kernel, pw_inT 617 (by decide +kernel) (by decide +kernel), pw_inS 6 (by decide +kernel) (by decide +kernel)⟩
theorem miX4_snappedIfNext : pw_MV yX4_snappedIfNext cX4_snappedIfNext 5 (some .int) 2 := ⟨pw_inT 605 (by decide +kernel) (by decide +kernel), pw_inT 3 (by decide +kernel) (by decide +kernel), ⟨by decide +kernel, by decide +kernel⟩, by decide +kernel, pw_inT 604 (by decide +kernel) (by decide +kernel), pw_inS 5 (by decide +kernel) (by decide +kernel)⟩
theorem miX4_findFirstBreaks : pw_MV yX4_findFirstBreaks cX4_findFirstBreaks 5 (none) 1 := ⟨pw_inT 591 (by decide +kernel) (by decide +kernel), pw_inT 3 (by decide +kernel) (by decide +kernel), ⟨by decide +kernel, by decide +kernel⟩, by decide +kernel, pw_inT 590 (by decide +kernel) (by decide +kernel), pw_inS 3 (by decide +kernel) (by decide +kernel)⟩
theorem miX4_breaksTo : pw_MV yX4_breaksTo cX4_breaksTo 4 (some .int) 2 := ⟨pw_inT 596 (by decide +kernel) (by decide +kernel), pw_inT 3 (by decide +kernel) (by decide +kernel), ⟨by decide +kernel, by decide +kernel⟩, by decide +kernel, pw_inT 595 (by decide +kernel) (by decide +kernel), pw_inS 4 (by decide +kernel) (by decide +kernel)⟩
theorem miX4_farthestTwo : pw_MV yX4_farthestTwo cX4_farthestTwo 6 (some .int) 1 := ⟨pw_inT 863 (by decide +kernel) (by decide +kernel), pw_inT 3 (by decide +kernel) (by decide +kernel), ⟨by decide +kernel, by decide +kernel⟩, by decide +kernel, pw_inT 861 (by decide +kernel) (by decide +kernel), pw_inT 862 (by decide +kernel) (by decide +kernel)⟩
theorem miX5_keepKind : pw_MV yX5_keepKind cX5_keepKind 3 (none) 2 := ⟨pw_inT 941 (by decide +kernel) (by decide +kernel), pw_inT 9 (by decide +kernel) (by decide +kernel), ⟨by decide +kernel, by decide +kernel⟩, by decide +kernel, pw_inT 939 (by decide +kernel) (by decide +kernel), pw_inT 940 (by decide +kernel) (by decide +kernel)⟩
theorem miX5_keepRow : pw_MV yX5_keepRow cX5_keepRow 4 (none) 2 := ⟨pw_inT 949 (by decide +kernel) (by decide +kernel), pw_inT 9 (by decide +kernel) (by decide +kernel), ⟨by decide +kernel, by decide +kernel⟩, by decide +kernel, pw_inT 947 (by decide +kernel) (by decide +kernel), pw_inT 948 (by decide +kernel) (by decide +kernel)⟩
theorem miX5_hasPlace : pw_MV yX5_hasPlace cX5_hasPlace 2 (some .boolean) 1 := ⟨pw_inT 316 (by decide +kernel) (by decide +kernel), pw_inT 9 (by decide +kernel) (by decide +kernel), ⟨by decide +kernel, by decide +kernel⟩, by decide +kernel, pw_inT 314 (by decide +kernel) (by decide +kernel), pw_inT 315 (by decide +kernel) (by decide +kernel)⟩
theorem miX5_hasPart : pw_MV yX5_hasPart cX5_hasPart 3 (some .boolean) 2 := ⟨pw_inT 966 (by decide +kernel) (by decide +kernel), pw_inT 9 (by decide +kernel) (by decide +kernel), ⟨by decide +kernel, by decide +kernel⟩, by decide +kernel, pw_inT 964 (by decide +kernel) (by decide +kernel), pw_inT 965 (by decide +kernel) (by decide +kernel)⟩
theorem miX5_at : pw_MV yX5_at cX5_at 2 (some .int) 1 := ⟨pw_inT 312 (by decide +kernel) (by decide +kernel), pw_inT 9 (by decide +kernel) (by decide +kernel), ⟨by decide +kernel, by decide +kernel⟩, by decide +kernel, pw_inT 310 (by decide +kernel) (by decide +kernel), pw_inT 311 (by decide +kernel) (by decide +kernel)⟩
theorem miX5_take : pw_MV yX5_take cX5_take 3 (none) 2 := ⟨pw_inT 958 (by decide +kernel) (by decide +kernel), pw_inT 9 (by decide +kernel) (by decide +kernel), ⟨by decide +kernel, by decide +kernel⟩, by decide +kernel, pw_inT 956 (by decide +kernel) (by decide +kernel), pw_inT 957 (by decide +kernel) (by decide +kernel)⟩
theorem miX5_isSkipped : pw_MV yX5_isSkipped cX5_isSkipped 3 (some .boolean) 1 := ⟨pw_inT 760 (by decide +kernel) (by decide +kernel), pw_inT 9 (by decide +kernel) (by decide +kernel), ⟨by decide +kernel, by decide +kernel⟩, by decide +kernel, pw_inT 758 (by decide +kernel) (by decide +kernel), pw_inT 759 (by decide +kernel) (by decide +kernel)⟩
theorem miX6_howMany : pw_MV yX6_howMany cX6_howMany 3 (some .int) 0 := ⟨pw_inT 634 (by decide +kernel) (by decide +kernel), pw_inT 5 (by decide +kernel) (by decide +kernel), ⟨by decide +kernel, by decide +kernel⟩, by decide +kernel, pw_inT 632 (by decide +kernel) (by decide +kernel), pw_inT 633 (by decide +kernel) (by decide +kernel)⟩
theorem miX6_firstTwo : pw_MV yX6_firstTwo cX6_firstTwo 2 (some .int) 0 := ⟨pw_inT 660 (by decide +kernel) (by decide +kernel), pw_inT 5 (by decide +kernel) (by decide +kernel), ⟨by decide +kernel, by decide +kernel⟩, by decide +kernel, pw_inT 658 (by decide +kernel) (by decide +kernel), pw_inT 659 (by decide +kernel) (by decide +kernel)⟩
theorem miX6_fewestInTheWay : pw_MV yX6_fewestInTheWay cX6_fewestInTheWay 4 (some .int) 0 := ⟨pw_inT 669 (by decide +kernel) (by decide +kernel), pw_inT 5 (by decide +kernel) (by decide +kernel), ⟨by decide +kernel, by decide +kernel⟩, by decide +kernel, pw_inT 667 (by decide +kernel) (by decide +kernel), pw_inT 668 (by decide +kernel) (by decide +kernel)⟩
theorem miX6_isUntangled : pw_MV yX6_isUntangled cX6_isUntangled 3 (some .boolean) 1 := ⟨pw_inT 673 (by decide +kernel) (by decide +kernel), pw_inT 5 (by decide +kernel) (by decide +kernel), ⟨by decide +kernel, by decide +kernel⟩, by decide +kernel, pw_inT 672 (by decide +kernel) (by decide +kernel), pw_inS 11 (by decide +kernel) (by decide +kernel)⟩
theorem miX6_findCrossed : pw_MV yX6_findCrossed cX6_findCrossed 3 (none) 0 := ⟨pw_inT 638 (by decide +kernel) (by decide +kernel), pw_inT 5 (by decide +kernel) (by decide +kernel), ⟨by decide +kernel, by decide +kernel⟩, by decide +kernel, pw_inT 637 (by decide +kernel) (by decide +kernel), pw_inS 7 (by decide +kernel) (by decide +kernel)⟩
theorem miX6_reachesInto : pw_MV yX6_reachesInto cX6_reachesInto 5 (some .boolean) 2 := ⟨pw_inT 643 (by decide +kernel) (by decide +kernel), pw_inT 5 (by decide +kernel) (by decide +kernel), ⟨by decide +kernel, by decide +kernel⟩, by decide +kernel, pw_inT 642 (by decide +kernel) (by decide +kernel), pw_inS 8 (by decide +kernel) (by decide +kernel)⟩
theorem miX6_least : pw_MV yX6_least cX6_least 2 (some .int) 1 := ⟨pw_inT 647 (by decide +kernel) (by decide +kernel), pw_inT 5 (by decide +kernel) (by decide +kernel), ⟨by decide +kernel, by decide +kernel⟩, by decide +kernel, pw_inT 646 (by decide +kernel) (by decide +kernel), pw_inS 9 (by decide +kernel) (by decide +kernel)⟩
theorem miX6_greatest : pw_MV yX6_greatest cX6_greatest 2 (some .int) 1 := ⟨pw_inT 652 (by decide +kernel) (by decide +kernel), pw_inT 5 (by decide +kernel) (by decide +kernel), ⟨by decide +kernel, by decide +kernel⟩, by decide +kernel, pw_inT 651 (by decide +kernel) (by decide +kernel), pw_inS 10 (by decide +kernel) (by decide +kernel)⟩
theorem miX7_becomes : pw_MV yX7_becomes cX7_becomes 3 (none) 1 := ⟨pw_inT 323 (by decide +kernel) (by decide +kernel), pw_inT 2 (by decide +kernel) (by decide +kernel), ⟨by decide +kernel, by decide +kernel⟩, by decide +kernel, pw_inT 321 (by decide +kernel) (by decide +kernel), pw_inT 322 (by decide +kernel) (by decide +kernel)⟩
theorem miX7_isPerson : pw_MV yX7_isPerson cX7_isPerson 2 (some .boolean) 1 := ⟨pw_inT 355 (by decide +kernel) (by decide +kernel), pw_inT 2 (by decide +kernel) (by decide +kernel), ⟨by decide +kernel, by decide +kernel⟩, by decide +kernel, pw_inT 353 (by decide +kernel) (by decide +kernel), pw_inT 354 (by decide +kernel) (by decide +kernel)⟩
theorem miX7_areTwo : pw_MV yX7_areTwo cX7_areTwo 3 (some .boolean) 2 := ⟨pw_inT 351 (by decide +kernel) (by decide +kernel), pw_inT 2 (by decide +kernel) (by decide +kernel), ⟨by decide +kernel, by decide +kernel⟩, by decide +kernel, pw_inT 349 (by decide +kernel) (by decide +kernel), pw_inT 350 (by decide +kernel) (by decide +kernel)⟩
theorem miX7_isBand : pw_MV yX7_isBand cX7_isBand 2 (some .boolean) 1 := ⟨pw_inT 439 (by decide +kernel) (by decide +kernel), pw_inT 2 (by decide +kernel) (by decide +kernel), ⟨by decide +kernel, by decide +kernel⟩, by decide +kernel, pw_inT 437 (by decide +kernel) (by decide +kernel), pw_inT 438 (by decide +kernel) (by decide +kernel)⟩
theorem miX7_isSnapped : pw_MV yX7_isSnapped cX7_isSnapped 2 (some .boolean) 1 := ⟨pw_inT 380 (by decide +kernel) (by decide +kernel), pw_inT 2 (by decide +kernel) (by decide +kernel), ⟨by decide +kernel, by decide +kernel⟩, by decide +kernel, pw_inT 378 (by decide +kernel) (by decide +kernel), pw_inT 379 (by decide +kernel) (by decide +kernel)⟩
theorem miX7_isRound : pw_MV yX7_isRound cX7_isRound 4 (some .boolean) 3 := ⟨pw_inT 814 (by decide +kernel) (by decide +kernel), pw_inT 2 (by decide +kernel) (by decide +kernel), ⟨by decide +kernel, by decide +kernel⟩, by decide +kernel, pw_inT 812 (by decide +kernel) (by decide +kernel), pw_inT 813 (by decide +kernel) (by decide +kernel)⟩
theorem miX7_snappedCount : pw_MV yX7_snappedCount cX7_snappedCount 1 (some .int) 0 := ⟨pw_inT 492 (by decide +kernel) (by decide +kernel), pw_inT 2 (by decide +kernel) (by decide +kernel), ⟨by decide +kernel, by decide +kernel⟩, by decide +kernel, pw_inT 490 (by decide +kernel) (by decide +kernel), pw_inT 491 (by decide +kernel) (by decide +kernel)⟩
theorem miX7_apart : pw_MV yX7_apart cX7_apart 3 (some .int) 2 := ⟨pw_inT 805 (by decide +kernel) (by decide +kernel), pw_inT 2 (by decide +kernel) (by decide +kernel), ⟨by decide +kernel, by decide +kernel⟩, by decide +kernel, pw_inT 803 (by decide +kernel) (by decide +kernel), pw_inT 804 (by decide +kernel) (by decide +kernel)⟩
theorem miX7_stretch : pw_MV yX7_stretch cX7_stretch 4 (some .int) 1 := ⟨pw_inT 384 (by decide +kernel) (by decide +kernel), pw_inT 2 (by decide +kernel) (by decide +kernel), ⟨by decide +kernel, by decide +kernel⟩, by decide +kernel, pw_inT 382 (by decide +kernel) (by decide +kernel), pw_inT 383 (by decide +kernel) (by decide +kernel)⟩
theorem miX7_pull : pw_MV yX7_pull cX7_pull 2 (some .int) 1 := ⟨pw_inT 428 (by decide +kernel) (by decide +kernel), pw_inT 2 (by decide +kernel) (by decide +kernel), ⟨by decide +kernel, by decide +kernel⟩, by decide +kernel, pw_inT 426 (by decide +kernel) (by decide +kernel), pw_inT 427 (by decide +kernel) (by decide +kernel)⟩
theorem miX7_holdsAt : pw_MV yX7_holdsAt cX7_holdsAt 5 (some .int) 3 := ⟨pw_inT 388 (by decide +kernel) (by decide +kernel), pw_inT 2 (by decide +kernel) (by decide +kernel), ⟨by decide +kernel, by decide +kernel⟩, by decide +kernel, pw_inT 386 (by decide +kernel) (by decide +kernel), pw_inT 387 (by decide +kernel) (by decide +kernel)⟩
theorem miX7_overstretched : pw_MV yX7_overstretched cX7_overstretched 4 (some .int) 1 := ⟨pw_inT 376 (by decide +kernel) (by decide +kernel), pw_inT 2 (by decide +kernel) (by decide +kernel), ⟨by decide +kernel, by decide +kernel⟩, by decide +kernel, pw_inT 374 (by decide +kernel) (by decide +kernel), pw_inT 375 (by decide +kernel) (by decide +kernel)⟩
theorem miX7_tryAll : pw_MV yX7_tryAll cX7_tryAll 3 (some .int) 0 := ⟨pw_inT 372 (by decide +kernel) (by decide +kernel), pw_inT 2 (by decide +kernel) (by decide +kernel), ⟨by decide +kernel, by decide +kernel⟩, by decide +kernel, pw_inT 370 (by decide +kernel) (by decide +kernel), pw_inT 371 (by decide +kernel) (by decide +kernel)⟩
theorem miX7_sting : pw_MV yX7_sting cX7_sting 2 (none) 1 := ⟨pw_inT 392 (by decide +kernel) (by decide +kernel), pw_inT 2 (by decide +kernel) (by decide +kernel), ⟨by decide +kernel, by decide +kernel⟩, by decide +kernel, pw_inT 390 (by decide +kernel) (by decide +kernel), pw_inT 391 (by decide +kernel) (by decide +kernel)⟩
theorem miX7_addPerson : pw_MV yX7_addPerson cX7_addPerson 3 (some .int) 1 := ⟨pw_inT 344 (by decide +kernel) (by decide +kernel), pw_inT 2 (by decide +kernel) (by decide +kernel), ⟨by decide +kernel, by decide +kernel⟩, by decide +kernel, pw_inT 342 (by decide +kernel) (by decide +kernel), pw_inT 343 (by decide +kernel) (by decide +kernel)⟩
theorem miX7_addBand : pw_MV yX7_addBand cX7_addBand 6 (some .int) 4 := ⟨pw_inT 359 (by decide +kernel) (by decide +kernel), pw_inT 2 (by decide +kernel) (by decide +kernel), ⟨by decide +kernel, by decide +kernel⟩, by decide +kernel, pw_inT 357 (by decide +kernel) (by decide +kernel), pw_inT 358 (by decide +kernel) (by decide +kernel)⟩
theorem miX7_moves : pw_MV yX7_moves cX7_moves 3 (some .int) 2 := ⟨pw_inT 406 (by decide +kernel) (by decide +kernel), pw_inT 2 (by decide +kernel) (by decide +kernel), ⟨by decide +kernel, by decide +kernel⟩, by decide +kernel, pw_inT 404 (by decide +kernel) (by decide +kernel), pw_inT 405 (by decide +kernel) (by decide +kernel)⟩
theorem miX7_chills : pw_MV yX7_chills cX7_chills 2 (some .int) 1 := ⟨pw_inT 410 (by decide +kernel) (by decide +kernel), pw_inT 2 (by decide +kernel) (by decide +kernel), ⟨by decide +kernel, by decide +kernel⟩, by decide +kernel, pw_inT 408 (by decide +kernel) (by decide +kernel), pw_inT 409 (by decide +kernel) (by decide +kernel)⟩
theorem miX7_passYears : pw_MV yX7_passYears cX7_passYears 3 (none) 1 := ⟨pw_inT 496 (by decide +kernel) (by decide +kernel), pw_inT 2 (by decide +kernel) (by decide +kernel), ⟨by decide +kernel, by decide +kernel⟩, by decide +kernel, pw_inT 494 (by decide +kernel) (by decide +kernel), pw_inT 495 (by decide +kernel) (by decide +kernel)⟩
theorem miX7_passYear : pw_MV yX7_passYear cX7_passYear 2 (some .boolean) 0 := ⟨pw_inT 417 (by decide +kernel) (by decide +kernel), pw_inT 2 (by decide +kernel) (by decide +kernel), ⟨by decide +kernel, by decide +kernel⟩, by decide +kernel, pw_inT 415 (by decide +kernel) (by decide +kernel), pw_inT 416 (by decide +kernel) (by decide +kernel)⟩
theorem miX7_stepAll : pw_MV yX7_stepAll cX7_stepAll 3 (some .int) 0 := ⟨pw_inT 432 (by decide +kernel) (by decide +kernel), pw_inT 2 (by decide +kernel) (by decide +kernel), ⟨by decide +kernel, by decide +kernel⟩, by decide +kernel, pw_inT 430 (by decide +kernel) (by decide +kernel), pw_inT 431 (by decide +kernel) (by decide +kernel)⟩
theorem miX7_weighLeans : pw_MV yX7_weighLeans cX7_weighLeans 5 (none) 0 := ⟨pw_inT 424 (by decide +kernel) (by decide +kernel), pw_inT 2 (by decide +kernel) (by decide +kernel), ⟨by decide +kernel, by decide +kernel⟩, by decide +kernel, pw_inT 422 (by decide +kernel) (by decide +kernel), pw_inT 423 (by decide +kernel) (by decide +kernel)⟩
theorem miX7_pulled : pw_MV yX7_pulled cX7_pulled 6 (some .int) 2 := ⟨pw_inT 449 (by decide +kernel) (by decide +kernel), pw_inT 2 (by decide +kernel) (by decide +kernel), ⟨by decide +kernel, by decide +kernel⟩, by decide +kernel, pw_inT 447 (by decide +kernel) (by decide +kernel), pw_inT 448 (by decide +kernel) (by decide +kernel)⟩
theorem miX7_allStung : pw_MV yX7_allStung cX7_allStung 3 (some .int) 0 := ⟨pw_inT 916 (by decide +kernel) (by decide +kernel), pw_inT 2 (by decide +kernel) (by decide +kernel), ⟨by decide +kernel, by decide +kernel⟩, by decide +kernel, pw_inT 914 (by decide +kernel) (by decide +kernel), pw_inT 915 (by decide +kernel) (by decide +kernel)⟩
theorem miX7_allPull : pw_MV yX7_allPull cX7_allPull 3 (some .int) 0 := ⟨pw_inT 933 (by decide +kernel) (by decide +kernel), pw_inT 2 (by decide +kernel) (by decide +kernel), ⟨by decide +kernel, by decide +kernel⟩, by decide +kernel, pw_inT 931 (by decide +kernel) (by decide +kernel), pw_inT 932 (by decide +kernel) (by decide +kernel)⟩
theorem miX7_stretchOfWhole : pw_MV yX7_stretchOfWhole cX7_stretchOfWhole 3 (some .int) 0 := ⟨pw_inT 855 (by decide +kernel) (by decide +kernel), pw_inT 2 (by decide +kernel) (by decide +kernel), ⟨by decide +kernel, by decide +kernel⟩, by decide +kernel, pw_inT 853 (by decide +kernel) (by decide +kernel), pw_inT 854 (by decide +kernel) (by decide +kernel)⟩
theorem miX8_digitsBehind : pw_MS yX8_digitsBehind cX8_digitsBehind 1 (some .int) 1 := ⟨pw_inT 319 (by decide +kernel) (by decide +kernel), pw_inT 11 (by decide +kernel) (by decide +kernel), ⟨by decide +kernel, by decide +kernel⟩, by decide +kernel, pw_inT 318 (by decide +kernel) (by decide +kernel)⟩
theorem miX8_formFault : pw_MS yX8_formFault cX8_formFault 5 (some .int) 1 := ⟨pw_inT 308 (by decide +kernel) (by decide +kernel), pw_inT 11 (by decide +kernel) (by decide +kernel), ⟨by decide +kernel, by decide +kernel⟩, by decide +kernel, pw_inT 307 (by decide +kernel) (by decide +kernel)⟩
theorem miX8_happens : pw_MS yX8_happens cX8_happens 3 (some .boolean) 3 := ⟨pw_inT 328 (by decide +kernel) (by decide +kernel), pw_inT 11 (by decide +kernel) (by decide +kernel), ⟨by decide +kernel, by decide +kernel⟩, by decide +kernel, pw_inT 327 (by decide +kernel) (by decide +kernel)⟩
theorem miX8_digit : pw_MS yX8_digit cX8_digit 2 (some .int) 2 := ⟨pw_inT 334 (by decide +kernel) (by decide +kernel), pw_inT 11 (by decide +kernel) (by decide +kernel), ⟨by decide +kernel, by decide +kernel⟩, by decide +kernel, pw_inT 333 (by decide +kernel) (by decide +kernel)⟩
theorem miX8_twoDigits : pw_MS yX8_twoDigits cX8_twoDigits 2 (some .int) 2 := ⟨pw_inT 331 (by decide +kernel) (by decide +kernel), pw_inT 11 (by decide +kernel) (by decide +kernel), ⟨by decide +kernel, by decide +kernel⟩, by decide +kernel, pw_inT 330 (by decide +kernel) (by decide +kernel)⟩
theorem miX8_personComes : pw_MS yX8_personComes cX8_personComes 2 (some .boolean) 2 := ⟨pw_inT 337 (by decide +kernel) (by decide +kernel), pw_inT 11 (by decide +kernel) (by decide +kernel), ⟨by decide +kernel, by decide +kernel⟩, by decide +kernel, pw_inT 336 (by decide +kernel) (by decide +kernel)⟩
theorem miX8_bandComes : pw_MS yX8_bandComes cX8_bandComes 6 (some .boolean) 3 := ⟨pw_inT 347 (by decide +kernel) (by decide +kernel), pw_inT 11 (by decide +kernel) (by decide +kernel), ⟨by decide +kernel, by decide +kernel⟩, by decide +kernel, pw_inT 346 (by decide +kernel) (by decide +kernel)⟩
theorem miX8_personGoes : pw_MS yX8_personGoes cX8_personGoes 3 (some .boolean) 3 := ⟨pw_inT 401 (by decide +kernel) (by decide +kernel), pw_inT 11 (by decide +kernel) (by decide +kernel), ⟨by decide +kernel, by decide +kernel⟩, by decide +kernel, pw_inT 400 (by decide +kernel) (by decide +kernel)⟩
theorem miX8_yearsPass : pw_MS yX8_yearsPass cX8_yearsPass 3 (some .boolean) 2 := ⟨pw_inT 413 (by decide +kernel) (by decide +kernel), pw_inT 11 (by decide +kernel) (by decide +kernel), ⟨by decide +kernel, by decide +kernel⟩, by decide +kernel, pw_inT 412 (by decide +kernel) (by decide +kernel)⟩
theorem miX8_bandIsCut : pw_MS yX8_bandIsCut cX8_bandIsCut 2 (some .boolean) 2 := ⟨pw_inT 435 (by decide +kernel) (by decide +kernel), pw_inT 11 (by decide +kernel) (by decide +kernel), ⟨by decide +kernel, by decide +kernel⟩, by decide +kernel, pw_inT 434 (by decide +kernel) (by decide +kernel)⟩
theorem miX9_townIn : pw_MV yX9_townIn cX9_townIn 2 (some (.object "RubberBandsHoldFamilies$Town")) 1 := ⟨pw_inT 534 (by decide +kernel) (by decide +kernel), pw_inT 4 (by decide +kernel) (by decide +kernel), ⟨by decide +kernel, by decide +kernel⟩, by decide +kernel, pw_inT 532 (by decide +kernel) (by decide +kernel), pw_inT 533 (by decide +kernel) (by decide +kernel)⟩
theorem miX9_yearsToStillness : pw_MV yX9_yearsToStillness cX9_yearsToStillness 2 (some .int) 0 := ⟨pw_inT 548 (by decide +kernel) (by decide +kernel), pw_inT 4 (by decide +kernel) (by decide +kernel), ⟨by decide +kernel, by decide +kernel⟩, by decide +kernel, pw_inT 546 (by decide +kernel) (by decide +kernel), pw_inT 547 (by decide +kernel) (by decide +kernel)⟩
theorem miX9_firstToSnap : pw_MV yX9_firstToSnap cX9_firstToSnap 3 (some .int) 1 := ⟨pw_inT 557 (by decide +kernel) (by decide +kernel), pw_inT 4 (by decide +kernel) (by decide +kernel), ⟨by decide +kernel, by decide +kernel⟩, by decide +kernel, pw_inT 555 (by decide +kernel) (by decide +kernel), pw_inT 556 (by decide +kernel) (by decide +kernel)⟩
theorem miX9_firstUntrue : pw_MV yX9_firstUntrue cX9_firstUntrue 3 (some .int) 1 := ⟨pw_inT 889 (by decide +kernel) (by decide +kernel), pw_inT 4 (by decide +kernel) (by decide +kernel), ⟨by decide +kernel, by decide +kernel⟩, by decide +kernel, pw_inT 887 (by decide +kernel) (by decide +kernel), pw_inT 888 (by decide +kernel) (by decide +kernel)⟩
theorem miX10_town : pw_MV yX10_town cX10_town 7 (some .int) 1 := ⟨pw_inT 294 (by decide +kernel) (by decide +kernel), pw_inT 1 (by decide +kernel) (by decide +kernel), ⟨by decide +kernel, by decide +kernel⟩, by decide +kernel, pw_inT 292 (by decide +kernel) (by decide +kernel), pw_inT 293 (by decide +kernel) (by decide +kernel)⟩
theorem miX10_person : pw_MV yX10_person cX10_person 3 (some .int) 2 := ⟨pw_inT 444 (by decide +kernel) (by decide +kernel), pw_inT 1 (by decide +kernel) (by decide +kernel), ⟨by decide +kernel, by decide +kernel⟩, by decide +kernel, pw_inT 442 (by decide +kernel) (by decide +kernel), pw_inT 443 (by decide +kernel) (by decide +kernel)⟩
theorem miX10_band : pw_MV yX10_band cX10_band 3 (some .int) 2 := ⟨pw_inT 453 (by decide +kernel) (by decide +kernel), pw_inT 1 (by decide +kernel) (by decide +kernel), ⟨by decide +kernel, by decide +kernel⟩, by decide +kernel, pw_inT 451 (by decide +kernel) (by decide +kernel), pw_inT 452 (by decide +kernel) (by decide +kernel)⟩
theorem miX10_comes : pw_MV yX10_comes cX10_comes 2 (some .int) 1 := ⟨pw_inT 462 (by decide +kernel) (by decide +kernel), pw_inT 1 (by decide +kernel) (by decide +kernel), ⟨by decide +kernel, by decide +kernel⟩, by decide +kernel, pw_inT 460 (by decide +kernel) (by decide +kernel), pw_inT 461 (by decide +kernel) (by decide +kernel)⟩
theorem miX10_ties : pw_MV yX10_ties cX10_ties 5 (some .int) 3 := ⟨pw_inT 468 (by decide +kernel) (by decide +kernel), pw_inT 1 (by decide +kernel) (by decide +kernel), ⟨by decide +kernel, by decide +kernel⟩, by decide +kernel, pw_inT 466 (by decide +kernel) (by decide +kernel), pw_inT 467 (by decide +kernel) (by decide +kernel)⟩
theorem miX10_goes : pw_MV yX10_goes cX10_goes 3 (some .int) 2 := ⟨pw_inT 478 (by decide +kernel) (by decide +kernel), pw_inT 1 (by decide +kernel) (by decide +kernel), ⟨by decide +kernel, by decide +kernel⟩, by decide +kernel, pw_inT 476 (by decide +kernel) (by decide +kernel), pw_inT 477 (by decide +kernel) (by decide +kernel)⟩
theorem miX10_cold : pw_MV yX10_cold cX10_cold 2 (some .int) 1 := ⟨pw_inT 483 (by decide +kernel) (by decide +kernel), pw_inT 1 (by decide +kernel) (by decide +kernel), ⟨by decide +kernel, by decide +kernel⟩, by decide +kernel, pw_inT 481 (by decide +kernel) (by decide +kernel), pw_inT 482 (by decide +kernel) (by decide +kernel)⟩
theorem miX10_years : pw_MV yX10_years cX10_years 3 (some .int) 1 := ⟨pw_inT 488 (by decide +kernel) (by decide +kernel), pw_inT 1 (by decide +kernel) (by decide +kernel), ⟨by decide +kernel, by decide +kernel⟩, by decide +kernel, pw_inT 486 (by decide +kernel) (by decide +kernel), pw_inT 487 (by decide +kernel) (by decide +kernel)⟩
theorem miX10_cuts : pw_MV yX10_cuts cX10_cuts 2 (some .int) 1 := ⟨pw_inT 501 (by decide +kernel) (by decide +kernel), pw_inT 1 (by decide +kernel) (by decide +kernel), ⟨by decide +kernel, by decide +kernel⟩, by decide +kernel, pw_inT 499 (by decide +kernel) (by decide +kernel), pw_inT 500 (by decide +kernel) (by decide +kernel)⟩
theorem miX10_mayGo : pw_MV yX10_mayGo cX10_mayGo 3 (some .int) 2 := ⟨pw_inT 505 (by decide +kernel) (by decide +kernel), pw_inT 1 (by decide +kernel) (by decide +kernel), ⟨by decide +kernel, by decide +kernel⟩, by decide +kernel, pw_inT 503 (by decide +kernel) (by decide +kernel), pw_inT 504 (by decide +kernel) (by decide +kernel)⟩
theorem miX10_rest : pw_MV yX10_rest cX10_rest 2 (some .int) 1 := ⟨pw_inT 516 (by decide +kernel) (by decide +kernel), pw_inT 1 (by decide +kernel) (by decide +kernel), ⟨by decide +kernel, by decide +kernel⟩, by decide +kernel, pw_inT 514 (by decide +kernel) (by decide +kernel), pw_inT 515 (by decide +kernel) (by decide +kernel)⟩
theorem miX10_placeIn : pw_MV yX10_placeIn cX10_placeIn 3 (some .int) 2 := ⟨pw_inT 530 (by decide +kernel) (by decide +kernel), pw_inT 1 (by decide +kernel) (by decide +kernel), ⟨by decide +kernel, by decide +kernel⟩, by decide +kernel, pw_inT 528 (by decide +kernel) (by decide +kernel), pw_inT 529 (by decide +kernel) (by decide +kernel)⟩
theorem miX10_snappedIn : pw_MV yX10_snappedIn cX10_snappedIn 2 (some .int) 1 := ⟨pw_inT 540 (by decide +kernel) (by decide +kernel), pw_inT 1 (by decide +kernel) (by decide +kernel), ⟨by decide +kernel, by decide +kernel⟩, by decide +kernel, pw_inT 538 (by decide +kernel) (by decide +kernel), pw_inT 539 (by decide +kernel) (by decide +kernel)⟩
theorem miX10_still : pw_MV yX10_still cX10_still 1 (some .int) 0 := ⟨pw_inT 544 (by decide +kernel) (by decide +kernel), pw_inT 1 (by decide +kernel) (by decide +kernel), ⟨by decide +kernel, by decide +kernel⟩, by decide +kernel, pw_inT 542 (by decide +kernel) (by decide +kernel), pw_inT 543 (by decide +kernel) (by decide +kernel)⟩
theorem miX10_firstSnap : pw_MV yX10_firstSnap cX10_firstSnap 2 (some .int) 1 := ⟨pw_inT 553 (by decide +kernel) (by decide +kernel), pw_inT 1 (by decide +kernel) (by decide +kernel), ⟨by decide +kernel, by decide +kernel⟩, by decide +kernel, pw_inT 551 (by decide +kernel) (by decide +kernel), pw_inT 552 (by decide +kernel) (by decide +kernel)⟩
theorem miX10_christmas : pw_MV yX10_christmas cX10_christmas 2 (some .int) 1 := ⟨pw_inT 564 (by decide +kernel) (by decide +kernel), pw_inT 1 (by decide +kernel) (by decide +kernel), ⟨by decide +kernel, by decide +kernel⟩, by decide +kernel, pw_inT 562 (by decide +kernel) (by decide +kernel), pw_inT 563 (by decide +kernel) (by decide +kernel)⟩
theorem miX10_order : pw_MV yX10_order cX10_order 2 (some .int) 1 := ⟨pw_inT 583 (by decide +kernel) (by decide +kernel), pw_inT 1 (by decide +kernel) (by decide +kernel), ⟨by decide +kernel, by decide +kernel⟩, by decide +kernel, pw_inT 581 (by decide +kernel) (by decide +kernel), pw_inT 582 (by decide +kernel) (by decide +kernel)⟩
theorem miX10_letGo : pw_MV yX10_letGo cX10_letGo 3 (some .int) 2 := ⟨pw_inT 622 (by decide +kernel) (by decide +kernel), pw_inT 1 (by decide +kernel) (by decide +kernel), ⟨by decide +kernel, by decide +kernel⟩, by decide +kernel, pw_inT 620 (by decide +kernel) (by decide +kernel), pw_inT 621 (by decide +kernel) (by decide +kernel)⟩
theorem miX10_crossing : pw_MV yX10_crossing cX10_crossing 2 (some .int) 1 := ⟨pw_inT 630 (by decide +kernel) (by decide +kernel), pw_inT 1 (by decide +kernel) (by decide +kernel), ⟨by decide +kernel, by decide +kernel⟩, by decide +kernel, pw_inT 628 (by decide +kernel) (by decide +kernel), pw_inT 629 (by decide +kernel) (by decide +kernel)⟩
theorem miX10_untangle : pw_MV yX10_untangle cX10_untangle 1 (some .int) 0 := ⟨pw_inT 665 (by decide +kernel) (by decide +kernel), pw_inT 1 (by decide +kernel) (by decide +kernel), ⟨by decide +kernel, by decide +kernel⟩, by decide +kernel, pw_inT 663 (by decide +kernel) (by decide +kernel), pw_inT 664 (by decide +kernel) (by decide +kernel)⟩
theorem miX10_clans : pw_MV yX10_clans cX10_clans 2 (some .int) 1 := ⟨pw_inT 677 (by decide +kernel) (by decide +kernel), pw_inT 1 (by decide +kernel) (by decide +kernel), ⟨by decide +kernel, by decide +kernel⟩, by decide +kernel, pw_inT 675 (by decide +kernel) (by decide +kernel), pw_inT 676 (by decide +kernel) (by decide +kernel)⟩
theorem miX10_cousins : pw_MV yX10_cousins cX10_cousins 3 (some .int) 2 := ⟨pw_inT 699 (by decide +kernel) (by decide +kernel), pw_inT 1 (by decide +kernel) (by decide +kernel), ⟨by decide +kernel, by decide +kernel⟩, by decide +kernel, pw_inT 697 (by decide +kernel) (by decide +kernel), pw_inT 698 (by decide +kernel) (by decide +kernel)⟩
theorem miX10_bridges : pw_MV yX10_bridges cX10_bridges 1 (some .int) 0 := ⟨pw_inT 707 (by decide +kernel) (by decide +kernel), pw_inT 1 (by decide +kernel) (by decide +kernel), ⟨by decide +kernel, by decide +kernel⟩, by decide +kernel, pw_inT 705 (by decide +kernel) (by decide +kernel), pw_inT 706 (by decide +kernel) (by decide +kernel)⟩
theorem miX10_renew : pw_MV yX10_renew cX10_renew 4 (some .int) 2 := ⟨pw_inT 716 (by decide +kernel) (by decide +kernel), pw_inT 1 (by decide +kernel) (by decide +kernel), ⟨by decide +kernel, by decide +kernel⟩, by decide +kernel, pw_inT 714 (by decide +kernel) (by decide +kernel), pw_inT 715 (by decide +kernel) (by decide +kernel)⟩
theorem miX10_frost : pw_MV yX10_frost cX10_frost 2 (some .int) 1 := ⟨pw_inT 736 (by decide +kernel) (by decide +kernel), pw_inT 1 (by decide +kernel) (by decide +kernel), ⟨by decide +kernel, by decide +kernel⟩, by decide +kernel, pw_inT 734 (by decide +kernel) (by decide +kernel), pw_inT 735 (by decide +kernel) (by decide +kernel)⟩
theorem miX10_lurch : pw_MV yX10_lurch cX10_lurch 5 (some .int) 2 := ⟨pw_inT 746 (by decide +kernel) (by decide +kernel), pw_inT 1 (by decide +kernel) (by decide +kernel), ⟨by decide +kernel, by decide +kernel⟩, by decide +kernel, pw_inT 744 (by decide +kernel) (by decide +kernel), pw_inT 745 (by decide +kernel) (by decide +kernel)⟩
theorem miX10_gauges : pw_MV yX10_gauges cX10_gauges 6 (some .int) 3 := ⟨pw_inT 768 (by decide +kernel) (by decide +kernel), pw_inT 1 (by decide +kernel) (by decide +kernel), ⟨by decide +kernel, by decide +kernel⟩, by decide +kernel, pw_inT 766 (by decide +kernel) (by decide +kernel), pw_inT 767 (by decide +kernel) (by decide +kernel)⟩
theorem miX10_two : pw_MV yX10_two cX10_two 3 (some .int) 2 := ⟨pw_inT 784 (by decide +kernel) (by decide +kernel), pw_inT 1 (by decide +kernel) (by decide +kernel), ⟨by decide +kernel, by decide +kernel⟩, by decide +kernel, pw_inT 782 (by decide +kernel) (by decide +kernel), pw_inT 783 (by decide +kernel) (by decide +kernel)⟩
theorem miX10_night : pw_MV yX10_night cX10_night 5 (some .long) 4 := ⟨pw_inT 818 (by decide +kernel) (by decide +kernel), pw_inT 1 (by decide +kernel) (by decide +kernel), ⟨by decide +kernel, by decide +kernel⟩, by decide +kernel, pw_inT 816 (by decide +kernel) (by decide +kernel), pw_inT 817 (by decide +kernel) (by decide +kernel)⟩
theorem miX10_mean : pw_MV yX10_mean cX10_mean 3 (some .long) 1 := ⟨pw_inT 851 (by decide +kernel) (by decide +kernel), pw_inT 1 (by decide +kernel) (by decide +kernel), ⟨by decide +kernel, by decide +kernel⟩, by decide +kernel, pw_inT 849 (by decide +kernel) (by decide +kernel), pw_inT 850 (by decide +kernel) (by decide +kernel)⟩
theorem miX10_farthest : pw_MV yX10_farthest cX10_farthest 2 (some .int) 1 := ⟨pw_inT 859 (by decide +kernel) (by decide +kernel), pw_inT 1 (by decide +kernel) (by decide +kernel), ⟨by decide +kernel, by decide +kernel⟩, by decide +kernel, pw_inT 857 (by decide +kernel) (by decide +kernel), pw_inT 858 (by decide +kernel) (by decide +kernel)⟩
theorem miX10_forged : pw_MV yX10_forged cX10_forged 3 (some .int) 1 := ⟨pw_inT 868 (by decide +kernel) (by decide +kernel), pw_inT 1 (by decide +kernel) (by decide +kernel), ⟨by decide +kernel, by decide +kernel⟩, by decide +kernel, pw_inT 866 (by decide +kernel) (by decide +kernel), pw_inT 867 (by decide +kernel) (by decide +kernel)⟩
theorem miX10_judge : pw_MV yX10_judge cX10_judge 3 (some .int) 1 := ⟨pw_inT 885 (by decide +kernel) (by decide +kernel), pw_inT 1 (by decide +kernel) (by decide +kernel), ⟨by decide +kernel, by decide +kernel⟩, by decide +kernel, pw_inT 883 (by decide +kernel) (by decide +kernel), pw_inT 884 (by decide +kernel) (by decide +kernel)⟩
theorem miX10_generations : pw_MV yX10_generations cX10_generations 4 (some .int) 3 := ⟨pw_inT 896 (by decide +kernel) (by decide +kernel), pw_inT 1 (by decide +kernel) (by decide +kernel), ⟨by decide +kernel, by decide +kernel⟩, by decide +kernel, pw_inT 894 (by decide +kernel) (by decide +kernel), pw_inT 895 (by decide +kernel) (by decide +kernel)⟩
theorem miX10_image : pw_MV yX10_image cX10_image 1 (some .int) 0 := ⟨pw_inT 920 (by decide +kernel) (by decide +kernel), pw_inT 1 (by decide +kernel) (by decide +kernel), ⟨by decide +kernel, by decide +kernel⟩, by decide +kernel, pw_inT 918 (by decide +kernel) (by decide +kernel), pw_inT 919 (by decide +kernel) (by decide +kernel)⟩
theorem miX10_restore : pw_MV yX10_restore cX10_restore 1 (some .int) 0 := ⟨pw_inT 924 (by decide +kernel) (by decide +kernel), pw_inT 1 (by decide +kernel) (by decide +kernel), ⟨by decide +kernel, by decide +kernel⟩, by decide +kernel, pw_inT 922 (by decide +kernel) (by decide +kernel), pw_inT 923 (by decide +kernel) (by decide +kernel)⟩
theorem miX10_count : pw_MV yX10_count cX10_count 2 (some .int) 1 := ⟨pw_inT 928 (by decide +kernel) (by decide +kernel), pw_inT 1 (by decide +kernel) (by decide +kernel), ⟨by decide +kernel, by decide +kernel⟩, by decide +kernel, pw_inT 926 (by decide +kernel) (by decide +kernel), pw_inT 927 (by decide +kernel) (by decide +kernel)⟩
theorem miX10_keep : pw_MV yX10_keep cX10_keep 5 (some .int) 4 := ⟨pw_inT 937 (by decide +kernel) (by decide +kernel), pw_inT 1 (by decide +kernel) (by decide +kernel), ⟨by decide +kernel, by decide +kernel⟩, by decide +kernel, pw_inT 935 (by decide +kernel) (by decide +kernel), pw_inT 936 (by decide +kernel) (by decide +kernel)⟩
theorem miX10_row : pw_MV yX10_row cX10_row 4 (some .int) 3 := ⟨pw_inT 945 (by decide +kernel) (by decide +kernel), pw_inT 1 (by decide +kernel) (by decide +kernel), ⟨by decide +kernel, by decide +kernel⟩, by decide +kernel, pw_inT 943 (by decide +kernel) (by decide +kernel), pw_inT 944 (by decide +kernel) (by decide +kernel)⟩
theorem miX10_put : pw_MV yX10_put cX10_put 5 (some .int) 3 := ⟨pw_inT 953 (by decide +kernel) (by decide +kernel), pw_inT 1 (by decide +kernel) (by decide +kernel), ⟨by decide +kernel, by decide +kernel⟩, by decide +kernel, pw_inT 951 (by decide +kernel) (by decide +kernel), pw_inT 952 (by decide +kernel) (by decide +kernel)⟩
theorem miX10_copy : pw_MV yX10_copy cX10_copy 8 (some .int) 5 := ⟨pw_inT 962 (by decide +kernel) (by decide +kernel), pw_inT 1 (by decide +kernel) (by decide +kernel), ⟨by decide +kernel, by decide +kernel⟩, by decide +kernel, pw_inT 960 (by decide +kernel) (by decide +kernel), pw_inT 961 (by decide +kernel) (by decide +kernel)⟩
theorem miX10_cost : pw_MV yX10_cost cX10_cost 3 (some .int) 1 := ⟨pw_inT 973 (by decide +kernel) (by decide +kernel), pw_inT 1 (by decide +kernel) (by decide +kernel), ⟨by decide +kernel, by decide +kernel⟩, by decide +kernel, pw_inT 971 (by decide +kernel) (by decide +kernel), pw_inT 972 (by decide +kernel) (by decide +kernel)⟩
theorem miX10_isUpTo : pw_MS yX10_isUpTo cX10_isUpTo 2 (some .boolean) 2 := ⟨pw_inT 340 (by decide +kernel) (by decide +kernel), pw_inT 1 (by decide +kernel) (by decide +kernel), ⟨by decide +kernel, by decide +kernel⟩, by decide +kernel, pw_inT 339 (by decide +kernel) (by decide +kernel)⟩
theorem miX10_lowestOf : pw_MS yX10_lowestOf cX10_lowestOf 2 (some .int) 1 := ⟨pw_inT 560 (by decide +kernel) (by decide +kernel), pw_inT 1 (by decide +kernel) (by decide +kernel), ⟨by decide +kernel, by decide +kernel⟩, by decide +kernel, pw_inT 559 (by decide +kernel) (by decide +kernel)⟩
theorem miX10_isShelf : pw_MS yX10_isShelf cX10_isShelf 1 (some .boolean) 1 := ⟨pw_inT 305 (by decide +kernel) (by decide +kernel), pw_inT 1 (by decide +kernel) (by decide +kernel), ⟨by decide +kernel, by decide +kernel⟩, by decide +kernel, pw_inT 304 (by decide +kernel) (by decide +kernel)⟩
theorem miX10_rowRefusal : pw_MV yX10_rowRefusal cX10_rowRefusal 2 (some .int) 1 := ⟨pw_inT 298 (by decide +kernel) (by decide +kernel), pw_inT 1 (by decide +kernel) (by decide +kernel), ⟨by decide +kernel, by decide +kernel⟩, by decide +kernel, pw_inT 297 (by decide +kernel) (by decide +kernel), pw_inS 0 (by decide +kernel) (by decide +kernel)⟩
theorem miX10_kindRefusal : pw_MV yX10_kindRefusal cX10_kindRefusal 2 (some .int) 1 := ⟨pw_inT 473 (by decide +kernel) (by decide +kernel), pw_inT 1 (by decide +kernel) (by decide +kernel), ⟨by decide +kernel, by decide +kernel⟩, by decide +kernel, pw_inT 472 (by decide +kernel) (by decide +kernel), pw_inS 2 (by decide +kernel) (by decide +kernel)⟩
theorem miX10_heldRefusal : pw_MV yX10_heldRefusal cX10_heldRefusal 3 (some .int) 2 := ⟨pw_inT 302 (by decide +kernel) (by decide +kernel), pw_inT 1 (by decide +kernel) (by decide +kernel), ⟨by decide +kernel, by decide +kernel⟩, by decide +kernel, pw_inT 301 (by decide +kernel) (by decide +kernel), pw_inS 1 (by decide +kernel) (by decide +kernel)⟩
theorem miX10_partOfFraction : pw_MS yX10_partOfFraction cX10_partOfFraction 12 (some .long) 3 := ⟨pw_inT 847 (by decide +kernel) (by decide +kernel), pw_inT 1 (by decide +kernel) (by decide +kernel), ⟨by decide +kernel, by decide +kernel⟩, by decide +kernel, pw_inT 846 (by decide +kernel) (by decide +kernel)⟩
theorem miX11_isIn : pw_MS yX11_isIn cX11_isIn 3 (some .boolean) 3 := ⟨pw_inT 1186 (by decide +kernel) (by decide +kernel), pw_inT 10 (by decide +kernel) (by decide +kernel), ⟨by decide +kernel, by decide +kernel⟩, by decide +kernel, pw_inT 1185 (by decide +kernel) (by decide +kernel)⟩
theorem miX11_least : pw_MS yX11_least cX11_least 2 (some .int) 2 := ⟨pw_inT 1263 (by decide +kernel) (by decide +kernel), pw_inT 10 (by decide +kernel) (by decide +kernel), ⟨by decide +kernel, by decide +kernel⟩, by decide +kernel, pw_inT 1262 (by decide +kernel) (by decide +kernel)⟩
theorem miX11_most : pw_MS yX11_most cX11_most 2 (some .int) 2 := ⟨pw_inT 1248 (by decide +kernel) (by decide +kernel), pw_inT 10 (by decide +kernel) (by decide +kernel), ⟨by decide +kernel, by decide +kernel⟩, by decide +kernel, pw_inT 1247 (by decide +kernel) (by decide +kernel)⟩
theorem miX11_copies : pw_MS yX11_copies cX11_copies 3 (none) 2 := ⟨pw_inT 1201 (by decide +kernel) (by decide +kernel), pw_inT 10 (by decide +kernel) (by decide +kernel), ⟨by decide +kernel, by decide +kernel⟩, by decide +kernel, pw_inT 1200 (by decide +kernel) (by decide +kernel)⟩
theorem miX11_of : pw_MS yX11_of cX11_of 2 (some .int) 2 := ⟨pw_inT 1227 (by decide +kernel) (by decide +kernel), pw_inT 10 (by decide +kernel) (by decide +kernel), ⟨by decide +kernel, by decide +kernel⟩, by decide +kernel, pw_inT 1226 (by decide +kernel) (by decide +kernel)⟩
theorem miX11_isPerson : pw_MV yX11_isPerson cX11_isPerson 2 (some .boolean) 1 := ⟨pw_inT 1220 (by decide +kernel) (by decide +kernel), pw_inT 10 (by decide +kernel) (by decide +kernel), ⟨by decide +kernel, by decide +kernel⟩, by decide +kernel, pw_inT 1219 (by decide +kernel) (by decide +kernel), pw_inS 30 (by decide +kernel) (by decide +kernel)⟩
theorem miX11_isBand : pw_MV yX11_isBand cX11_isBand 2 (some .boolean) 1 := ⟨pw_inT 1286 (by decide +kernel) (by decide +kernel), pw_inT 10 (by decide +kernel) (by decide +kernel), ⟨by decide +kernel, by decide +kernel⟩, by decide +kernel, pw_inT 1285 (by decide +kernel) (by decide +kernel), pw_inS 33 (by decide +kernel) (by decide +kernel)⟩
theorem miX11_isPlace : pw_MS yX11_isPlace cX11_isPlace 1 (some .boolean) 1 := ⟨pw_inT 1208 (by decide +kernel) (by decide +kernel), pw_inT 10 (by decide +kernel) (by decide +kernel), ⟨by decide +kernel, by decide +kernel⟩, by decide +kernel, pw_inT 1207 (by decide +kernel) (by decide +kernel)⟩
theorem miX11_far : pw_MS yX11_far cX11_far 2 (some .int) 2 := ⟨pw_inT 1242 (by decide +kernel) (by decide +kernel), pw_inT 10 (by decide +kernel) (by decide +kernel), ⟨by decide +kernel, by decide +kernel⟩, by decide +kernel, pw_inT 1241 (by decide +kernel) (by decide +kernel)⟩
theorem miX11_has : pw_MS yX11_has cX11_has 2 (some .boolean) 2 := ⟨pw_inT 1257 (by decide +kernel) (by decide +kernel), pw_inT 10 (by decide +kernel) (by decide +kernel), ⟨by decide +kernel, by decide +kernel⟩, by decide +kernel, pw_inT 1256 (by decide +kernel) (by decide +kernel)⟩
theorem miX11_bits : pw_MS yX11_bits cX11_bits 3 (some .int) 1 := ⟨pw_inT 1313 (by decide +kernel) (by decide +kernel), pw_inT 10 (by decide +kernel) (by decide +kernel), ⟨by decide +kernel, by decide +kernel⟩, by decide +kernel, pw_inT 1312 (by decide +kernel) (by decide +kernel)⟩
theorem miX11_slack : pw_MS yX11_slack cX11_slack 2 (some .int) 2 := ⟨pw_inT 1245 (by decide +kernel) (by decide +kernel), pw_inT 10 (by decide +kernel) (by decide +kernel), ⟨by decide +kernel, by decide +kernel⟩, by decide +kernel, pw_inT 1244 (by decide +kernel) (by decide +kernel)⟩
theorem miX11_gauge : pw_MS yX11_gauge cX11_gauge 1 (some .int) 1 := ⟨pw_inT 1282 (by decide +kernel) (by decide +kernel), pw_inT 10 (by decide +kernel) (by decide +kernel), ⟨by decide +kernel, by decide +kernel⟩, by decide +kernel, pw_inT 1281 (by decide +kernel) (by decide +kernel)⟩
theorem miX11_holds : pw_MS yX11_holds cX11_holds 2 (some .int) 2 := ⟨pw_inT 1254 (by decide +kernel) (by decide +kernel), pw_inT 10 (by decide +kernel) (by decide +kernel), ⟨by decide +kernel, by decide +kernel⟩, by decide +kernel, pw_inT 1253 (by decide +kernel) (by decide +kernel)⟩
theorem miX11_isWhole : pw_MS yX11_isWhole cX11_isWhole 2 (some .boolean) 2 := ⟨pw_inT 1236 (by decide +kernel) (by decide +kernel), pw_inT 10 (by decide +kernel) (by decide +kernel), ⟨by decide +kernel, by decide +kernel⟩, by decide +kernel, pw_inT 1235 (by decide +kernel) (by decide +kernel)⟩
theorem miX11_isRound : pw_MS yX11_isRound cX11_isRound 3 (some .boolean) 3 := ⟨pw_inT 1276 (by decide +kernel) (by decide +kernel), pw_inT 10 (by decide +kernel) (by decide +kernel), ⟨by decide +kernel, by decide +kernel⟩, by decide +kernel, pw_inT 1275 (by decide +kernel) (by decide +kernel)⟩
theorem miX11_stretch : pw_MS yX11_stretch cX11_stretch 3 (some .int) 2 := ⟨pw_inT 1239 (by decide +kernel) (by decide +kernel), pw_inT 10 (by decide +kernel) (by decide +kernel), ⟨by decide +kernel, by decide +kernel⟩, by decide +kernel, pw_inT 1238 (by decide +kernel) (by decide +kernel)⟩
theorem miX11_pull : pw_MS yX11_pull cX11_pull 2 (some .int) 2 := ⟨pw_inT 1279 (by decide +kernel) (by decide +kernel), pw_inT 10 (by decide +kernel) (by decide +kernel), ⟨by decide +kernel, by decide +kernel⟩, by decide +kernel, pw_inT 1278 (by decide +kernel) (by decide +kernel)⟩
theorem miX11_holdsNow : pw_MS yX11_holdsNow cX11_holdsNow 2 (some .int) 2 := ⟨pw_inT 1251 (by decide +kernel) (by decide +kernel), pw_inT 10 (by decide +kernel) (by decide +kernel), ⟨by decide +kernel, by decide +kernel⟩, by decide +kernel, pw_inT 1250 (by decide +kernel) (by decide +kernel)⟩
theorem miX11_isOver : pw_MS yX11_isOver cX11_isOver 2 (some .boolean) 2 := ⟨pw_inT 1233 (by decide +kernel) (by decide +kernel), pw_inT 10 (by decide +kernel) (by decide +kernel), ⟨by decide +kernel, by decide +kernel⟩, by decide +kernel, pw_inT 1232 (by decide +kernel) (by decide +kernel)⟩
theorem miX11_stings : pw_MS yX11_stings cX11_stings 2 (none) 2 := ⟨pw_inT 1260 (by decide +kernel) (by decide +kernel), pw_inT 10 (by decide +kernel) (by decide +kernel), ⟨by decide +kernel, by decide +kernel⟩, by decide +kernel, pw_inT 1259 (by decide +kernel) (by decide +kernel)⟩
theorem miX11_tries : pw_MS yX11_tries cX11_tries 3 (some .int) 1 := ⟨pw_inT 1230 (by decide +kernel) (by decide +kernel), pw_inT 10 (by decide +kernel) (by decide +kernel), ⟨by decide +kernel, by decide +kernel⟩, by decide +kernel, pw_inT 1229 (by decide +kernel) (by decide +kernel)⟩
theorem miX11_pulled : pw_MS yX11_pulled cX11_pulled 6 (some .int) 3 := ⟨pw_inT 1273 (by decide +kernel) (by decide +kernel), pw_inT 10 (by decide +kernel) (by decide +kernel), ⟨by decide +kernel, by decide +kernel⟩, by decide +kernel, pw_inT 1272 (by decide +kernel) (by decide +kernel)⟩
theorem miX11_goesTo : pw_MS yX11_goesTo cX11_goesTo 3 (some .int) 3 := ⟨pw_inT 1266 (by decide +kernel) (by decide +kernel), pw_inT 10 (by decide +kernel) (by decide +kernel), ⟨by decide +kernel, by decide +kernel⟩, by decide +kernel, pw_inT 1265 (by decide +kernel) (by decide +kernel)⟩
theorem miX11_year : pw_MV yX11_year cX11_year 5 (some .int) 1 := ⟨pw_inT 1270 (by decide +kernel) (by decide +kernel), pw_inT 10 (by decide +kernel) (by decide +kernel), ⟨by decide +kernel, by decide +kernel⟩, by decide +kernel, pw_inT 1269 (by decide +kernel) (by decide +kernel), pw_inS 32 (by decide +kernel) (by decide +kernel)⟩
theorem miX11_snappedSet : pw_MS yX11_snappedSet cX11_snappedSet 3 (some .int) 1 := ⟨pw_inT 1328 (by decide +kernel) (by decide +kernel), pw_inT 10 (by decide +kernel) (by decide +kernel), ⟨by decide +kernel, by decide +kernel⟩, by decide +kernel, pw_inT 1327 (by decide +kernel) (by decide +kernel)⟩
theorem miX11_wholeSet : pw_MS yX11_wholeSet cX11_wholeSet 1 (some .int) 1 := ⟨pw_inT 1404 (by decide +kernel) (by decide +kernel), pw_inT 10 (by decide +kernel) (by decide +kernel), ⟨by decide +kernel, by decide +kernel⟩, by decide +kernel, pw_inT 1403 (by decide +kernel) (by decide +kernel)⟩
theorem miX11_here : pw_MV yX11_here cX11_here 1 (some .int) 0 := ⟨pw_inT 1194 (by decide +kernel) (by decide +kernel), pw_inT 10 (by decide +kernel) (by decide +kernel), ⟨by decide +kernel, by decide +kernel⟩, by decide +kernel, pw_inT 1193 (by decide +kernel) (by decide +kernel), pw_inS 25 (by decide +kernel) (by decide +kernel)⟩
theorem miX11_readsNumber : pw_MV yX11_readsNumber cX11_readsNumber 4 (some .boolean) 2 := ⟨pw_inT 1198 (by decide +kernel) (by decide +kernel), pw_inT 10 (by decide +kernel) (by decide +kernel), ⟨by decide +kernel, by decide +kernel⟩, by decide +kernel, pw_inT 1197 (by decide +kernel) (by decide +kernel), pw_inS 26 (by decide +kernel) (by decide +kernel)⟩
theorem miX11_readsStatement : pw_MV yX11_readsStatement cX11_readsStatement 3 (some .boolean) 0 := ⟨pw_inT 1190 (by decide +kernel) (by decide +kernel), pw_inT 10 (by decide +kernel) (by decide +kernel), ⟨by decide +kernel, by decide +kernel⟩, by decide +kernel, pw_inT 1189 (by decide +kernel) (by decide +kernel), pw_inS 24 (by decide +kernel) (by decide +kernel)⟩
theorem miX11_adds : pw_MV yX11_adds cX11_adds 7 (none) 4 := ⟨pw_inT 1224 (by decide +kernel) (by decide +kernel), pw_inT 10 (by decide +kernel) (by decide +kernel), ⟨by decide +kernel, by decide +kernel⟩, by decide +kernel, pw_inT 1223 (by decide +kernel) (by decide +kernel), pw_inS 31 (by decide +kernel) (by decide +kernel)⟩
theorem miX11_addsPerson : pw_MV yX11_addsPerson cX11_addsPerson 2 (none) 1 := ⟨pw_inT 1212 (by decide +kernel) (by decide +kernel), pw_inT 10 (by decide +kernel) (by decide +kernel), ⟨by decide +kernel, by decide +kernel⟩, by decide +kernel, pw_inT 1211 (by decide +kernel) (by decide +kernel), pw_inS 28 (by decide +kernel) (by decide +kernel)⟩
theorem miX11_areTwo : pw_MV yX11_areTwo cX11_areTwo 3 (some .boolean) 2 := ⟨pw_inT 1216 (by decide +kernel) (by decide +kernel), pw_inT 10 (by decide +kernel) (by decide +kernel), ⟨by decide +kernel, by decide +kernel⟩, by decide +kernel, pw_inT 1215 (by decide +kernel) (by decide +kernel), pw_inS 29 (by decide +kernel) (by decide +kernel)⟩
theorem miX11_isDone : pw_MV yX11_isDone cX11_isDone 5 (some .boolean) 1 := ⟨pw_inT 1205 (by decide +kernel) (by decide +kernel), pw_inT 10 (by decide +kernel) (by decide +kernel), ⟨by decide +kernel, by decide +kernel⟩, by decide +kernel, pw_inT 1204 (by decide +kernel) (by decide +kernel), pw_inS 27 (by decide +kernel) (by decide +kernel)⟩
theorem miX11_town : pw_MV yX11_town cX11_town 8 (some .int) 1 := ⟨pw_inT 1176 (by decide +kernel) (by decide +kernel), pw_inT 10 (by decide +kernel) (by decide +kernel), ⟨by decide +kernel, by decide +kernel⟩, by decide +kernel, pw_inT 1174 (by decide +kernel) (by decide +kernel), pw_inT 1175 (by decide +kernel) (by decide +kernel)⟩
theorem miX11_person : pw_MV yX11_person cX11_person 3 (some .int) 2 := ⟨pw_inT 1290 (by decide +kernel) (by decide +kernel), pw_inT 10 (by decide +kernel) (by decide +kernel), ⟨by decide +kernel, by decide +kernel⟩, by decide +kernel, pw_inT 1288 (by decide +kernel) (by decide +kernel), pw_inT 1289 (by decide +kernel) (by decide +kernel)⟩
theorem miX11_band : pw_MV yX11_band cX11_band 3 (some .int) 2 := ⟨pw_inT 1294 (by decide +kernel) (by decide +kernel), pw_inT 10 (by decide +kernel) (by decide +kernel), ⟨by decide +kernel, by decide +kernel⟩, by decide +kernel, pw_inT 1292 (by decide +kernel) (by decide +kernel), pw_inT 1293 (by decide +kernel) (by decide +kernel)⟩
theorem miX11_comes : pw_MV yX11_comes cX11_comes 2 (some .int) 1 := ⟨pw_inT 1298 (by decide +kernel) (by decide +kernel), pw_inT 10 (by decide +kernel) (by decide +kernel), ⟨by decide +kernel, by decide +kernel⟩, by decide +kernel, pw_inT 1296 (by decide +kernel) (by decide +kernel), pw_inT 1297 (by decide +kernel) (by decide +kernel)⟩
theorem miX11_ties : pw_MV yX11_ties cX11_ties 5 (some .int) 3 := ⟨pw_inT 1302 (by decide +kernel) (by decide +kernel), pw_inT 10 (by decide +kernel) (by decide +kernel), ⟨by decide +kernel, by decide +kernel⟩, by decide +kernel, pw_inT 1300 (by decide +kernel) (by decide +kernel), pw_inT 1301 (by decide +kernel) (by decide +kernel)⟩
theorem miX11_goes : pw_MV yX11_goes cX11_goes 3 (some .int) 2 := ⟨pw_inT 1310 (by decide +kernel) (by decide +kernel), pw_inT 10 (by decide +kernel) (by decide +kernel), ⟨by decide +kernel, by decide +kernel⟩, by decide +kernel, pw_inT 1308 (by decide +kernel) (by decide +kernel), pw_inT 1309 (by decide +kernel) (by decide +kernel)⟩
theorem miX11_cold : pw_MV yX11_cold cX11_cold 2 (some .int) 1 := ⟨pw_inT 1317 (by decide +kernel) (by decide +kernel), pw_inT 10 (by decide +kernel) (by decide +kernel), ⟨by decide +kernel, by decide +kernel⟩, by decide +kernel, pw_inT 1315 (by decide +kernel) (by decide +kernel), pw_inT 1316 (by decide +kernel) (by decide +kernel)⟩
theorem miX11_years : pw_MV yX11_years cX11_years 4 (some .int) 1 := ⟨pw_inT 1321 (by decide +kernel) (by decide +kernel), pw_inT 10 (by decide +kernel) (by decide +kernel), ⟨by decide +kernel, by decide +kernel⟩, by decide +kernel, pw_inT 1319 (by decide +kernel) (by decide +kernel), pw_inT 1320 (by decide +kernel) (by decide +kernel)⟩
theorem miX11_cuts : pw_MV yX11_cuts cX11_cuts 2 (some .int) 1 := ⟨pw_inT 1325 (by decide +kernel) (by decide +kernel), pw_inT 10 (by decide +kernel) (by decide +kernel), ⟨by decide +kernel, by decide +kernel⟩, by decide +kernel, pw_inT 1323 (by decide +kernel) (by decide +kernel), pw_inT 1324 (by decide +kernel) (by decide +kernel)⟩
theorem miX11_farthestOf : pw_MV yX11_farthestOf cX11_farthestOf 5 (some .int) 2 := ⟨pw_inT 1336 (by decide +kernel) (by decide +kernel), pw_inT 10 (by decide +kernel) (by decide +kernel), ⟨by decide +kernel, by decide +kernel⟩, by decide +kernel, pw_inT 1335 (by decide +kernel) (by decide +kernel), pw_inS 35 (by decide +kernel) (by decide +kernel)⟩
theorem miX11_mayGo : pw_MV yX11_mayGo cX11_mayGo 3 (some .int) 2 := ⟨pw_inT 1332 (by decide +kernel) (by decide +kernel), pw_inT 10 (by decide +kernel) (by decide +kernel), ⟨by decide +kernel, by decide +kernel⟩, by decide +kernel, pw_inT 1330 (by decide +kernel) (by decide +kernel), pw_inT 1331 (by decide +kernel) (by decide +kernel)⟩
theorem miX11_rest : pw_MV yX11_rest cX11_rest 8 (some .int) 1 := ⟨pw_inT 1340 (by decide +kernel) (by decide +kernel), pw_inT 10 (by decide +kernel) (by decide +kernel), ⟨by decide +kernel, by decide +kernel⟩, by decide +kernel, pw_inT 1338 (by decide +kernel) (by decide +kernel), pw_inT 1339 (by decide +kernel) (by decide +kernel)⟩
theorem miX11_yearsOn : pw_MV yX11_yearsOn cX11_yearsOn 4 (none) 1 := ⟨pw_inT 1349 (by decide +kernel) (by decide +kernel), pw_inT 10 (by decide +kernel) (by decide +kernel), ⟨by decide +kernel, by decide +kernel⟩, by decide +kernel, pw_inT 1348 (by decide +kernel) (by decide +kernel), pw_inS 36 (by decide +kernel) (by decide +kernel)⟩
theorem miX11_placeIn : pw_MV yX11_placeIn cX11_placeIn 3 (some .int) 2 := ⟨pw_inT 1345 (by decide +kernel) (by decide +kernel), pw_inT 10 (by decide +kernel) (by decide +kernel), ⟨by decide +kernel, by decide +kernel⟩, by decide +kernel, pw_inT 1343 (by decide +kernel) (by decide +kernel), pw_inT 1344 (by decide +kernel) (by decide +kernel)⟩
theorem miX11_snappedIn : pw_MV yX11_snappedIn cX11_snappedIn 2 (some .int) 1 := ⟨pw_inT 1353 (by decide +kernel) (by decide +kernel), pw_inT 10 (by decide +kernel) (by decide +kernel), ⟨by decide +kernel, by decide +kernel⟩, by decide +kernel, pw_inT 1351 (by decide +kernel) (by decide +kernel), pw_inT 1352 (by decide +kernel) (by decide +kernel)⟩
theorem miX11_still : pw_MV yX11_still cX11_still 4 (some .int) 0 := ⟨pw_inT 1357 (by decide +kernel) (by decide +kernel), pw_inT 10 (by decide +kernel) (by decide +kernel), ⟨by decide +kernel, by decide +kernel⟩, by decide +kernel, pw_inT 1355 (by decide +kernel) (by decide +kernel), pw_inT 1356 (by decide +kernel) (by decide +kernel)⟩
theorem miX11_firstSnap : pw_MV yX11_firstSnap cX11_firstSnap 5 (some .int) 1 := ⟨pw_inT 1361 (by decide +kernel) (by decide +kernel), pw_inT 10 (by decide +kernel) (by decide +kernel), ⟨by decide +kernel, by decide +kernel⟩, by decide +kernel, pw_inT 1359 (by decide +kernel) (by decide +kernel), pw_inT 1360 (by decide +kernel) (by decide +kernel)⟩
theorem miX11_farAll : pw_MV yX11_farAll cX11_farAll 4 (some .int) 1 := ⟨pw_inT 1373 (by decide +kernel) (by decide +kernel), pw_inT 10 (by decide +kernel) (by decide +kernel), ⟨by decide +kernel, by decide +kernel⟩, by decide +kernel, pw_inT 1372 (by decide +kernel) (by decide +kernel), pw_inS 38 (by decide +kernel) (by decide +kernel)⟩
theorem miX11_christmasPlace : pw_MV yX11_christmasPlace cX11_christmasPlace 3 (some .int) 0 := ⟨pw_inT 1369 (by decide +kernel) (by decide +kernel), pw_inT 10 (by decide +kernel) (by decide +kernel), ⟨by decide +kernel, by decide +kernel⟩, by decide +kernel, pw_inT 1368 (by decide +kernel) (by decide +kernel), pw_inS 37 (by decide +kernel) (by decide +kernel)⟩
theorem miX11_christmas : pw_MV yX11_christmas cX11_christmas 5 (some .int) 1 := ⟨pw_inT 1365 (by decide +kernel) (by decide +kernel), pw_inT 10 (by decide +kernel) (by decide +kernel), ⟨by decide +kernel, by decide +kernel⟩, by decide +kernel, pw_inT 1363 (by decide +kernel) (by decide +kernel), pw_inT 1364 (by decide +kernel) (by decide +kernel)⟩
theorem miX11_ordersFrom : pw_MV yX11_ordersFrom cX11_ordersFrom 7 (none) 3 := ⟨pw_inT 1381 (by decide +kernel) (by decide +kernel), pw_inT 10 (by decide +kernel) (by decide +kernel), ⟨by decide +kernel, by decide +kernel⟩, by decide +kernel, pw_inT 1380 (by decide +kernel) (by decide +kernel), pw_inS 39 (by decide +kernel) (by decide +kernel)⟩
theorem miX11_order : pw_MV yX11_order cX11_order 2 (some .int) 1 := ⟨pw_inT 1377 (by decide +kernel) (by decide +kernel), pw_inT 10 (by decide +kernel) (by decide +kernel), ⟨by decide +kernel, by decide +kernel⟩, by decide +kernel, pw_inT 1375 (by decide +kernel) (by decide +kernel), pw_inT 1376 (by decide +kernel) (by decide +kernel)⟩
theorem miX11_letGo : pw_MV yX11_letGo cX11_letGo 3 (some .int) 2 := ⟨pw_inT 1385 (by decide +kernel) (by decide +kernel), pw_inT 10 (by decide +kernel) (by decide +kernel), ⟨by decide +kernel, by decide +kernel⟩, by decide +kernel, pw_inT 1383 (by decide +kernel) (by decide +kernel), pw_inT 1384 (by decide +kernel) (by decide +kernel)⟩
theorem miX11_endsWithin : pw_MV yX11_endsWithin cX11_endsWithin 8 (some .int) 2 := ⟨pw_inT 1397 (by decide +kernel) (by decide +kernel), pw_inT 10 (by decide +kernel) (by decide +kernel), ⟨by decide +kernel, by decide +kernel⟩, by decide +kernel, pw_inT 1396 (by decide +kernel) (by decide +kernel), pw_inS 41 (by decide +kernel) (by decide +kernel)⟩
theorem miX11_doCross : pw_MV yX11_doCross cX11_doCross 3 (some .boolean) 2 := ⟨pw_inT 1393 (by decide +kernel) (by decide +kernel), pw_inT 10 (by decide +kernel) (by decide +kernel), ⟨by decide +kernel, by decide +kernel⟩, by decide +kernel, pw_inT 1392 (by decide +kernel) (by decide +kernel), pw_inS 40 (by decide +kernel) (by decide +kernel)⟩
theorem miX11_crossing : pw_MV yX11_crossing cX11_crossing 6 (some .int) 1 := ⟨pw_inT 1389 (by decide +kernel) (by decide +kernel), pw_inT 10 (by decide +kernel) (by decide +kernel), ⟨by decide +kernel, by decide +kernel⟩, by decide +kernel, pw_inT 1387 (by decide +kernel) (by decide +kernel), pw_inT 1388 (by decide +kernel) (by decide +kernel)⟩
theorem miX11_isTangled : pw_MV yX11_isTangled cX11_isTangled 5 (some .boolean) 1 := ⟨pw_inT 1408 (by decide +kernel) (by decide +kernel), pw_inT 10 (by decide +kernel) (by decide +kernel), ⟨by decide +kernel, by decide +kernel⟩, by decide +kernel, pw_inT 1407 (by decide +kernel) (by decide +kernel), pw_inS 42 (by decide +kernel) (by decide +kernel)⟩
theorem miX11_untangle : pw_MV yX11_untangle cX11_untangle 3 (some .int) 0 := ⟨pw_inT 1401 (by decide +kernel) (by decide +kernel), pw_inT 10 (by decide +kernel) (by decide +kernel), ⟨by decide +kernel, by decide +kernel⟩, by decide +kernel, pw_inT 1399 (by decide +kernel) (by decide +kernel), pw_inT 1400 (by decide +kernel) (by decide +kernel)⟩
theorem miX11_clanOf : pw_MV yX11_clanOf cX11_clanOf 6 (some .int) 2 := ⟨pw_inT 1416 (by decide +kernel) (by decide +kernel), pw_inT 10 (by decide +kernel) (by decide +kernel), ⟨by decide +kernel, by decide +kernel⟩, by decide +kernel, pw_inT 1415 (by decide +kernel) (by decide +kernel), pw_inS 43 (by decide +kernel) (by decide +kernel)⟩
theorem miX11_clans : pw_MV yX11_clans cX11_clans 7 (some .int) 1 := ⟨pw_inT 1412 (by decide +kernel) (by decide +kernel), pw_inT 10 (by decide +kernel) (by decide +kernel), ⟨by decide +kernel, by decide +kernel⟩, by decide +kernel, pw_inT 1410 (by decide +kernel) (by decide +kernel), pw_inT 1411 (by decide +kernel) (by decide +kernel)⟩
theorem miX11_cousins : pw_MV yX11_cousins cX11_cousins 7 (some .int) 2 := ⟨pw_inT 1420 (by decide +kernel) (by decide +kernel), pw_inT 10 (by decide +kernel) (by decide +kernel), ⟨by decide +kernel, by decide +kernel⟩, by decide +kernel, pw_inT 1418 (by decide +kernel) (by decide +kernel), pw_inT 1419 (by decide +kernel) (by decide +kernel)⟩
theorem miX11_bridges : pw_MV yX11_bridges cX11_bridges 4 (some .int) 0 := ⟨pw_inT 1424 (by decide +kernel) (by decide +kernel), pw_inT 10 (by decide +kernel) (by decide +kernel), ⟨by decide +kernel, by decide +kernel⟩, by decide +kernel, pw_inT 1422 (by decide +kernel) (by decide +kernel), pw_inT 1423 (by decide +kernel) (by decide +kernel)⟩
theorem miX11_sumWith : pw_MV yX11_sumWith cX11_sumWith 4 (some .int) 1 := ⟨pw_inT 1432 (by decide +kernel) (by decide +kernel), pw_inT 10 (by decide +kernel) (by decide +kernel), ⟨by decide +kernel, by decide +kernel⟩, by decide +kernel, pw_inT 1431 (by decide +kernel) (by decide +kernel), pw_inS 44 (by decide +kernel) (by decide +kernel)⟩
theorem miX11_renew : pw_MV yX11_renew cX11_renew 6 (some .int) 2 := ⟨pw_inT 1428 (by decide +kernel) (by decide +kernel), pw_inT 10 (by decide +kernel) (by decide +kernel), ⟨by decide +kernel, by decide +kernel⟩, by decide +kernel, pw_inT 1426 (by decide +kernel) (by decide +kernel), pw_inT 1427 (by decide +kernel) (by decide +kernel)⟩
theorem miX11_frost : pw_MV yX11_frost cX11_frost 4 (some .int) 1 := ⟨pw_inT 1436 (by decide +kernel) (by decide +kernel), pw_inT 10 (by decide +kernel) (by decide +kernel), ⟨by decide +kernel, by decide +kernel⟩, by decide +kernel, pw_inT 1434 (by decide +kernel) (by decide +kernel), pw_inT 1435 (by decide +kernel) (by decide +kernel)⟩
theorem miX11_leastOf : pw_MS yX11_leastOf cX11_leastOf 1 (some .int) 1 := ⟨pw_inT 1447 (by decide +kernel) (by decide +kernel), pw_inT 10 (by decide +kernel) (by decide +kernel), ⟨by decide +kernel, by decide +kernel⟩, by decide +kernel, pw_inT 1446 (by decide +kernel) (by decide +kernel)⟩
theorem miX11_isLurching : pw_MV yX11_isLurching cX11_isLurching 4 (some .boolean) 1 := ⟨pw_inT 1444 (by decide +kernel) (by decide +kernel), pw_inT 10 (by decide +kernel) (by decide +kernel), ⟨by decide +kernel, by decide +kernel⟩, by decide +kernel, pw_inT 1443 (by decide +kernel) (by decide +kernel), pw_inS 45 (by decide +kernel) (by decide +kernel)⟩
theorem miX11_lurch : pw_MV yX11_lurch cX11_lurch 6 (some .int) 2 := ⟨pw_inT 1440 (by decide +kernel) (by decide +kernel), pw_inT 10 (by decide +kernel) (by decide +kernel), ⟨by decide +kernel, by decide +kernel⟩, by decide +kernel, pw_inT 1438 (by decide +kernel) (by decide +kernel), pw_inT 1439 (by decide +kernel) (by decide +kernel)⟩
theorem miX11_gauges : pw_MV yX11_gauges cX11_gauges 10 (some .int) 3 := ⟨pw_inT 1452 (by decide +kernel) (by decide +kernel), pw_inT 10 (by decide +kernel) (by decide +kernel), ⟨by decide +kernel, by decide +kernel⟩, by decide +kernel, pw_inT 1450 (by decide +kernel) (by decide +kernel), pw_inT 1451 (by decide +kernel) (by decide +kernel)⟩
theorem miX11_hasBy : pw_MV yX11_hasBy cX11_hasBy 9 (some .int) 4 := ⟨pw_inT 1460 (by decide +kernel) (by decide +kernel), pw_inT 10 (by decide +kernel) (by decide +kernel), ⟨by decide +kernel, by decide +kernel⟩, by decide +kernel, pw_inT 1459 (by decide +kernel) (by decide +kernel), pw_inS 46 (by decide +kernel) (by decide +kernel)⟩
theorem miX11_two : pw_MV yX11_two cX11_two 6 (some .int) 2 := ⟨pw_inT 1456 (by decide +kernel) (by decide +kernel), pw_inT 10 (by decide +kernel) (by decide +kernel), ⟨by decide +kernel, by decide +kernel⟩, by decide +kernel, pw_inT 1454 (by decide +kernel) (by decide +kernel), pw_inT 1455 (by decide +kernel) (by decide +kernel)⟩
theorem miX11_gcd : pw_MS yX11_gcd cX11_gcd 10 (some .long) 2 := ⟨pw_inT 1471 (by decide +kernel) (by decide +kernel), pw_inT 10 (by decide +kernel) (by decide +kernel), ⟨by decide +kernel, by decide +kernel⟩, by decide +kernel, pw_inT 1470 (by decide +kernel) (by decide +kernel)⟩
theorem miX11_partOf : pw_MS yX11_partOf cX11_partOf 5 (some .long) 3 := ⟨pw_inT 1468 (by decide +kernel) (by decide +kernel), pw_inT 10 (by decide +kernel) (by decide +kernel), ⟨by decide +kernel, by decide +kernel⟩, by decide +kernel, pw_inT 1467 (by decide +kernel) (by decide +kernel)⟩
theorem miX11_night : pw_MV yX11_night cX11_night 14 (some .long) 4 := ⟨pw_inT 1464 (by decide +kernel) (by decide +kernel), pw_inT 10 (by decide +kernel) (by decide +kernel), ⟨by decide +kernel, by decide +kernel⟩, by decide +kernel, pw_inT 1462 (by decide +kernel) (by decide +kernel), pw_inT 1463 (by decide +kernel) (by decide +kernel)⟩
theorem miX11_mean : pw_MV yX11_mean cX11_mean 5 (some .long) 1 := ⟨pw_inT 1475 (by decide +kernel) (by decide +kernel), pw_inT 10 (by decide +kernel) (by decide +kernel), ⟨by decide +kernel, by decide +kernel⟩, by decide +kernel, pw_inT 1473 (by decide +kernel) (by decide +kernel), pw_inT 1474 (by decide +kernel) (by decide +kernel)⟩
theorem miX11_farthest : pw_MV yX11_farthest cX11_farthest 7 (some .int) 1 := ⟨pw_inT 1479 (by decide +kernel) (by decide +kernel), pw_inT 10 (by decide +kernel) (by decide +kernel), ⟨by decide +kernel, by decide +kernel⟩, by decide +kernel, pw_inT 1477 (by decide +kernel) (by decide +kernel), pw_inT 1478 (by decide +kernel) (by decide +kernel)⟩
theorem miX11_forged : pw_MV yX11_forged cX11_forged 4 (some .int) 1 := ⟨pw_inT 1483 (by decide +kernel) (by decide +kernel), pw_inT 10 (by decide +kernel) (by decide +kernel), ⟨by decide +kernel, by decide +kernel⟩, by decide +kernel, pw_inT 1481 (by decide +kernel) (by decide +kernel), pw_inT 1482 (by decide +kernel) (by decide +kernel)⟩
theorem miX11_judge : pw_MV yX11_judge cX11_judge 6 (some .int) 1 := ⟨pw_inT 1487 (by decide +kernel) (by decide +kernel), pw_inT 10 (by decide +kernel) (by decide +kernel), ⟨by decide +kernel, by decide +kernel⟩, by decide +kernel, pw_inT 1485 (by decide +kernel) (by decide +kernel), pw_inT 1486 (by decide +kernel) (by decide +kernel)⟩
theorem miX11_drawn : pw_MV yX11_drawn cX11_drawn 2 (some .int) 1 := ⟨pw_inT 1495 (by decide +kernel) (by decide +kernel), pw_inT 10 (by decide +kernel) (by decide +kernel), ⟨by decide +kernel, by decide +kernel⟩, by decide +kernel, pw_inT 1494 (by decide +kernel) (by decide +kernel), pw_inS 47 (by decide +kernel) (by decide +kernel)⟩
theorem miX11_stungAll : pw_MS yX11_stungAll cX11_stungAll 3 (some .int) 1 := ⟨pw_inT 1501 (by decide +kernel) (by decide +kernel), pw_inT 10 (by decide +kernel) (by decide +kernel), ⟨by decide +kernel, by decide +kernel⟩, by decide +kernel, pw_inT 1500 (by decide +kernel) (by decide +kernel)⟩
theorem miX11_generations : pw_MV yX11_generations cX11_generations 9 (some .int) 3 := ⟨pw_inT 1491 (by decide +kernel) (by decide +kernel), pw_inT 10 (by decide +kernel) (by decide +kernel), ⟨by decide +kernel, by decide +kernel⟩, by decide +kernel, pw_inT 1489 (by decide +kernel) (by decide +kernel), pw_inT 1490 (by decide +kernel) (by decide +kernel)⟩
theorem miX11_image : pw_MV yX11_image cX11_image 1 (some .int) 0 := ⟨pw_inT 1505 (by decide +kernel) (by decide +kernel), pw_inT 10 (by decide +kernel) (by decide +kernel), ⟨by decide +kernel, by decide +kernel⟩, by decide +kernel, pw_inT 1503 (by decide +kernel) (by decide +kernel), pw_inT 1504 (by decide +kernel) (by decide +kernel)⟩
theorem miX11_restore : pw_MV yX11_restore cX11_restore 1 (some .int) 0 := ⟨pw_inT 1509 (by decide +kernel) (by decide +kernel), pw_inT 10 (by decide +kernel) (by decide +kernel), ⟨by decide +kernel, by decide +kernel⟩, by decide +kernel, pw_inT 1507 (by decide +kernel) (by decide +kernel), pw_inT 1508 (by decide +kernel) (by decide +kernel)⟩
theorem miX11_count : pw_MV yX11_count cX11_count 4 (some .int) 1 := ⟨pw_inT 1513 (by decide +kernel) (by decide +kernel), pw_inT 10 (by decide +kernel) (by decide +kernel), ⟨by decide +kernel, by decide +kernel⟩, by decide +kernel, pw_inT 1511 (by decide +kernel) (by decide +kernel), pw_inT 1512 (by decide +kernel) (by decide +kernel)⟩
theorem miX11_thrown : pw_MV yX11_thrown cX11_thrown 1 (some .int) 0 := ⟨pw_inT 1517 (by decide +kernel) (by decide +kernel), pw_inT 10 (by decide +kernel) (by decide +kernel), ⟨by decide +kernel, by decide +kernel⟩, by decide +kernel, pw_inT 1515 (by decide +kernel) (by decide +kernel), pw_inT 1516 (by decide +kernel) (by decide +kernel)⟩
theorem miX11_isShelf : pw_MS yX11_isShelf cX11_isShelf 1 (some .boolean) 1 := ⟨pw_inT 1183 (by decide +kernel) (by decide +kernel), pw_inT 10 (by decide +kernel) (by decide +kernel), ⟨by decide +kernel, by decide +kernel⟩, by decide +kernel, pw_inT 1182 (by decide +kernel) (by decide +kernel)⟩
theorem miX11_wrongRow : pw_MV yX11_wrongRow cX11_wrongRow 3 (some .int) 2 := ⟨pw_inT 1180 (by decide +kernel) (by decide +kernel), pw_inT 10 (by decide +kernel) (by decide +kernel), ⟨by decide +kernel, by decide +kernel⟩, by decide +kernel, pw_inT 1179 (by decide +kernel) (by decide +kernel), pw_inS 23 (by decide +kernel) (by decide +kernel)⟩
theorem miX11_wrongKept : pw_MV yX11_wrongKept cX11_wrongKept 2 (some .int) 1 := ⟨pw_inT 1306 (by decide +kernel) (by decide +kernel), pw_inT 10 (by decide +kernel) (by decide +kernel), ⟨by decide +kernel, by decide +kernel⟩, by decide +kernel, pw_inT 1305 (by decide +kernel) (by decide +kernel), pw_inS 34 (by decide +kernel) (by decide +kernel)⟩
theorem miX11_keep : pw_MV yX11_keep cX11_keep 5 (some .int) 4 := ⟨pw_inT 1521 (by decide +kernel) (by decide +kernel), pw_inT 10 (by decide +kernel) (by decide +kernel), ⟨by decide +kernel, by decide +kernel⟩, by decide +kernel, pw_inT 1519 (by decide +kernel) (by decide +kernel), pw_inT 1520 (by decide +kernel) (by decide +kernel)⟩
theorem miX11_row : pw_MV yX11_row cX11_row 5 (some .int) 3 := ⟨pw_inT 1525 (by decide +kernel) (by decide +kernel), pw_inT 10 (by decide +kernel) (by decide +kernel), ⟨by decide +kernel, by decide +kernel⟩, by decide +kernel, pw_inT 1523 (by decide +kernel) (by decide +kernel), pw_inT 1524 (by decide +kernel) (by decide +kernel)⟩
theorem miX11_put : pw_MV yX11_put cX11_put 5 (some .int) 3 := ⟨pw_inT 1529 (by decide +kernel) (by decide +kernel), pw_inT 10 (by decide +kernel) (by decide +kernel), ⟨by decide +kernel, by decide +kernel⟩, by decide +kernel, pw_inT 1527 (by decide +kernel) (by decide +kernel), pw_inT 1528 (by decide +kernel) (by decide +kernel)⟩
theorem miX11_element : pw_MV yX11_element cX11_element 3 (some .long) 2 := ⟨pw_inT 1533 (by decide +kernel) (by decide +kernel), pw_inT 10 (by decide +kernel) (by decide +kernel), ⟨by decide +kernel, by decide +kernel⟩, by decide +kernel, pw_inT 1531 (by decide +kernel) (by decide +kernel), pw_inT 1532 (by decide +kernel) (by decide +kernel)⟩
theorem miX11_copy : pw_MV yX11_copy cX11_copy 8 (some .int) 5 := ⟨pw_inT 1537 (by decide +kernel) (by decide +kernel), pw_inT 10 (by decide +kernel) (by decide +kernel), ⟨by decide +kernel, by decide +kernel⟩, by decide +kernel, pw_inT 1535 (by decide +kernel) (by decide +kernel), pw_inT 1536 (by decide +kernel) (by decide +kernel)⟩
theorem miX11_costBy : pw_MS yX11_costBy cX11_costBy 2 (some .int) 2 := ⟨pw_inT 1544 (by decide +kernel) (by decide +kernel), pw_inT 10 (by decide +kernel) (by decide +kernel), ⟨by decide +kernel, by decide +kernel⟩, by decide +kernel, pw_inT 1543 (by decide +kernel) (by decide +kernel)⟩
theorem miX11_cost : pw_MV yX11_cost cX11_cost 3 (some .int) 1 := ⟨pw_inT 1541 (by decide +kernel) (by decide +kernel), pw_inT 10 (by decide +kernel) (by decide +kernel), ⟨by decide +kernel, by decide +kernel⟩, by decide +kernel, pw_inT 1539 (by decide +kernel) (by decide +kernel), pw_inT 1540 (by decide +kernel) (by decide +kernel)⟩
theorem miX11_toss : pw_MV yX11_toss cX11_toss 5 (some .int) 1 := ⟨pw_inT 1548 (by decide +kernel) (by decide +kernel), pw_inT 10 (by decide +kernel) (by decide +kernel), ⟨by decide +kernel, by decide +kernel⟩, by decide +kernel, pw_inT 1546 (by decide +kernel) (by decide +kernel), pw_inT 1547 (by decide +kernel) (by decide +kernel)⟩
theorem miJ6_bitCount_0f7a4 : pw_MS yJ6_bitCount_0f7a4 cJ6_bitCount_0f7a4 1 (some .int) 1 := ⟨pw_inT 395 (by decide +kernel) (by decide +kernel), pw_inT 13 (by decide +kernel) (by decide +kernel), ⟨by decide +kernel, by decide +kernel⟩, by decide +kernel, pw_inT 394 (by decide +kernel) (by decide +kernel)⟩
