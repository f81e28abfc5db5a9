theorem dX5_carryOut_12 : decode cX5_carryOut 12 = .ok (.iload_n 1, 1) := by decide +kernel
theorem dX5_carryOut_13 : decode cX5_carryOut 13 = .ok (.isub, 1) := by decide +kernel
theorem dX5_carryOut_14 : decode cX5_carryOut 14 = .ok (.ireturn, 1) := by decide +kernel
theorem dX5_carryOut_15 : decode cX5_carryOut 15 = .ok (.aload_n 0, 1) := by decide +kernel
theorem dX5_carryOut_16 : decode cX5_carryOut 16 = .ok (.invokevirtual 38, 3) := by decide +kernel
theorem dX5_carryOut_19 : decode cX5_carryOut 19 = .ok (.aload_n 0, 1) := by decide +kernel
theorem dX5_carryOut_20 : decode cX5_carryOut 20 = .ok (.iconst 0, 1) := by decide +kernel
theorem dX5_carryOut_21 : decode cX5_carryOut 21 = .ok (.putfield 127, 3) := by decide +kernel
theorem dX5_carryOut_24 : decode cX5_carryOut 24 = .ok (.iconst 0, 1) := by decide +kernel
theorem dX5_carryOut_25 : decode cX5_carryOut 25 = .ok (.istore_n 2, 1) := by decide +kernel
theorem dX5_carryOut_26 : decode cX5_carryOut 26 = .ok (.aload_n 0, 1) := by decide +kernel
theorem dX5_carryOut_27 : decode cX5_carryOut 27 = .ok (.getfield 127, 3) := by decide +kernel
theorem dX5_carryOut_30 : decode cX5_carryOut 30 = .ok (.aload_n 0, 1) := by decide +kernel
theorem dX5_carryOut_31 : decode cX5_carryOut 31 = .ok (.getfield 124, 3) := by decide +kernel
theorem dX5_carryOut_34 : decode cX5_carryOut 34 = .ok (.if_icmp .ge 33, 3) := by decide +kernel
theorem dX5_carryOut_37 : decode cX5_carryOut 37 = .ok (.aload_n 0, 1) := by decide +kernel
theorem dX5_carryOut_38 : decode cX5_carryOut 38 = .ok (.invokevirtual 148, 3) := by decide +kernel
theorem dX5_carryOut_41 : decode cX5_carryOut 41 = .ok (.ifCond .eq 26, 3) := by decide +kernel
theorem dX5_carryOut_44 : decode cX5_carryOut 44 = .ok (.aload_n 0, 1) := by decide +kernel
theorem dX5_carryOut_45 : decode cX5_carryOut 45 = .ok (.invokevirtual 154, 3) := by decide +kernel
theorem dX5_carryOut_48 : decode cX5_carryOut 48 = .ok (.ifCond .eq 19, 3) := by decide +kernel
theorem dX5_carryOut_51 : decode cX5_carryOut 51 = .ok (.iinc 2 1, 3) := by decide +kernel
theorem dX5_carryOut_54 : decode cX5_carryOut 54 = .ok (.aload_n 0, 1) := by decide +kernel
theorem dX5_carryOut_55 : decode cX5_carryOut 55 = .ok (.dup, 1) := by decide +kernel
theorem dX5_carryOut_56 : decode cX5_carryOut 56 = .ok (.getfield 127, 3) := by decide +kernel
theorem dX5_carryOut_59 : decode cX5_carryOut 59 = .ok (.iconst 1, 1) := by decide +kernel
theorem dX5_carryOut_60 : decode cX5_carryOut 60 = .ok (.iadd, 1) := by decide +kernel
theorem dX5_carryOut_61 : decode cX5_carryOut 61 = .ok (.putfield 127, 3) := by decide +kernel
theorem dX5_carryOut_64 : decode cX5_carryOut 64 = .ok (.goto (-38), 3) := by decide +kernel
theorem dX5_carryOut_67 : decode cX5_carryOut 67 = .ok (.aload_n 0, 1) := by decide +kernel
theorem dX5_carryOut_68 : decode cX5_carryOut 68 = .ok (.iconst 0, 1) := by decide +kernel
theorem dX5_carryOut_69 : decode cX5_carryOut 69 = .ok (.putfield 124, 3) := by decide +kernel
theorem dX5_carryOut_72 : decode cX5_carryOut 72 = .ok (.iload_n 2, 1) := by decide +kernel
theorem dX5_carryOut_73 : decode cX5_carryOut 73 = .ok (.ireturn, 1) := by decide +kernel
theorem dX5_faultless_0 : decode cX5_faultless 0 = .ok (.iconst 0, 1) := by decide +kernel
theorem dX5_faultless_1 : decode cX5_faultless 1 = .ok (.istore_n 1, 1) := by decide +kernel
theorem dX5_faultless_2 : decode cX5_faultless 2 = .ok (.iconst 0, 1) := by decide +kernel
theorem dX5_faultless_3 : decode cX5_faultless 3 = .ok (.istore_n 2, 1) := by decide +kernel
theorem dX5_faultless_4 : decode cX5_faultless 4 = .ok (.iload_n 2, 1) := by decide +kernel
theorem dX5_faultless_5 : decode cX5_faultless 5 = .ok (.aload_n 0, 1) := by decide +kernel
theorem dX5_faultless_6 : decode cX5_faultless 6 = .ok (.getfield 7, 3) := by decide +kernel
theorem dX5_faultless_9 : decode cX5_faultless 9 = .ok (.bipush 53, 2) := by decide +kernel
theorem dX5_faultless_11 : decode cX5_faultless 11 = .ok (.iaload, 1) := by decide +kernel
theorem dX5_faultless_12 : decode cX5_faultless 12 = .ok (.if_icmp .ge 45, 3) := by decide +kernel
theorem dX5_faultless_15 : decode cX5_faultless 15 = .ok (.iload_n 1, 1) := by decide +kernel
theorem dX5_faultless_16 : decode cX5_faultless 16 = .ok (.aload_n 0, 1) := by decide +kernel
theorem dX5_faultless_17 : decode cX5_faultless 17 = .ok (.getfield 7, 3) := by decide +kernel
theorem dX5_faultless_20 : decode cX5_faultless 20 = .ok (.iload_n 2, 1) := by decide +kernel
theorem dX5_faultless_21 : decode cX5_faultless 21 = .ok (.iconst 2, 1) := by decide +kernel
theorem dX5_faultless_22 : decode cX5_faultless 22 = .ok (.invokestatic 27, 3) := by decide +kernel
theorem dX5_faultless_25 : decode cX5_faultless 25 = .ok (.iaload, 1) := by decide +kernel
theorem dX5_faultless_26 : decode cX5_faultless 26 = .ok (.iconst 1, 1) := by decide +kernel
theorem dX5_faultless_27 : decode cX5_faultless 27 = .ok (.if_icmp .ne 21, 3) := by decide +kernel
theorem dX5_faultless_30 : decode cX5_faultless 30 = .ok (.aload_n 0, 1) := by decide +kernel
theorem dX5_faultless_31 : decode cX5_faultless 31 = .ok (.getfield 7, 3) := by decide +kernel
theorem dX5_faultless_34 : decode cX5_faultless 34 = .ok (.iload_n 2, 1) := by decide +kernel
theorem dX5_faultless_35 : decode cX5_faultless 35 = .ok (.bipush 8, 2) := by decide +kernel
theorem dX5_faultless_37 : decode cX5_faultless 37 = .ok (.invokestatic 27, 3) := by decide +kernel
theorem dX5_faultless_40 : decode cX5_faultless 40 = .ok (.iaload, 1) := by decide +kernel
theorem dX5_faultless_41 : decode cX5_faultless 41 = .ok (.ifCond .ne 7, 3) := by decide +kernel
theorem dX5_faultless_44 : decode cX5_faultless 44 = .ok (.iconst 1, 1) := by decide +kernel
theorem dX5_faultless_45 : decode cX5_faultless 45 = .ok (.goto 4, 3) := by decide +kernel
theorem dX5_faultless_48 : decode cX5_faultless 48 = .ok (.iconst 0, 1) := by decide +kernel
theorem dX5_faultless_49 : decode cX5_faultless 49 = .ok (.iadd, 1) := by decide +kernel
theorem dX5_faultless_50 : decode cX5_faultless 50 = .ok (.istore_n 1, 1) := by decide +kernel
theorem dX5_faultless_51 : decode cX5_faultless 51 = .ok (.iinc 2 1, 3) := by decide +kernel
theorem dX5_faultless_54 : decode cX5_faultless 54 = .ok (.goto (-50), 3) := by decide +kernel
theorem dX5_faultless_57 : decode cX5_faultless 57 = .ok (.iload_n 1, 1) := by decide +kernel
theorem dX5_faultless_58 : decode cX5_faultless 58 = .ok (.ireturn, 1) := by decide +kernel
theorem dX5_count_0 : decode cX5_count 0 = .ok (.iload_n 1, 1) := by decide +kernel
theorem dX5_count_1 : decode cX5_count 1 = .ok (.tableswitch 180 0 15 #[79, 87, 95, 101, 107, 112, 118, 123, 123, 123, 123, 136, 144, 152, 170, 175], 79) := by decide +kernel
theorem dX5_count_80 : decode cX5_count 80 = .ok (.aload_n 0, 1) := by decide +kernel
theorem dX5_count_81 : decode cX5_count 81 = .ok (.getfield 7, 3) := by decide +kernel
theorem dX5_count_84 : decode cX5_count 84 = .ok (.bipush 52, 2) := by decide +kernel
theorem dX5_count_86 : decode cX5_count 86 = .ok (.iaload, 1) := by decide +kernel
theorem dX5_count_87 : decode cX5_count 87 = .ok (.ireturn, 1) := by decide +kernel
theorem dX5_count_88 : decode cX5_count 88 = .ok (.aload_n 0, 1) := by decide +kernel
theorem dX5_count_89 : decode cX5_count 89 = .ok (.getfield 7, 3) := by decide +kernel
theorem dX5_count_92 : decode cX5_count 92 = .ok (.bipush 53, 2) := by decide +kernel
theorem dX5_count_94 : decode cX5_count 94 = .ok (.iaload, 1) := by decide +kernel
theorem dX5_count_95 : decode cX5_count 95 = .ok (.ireturn, 1) := by decide +kernel
theorem dX5_count_96 : decode cX5_count 96 = .ok (.aload_n 0, 1) := by decide +kernel
theorem dX5_count_97 : decode cX5_count 97 = .ok (.iconst 0, 1) := by decide +kernel
theorem dX5_count_98 : decode cX5_count 98 = .ok (.invokevirtual 45, 3) := by decide +kernel
theorem dX5_count_101 : decode cX5_count 101 = .ok (.ireturn, 1) := by decide +kernel
theorem dX5_count_102 : decode cX5_count 102 = .ok (.aload_n 0, 1) := by decide +kernel
theorem dX5_count_103 : decode cX5_count 103 = .ok (.iconst 1, 1) := by decide +kernel
theorem dX5_count_104 : decode cX5_count 104 = .ok (.invokevirtual 45, 3) := by decide +kernel
theorem dX5_count_107 : decode cX5_count 107 = .ok (.ireturn, 1) := by decide +kernel
theorem dX5_count_108 : decode cX5_count 108 = .ok (.aload_n 0, 1) := by decide +kernel
theorem dX5_count_109 : decode cX5_count 109 = .ok (.invokevirtual 157, 3) := by decide +kernel
theorem dX5_count_112 : decode cX5_count 112 = .ok (.ireturn, 1) := by decide +kernel
theorem dX5_count_113 : decode cX5_count 113 = .ok (.aload_n 0, 1) := by decide +kernel
theorem dX5_count_114 : decode cX5_count 114 = .ok (.iconst 2, 1) := by decide +kernel
theorem dX5_count_115 : decode cX5_count 115 = .ok (.invokevirtual 45, 3) := by decide +kernel
theorem dX5_count_118 : decode cX5_count 118 = .ok (.ireturn, 1) := by decide +kernel
theorem dX5_count_119 : decode cX5_count 119 = .ok (.aload_n 0, 1) := by decide +kernel
theorem dX5_count_120 : decode cX5_count 120 = .ok (.invokevirtual 49, 3) := by decide +kernel
theorem dX5_count_123 : decode cX5_count 123 = .ok (.ireturn, 1) := by decide +kernel
theorem dX5_count_124 : decode cX5_count 124 = .ok (.aload_n 0, 1) := by decide +kernel
theorem dX5_count_125 : decode cX5_count 125 = .ok (.getfield 7, 3) := by decide +kernel
theorem dX5_count_128 : decode cX5_count 128 = .ok (.bipush 48, 2) := by decide +kernel
theorem dX5_count_130 : decode cX5_count 130 = .ok (.iload_n 1, 1) := by decide +kernel
theorem dX5_count_131 : decode cX5_count 131 = .ok (.iadd, 1) := by decide +kernel
theorem dX5_count_132 : decode cX5_count 132 = .ok (.bipush 7, 2) := by decide +kernel
theorem dX5_count_134 : decode cX5_count 134 = .ok (.isub, 1) := by decide +kernel
theorem dX5_count_135 : decode cX5_count 135 = .ok (.iaload, 1) := by decide +kernel
theorem dX5_count_136 : decode cX5_count 136 = .ok (.ireturn, 1) := by decide +kernel
theorem dX5_count_137 : decode cX5_count 137 = .ok (.aload_n 0, 1) := by decide +kernel
theorem dX5_count_138 : decode cX5_count 138 = .ok (.getfield 7, 3) := by decide +kernel
theorem dX5_count_141 : decode cX5_count 141 = .ok (.bipush 54, 2) := by decide +kernel
theorem dX5_count_143 : decode cX5_count 143 = .ok (.iaload, 1) := by decide +kernel
theorem dX5_count_144 : decode cX5_count 144 = .ok (.ireturn, 1) := by decide +kernel
theorem dX5_count_145 : decode cX5_count 145 = .ok (.aload_n 0, 1) := by decide +kernel
theorem dX5_count_146 : decode cX5_count 146 = .ok (.getfield 7, 3) := by decide +kernel
theorem dX5_count_149 : decode cX5_count 149 = .ok (.bipush 55, 2) := by decide +kernel
theorem dX5_count_151 : decode cX5_count 151 = .ok (.iaload, 1) := by decide +kernel
theorem dX5_count_152 : decode cX5_count 152 = .ok (.ireturn, 1) := by decide +kernel
theorem dX5_count_153 : decode cX5_count 153 = .ok (.aload_n 0, 1) := by decide +kernel
theorem dX5_count_154 : decode cX5_count 154 = .ok (.getfield 7, 3) := by decide +kernel
theorem dX5_count_157 : decode cX5_count 157 = .ok (.sipush 2121, 3) := by decide +kernel
theorem dX5_count_160 : decode cX5_count 160 = .ok (.iaload, 1) := by decide +kernel
theorem dX5_count_161 : decode cX5_count 161 = .ok (.aload_n 0, 1) := by decide +kernel
theorem dX5_count_162 : decode cX5_count 162 = .ok (.getfield 7, 3) := by decide +kernel
theorem dX5_count_165 : decode cX5_count 165 = .ok (.sipush 2122, 3) := by decide +kernel
theorem dX5_count_168 : decode cX5_count 168 = .ok (.iaload, 1) := by decide +kernel
theorem dX5_count_169 : decode cX5_count 169 = .ok (.iadd, 1) := by decide +kernel
theorem dX5_count_170 : decode cX5_count 170 = .ok (.ireturn, 1) := by decide +kernel
theorem dX5_count_171 : decode cX5_count 171 = .ok (.aload_n 0, 1) := by decide +kernel
theorem dX5_count_172 : decode cX5_count 172 = .ok (.getfield 30, 3) := by decide +kernel
theorem dX5_count_175 : decode cX5_count 175 = .ok (.ireturn, 1) := by decide +kernel
theorem dX5_count_176 : decode cX5_count 176 = .ok (.aload_n 0, 1) := by decide +kernel
theorem dX5_count_177 : decode cX5_count 177 = .ok (.getfield 124, 3) := by decide +kernel
theorem dX5_count_180 : decode cX5_count 180 = .ok (.ireturn, 1) := by decide +kernel
theorem dX5_count_181 : decode cX5_count 181 = .ok (.sipush (-1001), 3) := by decide +kernel
theorem dX5_count_184 : decode cX5_count 184 = .ok (.ireturn, 1) := by decide +kernel
theorem dX5_firstCell_0 : decode cX5_firstCell 0 = .ok (.iconst 0, 1) := by decide +kernel
theorem dX5_firstCell_1 : decode cX5_firstCell 1 = .ok (.istore_n 2, 1) := by decide +kernel
theorem dX5_firstCell_2 : decode cX5_firstCell 2 = .ok (.iconst 0, 1) := by decide +kernel
theorem dX5_firstCell_3 : decode cX5_firstCell 3 = .ok (.istore_n 3, 1) := by decide +kernel
theorem dX5_firstCell_4 : decode cX5_firstCell 4 = .ok (.iload_n 3, 1) := by decide +kernel
theorem dX5_firstCell_5 : decode cX5_firstCell 5 = .ok (.iload_n 1, 1) := by decide +kernel
theorem dX5_firstCell_6 : decode cX5_firstCell 6 = .ok (.if_icmp .ge 22, 3) := by decide +kernel
theorem dX5_firstCell_9 : decode cX5_firstCell 9 = .ok (.iload_n 2, 1) := by decide +kernel
theorem dX5_firstCell_10 : decode cX5_firstCell 10 = .ok (.aload_n 0, 1) := by decide +kernel
theorem dX5_firstCell_11 : decode cX5_firstCell 11 = .ok (.getfield 7, 3) := by decide +kernel
theorem dX5_firstCell_14 : decode cX5_firstCell 14 = .ok (.iload_n 3, 1) := by decide +kernel
theorem dX5_firstCell_15 : decode cX5_firstCell 15 = .ok (.iconst 0, 1) := by decide +kernel
theorem dX5_firstCell_16 : decode cX5_firstCell 16 = .ok (.invokestatic 16, 3) := by decide +kernel
theorem dX5_firstCell_19 : decode cX5_firstCell 19 = .ok (.iaload, 1) := by decide +kernel
theorem dX5_firstCell_20 : decode cX5_firstCell 20 = .ok (.iadd, 1) := by decide +kernel
theorem dX5_firstCell_21 : decode cX5_firstCell 21 = .ok (.istore_n 2, 1) := by decide +kernel
theorem dX5_firstCell_22 : decode cX5_firstCell 22 = .ok (.iinc 3 1, 3) := by decide +kernel
theorem dX5_firstCell_25 : decode cX5_firstCell 25 = .ok (.goto (-21), 3) := by decide +kernel
theorem dX5_firstCell_28 : decode cX5_firstCell 28 = .ok (.iload_n 2, 1) := by decide +kernel
theorem dX5_firstCell_29 : decode cX5_firstCell 29 = .ok (.ireturn, 1) := by decide +kernel
theorem dX5_boardsIn_0 : decode cX5_boardsIn 0 = .ok (.iconst 0, 1) := by decide +kernel
theorem dX5_boardsIn_1 : decode cX5_boardsIn 1 = .ok (.istore_n 2, 1) := by decide +kernel
theorem dX5_boardsIn_2 : decode cX5_boardsIn 2 = .ok (.iconst 0, 1) := by decide +kernel
theorem dX5_boardsIn_3 : decode cX5_boardsIn 3 = .ok (.istore_n 3, 1) := by decide +kernel
theorem dX5_boardsIn_4 : decode cX5_boardsIn 4 = .ok (.iload_n 3, 1) := by decide +kernel
theorem dX5_boardsIn_5 : decode cX5_boardsIn 5 = .ok (.aload_n 0, 1) := by decide +kernel
theorem dX5_boardsIn_6 : decode cX5_boardsIn 6 = .ok (.getfield 7, 3) := by decide +kernel
theorem dX5_boardsIn_9 : decode cX5_boardsIn 9 = .ok (.bipush 53, 2) := by decide +kernel
theorem dX5_boardsIn_11 : decode cX5_boardsIn 11 = .ok (.iaload, 1) := by decide +kernel
theorem dX5_boardsIn_12 : decode cX5_boardsIn 12 = .ok (.if_icmp .ge 43, 3) := by decide +kernel
theorem dX5_boardsIn_15 : decode cX5_boardsIn 15 = .ok (.iload_n 2, 1) := by decide +kernel
theorem dX5_boardsIn_16 : decode cX5_boardsIn 16 = .ok (.aload_n 0, 1) := by decide +kernel
theorem dX5_boardsIn_17 : decode cX5_boardsIn 17 = .ok (.iload_n 3, 1) := by decide +kernel
theorem dX5_boardsIn_18 : decode cX5_boardsIn 18 = .ok (.invokevirtual 67, 3) := by decide +kernel
theorem dX5_boardsIn_21 : decode cX5_boardsIn 21 = .ok (.ifCond .eq 25, 3) := by decide +kernel
theorem dX5_boardsIn_24 : decode cX5_boardsIn 24 = .ok (.aload_n 0, 1) := by decide +kernel
theorem dX5_boardsIn_25 : decode cX5_boardsIn 25 = .ok (.aload_n 0, 1) := by decide +kernel
theorem dX5_boardsIn_26 : decode cX5_boardsIn 26 = .ok (.getfield 7, 3) := by decide +kernel
theorem dX5_boardsIn_29 : decode cX5_boardsIn 29 = .ok (.iload_n 3, 1) := by decide +kernel
theorem dX5_boardsIn_30 : decode cX5_boardsIn 30 = .ok (.iconst 3, 1) := by decide +kernel
theorem dX5_boardsIn_31 : decode cX5_boardsIn 31 = .ok (.invokestatic 27, 3) := by decide +kernel
theorem dX5_boardsIn_34 : decode cX5_boardsIn 34 = .ok (.iaload, 1) := by decide +kernel
theorem dX5_boardsIn_35 : decode cX5_boardsIn 35 = .ok (.invokevirtual 96, 3) := by decide +kernel
theorem dX5_boardsIn_38 : decode cX5_boardsIn 38 = .ok (.iload_n 1, 1) := by decide +kernel
theorem dX5_boardsIn_39 : decode cX5_boardsIn 39 = .ok (.if_icmp .ne 7, 3) := by decide +kernel
theorem dX5_boardsIn_42 : decode cX5_boardsIn 42 = .ok (.iconst 1, 1) := by decide +kernel
theorem dX5_boardsIn_43 : decode cX5_boardsIn 43 = .ok (.goto 4, 3) := by decide +kernel
theorem dX5_boardsIn_46 : decode cX5_boardsIn 46 = .ok (.iconst 0, 1) := by decide +kernel
theorem dX5_boardsIn_47 : decode cX5_boardsIn 47 = .ok (.iadd, 1) := by decide +kernel
theorem dX5_boardsIn_48 : decode cX5_boardsIn 48 = .ok (.istore_n 2, 1) := by decide +kernel
theorem dX5_boardsIn_49 : decode cX5_boardsIn 49 = .ok (.iinc 3 1, 3) := by decide +kernel
theorem dX5_boardsIn_52 : decode cX5_boardsIn 52 = .ok (.goto (-48), 3) := by decide +kernel
theorem dX5_boardsIn_55 : decode cX5_boardsIn 55 = .ok (.iload_n 2, 1) := by decide +kernel
theorem dX5_boardsIn_56 : decode cX5_boardsIn 56 = .ok (.ireturn, 1) := by decide +kernel
theorem dX5_zone_0 : decode cX5_zone 0 = .ok (.iload_n 1, 1) := by decide +kernel
theorem dX5_zone_1 : decode cX5_zone 1 = .ok (.invokestatic 41, 3) := by decide +kernel
theorem dX5_zone_4 : decode cX5_zone 4 = .ok (.ifCond .eq 13, 3) := by decide +kernel
theorem dX5_zone_7 : decode cX5_zone 7 = .ok (.iload_n 2, 1) := by decide +kernel
theorem dX5_zone_8 : decode cX5_zone 8 = .ok (.iconst 0, 1) := by decide +kernel
theorem dX5_zone_9 : decode cX5_zone 9 = .ok (.bipush 6, 2) := by decide +kernel
theorem dX5_zone_11 : decode cX5_zone 11 = .ok (.invokestatic 23, 3) := by decide +kernel
theorem dX5_zone_14 : decode cX5_zone 14 = .ok (.ifCond .ne 7, 3) := by decide +kernel
theorem dX5_zone_17 : decode cX5_zone 17 = .ok (.sipush (-1001), 3) := by decide +kernel
theorem dX5_zone_20 : decode cX5_zone 20 = .ok (.ireturn, 1) := by decide +kernel
theorem dX5_zone_21 : decode cX5_zone 21 = .ok (.iload_n 2, 1) := by decide +kernel
theorem dX5_zone_22 : decode cX5_zone 22 = .ok (.iconst 4, 1) := by decide +kernel
theorem dX5_zone_23 : decode cX5_zone 23 = .ok (.if_icmp .ge 16, 3) := by decide +kernel
theorem dX5_zone_26 : decode cX5_zone 26 = .ok (.aload_n 0, 1) := by decide +kernel
theorem dX5_zone_27 : decode cX5_zone 27 = .ok (.getfield 7, 3) := by decide +kernel
theorem dX5_zone_30 : decode cX5_zone 30 = .ok (.iload_n 1, 1) := by decide +kernel
theorem dX5_zone_31 : decode cX5_zone 31 = .ok (.iload_n 2, 1) := by decide +kernel
theorem dX5_zone_32 : decode cX5_zone 32 = .ok (.invokestatic 16, 3) := by decide +kernel
theorem dX5_zone_35 : decode cX5_zone 35 = .ok (.iaload, 1) := by decide +kernel
theorem dX5_zone_36 : decode cX5_zone 36 = .ok (.goto 34, 3) := by decide +kernel
theorem dX5_zone_39 : decode cX5_zone 39 = .ok (.iload_n 2, 1) := by decide +kernel
theorem dX5_zone_40 : decode cX5_zone 40 = .ok (.iconst 4, 1) := by decide +kernel
theorem dX5_zone_41 : decode cX5_zone 41 = .ok (.if_icmp .ne 11, 3) := by decide +kernel
theorem dX5_zone_44 : decode cX5_zone 44 = .ok (.aload_n 0, 1) := by decide +kernel
theorem dX5_zone_45 : decode cX5_zone 45 = .ok (.iload_n 1, 1) := by decide +kernel
theorem dX5_zone_46 : decode cX5_zone 46 = .ok (.invokevirtual 160, 3) := by decide +kernel
theorem dX5_zone_49 : decode cX5_zone 49 = .ok (.goto 21, 3) := by decide +kernel
theorem dX5_zone_52 : decode cX5_zone 52 = .ok (.iload_n 2, 1) := by decide +kernel
theorem dX5_zone_53 : decode cX5_zone 53 = .ok (.iconst 5, 1) := by decide +kernel
theorem dX5_zone_54 : decode cX5_zone 54 = .ok (.if_icmp .ne 11, 3) := by decide +kernel
theorem dX5_zone_57 : decode cX5_zone 57 = .ok (.aload_n 0, 1) := by decide +kernel
theorem dX5_zone_58 : decode cX5_zone 58 = .ok (.iload_n 1, 1) := by decide +kernel
theorem dX5_zone_59 : decode cX5_zone 59 = .ok (.invokevirtual 163, 3) := by decide +kernel
theorem dX5_zone_62 : decode cX5_zone 62 = .ok (.goto 8, 3) := by decide +kernel
theorem dX5_zone_65 : decode cX5_zone 65 = .ok (.aload_n 0, 1) := by decide +kernel
theorem dX5_zone_66 : decode cX5_zone 66 = .ok (.iload_n 1, 1) := by decide +kernel
theorem dX5_zone_67 : decode cX5_zone 67 = .ok (.invokevirtual 99, 3) := by decide +kernel
theorem dX5_zone_70 : decode cX5_zone 70 = .ok (.ireturn, 1) := by decide +kernel
theorem dX5_curve_0 : decode cX5_curve 0 = .ok (.iload_n 1, 1) := by decide +kernel
theorem dX5_curve_1 : decode cX5_curve 1 = .ok (.invokestatic 53, 3) := by decide +kernel
theorem dX5_curve_4 : decode cX5_curve 4 = .ok (.ifCond .eq 25, 3) := by decide +kernel
theorem dX5_curve_7 : decode cX5_curve 7 = .ok (.iload_n 2, 1) := by decide +kernel
theorem dX5_curve_8 : decode cX5_curve 8 = .ok (.iconst 0, 1) := by decide +kernel
theorem dX5_curve_9 : decode cX5_curve 9 = .ok (.iconst 5, 1) := by decide +kernel
theorem dX5_curve_10 : decode cX5_curve 10 = .ok (.invokestatic 23, 3) := by decide +kernel
theorem dX5_curve_13 : decode cX5_curve 13 = .ok (.ifCond .eq 16, 3) := by decide +kernel
theorem dX5_curve_16 : decode cX5_curve 16 = .ok (.aload_n 0, 1) := by decide +kernel
theorem dX5_curve_17 : decode cX5_curve 17 = .ok (.getfield 7, 3) := by decide +kernel
theorem dX5_curve_20 : decode cX5_curve 20 = .ok (.iload_n 1, 1) := by decide +kernel
theorem dX5_curve_21 : decode cX5_curve 21 = .ok (.iload_n 2, 1) := by decide +kernel
theorem dX5_curve_22 : decode cX5_curve 22 = .ok (.invokestatic 20, 3) := by decide +kernel
theorem dX5_curve_25 : decode cX5_curve 25 = .ok (.iaload, 1) := by decide +kernel
theorem dX5_curve_26 : decode cX5_curve 26 = .ok (.goto 6, 3) := by decide +kernel
theorem dX5_curve_29 : decode cX5_curve 29 = .ok (.sipush (-1001), 3) := by decide +kernel
theorem dX5_curve_32 : decode cX5_curve 32 = .ok (.ireturn, 1) := by decide +kernel
theorem dX5_board_0 : decode cX5_board 0 = .ok (.aload_n 0, 1) := by decide +kernel
theorem dX5_board_1 : decode cX5_board 1 = .ok (.iload_n 1, 1) := by decide +kernel
theorem dX5_board_2 : decode cX5_board 2 = .ok (.invokevirtual 83, 3) := by decide +kernel
theorem dX5_board_5 : decode cX5_board 5 = .ok (.ifCond .eq 13, 3) := by decide +kernel
theorem dX5_board_8 : decode cX5_board 8 = .ok (.iload_n 2, 1) := by decide +kernel
theorem dX5_board_9 : decode cX5_board 9 = .ok (.iconst 0, 1) := by decide +kernel
theorem dX5_board_10 : decode cX5_board 10 = .ok (.bipush 10, 2) := by decide +kernel
theorem dX5_board_12 : decode cX5_board 12 = .ok (.invokestatic 23, 3) := by decide +kernel
theorem dX5_board_15 : decode cX5_board 15 = .ok (.ifCond .ne 7, 3) := by decide +kernel
theorem dX5_board_18 : decode cX5_board 18 = .ok (.sipush (-1001), 3) := by decide +kernel
theorem dX5_board_21 : decode cX5_board 21 = .ok (.ireturn, 1) := by decide +kernel
theorem dX5_board_22 : decode cX5_board 22 = .ok (.iload_n 2, 1) := by decide +kernel
theorem dX5_board_23 : decode cX5_board 23 = .ok (.iconst 3, 1) := by decide +kernel
theorem dX5_board_24 : decode cX5_board 24 = .ok (.if_icmp .ne 17, 3) := by decide +kernel
theorem dX5_board_27 : decode cX5_board 27 = .ok (.aload_n 0, 1) := by decide +kernel
theorem dX5_board_28 : decode cX5_board 28 = .ok (.iload_n 1, 1) := by decide +kernel
theorem dX5_board_29 : decode cX5_board 29 = .ok (.invokevirtual 67, 3) := by decide +kernel
theorem dX5_board_32 : decode cX5_board 32 = .ok (.ifCond .ne 9, 3) := by decide +kernel
theorem dX5_board_35 : decode cX5_board 35 = .ok (.sipush (-1009), 3) := by decide +kernel
theorem dX5_board_38 : decode cX5_board 38 = .ok (.goto 13, 3) := by decide +kernel
theorem dX5_board_41 : decode cX5_board 41 = .ok (.aload_n 0, 1) := by decide +kernel
theorem dX5_board_42 : decode cX5_board 42 = .ok (.getfield 7, 3) := by decide +kernel
theorem dX5_board_45 : decode cX5_board 45 = .ok (.iload_n 1, 1) := by decide +kernel
theorem dX5_board_46 : decode cX5_board 46 = .ok (.iload_n 2, 1) := by decide +kernel
theorem dX5_board_47 : decode cX5_board 47 = .ok (.invokestatic 27, 3) := by decide +kernel
theorem dX5_board_50 : decode cX5_board 50 = .ok (.iaload, 1) := by decide +kernel
theorem dX5_board_51 : decode cX5_board 51 = .ok (.ireturn, 1) := by decide +kernel
theorem dX5_hasFault_0 : decode cX5_hasFault 0 = .ok (.aload_n 0, 1) := by decide +kernel
theorem dX5_hasFault_1 : decode cX5_hasFault 1 = .ok (.getfield 7, 3) := by decide +kernel
theorem dX5_hasFault_4 : decode cX5_hasFault 4 = .ok (.iload_n 1, 1) := by decide +kernel
theorem dX5_hasFault_5 : decode cX5_hasFault 5 = .ok (.bipush 8, 2) := by decide +kernel
theorem dX5_hasFault_7 : decode cX5_hasFault 7 = .ok (.invokestatic 27, 3) := by decide +kernel
theorem dX5_hasFault_10 : decode cX5_hasFault 10 = .ok (.iaload, 1) := by decide +kernel
theorem dX5_hasFault_11 : decode cX5_hasFault 11 = .ok (.iload_n 2, 1) := by decide +kernel
theorem dX5_hasFault_12 : decode cX5_hasFault 12 = .ok (.ishr, 1) := by decide +kernel
theorem dX5_hasFault_13 : decode cX5_hasFault 13 = .ok (.iconst 1, 1) := by decide +kernel
theorem dX5_hasFault_14 : decode cX5_hasFault 14 = .ok (.iand, 1) := by decide +kernel
theorem dX5_hasFault_15 : decode cX5_hasFault 15 = .ok (.iconst 1, 1) := by decide +kernel
theorem dX5_hasFault_16 : decode cX5_hasFault 16 = .ok (.if_icmp .ne 7, 3) := by decide +kernel
theorem dX5_hasFault_19 : decode cX5_hasFault 19 = .ok (.iconst 1, 1) := by decide +kernel
theorem dX5_hasFault_20 : decode cX5_hasFault 20 = .ok (.goto 4, 3) := by decide +kernel
theorem dX5_hasFault_23 : decode cX5_hasFault 23 = .ok (.iconst 0, 1) := by decide +kernel
theorem dX5_hasFault_24 : decode cX5_hasFault 24 = .ok (.ireturn, 1) := by decide +kernel
theorem dX5_fault_0 : decode cX5_fault 0 = .ok (.aload_n 0, 1) := by decide +kernel
theorem dX5_fault_1 : decode cX5_fault 1 = .ok (.iload_n 1, 1) := by decide +kernel
theorem dX5_fault_2 : decode cX5_fault 2 = .ok (.invokevirtual 83, 3) := by decide +kernel
theorem dX5_fault_5 : decode cX5_fault 5 = .ok (.ifCond .eq 21, 3) := by decide +kernel
theorem dX5_fault_8 : decode cX5_fault 8 = .ok (.iload_n 2, 1) := by decide +kernel
theorem dX5_fault_9 : decode cX5_fault 9 = .ok (.iconst 0, 1) := by decide +kernel
theorem dX5_fault_10 : decode cX5_fault 10 = .ok (.iconst 4, 1) := by decide +kernel
theorem dX5_fault_11 : decode cX5_fault 11 = .ok (.invokestatic 23, 3) := by decide +kernel
theorem dX5_fault_14 : decode cX5_fault 14 = .ok (.ifCond .eq 12, 3) := by decide +kernel
theorem dX5_fault_17 : decode cX5_fault 17 = .ok (.iload_n 3, 1) := by decide +kernel
theorem dX5_fault_18 : decode cX5_fault 18 = .ok (.iconst 0, 1) := by decide +kernel
theorem dX5_fault_19 : decode cX5_fault 19 = .ok (.iconst 1, 1) := by decide +kernel
theorem dX5_fault_20 : decode cX5_fault 20 = .ok (.invokestatic 23, 3) := by decide +kernel
theorem dX5_fault_23 : decode cX5_fault 23 = .ok (.ifCond .ne 7, 3) := by decide +kernel
theorem dX5_fault_26 : decode cX5_fault 26 = .ok (.sipush (-1001), 3) := by decide +kernel
theorem dX5_fault_29 : decode cX5_fault 29 = .ok (.ireturn, 1) := by decide +kernel
theorem dX5_fault_30 : decode cX5_fault 30 = .ok (.aload_n 0, 1) := by decide +kernel
theorem dX5_fault_31 : decode cX5_fault 31 = .ok (.iload_n 1, 1) := by decide +kernel
theorem dX5_fault_32 : decode cX5_fault 32 = .ok (.iload_n 2, 1) := by decide +kernel
theorem dX5_fault_33 : decode cX5_fault 33 = .ok (.invokevirtual 166, 3) := by decide +kernel
theorem dX5_fault_36 : decode cX5_fault 36 = .ok (.ifCond .eq 28, 3) := by decide +kernel
theorem dX5_fault_39 : decode cX5_fault 39 = .ok (.aload_n 0, 1) := by decide +kernel
theorem dX5_fault_40 : decode cX5_fault 40 = .ok (.getfield 7, 3) := by decide +kernel
theorem dX5_fault_43 : decode cX5_fault 43 = .ok (.iload_n 1, 1) := by decide +kernel
theorem dX5_fault_44 : decode cX5_fault 44 = .ok (.iload_n 3, 1) := by decide +kernel
theorem dX5_fault_45 : decode cX5_fault 45 = .ok (.ifCond .ne 8, 3) := by decide +kernel
theorem dX5_fault_48 : decode cX5_fault 48 = .ok (.bipush 11, 2) := by decide +kernel
theorem dX5_fault_50 : decode cX5_fault 50 = .ok (.goto 5, 3) := by decide +kernel
theorem dX5_fault_53 : decode cX5_fault 53 = .ok (.bipush 16, 2) := by decide +kernel
theorem dX5_fault_55 : decode cX5_fault 55 = .ok (.iload_n 2, 1) := by decide +kernel
theorem dX5_fault_56 : decode cX5_fault 56 = .ok (.iadd, 1) := by decide +kernel
theorem dX5_fault_57 : decode cX5_fault 57 = .ok (.invokestatic 27, 3) := by decide +kernel
theorem dX5_fault_60 : decode cX5_fault 60 = .ok (.iaload, 1) := by decide +kernel
theorem dX5_fault_61 : decode cX5_fault 61 = .ok (.goto 6, 3) := by decide +kernel
theorem dX5_fault_64 : decode cX5_fault 64 = .ok (.sipush (-1009), 3) := by decide +kernel
theorem dX5_fault_67 : decode cX5_fault 67 = .ok (.ireturn, 1) := by decide +kernel
theorem dX5_faultsIn_0 : decode cX5_faultsIn 0 = .ok (.iconst 0, 1) := by decide +kernel
theorem dX5_faultsIn_1 : decode cX5_faultsIn 1 = .ok (.istore_n 3, 1) := by decide +kernel
theorem dX5_faultsIn_2 : decode cX5_faultsIn 2 = .ok (.iconst 0, 1) := by decide +kernel
theorem dX5_faultsIn_3 : decode cX5_faultsIn 3 = .ok (.istore 4, 2) := by decide +kernel
theorem dX5_faultsIn_5 : decode cX5_faultsIn 5 = .ok (.iload 4, 2) := by decide +kernel
theorem dX5_faultsIn_7 : decode cX5_faultsIn 7 = .ok (.aload_n 0, 1) := by decide +kernel
theorem dX5_faultsIn_8 : decode cX5_faultsIn 8 = .ok (.getfield 7, 3) := by decide +kernel
theorem dX5_faultsIn_11 : decode cX5_faultsIn 11 = .ok (.bipush 53, 2) := by decide +kernel
theorem dX5_faultsIn_13 : decode cX5_faultsIn 13 = .ok (.iaload, 1) := by decide +kernel
theorem dX5_faultsIn_14 : decode cX5_faultsIn 14 = .ok (.if_icmp .ge 73, 3) := by decide +kernel
theorem dX5_faultsIn_17 : decode cX5_faultsIn 17 = .ok (.iconst 0, 1) := by decide +kernel
theorem dX5_faultsIn_18 : decode cX5_faultsIn 18 = .ok (.istore 5, 2) := by decide +kernel
theorem dX5_faultsIn_20 : decode cX5_faultsIn 20 = .ok (.iload 5, 2) := by decide +kernel
theorem dX5_faultsIn_22 : decode cX5_faultsIn 22 = .ok (.iconst 5, 1) := by decide +kernel
theorem dX5_faultsIn_23 : decode cX5_faultsIn 23 = .ok (.if_icmp .ge 58, 3) := by decide +kernel
theorem dX5_faultsIn_26 : decode cX5_faultsIn 26 = .ok (.iload_n 3, 1) := by decide +kernel
theorem dX5_faultsIn_27 : decode cX5_faultsIn 27 = .ok (.iload_n 2, 1) := by decide +kernel
theorem dX5_faultsIn_28 : decode cX5_faultsIn 28 = .ok (.iconst 5, 1) := by decide +kernel
theorem dX5_faultsIn_29 : decode cX5_faultsIn 29 = .ok (.if_icmp .eq 9, 3) := by decide +kernel
theorem dX5_faultsIn_32 : decode cX5_faultsIn 32 = .ok (.iload 5, 2) := by decide +kernel
theorem dX5_faultsIn_34 : decode cX5_faultsIn 34 = .ok (.iload_n 2, 1) := by decide +kernel
theorem dX5_faultsIn_35 : decode cX5_faultsIn 35 = .ok (.if_icmp .ne 37, 3) := by decide +kernel
theorem dX5_faultsIn_38 : decode cX5_faultsIn 38 = .ok (.aload_n 0, 1) := by decide +kernel
theorem dX5_faultsIn_39 : decode cX5_faultsIn 39 = .ok (.iload 4, 2) := by decide +kernel
theorem dX5_faultsIn_41 : decode cX5_faultsIn 41 = .ok (.iload 5, 2) := by decide +kernel
theorem dX5_faultsIn_43 : decode cX5_faultsIn 43 = .ok (.invokevirtual 166, 3) := by decide +kernel
theorem dX5_faultsIn_46 : decode cX5_faultsIn 46 = .ok (.ifCond .eq 26, 3) := by decide +kernel
theorem dX5_faultsIn_49 : decode cX5_faultsIn 49 = .ok (.aload_n 0, 1) := by decide +kernel
theorem dX5_faultsIn_50 : decode cX5_faultsIn 50 = .ok (.getfield 7, 3) := by decide +kernel
theorem dX5_faultsIn_53 : decode cX5_faultsIn 53 = .ok (.iload 4, 2) := by decide +kernel
theorem dX5_faultsIn_55 : decode cX5_faultsIn 55 = .ok (.bipush 11, 2) := by decide +kernel
theorem dX5_faultsIn_57 : decode cX5_faultsIn 57 = .ok (.iload 5, 2) := by decide +kernel
theorem dX5_faultsIn_59 : decode cX5_faultsIn 59 = .ok (.iadd, 1) := by decide +kernel
theorem dX5_faultsIn_60 : decode cX5_faultsIn 60 = .ok (.invokestatic 27, 3) := by decide +kernel
theorem dX5_faultsIn_63 : decode cX5_faultsIn 63 = .ok (.iaload, 1) := by decide +kernel
theorem dX5_faultsIn_64 : decode cX5_faultsIn 64 = .ok (.iload_n 1, 1) := by decide +kernel
theorem dX5_faultsIn_65 : decode cX5_faultsIn 65 = .ok (.if_icmp .ne 7, 3) := by decide +kernel
theorem dX5_faultsIn_68 : decode cX5_faultsIn 68 = .ok (.iconst 1, 1) := by decide +kernel
theorem dX5_faultsIn_69 : decode cX5_faultsIn 69 = .ok (.goto 4, 3) := by decide +kernel
theorem dX5_faultsIn_72 : decode cX5_faultsIn 72 = .ok (.iconst 0, 1) := by decide +kernel
theorem dX5_faultsIn_73 : decode cX5_faultsIn 73 = .ok (.iadd, 1) := by decide +kernel
theorem dX5_faultsIn_74 : decode cX5_faultsIn 74 = .ok (.istore_n 3, 1) := by decide +kernel
theorem dX5_faultsIn_75 : decode cX5_faultsIn 75 = .ok (.iinc 5 1, 3) := by decide +kernel
theorem dX5_faultsIn_78 : decode cX5_faultsIn 78 = .ok (.goto (-58), 3) := by decide +kernel
theorem dX5_faultsIn_81 : decode cX5_faultsIn 81 = .ok (.iinc 4 1, 3) := by decide +kernel
theorem dX5_faultsIn_84 : decode cX5_faultsIn 84 = .ok (.goto (-79), 3) := by decide +kernel
theorem dX5_faultsIn_87 : decode cX5_faultsIn 87 = .ok (.iload_n 3, 1) := by decide +kernel
theorem dX5_faultsIn_88 : decode cX5_faultsIn 88 = .ok (.ireturn, 1) := by decide +kernel
theorem dX5_worstCell_0 : decode cX5_worstCell 0 = .ok (.iload_n 1, 1) := by decide +kernel
theorem dX5_worstCell_1 : decode cX5_worstCell 1 = .ok (.iconst 0, 1) := by decide +kernel
theorem dX5_worstCell_2 : decode cX5_worstCell 2 = .ok (.iconst 4, 1) := by decide +kernel
theorem dX5_worstCell_3 : decode cX5_worstCell 3 = .ok (.invokestatic 23, 3) := by decide +kernel
theorem dX5_worstCell_6 : decode cX5_worstCell 6 = .ok (.ifCond .eq 12, 3) := by decide +kernel
theorem dX5_worstCell_9 : decode cX5_worstCell 9 = .ok (.iload_n 2, 1) := by decide +kernel
theorem dX5_worstCell_10 : decode cX5_worstCell 10 = .ok (.iconst 0, 1) := by decide +kernel
theorem dX5_worstCell_11 : decode cX5_worstCell 11 = .ok (.iconst 1, 1) := by decide +kernel
theorem dX5_worstCell_12 : decode cX5_worstCell 12 = .ok (.invokestatic 23, 3) := by decide +kernel
theorem dX5_worstCell_15 : decode cX5_worstCell 15 = .ok (.ifCond .ne 7, 3) := by decide +kernel
theorem dX5_worstCell_18 : decode cX5_worstCell 18 = .ok (.sipush (-1001), 3) := by decide +kernel
theorem dX5_worstCell_21 : decode cX5_worstCell 21 = .ok (.ireturn, 1) := by decide +kernel
theorem dX5_worstCell_22 : decode cX5_worstCell 22 = .ok (.sipush (-1009), 3) := by decide +kernel
theorem dX5_worstCell_25 : decode cX5_worstCell 25 = .ok (.istore_n 3, 1) := by decide +kernel
theorem dX5_worstCell_26 : decode cX5_worstCell 26 = .ok (.iconst 0, 1) := by decide +kernel
theorem dX5_worstCell_27 : decode cX5_worstCell 27 = .ok (.istore 4, 2) := by decide +kernel
theorem dX5_worstCell_29 : decode cX5_worstCell 29 = .ok (.iconst 0, 1) := by decide +kernel
theorem dX5_worstCell_30 : decode cX5_worstCell 30 = .ok (.istore 5, 2) := by decide +kernel
theorem dX5_worstCell_32 : decode cX5_worstCell 32 = .ok (.iload 5, 2) := by decide +kernel
theorem dX5_worstCell_34 : decode cX5_worstCell 34 = .ok (.bipush 49, 2) := by decide +kernel
theorem dX5_worstCell_36 : decode cX5_worstCell 36 = .ok (.if_icmp .ge 48, 3) := by decide +kernel
theorem dX5_worstCell_39 : decode cX5_worstCell 39 = .ok (.aload_n 0, 1) := by decide +kernel
theorem dX5_worstCell_40 : decode cX5_worstCell 40 = .ok (.iload 5, 2) := by decide +kernel
theorem dX5_worstCell_42 : decode cX5_worstCell 42 = .ok (.iload_n 1, 1) := by decide +kernel
theorem dX5_worstCell_43 : decode cX5_worstCell 43 = .ok (.invokevirtual 169, 3) := by decide +kernel
theorem dX5_worstCell_46 : decode cX5_worstCell 46 = .ok (.istore 6, 2) := by decide +kernel
theorem dX5_worstCell_48 : decode cX5_worstCell 48 = .ok (.iload 6, 2) := by decide +kernel
theorem dX5_worstCell_50 : decode cX5_worstCell 50 = .ok (.iload 4, 2) := by decide +kernel
theorem dX5_worstCell_52 : decode cX5_worstCell 52 = .ok (.if_icmp .le 8, 3) := by decide +kernel
theorem dX5_worstCell_55 : decode cX5_worstCell 55 = .ok (.iload 5, 2) := by decide +kernel
theorem dX5_worstCell_57 : decode cX5_worstCell 57 = .ok (.goto 4, 3) := by decide +kernel
theorem dX5_worstCell_60 : decode cX5_worstCell 60 = .ok (.iload_n 3, 1) := by decide +kernel
theorem dX5_worstCell_61 : decode cX5_worstCell 61 = .ok (.istore_n 3, 1) := by decide +kernel
theorem dX5_worstCell_62 : decode cX5_worstCell 62 = .ok (.iload 6, 2) := by decide +kernel
theorem dX5_worstCell_64 : decode cX5_worstCell 64 = .ok (.iload 4, 2) := by decide +kernel
theorem dX5_worstCell_66 : decode cX5_worstCell 66 = .ok (.if_icmp .le 8, 3) := by decide +kernel
theorem dX5_worstCell_69 : decode cX5_worstCell 69 = .ok (.iload 6, 2) := by decide +kernel
theorem dX5_worstCell_71 : decode cX5_worstCell 71 = .ok (.goto 5, 3) := by decide +kernel
theorem dX5_worstCell_74 : decode cX5_worstCell 74 = .ok (.iload 4, 2) := by decide +kernel
theorem dX5_worstCell_76 : decode cX5_worstCell 76 = .ok (.istore 4, 2) := by decide +kernel
theorem dX5_worstCell_78 : decode cX5_worstCell 78 = .ok (.iinc 5 1, 3) := by decide +kernel
theorem dX5_worstCell_81 : decode cX5_worstCell 81 = .ok (.goto (-49), 3) := by decide +kernel
theorem dX5_worstCell_84 : decode cX5_worstCell 84 = .ok (.iload_n 2, 1) := by decide +kernel
theorem dX5_worstCell_85 : decode cX5_worstCell 85 = .ok (.ifCond .ne 7, 3) := by decide +kernel
theorem dX5_worstCell_88 : decode cX5_worstCell 88 = .ok (.iload_n 3, 1) := by decide +kernel
theorem dX5_worstCell_89 : decode cX5_worstCell 89 = .ok (.goto 5, 3) := by decide +kernel
theorem dX5_worstCell_92 : decode cX5_worstCell 92 = .ok (.iload 4, 2) := by decide +kernel
theorem dX5_worstCell_94 : decode cX5_worstCell 94 = .ok (.ireturn, 1) := by decide +kernel
theorem dX5_faultCells_0 : decode cX5_faultCells 0 = .ok (.iconst 0, 1) := by decide +kernel
theorem dX5_faultCells_1 : decode cX5_faultCells 1 = .ok (.istore_n 1, 1) := by decide +kernel
theorem dX5_faultCells_2 : decode cX5_faultCells 2 = .ok (.iconst 0, 1) := by decide +kernel
theorem dX5_faultCells_3 : decode cX5_faultCells 3 = .ok (.istore_n 2, 1) := by decide +kernel
theorem dX5_faultCells_4 : decode cX5_faultCells 4 = .ok (.iload_n 2, 1) := by decide +kernel
theorem dX5_faultCells_5 : decode cX5_faultCells 5 = .ok (.bipush 49, 2) := by decide +kernel
theorem dX5_faultCells_7 : decode cX5_faultCells 7 = .ok (.if_icmp .ge 26, 3) := by decide +kernel
theorem dX5_faultCells_10 : decode cX5_faultCells 10 = .ok (.iload_n 1, 1) := by decide +kernel
theorem dX5_faultCells_11 : decode cX5_faultCells 11 = .ok (.aload_n 0, 1) := by decide +kernel
theorem dX5_faultCells_12 : decode cX5_faultCells 12 = .ok (.iload_n 2, 1) := by decide +kernel
theorem dX5_faultCells_13 : decode cX5_faultCells 13 = .ok (.iconst 5, 1) := by decide +kernel
theorem dX5_faultCells_14 : decode cX5_faultCells 14 = .ok (.invokevirtual 169, 3) := by decide +kernel
theorem dX5_faultCells_17 : decode cX5_faultCells 17 = .ok (.ifCond .le 7, 3) := by decide +kernel
theorem dX5_faultCells_20 : decode cX5_faultCells 20 = .ok (.iconst 1, 1) := by decide +kernel
theorem dX5_faultCells_21 : decode cX5_faultCells 21 = .ok (.goto 4, 3) := by decide +kernel
theorem dX5_faultCells_24 : decode cX5_faultCells 24 = .ok (.iconst 0, 1) := by decide +kernel
theorem dX5_faultCells_25 : decode cX5_faultCells 25 = .ok (.iadd, 1) := by decide +kernel
theorem dX5_faultCells_26 : decode cX5_faultCells 26 = .ok (.istore_n 1, 1) := by decide +kernel
theorem dX5_faultCells_27 : decode cX5_faultCells 27 = .ok (.iinc 2 1, 3) := by decide +kernel
theorem dX5_faultCells_30 : decode cX5_faultCells 30 = .ok (.goto (-26), 3) := by decide +kernel
theorem dX5_faultCells_33 : decode cX5_faultCells 33 = .ok (.iload_n 1, 1) := by decide +kernel
theorem dX5_faultCells_34 : decode cX5_faultCells 34 = .ok (.ireturn, 1) := by decide +kernel
theorem dX5_ride_0 : decode cX5_ride 0 = .ok (.iconst 0, 1) := by decide +kernel
theorem dX5_ride_1 : decode cX5_ride 1 = .ok (.istore_n 2, 1) := by decide +kernel
theorem dX5_ride_2 : decode cX5_ride 2 = .ok (.aload_n 0, 1) := by decide +kernel
theorem dX5_ride_3 : decode cX5_ride 3 = .ok (.iload_n 1, 1) := by decide +kernel
theorem dX5_ride_4 : decode cX5_ride 4 = .ok (.invokevirtual 67, 3) := by decide +kernel
theorem dX5_ride_7 : decode cX5_ride 7 = .ok (.ifCond .eq 13, 3) := by decide +kernel
theorem dX5_ride_10 : decode cX5_ride 10 = .ok (.aload_n 0, 1) := by decide +kernel
theorem dX5_ride_11 : decode cX5_ride 11 = .ok (.invokevirtual 115, 3) := by decide +kernel
theorem dX5_ride_14 : decode cX5_ride 14 = .ok (.iinc 2 1, 3) := by decide +kernel
theorem dX5_ride_17 : decode cX5_ride 17 = .ok (.goto (-15), 3) := by decide +kernel
theorem dX5_ride_20 : decode cX5_ride 20 = .ok (.iload_n 2, 1) := by decide +kernel
theorem dX5_ride_21 : decode cX5_ride 21 = .ok (.ireturn, 1) := by decide +kernel
theorem dX5_foretell_0 : decode cX5_foretell 0 = .ok (.aload_n 0, 1) := by decide +kernel
theorem dX5_foretell_1 : decode cX5_foretell 1 = .ok (.iload_n 1, 1) := by decide +kernel
theorem dX5_foretell_2 : decode cX5_foretell 2 = .ok (.invokevirtual 83, 3) := by decide +kernel
theorem dX5_foretell_5 : decode cX5_foretell 5 = .ok (.ifCond .eq 12, 3) := by decide +kernel
theorem dX5_foretell_8 : decode cX5_foretell 8 = .ok (.iload_n 2, 1) := by decide +kernel
theorem dX5_foretell_9 : decode cX5_foretell 9 = .ok (.iconst 0, 1) := by decide +kernel
theorem dX5_foretell_10 : decode cX5_foretell 10 = .ok (.iconst 3, 1) := by decide +kernel
theorem dX5_foretell_11 : decode cX5_foretell 11 = .ok (.invokestatic 23, 3) := by decide +kernel
theorem dX5_foretell_14 : decode cX5_foretell 14 = .ok (.ifCond .ne 7, 3) := by decide +kernel
theorem dX5_foretell_17 : decode cX5_foretell 17 = .ok (.sipush (-1001), 3) := by decide +kernel
theorem dX5_foretell_20 : decode cX5_foretell 20 = .ok (.ireturn, 1) := by decide +kernel
theorem dX5_foretell_21 : decode cX5_foretell 21 = .ok (.aload_n 0, 1) := by decide +kernel
theorem dX5_foretell_22 : decode cX5_foretell 22 = .ok (.iload_n 1, 1) := by decide +kernel
theorem dX5_foretell_23 : decode cX5_foretell 23 = .ok (.invokevirtual 67, 3) := by decide +kernel
theorem dX5_foretell_26 : decode cX5_foretell 26 = .ok (.ifCond .ne 7, 3) := by decide +kernel
theorem dX5_foretell_29 : decode cX5_foretell 29 = .ok (.sipush (-1002), 3) := by decide +kernel
theorem dX5_foretell_32 : decode cX5_foretell 32 = .ok (.ireturn, 1) := by decide +kernel
theorem dX5_foretell_33 : decode cX5_foretell 33 = .ok (.aload_n 0, 1) := by decide +kernel
theorem dX5_foretell_34 : decode cX5_foretell 34 = .ok (.iconst 0, 1) := by decide +kernel
theorem dX5_foretell_35 : decode cX5_foretell 35 = .ok (.sipush 12738, 3) := by decide +kernel
theorem dX5_foretell_38 : decode cX5_foretell 38 = .ok (.sipush 707, 3) := by decide +kernel
theorem dX5_foretell_41 : decode cX5_foretell 41 = .ok (.invokevirtual 34, 3) := by decide +kernel
theorem dX5_foretell_44 : decode cX5_foretell 44 = .ok (.aload_n 0, 1) := by decide +kernel
theorem dX5_foretell_45 : decode cX5_foretell 45 = .ok (.iload_n 1, 1) := by decide +kernel
theorem dX5_foretell_46 : decode cX5_foretell 46 = .ok (.invokevirtual 172, 3) := by decide +kernel
theorem dX5_foretell_49 : decode cX5_foretell 49 = .ok (.istore_n 3, 1) := by decide +kernel
theorem dX5_foretell_50 : decode cX5_foretell 50 = .ok (.iload_n 2, 1) := by decide +kernel
theorem dX5_foretell_51 : decode cX5_foretell 51 = .ok (.iconst 2, 1) := by decide +kernel
theorem dX5_foretell_52 : decode cX5_foretell 52 = .ok (.if_icmp .ne 7, 3) := by decide +kernel
theorem dX5_foretell_55 : decode cX5_foretell 55 = .ok (.iload_n 3, 1) := by decide +kernel
theorem dX5_foretell_56 : decode cX5_foretell 56 = .ok (.goto 32, 3) := by decide +kernel
theorem dX5_foretell_59 : decode cX5_foretell 59 = .ok (.aload_n 0, 1) := by decide +kernel
theorem dX5_foretell_60 : decode cX5_foretell 60 = .ok (.getfield 7, 3) := by decide +kernel
theorem dX5_foretell_63 : decode cX5_foretell 63 = .ok (.iload_n 1, 1) := by decide +kernel
theorem dX5_foretell_64 : decode cX5_foretell 64 = .ok (.iload_n 2, 1) := by decide +kernel
theorem dX5_foretell_65 : decode cX5_foretell 65 = .ok (.ifCond .ne 8, 3) := by decide +kernel
theorem dX5_foretell_68 : decode cX5_foretell 68 = .ok (.bipush 8, 2) := by decide +kernel
theorem dX5_foretell_70 : decode cX5_foretell 70 = .ok (.goto 14, 3) := by decide +kernel
theorem dX5_foretell_73 : decode cX5_foretell 73 = .ok (.iload_n 2, 1) := by decide +kernel
theorem dX5_foretell_74 : decode cX5_foretell 74 = .ok (.iconst 1, 1) := by decide +kernel
theorem dX5_foretell_75 : decode cX5_foretell 75 = .ok (.if_icmp .ne 8, 3) := by decide +kernel
theorem dX5_foretell_78 : decode cX5_foretell 78 = .ok (.bipush 6, 2) := by decide +kernel
theorem dX5_foretell_80 : decode cX5_foretell 80 = .ok (.goto 4, 3) := by decide +kernel
theorem dX5_foretell_83 : decode cX5_foretell 83 = .ok (.iconst 4, 1) := by decide +kernel
theorem dX5_foretell_84 : decode cX5_foretell 84 = .ok (.invokestatic 27, 3) := by decide +kernel
theorem dX5_foretell_87 : decode cX5_foretell 87 = .ok (.iaload, 1) := by decide +kernel
theorem dX5_foretell_88 : decode cX5_foretell 88 = .ok (.istore 4, 2) := by decide +kernel
theorem dX5_foretell_90 : decode cX5_foretell 90 = .ok (.aload_n 0, 1) := by decide +kernel
theorem dX5_foretell_91 : decode cX5_foretell 91 = .ok (.sipush 12738, 3) := by decide +kernel
theorem dX5_foretell_94 : decode cX5_foretell 94 = .ok (.iconst 0, 1) := by decide +kernel
theorem dX5_foretell_95 : decode cX5_foretell 95 = .ok (.sipush 707, 3) := by decide +kernel
theorem dX5_foretell_98 : decode cX5_foretell 98 = .ok (.invokevirtual 34, 3) := by decide +kernel
theorem dX5_foretell_101 : decode cX5_foretell 101 = .ok (.iload 4, 2) := by decide +kernel
theorem dX5_foretell_103 : decode cX5_foretell 103 = .ok (.ireturn, 1) := by decide +kernel
theorem dX5_failsBy_0 : decode cX5_failsBy 0 = .ok (.aload_n 0, 1) := by decide +kernel
theorem dX5_failsBy_1 : decode cX5_failsBy 1 = .ok (.iconst 0, 1) := by decide +kernel
theorem dX5_failsBy_2 : decode cX5_failsBy 2 = .ok (.sipush 12738, 3) := by decide +kernel
theorem dX5_failsBy_5 : decode cX5_failsBy 5 = .ok (.sipush 707, 3) := by decide +kernel
theorem dX5_failsBy_8 : decode cX5_failsBy 8 = .ok (.invokevirtual 34, 3) := by decide +kernel
theorem dX5_failsBy_11 : decode cX5_failsBy 11 = .ok (.aload_n 0, 1) := by decide +kernel
theorem dX5_failsBy_12 : decode cX5_failsBy 12 = .ok (.iload_n 1, 1) := by decide +kernel
theorem dX5_failsBy_13 : decode cX5_failsBy 13 = .ok (.iload_n 2, 1) := by decide +kernel
theorem dX5_failsBy_14 : decode cX5_failsBy 14 = .ok (.invokevirtual 80, 3) := by decide +kernel
theorem dX5_failsBy_17 : decode cX5_failsBy 17 = .ok (.istore 4, 2) := by decide +kernel
theorem dX5_failsBy_19 : decode cX5_failsBy 19 = .ok (.aload_n 0, 1) := by decide +kernel
theorem dX5_failsBy_20 : decode cX5_failsBy 20 = .ok (.getfield 7, 3) := by decide +kernel
theorem dX5_failsBy_23 : decode cX5_failsBy 23 = .ok (.bipush 50, 2) := by decide +kernel
theorem dX5_failsBy_25 : decode cX5_failsBy 25 = .ok (.iload_n 3, 1) := by decide +kernel
theorem dX5_failsBy_26 : decode cX5_failsBy 26 = .ok (.ifCond .le 7, 3) := by decide +kernel
theorem dX5_failsBy_29 : decode cX5_failsBy 29 = .ok (.iconst 0, 1) := by decide +kernel
theorem dX5_failsBy_30 : decode cX5_failsBy 30 = .ok (.goto 10, 3) := by decide +kernel
theorem dX5_failsBy_33 : decode cX5_failsBy 33 = .ok (.aload_n 0, 1) := by decide +kernel
theorem dX5_failsBy_34 : decode cX5_failsBy 34 = .ok (.getfield 7, 3) := by decide +kernel
theorem dX5_failsBy_37 : decode cX5_failsBy 37 = .ok (.bipush 50, 2) := by decide +kernel
theorem dX5_failsBy_39 : decode cX5_failsBy 39 = .ok (.iaload, 1) := by decide +kernel
theorem dX5_failsBy_40 : decode cX5_failsBy 40 = .ok (.iastore, 1) := by decide +kernel
theorem dX5_failsBy_41 : decode cX5_failsBy 41 = .ok (.aload_n 0, 1) := by decide +kernel
theorem dX5_failsBy_42 : decode cX5_failsBy 42 = .ok (.getfield 7, 3) := by decide +kernel
theorem dX5_failsBy_45 : decode cX5_failsBy 45 = .ok (.bipush 48, 2) := by decide +kernel
theorem dX5_failsBy_47 : decode cX5_failsBy 47 = .ok (.iload_n 3, 1) := by decide +kernel
theorem dX5_failsBy_48 : decode cX5_failsBy 48 = .ok (.ifCond .le 7, 3) := by decide +kernel
theorem dX5_failsBy_51 : decode cX5_failsBy 51 = .ok (.iload_n 3, 1) := by decide +kernel
theorem dX5_failsBy_52 : decode cX5_failsBy 52 = .ok (.goto 10, 3) := by decide +kernel
theorem dX5_failsBy_55 : decode cX5_failsBy 55 = .ok (.aload_n 0, 1) := by decide +kernel
theorem dX5_failsBy_56 : decode cX5_failsBy 56 = .ok (.getfield 7, 3) := by decide +kernel
theorem dX5_failsBy_59 : decode cX5_failsBy 59 = .ok (.bipush 48, 2) := by decide +kernel
theorem dX5_failsBy_61 : decode cX5_failsBy 61 = .ok (.iaload, 1) := by decide +kernel
theorem dX5_failsBy_62 : decode cX5_failsBy 62 = .ok (.iastore, 1) := by decide +kernel
theorem dX5_failsBy_63 : decode cX5_failsBy 63 = .ok (.aload_n 0, 1) := by decide +kernel
theorem dX5_failsBy_64 : decode cX5_failsBy 64 = .ok (.iload 4, 2) := by decide +kernel
theorem dX5_failsBy_66 : decode cX5_failsBy 66 = .ok (.invokevirtual 172, 3) := by decide +kernel
theorem dX5_failsBy_69 : decode cX5_failsBy 69 = .ok (.pop, 1) := by decide +kernel
theorem dX5_failsBy_70 : decode cX5_failsBy 70 = .ok (.aload_n 0, 1) := by decide +kernel
theorem dX5_failsBy_71 : decode cX5_failsBy 71 = .ok (.getfield 7, 3) := by decide +kernel
theorem dX5_failsBy_74 : decode cX5_failsBy 74 = .ok (.iload 4, 2) := by decide +kernel
theorem dX5_failsBy_76 : decode cX5_failsBy 76 = .ok (.bipush 8, 2) := by decide +kernel
theorem dX5_failsBy_78 : decode cX5_failsBy 78 = .ok (.invokestatic 27, 3) := by decide +kernel
theorem dX5_failsBy_81 : decode cX5_failsBy 81 = .ok (.iaload, 1) := by decide +kernel
theorem dX5_failsBy_82 : decode cX5_failsBy 82 = .ok (.istore 5, 2) := by decide +kernel
theorem dX5_failsBy_84 : decode cX5_failsBy 84 = .ok (.aload_n 0, 1) := by decide +kernel
theorem dX5_failsBy_85 : decode cX5_failsBy 85 = .ok (.sipush 12738, 3) := by decide +kernel
theorem dX5_failsBy_88 : decode cX5_failsBy 88 = .ok (.iconst 0, 1) := by decide +kernel
theorem dX5_failsBy_89 : decode cX5_failsBy 89 = .ok (.sipush 707, 3) := by decide +kernel
theorem dX5_failsBy_92 : decode cX5_failsBy 92 = .ok (.invokevirtual 34, 3) := by decide +kernel
theorem dX5_failsBy_95 : decode cX5_failsBy 95 = .ok (.iload 5, 2) := by decide +kernel
theorem dX5_failsBy_97 : decode cX5_failsBy 97 = .ok (.ireturn, 1) := by decide +kernel
theorem dX5_wouldFail_0 : decode cX5_wouldFail 0 = .ok (.iload_n 1, 1) := by decide +kernel
theorem dX5_wouldFail_1 : decode cX5_wouldFail 1 = .ok (.invokestatic 53, 3) := by decide +kernel
theorem dX5_wouldFail_4 : decode cX5_wouldFail 4 = .ok (.ifCond .eq 32, 3) := by decide +kernel
theorem dX5_wouldFail_7 : decode cX5_wouldFail 7 = .ok (.iload_n 2, 1) := by decide +kernel
theorem dX5_wouldFail_8 : decode cX5_wouldFail 8 = .ok (.iconst 1, 1) := by decide +kernel
theorem dX5_wouldFail_9 : decode cX5_wouldFail 9 = .ok (.bipush 9, 2) := by decide +kernel
theorem dX5_wouldFail_11 : decode cX5_wouldFail 11 = .ok (.invokestatic 23, 3) := by decide +kernel
theorem dX5_wouldFail_14 : decode cX5_wouldFail 14 = .ok (.ifCond .eq 22, 3) := by decide +kernel
theorem dX5_wouldFail_17 : decode cX5_wouldFail 17 = .ok (.iload_n 3, 1) := by decide +kernel
theorem dX5_wouldFail_18 : decode cX5_wouldFail 18 = .ok (.iconst 0, 1) := by decide +kernel
theorem dX5_wouldFail_19 : decode cX5_wouldFail 19 = .ok (.iconst 3, 1) := by decide +kernel
theorem dX5_wouldFail_20 : decode cX5_wouldFail 20 = .ok (.invokestatic 23, 3) := by decide +kernel
theorem dX5_wouldFail_23 : decode cX5_wouldFail 23 = .ok (.ifCond .eq 13, 3) := by decide +kernel
theorem dX5_wouldFail_26 : decode cX5_wouldFail 26 = .ok (.aload_n 0, 1) := by decide +kernel
theorem dX5_wouldFail_27 : decode cX5_wouldFail 27 = .ok (.iload_n 1, 1) := by decide +kernel
theorem dX5_wouldFail_28 : decode cX5_wouldFail 28 = .ok (.iload_n 2, 1) := by decide +kernel
theorem dX5_wouldFail_29 : decode cX5_wouldFail 29 = .ok (.iload_n 3, 1) := by decide +kernel
theorem dX5_wouldFail_30 : decode cX5_wouldFail 30 = .ok (.invokevirtual 175, 3) := by decide +kernel
theorem dX5_wouldFail_33 : decode cX5_wouldFail 33 = .ok (.goto 6, 3) := by decide +kernel
theorem dX5_wouldFail_36 : decode cX5_wouldFail 36 = .ok (.sipush (-1001), 3) := by decide +kernel
theorem dX5_wouldFail_39 : decode cX5_wouldFail 39 = .ok (.ireturn, 1) := by decide +kernel
theorem dX5_heaviest_0 : decode cX5_heaviest 0 = .ok (.iload_n 1, 1) := by decide +kernel
theorem dX5_heaviest_1 : decode cX5_heaviest 1 = .ok (.invokestatic 53, 3) := by decide +kernel
theorem dX5_heaviest_4 : decode cX5_heaviest 4 = .ok (.ifCond .ne 7, 3) := by decide +kernel
theorem dX5_heaviest_7 : decode cX5_heaviest 7 = .ok (.sipush (-1001), 3) := by decide +kernel
theorem dX5_heaviest_10 : decode cX5_heaviest 10 = .ok (.ireturn, 1) := by decide +kernel
theorem dX5_heaviest_11 : decode cX5_heaviest 11 = .ok (.bipush 9, 2) := by decide +kernel
theorem dX5_heaviest_13 : decode cX5_heaviest 13 = .ok (.istore_n 2, 1) := by decide +kernel
theorem dX5_heaviest_14 : decode cX5_heaviest 14 = .ok (.iload_n 2, 1) := by decide +kernel
theorem dX5_heaviest_15 : decode cX5_heaviest 15 = .ok (.ifCond .le 19, 3) := by decide +kernel
theorem dX5_heaviest_18 : decode cX5_heaviest 18 = .ok (.aload_n 0, 1) := by decide +kernel
theorem dX5_heaviest_19 : decode cX5_heaviest 19 = .ok (.iload_n 1, 1) := by decide +kernel
theorem dX5_heaviest_20 : decode cX5_heaviest 20 = .ok (.iload_n 2, 1) := by decide +kernel
theorem dX5_heaviest_21 : decode cX5_heaviest 21 = .ok (.iconst 0, 1) := by decide +kernel
theorem dX5_heaviest_22 : decode cX5_heaviest 22 = .ok (.invokevirtual 175, 3) := by decide +kernel
theorem dX5_heaviest_25 : decode cX5_heaviest 25 = .ok (.ifCond .eq 9, 3) := by decide +kernel
theorem dX5_heaviest_28 : decode cX5_heaviest 28 = .ok (.iinc 2 (-1), 3) := by decide +kernel
theorem dX5_heaviest_31 : decode cX5_heaviest 31 = .ok (.goto (-17), 3) := by decide +kernel
theorem dX5_heaviest_34 : decode cX5_heaviest 34 = .ok (.iload_n 2, 1) := by decide +kernel
theorem dX5_heaviest_35 : decode cX5_heaviest 35 = .ok (.ifCond .ne 9, 3) := by decide +kernel
theorem dX5_heaviest_38 : decode cX5_heaviest 38 = .ok (.sipush (-1009), 3) := by decide +kernel
theorem dX5_heaviest_41 : decode cX5_heaviest 41 = .ok (.goto 4, 3) := by decide +kernel
theorem dX5_heaviest_44 : decode cX5_heaviest 44 = .ok (.iload_n 2, 1) := by decide +kernel
theorem dX5_heaviest_45 : decode cX5_heaviest 45 = .ok (.ireturn, 1) := by decide +kernel
theorem dX5_room_0 : decode cX5_room 0 = .ok (.aload_n 0, 1) := by decide +kernel
theorem dX5_room_1 : decode cX5_room 1 = .ok (.iconst 0, 1) := by decide +kernel
theorem dX5_room_2 : decode cX5_room 2 = .ok (.sipush 12738, 3) := by decide +kernel
theorem dX5_room_5 : decode cX5_room 5 = .ok (.sipush 707, 3) := by decide +kernel
theorem dX5_room_8 : decode cX5_room 8 = .ok (.invokevirtual 34, 3) := by decide +kernel
theorem dX5_room_11 : decode cX5_room 11 = .ok (.iconst 0, 1) := by decide +kernel
theorem dX5_room_12 : decode cX5_room 12 = .ok (.istore_n 1, 1) := by decide +kernel
theorem dX5_room_13 : decode cX5_room 13 = .ok (.aload_n 0, 1) := by decide +kernel
theorem dX5_room_14 : decode cX5_room 14 = .ok (.invokevirtual 70, 3) := by decide +kernel
theorem dX5_room_17 : decode cX5_room 17 = .ok (.ifCond .ne 13, 3) := by decide +kernel
theorem dX5_room_20 : decode cX5_room 20 = .ok (.aload_n 0, 1) := by decide +kernel
theorem dX5_room_21 : decode cX5_room 21 = .ok (.invokevirtual 115, 3) := by decide +kernel
theorem dX5_room_24 : decode cX5_room 24 = .ok (.iinc 1 1, 3) := by decide +kernel
theorem dX5_room_27 : decode cX5_room 27 = .ok (.goto (-14), 3) := by decide +kernel
theorem dX5_room_30 : decode cX5_room 30 = .ok (.aload_n 0, 1) := by decide +kernel
theorem dX5_room_31 : decode cX5_room 31 = .ok (.sipush 12738, 3) := by decide +kernel
theorem dX5_room_34 : decode cX5_room 34 = .ok (.iconst 0, 1) := by decide +kernel
theorem dX5_room_35 : decode cX5_room 35 = .ok (.sipush 707, 3) := by decide +kernel
theorem dX5_room_38 : decode cX5_room 38 = .ok (.invokevirtual 34, 3) := by decide +kernel
theorem dX5_room_41 : decode cX5_room 41 = .ok (.iload_n 1, 1) := by decide +kernel
theorem dX5_room_42 : decode cX5_room 42 = .ok (.ireturn, 1) := by decide +kernel
theorem dL_law_0 : decode cL_law 0 = .ok (.new 7, 3) := by decide +kernel
theorem dL_law_3 : decode cL_law 3 = .ok (.dup, 1) := by decide +kernel
theorem dL_law_4 : decode cL_law 4 = .ok (.invokespecial 9, 3) := by decide +kernel
theorem dL_law_7 : decode cL_law 7 = .ok (.astore_n 1, 1) := by decide +kernel
theorem dL_law_8 : decode cL_law 8 = .ok (.new 10, 3) := by decide +kernel
theorem dL_law_11 : decode cL_law 11 = .ok (.dup, 1) := by decide +kernel
theorem dL_law_12 : decode cL_law 12 = .ok (.invokespecial 12, 3) := by decide +kernel
theorem dL_law_15 : decode cL_law 15 = .ok (.astore_n 2, 1) := by decide +kernel
theorem dL_law_16 : decode cL_law 16 = .ok (.iconst 0, 1) := by decide +kernel
theorem dL_law_17 : decode cL_law 17 = .ok (.istore_n 3, 1) := by decide +kernel
theorem dL_law_18 : decode cL_law 18 = .ok (.iload_n 3, 1) := by decide +kernel
theorem dL_law_19 : decode cL_law 19 = .ok (.aload_n 0, 1) := by decide +kernel
theorem dL_law_20 : decode cL_law 20 = .ok (.arraylength, 1) := by decide +kernel
theorem dL_law_21 : decode cL_law 21 = .ok (.iconst 5, 1) := by decide +kernel
theorem dL_law_22 : decode cL_law 22 = .ok (.isub, 1) := by decide +kernel
theorem dL_law_23 : decode cL_law 23 = .ok (.if_icmp .gt 762, 3) := by decide +kernel
theorem dL_law_26 : decode cL_law 26 = .ok (.aload_n 0, 1) := by decide +kernel
theorem dL_law_27 : decode cL_law 27 = .ok (.iload_n 3, 1) := by decide +kernel
theorem dL_law_28 : decode cL_law 28 = .ok (.iaload, 1) := by decide +kernel
theorem dL_law_29 : decode cL_law 29 = .ok (.bipush 31, 2) := by decide +kernel
theorem dL_law_31 : decode cL_law 31 = .ok (.iand, 1) := by decide +kernel
theorem dL_law_32 : decode cL_law 32 = .ok (.tableswitch 747 0 22 #[108, 161, 204, 237, 270, 293, 316, 339, 362, 375, 398, 411, 424, 447, 480, 513, 546, 589, 622, 635, 668, 711, 734], 108) := by decide +kernel
theorem dL_law_140 : decode cL_law 140 = .ok (.aload_n 1, 1) := by decide +kernel
theorem dL_law_141 : decode cL_law 141 = .ok (.aload_n 0, 1) := by decide +kernel
theorem dL_law_142 : decode cL_law 142 = .ok (.iload_n 3, 1) := by decide +kernel
theorem dL_law_143 : decode cL_law 143 = .ok (.iconst 1, 1) := by decide +kernel
theorem dL_law_144 : decode cL_law 144 = .ok (.iadd, 1) := by decide +kernel
theorem dL_law_145 : decode cL_law 145 = .ok (.iaload, 1) := by decide +kernel
theorem dL_law_146 : decode cL_law 146 = .ok (.aload_n 0, 1) := by decide +kernel
theorem dL_law_147 : decode cL_law 147 = .ok (.iload_n 3, 1) := by decide +kernel
theorem dL_law_148 : decode cL_law 148 = .ok (.iconst 2, 1) := by decide +kernel
theorem dL_law_149 : decode cL_law 149 = .ok (.iadd, 1) := by decide +kernel
theorem dL_law_150 : decode cL_law 150 = .ok (.iaload, 1) := by decide +kernel
theorem dL_law_151 : decode cL_law 151 = .ok (.aload_n 0, 1) := by decide +kernel
theorem dL_law_152 : decode cL_law 152 = .ok (.iload_n 3, 1) := by decide +kernel
theorem dL_law_153 : decode cL_law 153 = .ok (.iconst 3, 1) := by decide +kernel
theorem dL_law_154 : decode cL_law 154 = .ok (.iadd, 1) := by decide +kernel
theorem dL_law_155 : decode cL_law 155 = .ok (.iaload, 1) := by decide +kernel
theorem dL_law_156 : decode cL_law 156 = .ok (.aload_n 0, 1) := by decide +kernel
theorem dL_law_157 : decode cL_law 157 = .ok (.iload_n 3, 1) := by decide +kernel
theorem dL_law_158 : decode cL_law 158 = .ok (.iconst 4, 1) := by decide +kernel
theorem dL_law_159 : decode cL_law 159 = .ok (.iadd, 1) := by decide +kernel
theorem dL_law_160 : decode cL_law 160 = .ok (.iaload, 1) := by decide +kernel
theorem dL_law_161 : decode cL_law 161 = .ok (.invokevirtual 13, 3) := by decide +kernel
theorem dL_law_164 : decode cL_law 164 = .ok (.aload_n 2, 1) := by decide +kernel
theorem dL_law_165 : decode cL_law 165 = .ok (.aload_n 0, 1) := by decide +kernel
theorem dL_law_166 : decode cL_law 166 = .ok (.iload_n 3, 1) := by decide +kernel
theorem dL_law_167 : decode cL_law 167 = .ok (.iconst 1, 1) := by decide +kernel
theorem dL_law_168 : decode cL_law 168 = .ok (.iadd, 1) := by decide +kernel
theorem dL_law_169 : decode cL_law 169 = .ok (.iaload, 1) := by decide +kernel
theorem dL_law_170 : decode cL_law 170 = .ok (.aload_n 0, 1) := by decide +kernel
theorem dL_law_171 : decode cL_law 171 = .ok (.iload_n 3, 1) := by decide +kernel
theorem dL_law_172 : decode cL_law 172 = .ok (.iconst 2, 1) := by decide +kernel
theorem dL_law_173 : decode cL_law 173 = .ok (.iadd, 1) := by decide +kernel
theorem dL_law_174 : decode cL_law 174 = .ok (.iaload, 1) := by decide +kernel
theorem dL_law_175 : decode cL_law 175 = .ok (.aload_n 0, 1) := by decide +kernel
theorem dL_law_176 : decode cL_law 176 = .ok (.iload_n 3, 1) := by decide +kernel
theorem dL_law_177 : decode cL_law 177 = .ok (.iconst 3, 1) := by decide +kernel
theorem dL_law_178 : decode cL_law 178 = .ok (.iadd, 1) := by decide +kernel
theorem dL_law_179 : decode cL_law 179 = .ok (.iaload, 1) := by decide +kernel
theorem dL_law_180 : decode cL_law 180 = .ok (.aload_n 0, 1) := by decide +kernel
theorem dL_law_181 : decode cL_law 181 = .ok (.iload_n 3, 1) := by decide +kernel
theorem dL_law_182 : decode cL_law 182 = .ok (.iconst 4, 1) := by decide +kernel
theorem dL_law_183 : decode cL_law 183 = .ok (.iadd, 1) := by decide +kernel
theorem dL_law_184 : decode cL_law 184 = .ok (.iaload, 1) := by decide +kernel
theorem dL_law_185 : decode cL_law 185 = .ok (.invokevirtual 17, 3) := by decide +kernel
theorem dL_law_188 : decode cL_law 188 = .ok (.if_icmp .eq 591, 3) := by decide +kernel
theorem dL_law_191 : decode cL_law 191 = .ok (.iconst 0, 1) := by decide +kernel
theorem dL_law_192 : decode cL_law 192 = .ok (.ireturn, 1) := by decide +kernel
theorem dL_law_193 : decode cL_law 193 = .ok (.aload_n 1, 1) := by decide +kernel
theorem dL_law_194 : decode cL_law 194 = .ok (.aload_n 0, 1) := by decide +kernel
theorem dL_law_195 : decode cL_law 195 = .ok (.iload_n 3, 1) := by decide +kernel
theorem dL_law_196 : decode cL_law 196 = .ok (.iconst 1, 1) := by decide +kernel
theorem dL_law_197 : decode cL_law 197 = .ok (.iadd, 1) := by decide +kernel
theorem dL_law_198 : decode cL_law 198 = .ok (.iaload, 1) := by decide +kernel
theorem dL_law_199 : decode cL_law 199 = .ok (.aload_n 0, 1) := by decide +kernel
theorem dL_law_200 : decode cL_law 200 = .ok (.iload_n 3, 1) := by decide +kernel
theorem dL_law_201 : decode cL_law 201 = .ok (.iconst 2, 1) := by decide +kernel
theorem dL_law_202 : decode cL_law 202 = .ok (.iadd, 1) := by decide +kernel
theorem dL_law_203 : decode cL_law 203 = .ok (.iaload, 1) := by decide +kernel
theorem dL_law_204 : decode cL_law 204 = .ok (.aload_n 0, 1) := by decide +kernel
theorem dL_law_205 : decode cL_law 205 = .ok (.iload_n 3, 1) := by decide +kernel
theorem dL_law_206 : decode cL_law 206 = .ok (.iconst 3, 1) := by decide +kernel
theorem dL_law_207 : decode cL_law 207 = .ok (.iadd, 1) := by decide +kernel
theorem dL_law_208 : decode cL_law 208 = .ok (.iaload, 1) := by decide +kernel
theorem dL_law_209 : decode cL_law 209 = .ok (.invokevirtual 18, 3) := by decide +kernel
theorem dL_law_212 : decode cL_law 212 = .ok (.aload_n 2, 1) := by decide +kernel
theorem dL_law_213 : decode cL_law 213 = .ok (.aload_n 0, 1) := by decide +kernel
theorem dL_law_214 : decode cL_law 214 = .ok (.iload_n 3, 1) := by decide +kernel
theorem dL_law_215 : decode cL_law 215 = .ok (.iconst 1, 1) := by decide +kernel
theorem dL_law_216 : decode cL_law 216 = .ok (.iadd, 1) := by decide +kernel
theorem dL_law_217 : decode cL_law 217 = .ok (.iaload, 1) := by decide +kernel
theorem dL_law_218 : decode cL_law 218 = .ok (.aload_n 0, 1) := by decide +kernel
theorem dL_law_219 : decode cL_law 219 = .ok (.iload_n 3, 1) := by decide +kernel
theorem dL_law_220 : decode cL_law 220 = .ok (.iconst 2, 1) := by decide +kernel
theorem dL_law_221 : decode cL_law 221 = .ok (.iadd, 1) := by decide +kernel
theorem dL_law_222 : decode cL_law 222 = .ok (.iaload, 1) := by decide +kernel
theorem dL_law_223 : decode cL_law 223 = .ok (.aload_n 0, 1) := by decide +kernel
theorem dL_law_224 : decode cL_law 224 = .ok (.iload_n 3, 1) := by decide +kernel
theorem dL_law_225 : decode cL_law 225 = .ok (.iconst 3, 1) := by decide +kernel
theorem dL_law_226 : decode cL_law 226 = .ok (.iadd, 1) := by decide +kernel
theorem dL_law_227 : decode cL_law 227 = .ok (.iaload, 1) := by decide +kernel
theorem dL_law_228 : decode cL_law 228 = .ok (.invokevirtual 22, 3) := by decide +kernel
theorem dL_law_231 : decode cL_law 231 = .ok (.if_icmp .eq 548, 3) := by decide +kernel
theorem dL_law_234 : decode cL_law 234 = .ok (.iconst 0, 1) := by decide +kernel
theorem dL_law_235 : decode cL_law 235 = .ok (.ireturn, 1) := by decide +kernel
theorem dL_law_236 : decode cL_law 236 = .ok (.aload_n 1, 1) := by decide +kernel
theorem dL_law_237 : decode cL_law 237 = .ok (.aload_n 0, 1) := by decide +kernel
theorem dL_law_238 : decode cL_law 238 = .ok (.iload_n 3, 1) := by decide +kernel
theorem dL_law_239 : decode cL_law 239 = .ok (.iconst 1, 1) := by decide +kernel
theorem dL_law_240 : decode cL_law 240 = .ok (.iadd, 1) := by decide +kernel
theorem dL_law_241 : decode cL_law 241 = .ok (.iaload, 1) := by decide +kernel
theorem dL_law_242 : decode cL_law 242 = .ok (.aload_n 0, 1) := by decide +kernel
theorem dL_law_243 : decode cL_law 243 = .ok (.iload_n 3, 1) := by decide +kernel
theorem dL_law_244 : decode cL_law 244 = .ok (.iconst 2, 1) := by decide +kernel
theorem dL_law_245 : decode cL_law 245 = .ok (.iadd, 1) := by decide +kernel
theorem dL_law_246 : decode cL_law 246 = .ok (.iaload, 1) := by decide +kernel
theorem dL_law_247 : decode cL_law 247 = .ok (.invokevirtual 23, 3) := by decide +kernel
theorem dL_law_250 : decode cL_law 250 = .ok (.aload_n 2, 1) := by decide +kernel
theorem dL_law_251 : decode cL_law 251 = .ok (.aload_n 0, 1) := by decide +kernel
theorem dL_law_252 : decode cL_law 252 = .ok (.iload_n 3, 1) := by decide +kernel
theorem dL_law_253 : decode cL_law 253 = .ok (.iconst 1, 1) := by decide +kernel
theorem dL_law_254 : decode cL_law 254 = .ok (.iadd, 1) := by decide +kernel
theorem dL_law_255 : decode cL_law 255 = .ok (.iaload, 1) := by decide +kernel
theorem dL_law_256 : decode cL_law 256 = .ok (.aload_n 0, 1) := by decide +kernel
theorem dL_law_257 : decode cL_law 257 = .ok (.iload_n 3, 1) := by decide +kernel
theorem dL_law_258 : decode cL_law 258 = .ok (.iconst 2, 1) := by decide +kernel
theorem dL_law_259 : decode cL_law 259 = .ok (.iadd, 1) := by decide +kernel
theorem dL_law_260 : decode cL_law 260 = .ok (.iaload, 1) := by decide +kernel
theorem dL_law_261 : decode cL_law 261 = .ok (.invokevirtual 27, 3) := by decide +kernel
theorem dL_law_264 : decode cL_law 264 = .ok (.if_icmp .eq 515, 3) := by decide +kernel
theorem dL_law_267 : decode cL_law 267 = .ok (.iconst 0, 1) := by decide +kernel
theorem dL_law_268 : decode cL_law 268 = .ok (.ireturn, 1) := by decide +kernel
theorem dL_law_269 : decode cL_law 269 = .ok (.aload_n 1, 1) := by decide +kernel
theorem dL_law_270 : decode cL_law 270 = .ok (.aload_n 0, 1) := by decide +kernel
theorem dL_law_271 : decode cL_law 271 = .ok (.iload_n 3, 1) := by decide +kernel
theorem dL_law_272 : decode cL_law 272 = .ok (.iconst 1, 1) := by decide +kernel
theorem dL_law_273 : decode cL_law 273 = .ok (.iadd, 1) := by decide +kernel
theorem dL_law_274 : decode cL_law 274 = .ok (.iaload, 1) := by decide +kernel
theorem dL_law_275 : decode cL_law 275 = .ok (.aload_n 0, 1) := by decide +kernel
theorem dL_law_276 : decode cL_law 276 = .ok (.iload_n 3, 1) := by decide +kernel
theorem dL_law_277 : decode cL_law 277 = .ok (.iconst 2, 1) := by decide +kernel
theorem dL_law_278 : decode cL_law 278 = .ok (.iadd, 1) := by decide +kernel
theorem dL_law_279 : decode cL_law 279 = .ok (.iaload, 1) := by decide +kernel
theorem dL_law_280 : decode cL_law 280 = .ok (.invokevirtual 28, 3) := by decide +kernel
theorem dL_law_283 : decode cL_law 283 = .ok (.aload_n 2, 1) := by decide +kernel
theorem dL_law_284 : decode cL_law 284 = .ok (.aload_n 0, 1) := by decide +kernel
theorem dL_law_285 : decode cL_law 285 = .ok (.iload_n 3, 1) := by decide +kernel
theorem dL_law_286 : decode cL_law 286 = .ok (.iconst 1, 1) := by decide +kernel
theorem dL_law_287 : decode cL_law 287 = .ok (.iadd, 1) := by decide +kernel
theorem dL_law_288 : decode cL_law 288 = .ok (.iaload, 1) := by decide +kernel
theorem dL_law_289 : decode cL_law 289 = .ok (.aload_n 0, 1) := by decide +kernel
theorem dL_law_290 : decode cL_law 290 = .ok (.iload_n 3, 1) := by decide +kernel
theorem dL_law_291 : decode cL_law 291 = .ok (.iconst 2, 1) := by decide +kernel
theorem dL_law_292 : decode cL_law 292 = .ok (.iadd, 1) := by decide +kernel
theorem dL_law_293 : decode cL_law 293 = .ok (.iaload, 1) := by decide +kernel
theorem dL_law_294 : decode cL_law 294 = .ok (.invokevirtual 31, 3) := by decide +kernel
theorem dL_law_297 : decode cL_law 297 = .ok (.if_icmp .eq 482, 3) := by decide +kernel
theorem dL_law_300 : decode cL_law 300 = .ok (.iconst 0, 1) := by decide +kernel
theorem dL_law_301 : decode cL_law 301 = .ok (.ireturn, 1) := by decide +kernel
theorem dL_law_302 : decode cL_law 302 = .ok (.aload_n 1, 1) := by decide +kernel
theorem dL_law_303 : decode cL_law 303 = .ok (.aload_n 0, 1) := by decide +kernel
theorem dL_law_304 : decode cL_law 304 = .ok (.iload_n 3, 1) := by decide +kernel
theorem dL_law_305 : decode cL_law 305 = .ok (.iconst 1, 1) := by decide +kernel
theorem dL_law_306 : decode cL_law 306 = .ok (.iadd, 1) := by decide +kernel
theorem dL_law_307 : decode cL_law 307 = .ok (.iaload, 1) := by decide +kernel
theorem dL_law_308 : decode cL_law 308 = .ok (.invokevirtual 32, 3) := by decide +kernel
theorem dL_law_311 : decode cL_law 311 = .ok (.aload_n 2, 1) := by decide +kernel
theorem dL_law_312 : decode cL_law 312 = .ok (.aload_n 0, 1) := by decide +kernel
theorem dL_law_313 : decode cL_law 313 = .ok (.iload_n 3, 1) := by decide +kernel
theorem dL_law_314 : decode cL_law 314 = .ok (.iconst 1, 1) := by decide +kernel
theorem dL_law_315 : decode cL_law 315 = .ok (.iadd, 1) := by decide +kernel
theorem dL_law_316 : decode cL_law 316 = .ok (.iaload, 1) := by decide +kernel
theorem dL_law_317 : decode cL_law 317 = .ok (.invokevirtual 36, 3) := by decide +kernel
theorem dL_law_320 : decode cL_law 320 = .ok (.if_icmp .eq 459, 3) := by decide +kernel
theorem dL_law_323 : decode cL_law 323 = .ok (.iconst 0, 1) := by decide +kernel
theorem dL_law_324 : decode cL_law 324 = .ok (.ireturn, 1) := by decide +kernel
theorem dL_law_325 : decode cL_law 325 = .ok (.aload_n 1, 1) := by decide +kernel
theorem dL_law_326 : decode cL_law 326 = .ok (.aload_n 0, 1) := by decide +kernel
theorem dL_law_327 : decode cL_law 327 = .ok (.iload_n 3, 1) := by decide +kernel
theorem dL_law_328 : decode cL_law 328 = .ok (.iconst 1, 1) := by decide +kernel
theorem dL_law_329 : decode cL_law 329 = .ok (.iadd, 1) := by decide +kernel
theorem dL_law_330 : decode cL_law 330 = .ok (.iaload, 1) := by decide +kernel
theorem dL_law_331 : decode cL_law 331 = .ok (.invokevirtual 37, 3) := by decide +kernel
theorem dL_law_334 : decode cL_law 334 = .ok (.aload_n 2, 1) := by decide +kernel
theorem dL_law_335 : decode cL_law 335 = .ok (.aload_n 0, 1) := by decide +kernel
theorem dL_law_336 : decode cL_law 336 = .ok (.iload_n 3, 1) := by decide +kernel
theorem dL_law_337 : decode cL_law 337 = .ok (.iconst 1, 1) := by decide +kernel
theorem dL_law_338 : decode cL_law 338 = .ok (.iadd, 1) := by decide +kernel
theorem dL_law_339 : decode cL_law 339 = .ok (.iaload, 1) := by decide +kernel
theorem dL_law_340 : decode cL_law 340 = .ok (.invokevirtual 40, 3) := by decide +kernel
theorem dL_law_343 : decode cL_law 343 = .ok (.if_icmp .eq 436, 3) := by decide +kernel
theorem dL_law_346 : decode cL_law 346 = .ok (.iconst 0, 1) := by decide +kernel
theorem dL_law_347 : decode cL_law 347 = .ok (.ireturn, 1) := by decide +kernel
theorem dL_law_348 : decode cL_law 348 = .ok (.aload_n 1, 1) := by decide +kernel
theorem dL_law_349 : decode cL_law 349 = .ok (.aload_n 0, 1) := by decide +kernel
theorem dL_law_350 : decode cL_law 350 = .ok (.iload_n 3, 1) := by decide +kernel
theorem dL_law_351 : decode cL_law 351 = .ok (.iconst 1, 1) := by decide +kernel
theorem dL_law_352 : decode cL_law 352 = .ok (.iadd, 1) := by decide +kernel
theorem dL_law_353 : decode cL_law 353 = .ok (.iaload, 1) := by decide +kernel
theorem dL_law_354 : decode cL_law 354 = .ok (.invokevirtual 41, 3) := by decide +kernel
theorem dL_law_357 : decode cL_law 357 = .ok (.aload_n 2, 1) := by decide +kernel
theorem dL_law_358 : decode cL_law 358 = .ok (.aload_n 0, 1) := by decide +kernel
theorem dL_law_359 : decode cL_law 359 = .ok (.iload_n 3, 1) := by decide +kernel
theorem dL_law_360 : decode cL_law 360 = .ok (.iconst 1, 1) := by decide +kernel
theorem dL_law_361 : decode cL_law 361 = .ok (.iadd, 1) := by decide +kernel
theorem dL_law_362 : decode cL_law 362 = .ok (.iaload, 1) := by decide +kernel
theorem dL_law_363 : decode cL_law 363 = .ok (.invokevirtual 44, 3) := by decide +kernel
theorem dL_law_366 : decode cL_law 366 = .ok (.if_icmp .eq 413, 3) := by decide +kernel
theorem dL_law_369 : decode cL_law 369 = .ok (.iconst 0, 1) := by decide +kernel
theorem dL_law_370 : decode cL_law 370 = .ok (.ireturn, 1) := by decide +kernel
theorem dL_law_371 : decode cL_law 371 = .ok (.aload_n 1, 1) := by decide +kernel
theorem dL_law_372 : decode cL_law 372 = .ok (.aload_n 0, 1) := by decide +kernel
theorem dL_law_373 : decode cL_law 373 = .ok (.iload_n 3, 1) := by decide +kernel
theorem dL_law_374 : decode cL_law 374 = .ok (.iconst 1, 1) := by decide +kernel
theorem dL_law_375 : decode cL_law 375 = .ok (.iadd, 1) := by decide +kernel
theorem dL_law_376 : decode cL_law 376 = .ok (.iaload, 1) := by decide +kernel
theorem dL_law_377 : decode cL_law 377 = .ok (.invokevirtual 45, 3) := by decide +kernel
theorem dL_law_380 : decode cL_law 380 = .ok (.aload_n 2, 1) := by decide +kernel
theorem dL_law_381 : decode cL_law 381 = .ok (.aload_n 0, 1) := by decide +kernel
theorem dL_law_382 : decode cL_law 382 = .ok (.iload_n 3, 1) := by decide +kernel
theorem dL_law_383 : decode cL_law 383 = .ok (.iconst 1, 1) := by decide +kernel
theorem dL_law_384 : decode cL_law 384 = .ok (.iadd, 1) := by decide +kernel
theorem dL_law_385 : decode cL_law 385 = .ok (.iaload, 1) := by decide +kernel
theorem dL_law_386 : decode cL_law 386 = .ok (.invokevirtual 48, 3) := by decide +kernel
theorem dL_law_389 : decode cL_law 389 = .ok (.if_icmp .eq 390, 3) := by decide +kernel
theorem dL_law_392 : decode cL_law 392 = .ok (.iconst 0, 1) := by decide +kernel
theorem dL_law_393 : decode cL_law 393 = .ok (.ireturn, 1) := by decide +kernel
theorem dL_law_394 : decode cL_law 394 = .ok (.aload_n 1, 1) := by decide +kernel
theorem dL_law_395 : decode cL_law 395 = .ok (.invokevirtual 49, 3) := by decide +kernel
theorem dL_law_398 : decode cL_law 398 = .ok (.aload_n 2, 1) := by decide +kernel
theorem dL_law_399 : decode cL_law 399 = .ok (.invokevirtual 53, 3) := by decide +kernel
theorem dL_law_402 : decode cL_law 402 = .ok (.if_icmp .eq 377, 3) := by decide +kernel
theorem dL_law_405 : decode cL_law 405 = .ok (.iconst 0, 1) := by decide +kernel
theorem dL_law_406 : decode cL_law 406 = .ok (.ireturn, 1) := by decide +kernel
theorem dL_law_407 : decode cL_law 407 = .ok (.aload_n 1, 1) := by decide +kernel
theorem dL_law_408 : decode cL_law 408 = .ok (.aload_n 0, 1) := by decide +kernel
theorem dL_law_409 : decode cL_law 409 = .ok (.iload_n 3, 1) := by decide +kernel
theorem dL_law_410 : decode cL_law 410 = .ok (.iconst 1, 1) := by decide +kernel
theorem dL_law_411 : decode cL_law 411 = .ok (.iadd, 1) := by decide +kernel
theorem dL_law_412 : decode cL_law 412 = .ok (.iaload, 1) := by decide +kernel
theorem dL_law_413 : decode cL_law 413 = .ok (.invokevirtual 54, 3) := by decide +kernel
theorem dL_law_416 : decode cL_law 416 = .ok (.aload_n 2, 1) := by decide +kernel
theorem dL_law_417 : decode cL_law 417 = .ok (.aload_n 0, 1) := by decide +kernel
theorem dL_law_418 : decode cL_law 418 = .ok (.iload_n 3, 1) := by decide +kernel
theorem dL_law_419 : decode cL_law 419 = .ok (.iconst 1, 1) := by decide +kernel
theorem dL_law_420 : decode cL_law 420 = .ok (.iadd, 1) := by decide +kernel
theorem dL_law_421 : decode cL_law 421 = .ok (.iaload, 1) := by decide +kernel
theorem dL_law_422 : decode cL_law 422 = .ok (.invokevirtual 57, 3) := by decide +kernel
theorem dL_law_425 : decode cL_law 425 = .ok (.if_icmp .eq 354, 3) := by decide +kernel
theorem dL_law_428 : decode cL_law 428 = .ok (.iconst 0, 1) := by decide +kernel
theorem dL_law_429 : decode cL_law 429 = .ok (.ireturn, 1) := by decide +kernel
theorem dL_law_430 : decode cL_law 430 = .ok (.aload_n 1, 1) := by decide +kernel
theorem dL_law_431 : decode cL_law 431 = .ok (.invokevirtual 58, 3) := by decide +kernel
theorem dL_law_434 : decode cL_law 434 = .ok (.aload_n 2, 1) := by decide +kernel
theorem dL_law_435 : decode cL_law 435 = .ok (.invokevirtual 61, 3) := by decide +kernel
theorem dL_law_438 : decode cL_law 438 = .ok (.if_icmp .eq 341, 3) := by decide +kernel
theorem dL_law_441 : decode cL_law 441 = .ok (.iconst 0, 1) := by decide +kernel
theorem dL_law_442 : decode cL_law 442 = .ok (.ireturn, 1) := by decide +kernel
theorem dL_law_443 : decode cL_law 443 = .ok (.aload_n 1, 1) := by decide +kernel
theorem dL_law_444 : decode cL_law 444 = .ok (.invokevirtual 62, 3) := by decide +kernel
theorem dL_law_447 : decode cL_law 447 = .ok (.aload_n 2, 1) := by decide +kernel
theorem dL_law_448 : decode cL_law 448 = .ok (.invokevirtual 65, 3) := by decide +kernel
theorem dL_law_451 : decode cL_law 451 = .ok (.if_icmp .eq 328, 3) := by decide +kernel
theorem dL_law_454 : decode cL_law 454 = .ok (.iconst 0, 1) := by decide +kernel
theorem dL_law_455 : decode cL_law 455 = .ok (.ireturn, 1) := by decide +kernel
theorem dL_law_456 : decode cL_law 456 = .ok (.aload_n 1, 1) := by decide +kernel
theorem dL_law_457 : decode cL_law 457 = .ok (.aload_n 0, 1) := by decide +kernel
theorem dL_law_458 : decode cL_law 458 = .ok (.iload_n 3, 1) := by decide +kernel
theorem dL_law_459 : decode cL_law 459 = .ok (.iconst 1, 1) := by decide +kernel
theorem dL_law_460 : decode cL_law 460 = .ok (.iadd, 1) := by decide +kernel
theorem dL_law_461 : decode cL_law 461 = .ok (.iaload, 1) := by decide +kernel
theorem dL_law_462 : decode cL_law 462 = .ok (.invokevirtual 66, 3) := by decide +kernel
theorem dL_law_465 : decode cL_law 465 = .ok (.aload_n 2, 1) := by decide +kernel
theorem dL_law_466 : decode cL_law 466 = .ok (.aload_n 0, 1) := by decide +kernel
theorem dL_law_467 : decode cL_law 467 = .ok (.iload_n 3, 1) := by decide +kernel
theorem dL_law_468 : decode cL_law 468 = .ok (.iconst 1, 1) := by decide +kernel
theorem dL_law_469 : decode cL_law 469 = .ok (.iadd, 1) := by decide +kernel
theorem dL_law_470 : decode cL_law 470 = .ok (.iaload, 1) := by decide +kernel
theorem dL_law_471 : decode cL_law 471 = .ok (.invokevirtual 69, 3) := by decide +kernel
theorem dL_law_474 : decode cL_law 474 = .ok (.if_icmp .eq 305, 3) := by decide +kernel
theorem dL_law_477 : decode cL_law 477 = .ok (.iconst 0, 1) := by decide +kernel
theorem dL_law_478 : decode cL_law 478 = .ok (.ireturn, 1) := by decide +kernel
theorem dL_law_479 : decode cL_law 479 = .ok (.aload_n 1, 1) := by decide +kernel
theorem dL_law_480 : decode cL_law 480 = .ok (.aload_n 0, 1) := by decide +kernel
theorem dL_law_481 : decode cL_law 481 = .ok (.iload_n 3, 1) := by decide +kernel
theorem dL_law_482 : decode cL_law 482 = .ok (.iconst 1, 1) := by decide +kernel
theorem dL_law_483 : decode cL_law 483 = .ok (.iadd, 1) := by decide +kernel
theorem dL_law_484 : decode cL_law 484 = .ok (.iaload, 1) := by decide +kernel
theorem dL_law_485 : decode cL_law 485 = .ok (.aload_n 0, 1) := by decide +kernel
theorem dL_law_486 : decode cL_law 486 = .ok (.iload_n 3, 1) := by decide +kernel
theorem dL_law_487 : decode cL_law 487 = .ok (.iconst 2, 1) := by decide +kernel
theorem dL_law_488 : decode cL_law 488 = .ok (.iadd, 1) := by decide +kernel
theorem dL_law_489 : decode cL_law 489 = .ok (.iaload, 1) := by decide +kernel
theorem dL_law_490 : decode cL_law 490 = .ok (.invokevirtual 70, 3) := by decide +kernel
theorem dL_law_493 : decode cL_law 493 = .ok (.aload_n 2, 1) := by decide +kernel
theorem dL_law_494 : decode cL_law 494 = .ok (.aload_n 0, 1) := by decide +kernel
theorem dL_law_495 : decode cL_law 495 = .ok (.iload_n 3, 1) := by decide +kernel
theorem dL_law_496 : decode cL_law 496 = .ok (.iconst 1, 1) := by decide +kernel
theorem dL_law_497 : decode cL_law 497 = .ok (.iadd, 1) := by decide +kernel
theorem dL_law_498 : decode cL_law 498 = .ok (.iaload, 1) := by decide +kernel
theorem dL_law_499 : decode cL_law 499 = .ok (.aload_n 0, 1) := by decide +kernel
theorem dL_law_500 : decode cL_law 500 = .ok (.iload_n 3, 1) := by decide +kernel
theorem dL_law_501 : decode cL_law 501 = .ok (.iconst 2, 1) := by decide +kernel
theorem dL_law_502 : decode cL_law 502 = .ok (.iadd, 1) := by decide +kernel
theorem dL_law_503 : decode cL_law 503 = .ok (.iaload, 1) := by decide +kernel
theorem dL_law_504 : decode cL_law 504 = .ok (.invokevirtual 73, 3) := by decide +kernel
theorem dL_law_507 : decode cL_law 507 = .ok (.if_icmp .eq 272, 3) := by decide +kernel
theorem dL_law_510 : decode cL_law 510 = .ok (.iconst 0, 1) := by decide +kernel
theorem dL_law_511 : decode cL_law 511 = .ok (.ireturn, 1) := by decide +kernel
theorem dL_law_512 : decode cL_law 512 = .ok (.aload_n 1, 1) := by decide +kernel
theorem dL_law_513 : decode cL_law 513 = .ok (.aload_n 0, 1) := by decide +kernel
theorem dL_law_514 : decode cL_law 514 = .ok (.iload_n 3, 1) := by decide +kernel
theorem dL_law_515 : decode cL_law 515 = .ok (.iconst 1, 1) := by decide +kernel
theorem dL_law_516 : decode cL_law 516 = .ok (.iadd, 1) := by decide +kernel
theorem dL_law_517 : decode cL_law 517 = .ok (.iaload, 1) := by decide +kernel
theorem dL_law_518 : decode cL_law 518 = .ok (.aload_n 0, 1) := by decide +kernel
theorem dL_law_519 : decode cL_law 519 = .ok (.iload_n 3, 1) := by decide +kernel
theorem dL_law_520 : decode cL_law 520 = .ok (.iconst 2, 1) := by decide +kernel
theorem dL_law_521 : decode cL_law 521 = .ok (.iadd, 1) := by decide +kernel
theorem dL_law_522 : decode cL_law 522 = .ok (.iaload, 1) := by decide +kernel
theorem dL_law_523 : decode cL_law 523 = .ok (.invokevirtual 74, 3) := by decide +kernel
theorem dL_law_526 : decode cL_law 526 = .ok (.aload_n 2, 1) := by decide +kernel
theorem dL_law_527 : decode cL_law 527 = .ok (.aload_n 0, 1) := by decide +kernel
theorem dL_law_528 : decode cL_law 528 = .ok (.iload_n 3, 1) := by decide +kernel
theorem dL_law_529 : decode cL_law 529 = .ok (.iconst 1, 1) := by decide +kernel
theorem dL_law_530 : decode cL_law 530 = .ok (.iadd, 1) := by decide +kernel
theorem dL_law_531 : decode cL_law 531 = .ok (.iaload, 1) := by decide +kernel
theorem dL_law_532 : decode cL_law 532 = .ok (.aload_n 0, 1) := by decide +kernel
theorem dL_law_533 : decode cL_law 533 = .ok (.iload_n 3, 1) := by decide +kernel
theorem dL_law_534 : decode cL_law 534 = .ok (.iconst 2, 1) := by decide +kernel
theorem dL_law_535 : decode cL_law 535 = .ok (.iadd, 1) := by decide +kernel
theorem dL_law_536 : decode cL_law 536 = .ok (.iaload, 1) := by decide +kernel
theorem dL_law_537 : decode cL_law 537 = .ok (.invokevirtual 77, 3) := by decide +kernel
theorem dL_law_540 : decode cL_law 540 = .ok (.if_icmp .eq 239, 3) := by decide +kernel
theorem dL_law_543 : decode cL_law 543 = .ok (.iconst 0, 1) := by decide +kernel
theorem dL_law_544 : decode cL_law 544 = .ok (.ireturn, 1) := by decide +kernel
theorem dL_law_545 : decode cL_law 545 = .ok (.aload_n 1, 1) := by decide +kernel
theorem dL_law_546 : decode cL_law 546 = .ok (.aload_n 0, 1) := by decide +kernel
theorem dL_law_547 : decode cL_law 547 = .ok (.iload_n 3, 1) := by decide +kernel
theorem dL_law_548 : decode cL_law 548 = .ok (.iconst 1, 1) := by decide +kernel
theorem dL_law_549 : decode cL_law 549 = .ok (.iadd, 1) := by decide +kernel
theorem dL_law_550 : decode cL_law 550 = .ok (.iaload, 1) := by decide +kernel
theorem dL_law_551 : decode cL_law 551 = .ok (.aload_n 0, 1) := by decide +kernel
theorem dL_law_552 : decode cL_law 552 = .ok (.iload_n 3, 1) := by decide +kernel
theorem dL_law_553 : decode cL_law 553 = .ok (.iconst 2, 1) := by decide +kernel
theorem dL_law_554 : decode cL_law 554 = .ok (.iadd, 1) := by decide +kernel
theorem dL_law_555 : decode cL_law 555 = .ok (.iaload, 1) := by decide +kernel
theorem dL_law_556 : decode cL_law 556 = .ok (.invokevirtual 78, 3) := by decide +kernel
theorem dL_law_559 : decode cL_law 559 = .ok (.aload_n 2, 1) := by decide +kernel
theorem dL_law_560 : decode cL_law 560 = .ok (.aload_n 0, 1) := by decide +kernel
theorem dL_law_561 : decode cL_law 561 = .ok (.iload_n 3, 1) := by decide +kernel
theorem dL_law_562 : decode cL_law 562 = .ok (.iconst 1, 1) := by decide +kernel
theorem dL_law_563 : decode cL_law 563 = .ok (.iadd, 1) := by decide +kernel
theorem dL_law_564 : decode cL_law 564 = .ok (.iaload, 1) := by decide +kernel
theorem dL_law_565 : decode cL_law 565 = .ok (.aload_n 0, 1) := by decide +kernel
theorem dL_law_566 : decode cL_law 566 = .ok (.iload_n 3, 1) := by decide +kernel
theorem dL_law_567 : decode cL_law 567 = .ok (.iconst 2, 1) := by decide +kernel
theorem dL_law_568 : decode cL_law 568 = .ok (.iadd, 1) := by decide +kernel
theorem dL_law_569 : decode cL_law 569 = .ok (.iaload, 1) := by decide +kernel
theorem dL_law_570 : decode cL_law 570 = .ok (.invokevirtual 81, 3) := by decide +kernel
theorem dL_law_573 : decode cL_law 573 = .ok (.if_icmp .eq 206, 3) := by decide +kernel
theorem dL_law_576 : decode cL_law 576 = .ok (.iconst 0, 1) := by decide +kernel
theorem dL_law_577 : decode cL_law 577 = .ok (.ireturn, 1) := by decide +kernel
theorem dL_law_578 : decode cL_law 578 = .ok (.aload_n 1, 1) := by decide +kernel
theorem dL_law_579 : decode cL_law 579 = .ok (.aload_n 0, 1) := by decide +kernel
theorem dL_law_580 : decode cL_law 580 = .ok (.iload_n 3, 1) := by decide +kernel
theorem dL_law_581 : decode cL_law 581 = .ok (.iconst 1, 1) := by decide +kernel
theorem dL_law_582 : decode cL_law 582 = .ok (.iadd, 1) := by decide +kernel
theorem dL_law_583 : decode cL_law 583 = .ok (.iaload, 1) := by decide +kernel
theorem dL_law_584 : decode cL_law 584 = .ok (.aload_n 0, 1) := by decide +kernel
theorem dL_law_585 : decode cL_law 585 = .ok (.iload_n 3, 1) := by decide +kernel
theorem dL_law_586 : decode cL_law 586 = .ok (.iconst 2, 1) := by decide +kernel
theorem dL_law_587 : decode cL_law 587 = .ok (.iadd, 1) := by decide +kernel
theorem dL_law_588 : decode cL_law 588 = .ok (.iaload, 1) := by decide +kernel
theorem dL_law_589 : decode cL_law 589 = .ok (.aload_n 0, 1) := by decide +kernel
theorem dL_law_590 : decode cL_law 590 = .ok (.iload_n 3, 1) := by decide +kernel
theorem dL_law_591 : decode cL_law 591 = .ok (.iconst 3, 1) := by decide +kernel
theorem dL_law_592 : decode cL_law 592 = .ok (.iadd, 1) := by decide +kernel
theorem dL_law_593 : decode cL_law 593 = .ok (.iaload, 1) := by decide +kernel
theorem dL_law_594 : decode cL_law 594 = .ok (.invokevirtual 82, 3) := by decide +kernel
theorem dL_law_597 : decode cL_law 597 = .ok (.aload_n 2, 1) := by decide +kernel
theorem dL_law_598 : decode cL_law 598 = .ok (.aload_n 0, 1) := by decide +kernel
theorem dL_law_599 : decode cL_law 599 = .ok (.iload_n 3, 1) := by decide +kernel
theorem dL_law_600 : decode cL_law 600 = .ok (.iconst 1, 1) := by decide +kernel
theorem dL_law_601 : decode cL_law 601 = .ok (.iadd, 1) := by decide +kernel
theorem dL_law_602 : decode cL_law 602 = .ok (.iaload, 1) := by decide +kernel
theorem dL_law_603 : decode cL_law 603 = .ok (.aload_n 0, 1) := by decide +kernel
theorem dL_law_604 : decode cL_law 604 = .ok (.iload_n 3, 1) := by decide +kernel
theorem dL_law_605 : decode cL_law 605 = .ok (.iconst 2, 1) := by decide +kernel
theorem dL_law_606 : decode cL_law 606 = .ok (.iadd, 1) := by decide +kernel
theorem dL_law_607 : decode cL_law 607 = .ok (.iaload, 1) := by decide +kernel
theorem dL_law_608 : decode cL_law 608 = .ok (.aload_n 0, 1) := by decide +kernel
theorem dL_law_609 : decode cL_law 609 = .ok (.iload_n 3, 1) := by decide +kernel
theorem dL_law_610 : decode cL_law 610 = .ok (.iconst 3, 1) := by decide +kernel
theorem dL_law_611 : decode cL_law 611 = .ok (.iadd, 1) := by decide +kernel
theorem dL_law_612 : decode cL_law 612 = .ok (.iaload, 1) := by decide +kernel
theorem dL_law_613 : decode cL_law 613 = .ok (.invokevirtual 85, 3) := by decide +kernel
theorem dL_law_616 : decode cL_law 616 = .ok (.if_icmp .eq 163, 3) := by decide +kernel
theorem dL_law_619 : decode cL_law 619 = .ok (.iconst 0, 1) := by decide +kernel
theorem dL_law_620 : decode cL_law 620 = .ok (.ireturn, 1) := by decide +kernel
theorem dL_law_621 : decode cL_law 621 = .ok (.aload_n 1, 1) := by decide +kernel
theorem dL_law_622 : decode cL_law 622 = .ok (.aload_n 0, 1) := by decide +kernel
theorem dL_law_623 : decode cL_law 623 = .ok (.iload_n 3, 1) := by decide +kernel
theorem dL_law_624 : decode cL_law 624 = .ok (.iconst 1, 1) := by decide +kernel
theorem dL_law_625 : decode cL_law 625 = .ok (.iadd, 1) := by decide +kernel
theorem dL_law_626 : decode cL_law 626 = .ok (.iaload, 1) := by decide +kernel
theorem dL_law_627 : decode cL_law 627 = .ok (.aload_n 0, 1) := by decide +kernel
theorem dL_law_628 : decode cL_law 628 = .ok (.iload_n 3, 1) := by decide +kernel
theorem dL_law_629 : decode cL_law 629 = .ok (.iconst 2, 1) := by decide +kernel
theorem dL_law_630 : decode cL_law 630 = .ok (.iadd, 1) := by decide +kernel
theorem dL_law_631 : decode cL_law 631 = .ok (.iaload, 1) := by decide +kernel
theorem dL_law_632 : decode cL_law 632 = .ok (.invokevirtual 86, 3) := by decide +kernel
theorem dL_law_635 : decode cL_law 635 = .ok (.aload_n 2, 1) := by decide +kernel
theorem dL_law_636 : decode cL_law 636 = .ok (.aload_n 0, 1) := by decide +kernel
theorem dL_law_637 : decode cL_law 637 = .ok (.iload_n 3, 1) := by decide +kernel
theorem dL_law_638 : decode cL_law 638 = .ok (.iconst 1, 1) := by decide +kernel
theorem dL_law_639 : decode cL_law 639 = .ok (.iadd, 1) := by decide +kernel
theorem dL_law_640 : decode cL_law 640 = .ok (.iaload, 1) := by decide +kernel
theorem dL_law_641 : decode cL_law 641 = .ok (.aload_n 0, 1) := by decide +kernel
theorem dL_law_642 : decode cL_law 642 = .ok (.iload_n 3, 1) := by decide +kernel
theorem dL_law_643 : decode cL_law 643 = .ok (.iconst 2, 1) := by decide +kernel
theorem dL_law_644 : decode cL_law 644 = .ok (.iadd, 1) := by decide +kernel
theorem dL_law_645 : decode cL_law 645 = .ok (.iaload, 1) := by decide +kernel
theorem dL_law_646 : decode cL_law 646 = .ok (.invokevirtual 89, 3) := by decide +kernel
theorem dL_law_649 : decode cL_law 649 = .ok (.if_icmp .eq 130, 3) := by decide +kernel
theorem dL_law_652 : decode cL_law 652 = .ok (.iconst 0, 1) := by decide +kernel
theorem dL_law_653 : decode cL_law 653 = .ok (.ireturn, 1) := by decide +kernel
theorem dL_law_654 : decode cL_law 654 = .ok (.aload_n 1, 1) := by decide +kernel
theorem dL_law_655 : decode cL_law 655 = .ok (.invokevirtual 90, 3) := by decide +kernel
theorem dL_law_658 : decode cL_law 658 = .ok (.aload_n 2, 1) := by decide +kernel
theorem dL_law_659 : decode cL_law 659 = .ok (.invokevirtual 93, 3) := by decide +kernel
theorem dL_law_662 : decode cL_law 662 = .ok (.if_icmp .eq 117, 3) := by decide +kernel
theorem dL_law_665 : decode cL_law 665 = .ok (.iconst 0, 1) := by decide +kernel
theorem dL_law_666 : decode cL_law 666 = .ok (.ireturn, 1) := by decide +kernel
theorem dL_law_667 : decode cL_law 667 = .ok (.aload_n 1, 1) := by decide +kernel
theorem dL_law_668 : decode cL_law 668 = .ok (.aload_n 0, 1) := by decide +kernel
theorem dL_law_669 : decode cL_law 669 = .ok (.iload_n 3, 1) := by decide +kernel
theorem dL_law_670 : decode cL_law 670 = .ok (.iconst 1, 1) := by decide +kernel
theorem dL_law_671 : decode cL_law 671 = .ok (.iadd, 1) := by decide +kernel
theorem dL_law_672 : decode cL_law 672 = .ok (.iaload, 1) := by decide +kernel
theorem dL_law_673 : decode cL_law 673 = .ok (.aload_n 0, 1) := by decide +kernel
theorem dL_law_674 : decode cL_law 674 = .ok (.iload_n 3, 1) := by decide +kernel
theorem dL_law_675 : decode cL_law 675 = .ok (.iconst 2, 1) := by decide +kernel
theorem dL_law_676 : decode cL_law 676 = .ok (.iadd, 1) := by decide +kernel
theorem dL_law_677 : decode cL_law 677 = .ok (.iaload, 1) := by decide +kernel
theorem dL_law_678 : decode cL_law 678 = .ok (.invokevirtual 94, 3) := by decide +kernel
theorem dL_law_681 : decode cL_law 681 = .ok (.aload_n 2, 1) := by decide +kernel
theorem dL_law_682 : decode cL_law 682 = .ok (.aload_n 0, 1) := by decide +kernel
theorem dL_law_683 : decode cL_law 683 = .ok (.iload_n 3, 1) := by decide +kernel
theorem dL_law_684 : decode cL_law 684 = .ok (.iconst 1, 1) := by decide +kernel
theorem dL_law_685 : decode cL_law 685 = .ok (.iadd, 1) := by decide +kernel
theorem dL_law_686 : decode cL_law 686 = .ok (.iaload, 1) := by decide +kernel
theorem dL_law_687 : decode cL_law 687 = .ok (.aload_n 0, 1) := by decide +kernel
theorem dL_law_688 : decode cL_law 688 = .ok (.iload_n 3, 1) := by decide +kernel
theorem dL_law_689 : decode cL_law 689 = .ok (.iconst 2, 1) := by decide +kernel
theorem dL_law_690 : decode cL_law 690 = .ok (.iadd, 1) := by decide +kernel
theorem dL_law_691 : decode cL_law 691 = .ok (.iaload, 1) := by decide +kernel
theorem dL_law_692 : decode cL_law 692 = .ok (.invokevirtual 97, 3) := by decide +kernel
theorem dL_law_695 : decode cL_law 695 = .ok (.if_icmp .eq 84, 3) := by decide +kernel
theorem dL_law_698 : decode cL_law 698 = .ok (.iconst 0, 1) := by decide +kernel
theorem dL_law_699 : decode cL_law 699 = .ok (.ireturn, 1) := by decide +kernel
theorem dL_law_700 : decode cL_law 700 = .ok (.aload_n 1, 1) := by decide +kernel
theorem dL_law_701 : decode cL_law 701 = .ok (.aload_n 0, 1) := by decide +kernel
theorem dL_law_702 : decode cL_law 702 = .ok (.iload_n 3, 1) := by decide +kernel
theorem dL_law_703 : decode cL_law 703 = .ok (.iconst 1, 1) := by decide +kernel
theorem dL_law_704 : decode cL_law 704 = .ok (.iadd, 1) := by decide +kernel
theorem dL_law_705 : decode cL_law 705 = .ok (.iaload, 1) := by decide +kernel
theorem dL_law_706 : decode cL_law 706 = .ok (.aload_n 0, 1) := by decide +kernel
theorem dL_law_707 : decode cL_law 707 = .ok (.iload_n 3, 1) := by decide +kernel
theorem dL_law_708 : decode cL_law 708 = .ok (.iconst 2, 1) := by decide +kernel
theorem dL_law_709 : decode cL_law 709 = .ok (.iadd, 1) := by decide +kernel
theorem dL_law_710 : decode cL_law 710 = .ok (.iaload, 1) := by decide +kernel
theorem dL_law_711 : decode cL_law 711 = .ok (.aload_n 0, 1) := by decide +kernel
theorem dL_law_712 : decode cL_law 712 = .ok (.iload_n 3, 1) := by decide +kernel
theorem dL_law_713 : decode cL_law 713 = .ok (.iconst 3, 1) := by decide +kernel
theorem dL_law_714 : decode cL_law 714 = .ok (.iadd, 1) := by decide +kernel
theorem dL_law_715 : decode cL_law 715 = .ok (.iaload, 1) := by decide +kernel
theorem dL_law_716 : decode cL_law 716 = .ok (.invokevirtual 98, 3) := by decide +kernel
theorem dL_law_719 : decode cL_law 719 = .ok (.aload_n 2, 1) := by decide +kernel
theorem dL_law_720 : decode cL_law 720 = .ok (.aload_n 0, 1) := by decide +kernel
theorem dL_law_721 : decode cL_law 721 = .ok (.iload_n 3, 1) := by decide +kernel
theorem dL_law_722 : decode cL_law 722 = .ok (.iconst 1, 1) := by decide +kernel
theorem dL_law_723 : decode cL_law 723 = .ok (.iadd, 1) := by decide +kernel
theorem dL_law_724 : decode cL_law 724 = .ok (.iaload, 1) := by decide +kernel
theorem dL_law_725 : decode cL_law 725 = .ok (.aload_n 0, 1) := by decide +kernel
theorem dL_law_726 : decode cL_law 726 = .ok (.iload_n 3, 1) := by decide +kernel
theorem dL_law_727 : decode cL_law 727 = .ok (.iconst 2, 1) := by decide +kernel
theorem dL_law_728 : decode cL_law 728 = .ok (.iadd, 1) := by decide +kernel
theorem dL_law_729 : decode cL_law 729 = .ok (.iaload, 1) := by decide +kernel
theorem dL_law_730 : decode cL_law 730 = .ok (.aload_n 0, 1) := by decide +kernel
theorem dL_law_731 : decode cL_law 731 = .ok (.iload_n 3, 1) := by decide +kernel
theorem dL_law_732 : decode cL_law 732 = .ok (.iconst 3, 1) := by decide +kernel
theorem dL_law_733 : decode cL_law 733 = .ok (.iadd, 1) := by decide +kernel
theorem dL_law_734 : decode cL_law 734 = .ok (.iaload, 1) := by decide +kernel
theorem dL_law_735 : decode cL_law 735 = .ok (.invokevirtual 101, 3) := by decide +kernel
theorem dL_law_738 : decode cL_law 738 = .ok (.if_icmp .eq 41, 3) := by decide +kernel
theorem dL_law_741 : decode cL_law 741 = .ok (.iconst 0, 1) := by decide +kernel
theorem dL_law_742 : decode cL_law 742 = .ok (.ireturn, 1) := by decide +kernel
theorem dL_law_743 : decode cL_law 743 = .ok (.aload_n 1, 1) := by decide +kernel
theorem dL_law_744 : decode cL_law 744 = .ok (.aload_n 0, 1) := by decide +kernel
theorem dL_law_745 : decode cL_law 745 = .ok (.iload_n 3, 1) := by decide +kernel
theorem dL_law_746 : decode cL_law 746 = .ok (.iconst 1, 1) := by decide +kernel
theorem dL_law_747 : decode cL_law 747 = .ok (.iadd, 1) := by decide +kernel
theorem dL_law_748 : decode cL_law 748 = .ok (.iaload, 1) := by decide +kernel
theorem dL_law_749 : decode cL_law 749 = .ok (.invokevirtual 102, 3) := by decide +kernel
theorem dL_law_752 : decode cL_law 752 = .ok (.aload_n 2, 1) := by decide +kernel
theorem dL_law_753 : decode cL_law 753 = .ok (.aload_n 0, 1) := by decide +kernel
theorem dL_law_754 : decode cL_law 754 = .ok (.iload_n 3, 1) := by decide +kernel
theorem dL_law_755 : decode cL_law 755 = .ok (.iconst 1, 1) := by decide +kernel
theorem dL_law_756 : decode cL_law 756 = .ok (.iadd, 1) := by decide +kernel
theorem dL_law_757 : decode cL_law 757 = .ok (.iaload, 1) := by decide +kernel
theorem dL_law_758 : decode cL_law 758 = .ok (.invokevirtual 105, 3) := by decide +kernel
theorem dL_law_761 : decode cL_law 761 = .ok (.if_icmp .eq 18, 3) := by decide +kernel
theorem dL_law_764 : decode cL_law 764 = .ok (.iconst 0, 1) := by decide +kernel
theorem dL_law_765 : decode cL_law 765 = .ok (.ireturn, 1) := by decide +kernel
theorem dL_law_766 : decode cL_law 766 = .ok (.aload_n 1, 1) := by decide +kernel
theorem dL_law_767 : decode cL_law 767 = .ok (.invokevirtual 106, 3) := by decide +kernel
theorem dL_law_770 : decode cL_law 770 = .ok (.aload_n 2, 1) := by decide +kernel
theorem dL_law_771 : decode cL_law 771 = .ok (.invokevirtual 109, 3) := by decide +kernel
theorem dL_law_774 : decode cL_law 774 = .ok (.if_icmp .eq 5, 3) := by decide +kernel
theorem dL_law_777 : decode cL_law 777 = .ok (.iconst 0, 1) := by decide +kernel
theorem dL_law_778 : decode cL_law 778 = .ok (.ireturn, 1) := by decide +kernel
theorem dL_law_779 : decode cL_law 779 = .ok (.iinc 3 5, 3) := by decide +kernel
theorem dL_law_782 : decode cL_law 782 = .ok (.goto (-764), 3) := by decide +kernel
theorem dL_law_785 : decode cL_law 785 = .ok (.iconst 1, 1) := by decide +kernel
theorem dL_law_786 : decode cL_law 786 = .ok (.ireturn, 1) := by decide +kernel
theorem dJ13_bitCount_95d88_0 : decode cJ13_bitCount_95d88 0 = .ok (.lload_n 0, 1) := by decide +kernel
theorem dJ13_bitCount_95d88_1 : decode cJ13_bitCount_95d88 1 = .ok (.lload_n 0, 1) := by decide +kernel
theorem dJ13_bitCount_95d88_2 : decode cJ13_bitCount_95d88 2 = .ok (.iconst 1, 1) := by decide +kernel
theorem dJ13_bitCount_95d88_3 : decode cJ13_bitCount_95d88 3 = .ok (.lushr, 1) := by decide +kernel
theorem dJ13_bitCount_95d88_4 : decode cJ13_bitCount_95d88 4 = .ok (.ldc2_w 314, 3) := by decide +kernel
theorem dJ13_bitCount_95d88_7 : decode cJ13_bitCount_95d88 7 = .ok (.land, 1) := by decide +kernel
theorem dJ13_bitCount_95d88_8 : decode cJ13_bitCount_95d88 8 = .ok (.lsub, 1) := by decide +kernel
theorem dJ13_bitCount_95d88_9 : decode cJ13_bitCount_95d88 9 = .ok (.lstore_n 0, 1) := by decide +kernel
theorem dJ13_bitCount_95d88_10 : decode cJ13_bitCount_95d88 10 = .ok (.lload_n 0, 1) := by decide +kernel
theorem dJ13_bitCount_95d88_11 : decode cJ13_bitCount_95d88 11 = .ok (.ldc2_w 316, 3) := by decide +kernel
theorem dJ13_bitCount_95d88_14 : decode cJ13_bitCount_95d88 14 = .ok (.land, 1) := by decide +kernel
theorem dJ13_bitCount_95d88_15 : decode cJ13_bitCount_95d88 15 = .ok (.lload_n 0, 1) := by decide +kernel
theorem dJ13_bitCount_95d88_16 : decode cJ13_bitCount_95d88 16 = .ok (.iconst 2, 1) := by decide +kernel
theorem dJ13_bitCount_95d88_17 : decode cJ13_bitCount_95d88 17 = .ok (.lushr, 1) := by decide +kernel
theorem dJ13_bitCount_95d88_18 : decode cJ13_bitCount_95d88 18 = .ok (.ldc2_w 316, 3) := by decide +kernel
theorem dJ13_bitCount_95d88_21 : decode cJ13_bitCount_95d88 21 = .ok (.land, 1) := by decide +kernel
theorem dJ13_bitCount_95d88_22 : decode cJ13_bitCount_95d88 22 = .ok (.ladd, 1) := by decide +kernel
theorem dJ13_bitCount_95d88_23 : decode cJ13_bitCount_95d88 23 = .ok (.lstore_n 0, 1) := by decide +kernel
theorem dJ13_bitCount_95d88_24 : decode cJ13_bitCount_95d88 24 = .ok (.lload_n 0, 1) := by decide +kernel
theorem dJ13_bitCount_95d88_25 : decode cJ13_bitCount_95d88 25 = .ok (.lload_n 0, 1) := by decide +kernel
theorem dJ13_bitCount_95d88_26 : decode cJ13_bitCount_95d88 26 = .ok (.iconst 4, 1) := by decide +kernel
theorem dJ13_bitCount_95d88_27 : decode cJ13_bitCount_95d88 27 = .ok (.lushr, 1) := by decide +kernel
theorem dJ13_bitCount_95d88_28 : decode cJ13_bitCount_95d88 28 = .ok (.ladd, 1) := by decide +kernel
theorem dJ13_bitCount_95d88_29 : decode cJ13_bitCount_95d88 29 = .ok (.ldc2_w 318, 3) := by decide +kernel
theorem dJ13_bitCount_95d88_32 : decode cJ13_bitCount_95d88 32 = .ok (.land, 1) := by decide +kernel
theorem dJ13_bitCount_95d88_33 : decode cJ13_bitCount_95d88 33 = .ok (.lstore_n 0, 1) := by decide +kernel
theorem dJ13_bitCount_95d88_34 : decode cJ13_bitCount_95d88 34 = .ok (.lload_n 0, 1) := by decide +kernel
theorem dJ13_bitCount_95d88_35 : decode cJ13_bitCount_95d88 35 = .ok (.lload_n 0, 1) := by decide +kernel
theorem dJ13_bitCount_95d88_36 : decode cJ13_bitCount_95d88 36 = .ok (.bipush 8, 2) := by decide +kernel
theorem dJ13_bitCount_95d88_38 : decode cJ13_bitCount_95d88 38 = .ok (.lushr, 1) := by decide +kernel
theorem dJ13_bitCount_95d88_39 : decode cJ13_bitCount_95d88 39 = .ok (.ladd, 1) := by decide +kernel
theorem dJ13_bitCount_95d88_40 : decode cJ13_bitCount_95d88 40 = .ok (.lstore_n 0, 1) := by decide +kernel
theorem dJ13_bitCount_95d88_41 : decode cJ13_bitCount_95d88 41 = .ok (.lload_n 0, 1) := by decide +kernel
theorem dJ13_bitCount_95d88_42 : decode cJ13_bitCount_95d88 42 = .ok (.lload_n 0, 1) := by decide +kernel
theorem dJ13_bitCount_95d88_43 : decode cJ13_bitCount_95d88 43 = .ok (.bipush 16, 2) := by decide +kernel
theorem dJ13_bitCount_95d88_45 : decode cJ13_bitCount_95d88 45 = .ok (.lushr, 1) := by decide +kernel
theorem dJ13_bitCount_95d88_46 : decode cJ13_bitCount_95d88 46 = .ok (.ladd, 1) := by decide +kernel
theorem dJ13_bitCount_95d88_47 : decode cJ13_bitCount_95d88 47 = .ok (.lstore_n 0, 1) := by decide +kernel
theorem dJ13_bitCount_95d88_48 : decode cJ13_bitCount_95d88 48 = .ok (.lload_n 0, 1) := by decide +kernel
theorem dJ13_bitCount_95d88_49 : decode cJ13_bitCount_95d88 49 = .ok (.lload_n 0, 1) := by decide +kernel
theorem dJ13_bitCount_95d88_50 : decode cJ13_bitCount_95d88 50 = .ok (.bipush 32, 2) := by decide +kernel
theorem dJ13_bitCount_95d88_52 : decode cJ13_bitCount_95d88 52 = .ok (.lushr, 1) := by decide +kernel
theorem dJ13_bitCount_95d88_53 : decode cJ13_bitCount_95d88 53 = .ok (.ladd, 1) := by decide +kernel
theorem dJ13_bitCount_95d88_54 : decode cJ13_bitCount_95d88 54 = .ok (.lstore_n 0, 1) := by decide +kernel
theorem dJ13_bitCount_95d88_55 : decode cJ13_bitCount_95d88 55 = .ok (.lload_n 0, 1) := by decide +kernel
theorem dJ13_bitCount_95d88_56 : decode cJ13_bitCount_95d88 56 = .ok (.l2i, 1) := by decide +kernel
theorem dJ13_bitCount_95d88_57 : decode cJ13_bitCount_95d88 57 = .ok (.bipush 127, 2) := by decide +kernel
theorem dJ13_bitCount_95d88_59 : decode cJ13_bitCount_95d88 59 = .ok (.iand, 1) := by decide +kernel
theorem dJ13_bitCount_95d88_60 : decode cJ13_bitCount_95d88 60 = .ok (.ireturn, 1) := by decide +kernel
theorem dJ9_max_7cf53_0 : decode cJ9_max_7cf53 0 = .ok (.iload_n 0, 1) := by decide +kernel
theorem dJ9_max_7cf53_1 : decode cJ9_max_7cf53 1 = .ok (.iload_n 1, 1) := by decide +kernel
theorem dJ9_max_7cf53_2 : decode cJ9_max_7cf53 2 = .ok (.if_icmp .lt 7, 3) := by decide +kernel
theorem dJ9_max_7cf53_5 : decode cJ9_max_7cf53 5 = .ok (.iload_n 0, 1) := by decide +kernel
theorem dJ9_max_7cf53_6 : decode cJ9_max_7cf53 6 = .ok (.goto 4, 3) := by decide +kernel
theorem dJ9_max_7cf53_9 : decode cJ9_max_7cf53 9 = .ok (.iload_n 1, 1) := by decide +kernel
theorem dJ9_max_7cf53_10 : decode cJ9_max_7cf53 10 = .ok (.ireturn, 1) := by decide +kernel
theorem dJ9_min_7cf53_0 : decode cJ9_min_7cf53 0 = .ok (.iload_n 0, 1) := by decide +kernel
theorem dJ9_min_7cf53_1 : decode cJ9_min_7cf53 1 = .ok (.iload_n 1, 1) := by decide +kernel
theorem dJ9_min_7cf53_2 : decode cJ9_min_7cf53 2 = .ok (.if_icmp .gt 7, 3) := by decide +kernel
theorem dJ9_min_7cf53_5 : decode cJ9_min_7cf53 5 = .ok (.iload_n 0, 1) := by decide +kernel
theorem dJ9_min_7cf53_6 : decode cJ9_min_7cf53 6 = .ok (.goto 4, 3) := by decide +kernel
theorem dJ9_min_7cf53_9 : decode cJ9_min_7cf53 9 = .ok (.iload_n 1, 1) := by decide +kernel
theorem dJ9_min_7cf53_10 : decode cJ9_min_7cf53 10 = .ok (.ireturn, 1) := by decide +kernel
