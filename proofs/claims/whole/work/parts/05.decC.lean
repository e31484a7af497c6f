theorem dX6_init_0 : decode cX6_init 0 = .ok (.aload_n 0, 1) := by decide +kernel
theorem dX6_init_1 : decode cX6_init 1 = .ok (.invokespecial 1, 3) := by decide +kernel
theorem dX6_init_4 : decode cX6_init 4 = .ok (.aload_n 0, 1) := by decide +kernel
theorem dX6_init_5 : decode cX6_init 5 = .ok (.bipush 56, 2) := by decide +kernel
theorem dX6_init_7 : decode cX6_init 7 = .ok (.newarray .int, 2) := by decide +kernel
theorem dX6_init_9 : decode cX6_init 9 = .ok (.putfield 7, 3) := by decide +kernel
theorem dX6_init_12 : decode cX6_init 12 = .ok (.aload_n 0, 1) := by decide +kernel
theorem dX6_init_13 : decode cX6_init 13 = .ok (.bipush 56, 2) := by decide +kernel
theorem dX6_init_15 : decode cX6_init 15 = .ok (.newarray .int, 2) := by decide +kernel
theorem dX6_init_17 : decode cX6_init 17 = .ok (.putfield 13, 3) := by decide +kernel
theorem dX6_init_20 : decode cX6_init 20 = .ok (.aload_n 0, 1) := by decide +kernel
theorem dX6_init_21 : decode cX6_init 21 = .ok (.bipush 56, 2) := by decide +kernel
theorem dX6_init_23 : decode cX6_init 23 = .ok (.newarray .int, 2) := by decide +kernel
theorem dX6_init_25 : decode cX6_init 25 = .ok (.putfield 16, 3) := by decide +kernel
theorem dX6_init_28 : decode cX6_init 28 = .ok (.aload_n 0, 1) := by decide +kernel
theorem dX6_init_29 : decode cX6_init 29 = .ok (.bipush 56, 2) := by decide +kernel
theorem dX6_init_31 : decode cX6_init 31 = .ok (.newarray .int, 2) := by decide +kernel
theorem dX6_init_33 : decode cX6_init 33 = .ok (.putfield 19, 3) := by decide +kernel
theorem dX6_init_36 : decode cX6_init 36 = .ok (.aload_n 0, 1) := by decide +kernel
theorem dX6_init_37 : decode cX6_init 37 = .ok (.sipush 200, 3) := by decide +kernel
theorem dX6_init_40 : decode cX6_init 40 = .ok (.newarray .int, 2) := by decide +kernel
theorem dX6_init_42 : decode cX6_init 42 = .ok (.putfield 22, 3) := by decide +kernel
theorem dX6_init_45 : decode cX6_init 45 = .ok (.aload_n 0, 1) := by decide +kernel
theorem dX6_init_46 : decode cX6_init 46 = .ok (.bipush 8, 2) := by decide +kernel
theorem dX6_init_48 : decode cX6_init 48 = .ok (.newarray .int, 2) := by decide +kernel
theorem dX6_init_50 : decode cX6_init 50 = .ok (.putfield 25, 3) := by decide +kernel
theorem dX6_init_53 : decode cX6_init 53 = .ok (.aload_n 0, 1) := by decide +kernel
theorem dX6_init_54 : decode cX6_init 54 = .ok (.bipush 61, 2) := by decide +kernel
theorem dX6_init_56 : decode cX6_init 56 = .ok (.newarray .int, 2) := by decide +kernel
theorem dX6_init_58 : decode cX6_init 58 = .ok (.putfield 28, 3) := by decide +kernel
theorem dX6_init_61 : decode cX6_init 61 = .ok (.aload_n 0, 1) := by decide +kernel
theorem dX6_init_62 : decode cX6_init 62 = .ok (.bipush 16, 2) := by decide +kernel
theorem dX6_init_64 : decode cX6_init 64 = .ok (.newarray .int, 2) := by decide +kernel
theorem dX6_init_66 : decode cX6_init 66 = .ok (.putfield 31, 3) := by decide +kernel
theorem dX6_init_69 : decode cX6_init 69 = .ok (.aload_n 0, 1) := by decide +kernel
theorem dX6_init_70 : decode cX6_init 70 = .ok (.sipush 256, 3) := by decide +kernel
theorem dX6_init_73 : decode cX6_init 73 = .ok (.newarray .int, 2) := by decide +kernel
theorem dX6_init_75 : decode cX6_init 75 = .ok (.putfield 34, 3) := by decide +kernel
theorem dX6_init_78 : decode cX6_init 78 = .ok (.aload_n 0, 1) := by decide +kernel
theorem dX6_init_79 : decode cX6_init 79 = .ok (.bipush 30, 2) := by decide +kernel
theorem dX6_init_81 : decode cX6_init 81 = .ok (.newarray .int, 2) := by decide +kernel
theorem dX6_init_83 : decode cX6_init 83 = .ok (.putfield 37, 3) := by decide +kernel
theorem dX6_init_86 : decode cX6_init 86 = .ok (.aload_n 0, 1) := by decide +kernel
theorem dX6_init_87 : decode cX6_init 87 = .ok (.iconst 4, 1) := by decide +kernel
theorem dX6_init_88 : decode cX6_init 88 = .ok (.newarray .int, 2) := by decide +kernel
theorem dX6_init_90 : decode cX6_init 90 = .ok (.dup, 1) := by decide +kernel
theorem dX6_init_91 : decode cX6_init 91 = .ok (.iconst 0, 1) := by decide +kernel
theorem dX6_init_92 : decode cX6_init 92 = .ok (.iconst (-1), 1) := by decide +kernel
theorem dX6_init_93 : decode cX6_init 93 = .ok (.iastore, 1) := by decide +kernel
theorem dX6_init_94 : decode cX6_init 94 = .ok (.dup, 1) := by decide +kernel
theorem dX6_init_95 : decode cX6_init 95 = .ok (.iconst 1, 1) := by decide +kernel
theorem dX6_init_96 : decode cX6_init 96 = .ok (.iconst (-1), 1) := by decide +kernel
theorem dX6_init_97 : decode cX6_init 97 = .ok (.iastore, 1) := by decide +kernel
theorem dX6_init_98 : decode cX6_init 98 = .ok (.dup, 1) := by decide +kernel
theorem dX6_init_99 : decode cX6_init 99 = .ok (.iconst 2, 1) := by decide +kernel
theorem dX6_init_100 : decode cX6_init 100 = .ok (.iconst (-1), 1) := by decide +kernel
theorem dX6_init_101 : decode cX6_init 101 = .ok (.iastore, 1) := by decide +kernel
theorem dX6_init_102 : decode cX6_init 102 = .ok (.dup, 1) := by decide +kernel
theorem dX6_init_103 : decode cX6_init 103 = .ok (.iconst 3, 1) := by decide +kernel
theorem dX6_init_104 : decode cX6_init 104 = .ok (.iconst (-1), 1) := by decide +kernel
theorem dX6_init_105 : decode cX6_init 105 = .ok (.iastore, 1) := by decide +kernel
theorem dX6_init_106 : decode cX6_init 106 = .ok (.putfield 40, 3) := by decide +kernel
theorem dX6_init_109 : decode cX6_init 109 = .ok (.aload_n 0, 1) := by decide +kernel
theorem dX6_init_110 : decode cX6_init 110 = .ok (.iconst 4, 1) := by decide +kernel
theorem dX6_init_111 : decode cX6_init 111 = .ok (.newarray .int, 2) := by decide +kernel
theorem dX6_init_113 : decode cX6_init 113 = .ok (.putfield 43, 3) := by decide +kernel
theorem dX6_init_116 : decode cX6_init 116 = .ok (.aload_n 0, 1) := by decide +kernel
theorem dX6_init_117 : decode cX6_init 117 = .ok (.sipush 160, 3) := by decide +kernel
theorem dX6_init_120 : decode cX6_init 120 = .ok (.newarray .int, 2) := by decide +kernel
theorem dX6_init_122 : decode cX6_init 122 = .ok (.putfield 46, 3) := by decide +kernel
theorem dX6_init_125 : decode cX6_init 125 = .ok (.aload_n 0, 1) := by decide +kernel
theorem dX6_init_126 : decode cX6_init 126 = .ok (.iconst 4, 1) := by decide +kernel
theorem dX6_init_127 : decode cX6_init 127 = .ok (.newarray .int, 2) := by decide +kernel
theorem dX6_init_129 : decode cX6_init 129 = .ok (.putfield 49, 3) := by decide +kernel
theorem dX6_init_132 : decode cX6_init 132 = .ok (.aload_n 0, 1) := by decide +kernel
theorem dX6_init_133 : decode cX6_init 133 = .ok (.iconst 4, 1) := by decide +kernel
theorem dX6_init_134 : decode cX6_init 134 = .ok (.newarray .int, 2) := by decide +kernel
theorem dX6_init_136 : decode cX6_init 136 = .ok (.putfield 52, 3) := by decide +kernel
theorem dX6_init_139 : decode cX6_init 139 = .ok (.aload_n 0, 1) := by decide +kernel
theorem dX6_init_140 : decode cX6_init 140 = .ok (.iconst 4, 1) := by decide +kernel
theorem dX6_init_141 : decode cX6_init 141 = .ok (.newarray .int, 2) := by decide +kernel
theorem dX6_init_143 : decode cX6_init 143 = .ok (.putfield 55, 3) := by decide +kernel
theorem dX6_init_146 : decode cX6_init 146 = .ok (.aload_n 0, 1) := by decide +kernel
theorem dX6_init_147 : decode cX6_init 147 = .ok (.bipush 30, 2) := by decide +kernel
theorem dX6_init_149 : decode cX6_init 149 = .ok (.newarray .int, 2) := by decide +kernel
theorem dX6_init_151 : decode cX6_init 151 = .ok (.putfield 58, 3) := by decide +kernel
theorem dX6_init_154 : decode cX6_init 154 = .ok (.aload_n 0, 1) := by decide +kernel
theorem dX6_init_155 : decode cX6_init 155 = .ok (.invokevirtual 61, 3) := by decide +kernel
theorem dX6_init_158 : decode cX6_init 158 = .ok (.aload_n 0, 1) := by decide +kernel
theorem dX6_init_159 : decode cX6_init 159 = .ok (.getfield 7, 3) := by decide +kernel
theorem dX6_init_162 : decode cX6_init 162 = .ok (.iconst 2, 1) := by decide +kernel
theorem dX6_init_163 : decode cX6_init 163 = .ok (.iconst 1, 1) := by decide +kernel
theorem dX6_init_164 : decode cX6_init 164 = .ok (.iastore, 1) := by decide +kernel
theorem dX6_init_165 : decode cX6_init 165 = .ok (.return_, 1) := by decide +kernel
theorem dX6_begins_0 : decode cX6_begins 0 = .ok (.aload_n 0, 1) := by decide +kernel
theorem dX6_begins_1 : decode cX6_begins 1 = .ok (.getfield 7, 3) := by decide +kernel
theorem dX6_begins_4 : decode cX6_begins 4 = .ok (.iconst 2, 1) := by decide +kernel
theorem dX6_begins_5 : decode cX6_begins 5 = .ok (.iaload, 1) := by decide +kernel
theorem dX6_begins_6 : decode cX6_begins 6 = .ok (.istore_n 1, 1) := by decide +kernel
theorem dX6_begins_7 : decode cX6_begins 7 = .ok (.iconst 0, 1) := by decide +kernel
theorem dX6_begins_8 : decode cX6_begins 8 = .ok (.istore_n 2, 1) := by decide +kernel
theorem dX6_begins_9 : decode cX6_begins 9 = .ok (.iload_n 2, 1) := by decide +kernel
theorem dX6_begins_10 : decode cX6_begins 10 = .ok (.bipush 56, 2) := by decide +kernel
theorem dX6_begins_12 : decode cX6_begins 12 = .ok (.if_icmp .ge 16, 3) := by decide +kernel
theorem dX6_begins_15 : decode cX6_begins 15 = .ok (.aload_n 0, 1) := by decide +kernel
theorem dX6_begins_16 : decode cX6_begins 16 = .ok (.getfield 7, 3) := by decide +kernel
theorem dX6_begins_19 : decode cX6_begins 19 = .ok (.iload_n 2, 1) := by decide +kernel
theorem dX6_begins_20 : decode cX6_begins 20 = .ok (.iconst 0, 1) := by decide +kernel
theorem dX6_begins_21 : decode cX6_begins 21 = .ok (.iastore, 1) := by decide +kernel
theorem dX6_begins_22 : decode cX6_begins 22 = .ok (.iinc 2 1, 3) := by decide +kernel
theorem dX6_begins_25 : decode cX6_begins 25 = .ok (.goto (-16), 3) := by decide +kernel
theorem dX6_begins_28 : decode cX6_begins 28 = .ok (.aload_n 0, 1) := by decide +kernel
theorem dX6_begins_29 : decode cX6_begins 29 = .ok (.getfield 7, 3) := by decide +kernel
theorem dX6_begins_32 : decode cX6_begins 32 = .ok (.iconst 2, 1) := by decide +kernel
theorem dX6_begins_33 : decode cX6_begins 33 = .ok (.iload_n 1, 1) := by decide +kernel
theorem dX6_begins_34 : decode cX6_begins 34 = .ok (.iastore, 1) := by decide +kernel
theorem dX6_begins_35 : decode cX6_begins 35 = .ok (.aload_n 0, 1) := by decide +kernel
theorem dX6_begins_36 : decode cX6_begins 36 = .ok (.getfield 7, 3) := by decide +kernel
theorem dX6_begins_39 : decode cX6_begins 39 = .ok (.iconst 4, 1) := by decide +kernel
theorem dX6_begins_40 : decode cX6_begins 40 = .ok (.iconst 3, 1) := by decide +kernel
theorem dX6_begins_41 : decode cX6_begins 41 = .ok (.iastore, 1) := by decide +kernel
theorem dX6_begins_42 : decode cX6_begins 42 = .ok (.aload_n 0, 1) := by decide +kernel
theorem dX6_begins_43 : decode cX6_begins 43 = .ok (.getfield 7, 3) := by decide +kernel
theorem dX6_begins_46 : decode cX6_begins 46 = .ok (.iconst 5, 1) := by decide +kernel
theorem dX6_begins_47 : decode cX6_begins 47 = .ok (.bipush 6, 2) := by decide +kernel
theorem dX6_begins_49 : decode cX6_begins 49 = .ok (.iastore, 1) := by decide +kernel
theorem dX6_begins_50 : decode cX6_begins 50 = .ok (.aload_n 0, 1) := by decide +kernel
theorem dX6_begins_51 : decode cX6_begins 51 = .ok (.getfield 7, 3) := by decide +kernel
theorem dX6_begins_54 : decode cX6_begins 54 = .ok (.bipush 6, 2) := by decide +kernel
theorem dX6_begins_56 : decode cX6_begins 56 = .ok (.iconst 2, 1) := by decide +kernel
theorem dX6_begins_57 : decode cX6_begins 57 = .ok (.iastore, 1) := by decide +kernel
theorem dX6_begins_58 : decode cX6_begins 58 = .ok (.aload_n 0, 1) := by decide +kernel
theorem dX6_begins_59 : decode cX6_begins 59 = .ok (.getfield 7, 3) := by decide +kernel
theorem dX6_begins_62 : decode cX6_begins 62 = .ok (.bipush 7, 2) := by decide +kernel
theorem dX6_begins_64 : decode cX6_begins 64 = .ok (.bipush 20, 2) := by decide +kernel
theorem dX6_begins_66 : decode cX6_begins 66 = .ok (.iastore, 1) := by decide +kernel
theorem dX6_begins_67 : decode cX6_begins 67 = .ok (.return_, 1) := by decide +kernel
theorem dX6_isIn_0 : decode cX6_isIn 0 = .ok (.lload_n 0, 1) := by decide +kernel
theorem dX6_isIn_1 : decode cX6_isIn 1 = .ok (.lload_n 2, 1) := by decide +kernel
theorem dX6_isIn_2 : decode cX6_isIn 2 = .ok (.lcmp, 1) := by decide +kernel
theorem dX6_isIn_3 : decode cX6_isIn 3 = .ok (.ifCond .lt 14, 3) := by decide +kernel
theorem dX6_isIn_6 : decode cX6_isIn 6 = .ok (.lload_n 0, 1) := by decide +kernel
theorem dX6_isIn_7 : decode cX6_isIn 7 = .ok (.lload 4, 2) := by decide +kernel
theorem dX6_isIn_9 : decode cX6_isIn 9 = .ok (.lcmp, 1) := by decide +kernel
theorem dX6_isIn_10 : decode cX6_isIn 10 = .ok (.ifCond .gt 7, 3) := by decide +kernel
theorem dX6_isIn_13 : decode cX6_isIn 13 = .ok (.iconst 1, 1) := by decide +kernel
theorem dX6_isIn_14 : decode cX6_isIn 14 = .ok (.goto 4, 3) := by decide +kernel
theorem dX6_isIn_17 : decode cX6_isIn 17 = .ok (.iconst 0, 1) := by decide +kernel
theorem dX6_isIn_18 : decode cX6_isIn 18 = .ok (.ireturn, 1) := by decide +kernel
theorem dX6_isHouse_0 : decode cX6_isHouse 0 = .ok (.iload_n 0, 1) := by decide +kernel
theorem dX6_isHouse_1 : decode cX6_isHouse 1 = .ok (.ifCond .lt 13, 3) := by decide +kernel
theorem dX6_isHouse_4 : decode cX6_isHouse 4 = .ok (.iload_n 0, 1) := by decide +kernel
theorem dX6_isHouse_5 : decode cX6_isHouse 5 = .ok (.bipush 16, 2) := by decide +kernel
theorem dX6_isHouse_7 : decode cX6_isHouse 7 = .ok (.if_icmp .ge 7, 3) := by decide +kernel
theorem dX6_isHouse_10 : decode cX6_isHouse 10 = .ok (.iconst 1, 1) := by decide +kernel
theorem dX6_isHouse_11 : decode cX6_isHouse 11 = .ok (.goto 4, 3) := by decide +kernel
theorem dX6_isHouse_14 : decode cX6_isHouse 14 = .ok (.iconst 0, 1) := by decide +kernel
theorem dX6_isHouse_15 : decode cX6_isHouse 15 = .ok (.ireturn, 1) := by decide +kernel
theorem dX6_isOne_0 : decode cX6_isOne 0 = .ok (.iload_n 1, 1) := by decide +kernel
theorem dX6_isOne_1 : decode cX6_isOne 1 = .ok (.ifCond .lt 17, 3) := by decide +kernel
theorem dX6_isOne_4 : decode cX6_isOne 4 = .ok (.iload_n 1, 1) := by decide +kernel
theorem dX6_isOne_5 : decode cX6_isOne 5 = .ok (.aload_n 0, 1) := by decide +kernel
theorem dX6_isOne_6 : decode cX6_isOne 6 = .ok (.getfield 7, 3) := by decide +kernel
theorem dX6_isOne_9 : decode cX6_isOne 9 = .ok (.iconst 0, 1) := by decide +kernel
theorem dX6_isOne_10 : decode cX6_isOne 10 = .ok (.iaload, 1) := by decide +kernel
theorem dX6_isOne_11 : decode cX6_isOne 11 = .ok (.if_icmp .ge 7, 3) := by decide +kernel
theorem dX6_isOne_14 : decode cX6_isOne 14 = .ok (.iconst 1, 1) := by decide +kernel
theorem dX6_isOne_15 : decode cX6_isOne 15 = .ok (.goto 4, 3) := by decide +kernel
theorem dX6_isOne_18 : decode cX6_isOne 18 = .ok (.iconst 0, 1) := by decide +kernel
theorem dX6_isOne_19 : decode cX6_isOne 19 = .ok (.ireturn, 1) := by decide +kernel
theorem dX6_its_0 : decode cX6_its 0 = .ok (.aload_n 0, 1) := by decide +kernel
theorem dX6_its_1 : decode cX6_its 1 = .ok (.getfield 7, 3) := by decide +kernel
theorem dX6_its_4 : decode cX6_its 4 = .ok (.bipush 24, 2) := by decide +kernel
theorem dX6_its_6 : decode cX6_its 6 = .ok (.iconst 4, 1) := by decide +kernel
theorem dX6_its_7 : decode cX6_its 7 = .ok (.iload_n 1, 1) := by decide +kernel
theorem dX6_its_8 : decode cX6_its 8 = .ok (.imul, 1) := by decide +kernel
theorem dX6_its_9 : decode cX6_its 9 = .ok (.iadd, 1) := by decide +kernel
theorem dX6_its_10 : decode cX6_its 10 = .ok (.iload_n 2, 1) := by decide +kernel
theorem dX6_its_11 : decode cX6_its 11 = .ok (.iadd, 1) := by decide +kernel
theorem dX6_its_12 : decode cX6_its 12 = .ok (.iaload, 1) := by decide +kernel
theorem dX6_its_13 : decode cX6_its 13 = .ok (.ireturn, 1) := by decide +kernel
theorem dX6_becomes_0 : decode cX6_becomes 0 = .ok (.aload_n 0, 1) := by decide +kernel
theorem dX6_becomes_1 : decode cX6_becomes 1 = .ok (.getfield 7, 3) := by decide +kernel
theorem dX6_becomes_4 : decode cX6_becomes 4 = .ok (.iload_n 1, 1) := by decide +kernel
theorem dX6_becomes_5 : decode cX6_becomes 5 = .ok (.iaload, 1) := by decide +kernel
theorem dX6_becomes_6 : decode cX6_becomes 6 = .ok (.istore_n 3, 1) := by decide +kernel
theorem dX6_becomes_7 : decode cX6_becomes 7 = .ok (.aload_n 0, 1) := by decide +kernel
theorem dX6_becomes_8 : decode cX6_becomes 8 = .ok (.getfield 7, 3) := by decide +kernel
theorem dX6_becomes_11 : decode cX6_becomes 11 = .ok (.iload_n 1, 1) := by decide +kernel
theorem dX6_becomes_12 : decode cX6_becomes 12 = .ok (.iload_n 2, 1) := by decide +kernel
theorem dX6_becomes_13 : decode cX6_becomes 13 = .ok (.iastore, 1) := by decide +kernel
theorem dX6_becomes_14 : decode cX6_becomes 14 = .ok (.iload_n 3, 1) := by decide +kernel
theorem dX6_becomes_15 : decode cX6_becomes 15 = .ok (.ireturn, 1) := by decide +kernel
theorem dX6_copyRow_0 : decode cX6_copyRow 0 = .ok (.iconst 0, 1) := by decide +kernel
theorem dX6_copyRow_1 : decode cX6_copyRow 1 = .ok (.istore_n 2, 1) := by decide +kernel
theorem dX6_copyRow_2 : decode cX6_copyRow 2 = .ok (.iload_n 2, 1) := by decide +kernel
theorem dX6_copyRow_3 : decode cX6_copyRow 3 = .ok (.bipush 56, 2) := by decide +kernel
theorem dX6_copyRow_5 : decode cX6_copyRow 5 = .ok (.if_icmp .ge 15, 3) := by decide +kernel
theorem dX6_copyRow_8 : decode cX6_copyRow 8 = .ok (.aload_n 1, 1) := by decide +kernel
theorem dX6_copyRow_9 : decode cX6_copyRow 9 = .ok (.iload_n 2, 1) := by decide +kernel
theorem dX6_copyRow_10 : decode cX6_copyRow 10 = .ok (.aload_n 0, 1) := by decide +kernel
theorem dX6_copyRow_11 : decode cX6_copyRow 11 = .ok (.iload_n 2, 1) := by decide +kernel
theorem dX6_copyRow_12 : decode cX6_copyRow 12 = .ok (.iaload, 1) := by decide +kernel
theorem dX6_copyRow_13 : decode cX6_copyRow 13 = .ok (.iastore, 1) := by decide +kernel
theorem dX6_copyRow_14 : decode cX6_copyRow 14 = .ok (.iinc 2 1, 3) := by decide +kernel
theorem dX6_copyRow_17 : decode cX6_copyRow 17 = .ok (.goto (-15), 3) := by decide +kernel
theorem dX6_copyRow_20 : decode cX6_copyRow 20 = .ok (.return_, 1) := by decide +kernel
theorem dX6_least_0 : decode cX6_least 0 = .ok (.iload_n 0, 1) := by decide +kernel
theorem dX6_least_1 : decode cX6_least 1 = .ok (.iload_n 1, 1) := by decide +kernel
theorem dX6_least_2 : decode cX6_least 2 = .ok (.if_icmp .ge 7, 3) := by decide +kernel
theorem dX6_least_5 : decode cX6_least 5 = .ok (.iload_n 0, 1) := by decide +kernel
theorem dX6_least_6 : decode cX6_least 6 = .ok (.goto 4, 3) := by decide +kernel
theorem dX6_least_9 : decode cX6_least 9 = .ok (.iload_n 1, 1) := by decide +kernel
theorem dX6_least_10 : decode cX6_least 10 = .ok (.ireturn, 1) := by decide +kernel
theorem dX6_apart_0 : decode cX6_apart 0 = .ok (.iload_n 0, 1) := by decide +kernel
theorem dX6_apart_1 : decode cX6_apart 1 = .ok (.iload_n 1, 1) := by decide +kernel
theorem dX6_apart_2 : decode cX6_apart 2 = .ok (.if_icmp .ge 9, 3) := by decide +kernel
theorem dX6_apart_5 : decode cX6_apart 5 = .ok (.iload_n 1, 1) := by decide +kernel
theorem dX6_apart_6 : decode cX6_apart 6 = .ok (.iload_n 0, 1) := by decide +kernel
theorem dX6_apart_7 : decode cX6_apart 7 = .ok (.isub, 1) := by decide +kernel
theorem dX6_apart_8 : decode cX6_apart 8 = .ok (.goto 6, 3) := by decide +kernel
theorem dX6_apart_11 : decode cX6_apart 11 = .ok (.iload_n 0, 1) := by decide +kernel
theorem dX6_apart_12 : decode cX6_apart 12 = .ok (.iload_n 1, 1) := by decide +kernel
theorem dX6_apart_13 : decode cX6_apart 13 = .ok (.isub, 1) := by decide +kernel
theorem dX6_apart_14 : decode cX6_apart 14 = .ok (.ireturn, 1) := by decide +kernel
theorem dX6_bounded_0 : decode cX6_bounded 0 = .ok (.iload_n 0, 1) := by decide +kernel
theorem dX6_bounded_1 : decode cX6_bounded 1 = .ok (.ifCond .ge 7, 3) := by decide +kernel
theorem dX6_bounded_4 : decode cX6_bounded 4 = .ok (.iconst 0, 1) := by decide +kernel
theorem dX6_bounded_5 : decode cX6_bounded 5 = .ok (.goto 13, 3) := by decide +kernel
theorem dX6_bounded_8 : decode cX6_bounded 8 = .ok (.iload_n 0, 1) := by decide +kernel
theorem dX6_bounded_9 : decode cX6_bounded 9 = .ok (.iload_n 1, 1) := by decide +kernel
theorem dX6_bounded_10 : decode cX6_bounded 10 = .ok (.if_icmp .le 7, 3) := by decide +kernel
theorem dX6_bounded_13 : decode cX6_bounded 13 = .ok (.iload_n 1, 1) := by decide +kernel
theorem dX6_bounded_14 : decode cX6_bounded 14 = .ok (.goto 4, 3) := by decide +kernel
theorem dX6_bounded_17 : decode cX6_bounded 17 = .ok (.iload_n 0, 1) := by decide +kernel
theorem dX6_bounded_18 : decode cX6_bounded 18 = .ok (.ireturn, 1) := by decide +kernel
theorem dX6_within_0 : decode cX6_within 0 = .ok (.iload_n 0, 1) := by decide +kernel
theorem dX6_within_1 : decode cX6_within 1 = .ok (.bipush 9, 2) := by decide +kernel
theorem dX6_within_3 : decode cX6_within 3 = .ok (.invokestatic 64, 3) := by decide +kernel
theorem dX6_within_6 : decode cX6_within 6 = .ok (.ireturn, 1) := by decide +kernel
theorem dX6_size_0 : decode cX6_size 0 = .ok (.iconst 0, 1) := by decide +kernel
theorem dX6_size_1 : decode cX6_size 1 = .ok (.istore_n 1, 1) := by decide +kernel
theorem dX6_size_2 : decode cX6_size 2 = .ok (.iload_n 0, 1) := by decide +kernel
theorem dX6_size_3 : decode cX6_size 3 = .ok (.istore_n 2, 1) := by decide +kernel
theorem dX6_size_4 : decode cX6_size 4 = .ok (.iload_n 2, 1) := by decide +kernel
theorem dX6_size_5 : decode cX6_size 5 = .ok (.ifCond .eq 15, 3) := by decide +kernel
theorem dX6_size_8 : decode cX6_size 8 = .ok (.iinc 1 1, 3) := by decide +kernel
theorem dX6_size_11 : decode cX6_size 11 = .ok (.iload_n 2, 1) := by decide +kernel
theorem dX6_size_12 : decode cX6_size 12 = .ok (.iload_n 2, 1) := by decide +kernel
theorem dX6_size_13 : decode cX6_size 13 = .ok (.iconst 1, 1) := by decide +kernel
theorem dX6_size_14 : decode cX6_size 14 = .ok (.isub, 1) := by decide +kernel
theorem dX6_size_15 : decode cX6_size 15 = .ok (.iand, 1) := by decide +kernel
theorem dX6_size_16 : decode cX6_size 16 = .ok (.istore_n 2, 1) := by decide +kernel
theorem dX6_size_17 : decode cX6_size 17 = .ok (.goto (-13), 3) := by decide +kernel
theorem dX6_size_20 : decode cX6_size 20 = .ok (.iload_n 1, 1) := by decide +kernel
theorem dX6_size_21 : decode cX6_size 21 = .ok (.ireturn, 1) := by decide +kernel
theorem dX6_isUnder_0 : decode cX6_isUnder 0 = .ok (.iload_n 1, 1) := by decide +kernel
theorem dX6_isUnder_1 : decode cX6_isUnder 1 = .ok (.ifCond .eq 28, 3) := by decide +kernel
theorem dX6_isUnder_4 : decode cX6_isUnder 4 = .ok (.iload_n 0, 1) := by decide +kernel
theorem dX6_isUnder_5 : decode cX6_isUnder 5 = .ok (.iload_n 1, 1) := by decide +kernel
theorem dX6_isUnder_6 : decode cX6_isUnder 6 = .ok (.if_icmp .eq 23, 3) := by decide +kernel
theorem dX6_isUnder_9 : decode cX6_isUnder 9 = .ok (.iload_n 1, 1) := by decide +kernel
theorem dX6_isUnder_10 : decode cX6_isUnder 10 = .ok (.iconst 1, 1) := by decide +kernel
theorem dX6_isUnder_11 : decode cX6_isUnder 11 = .ok (.if_icmp .ne 8, 3) := by decide +kernel
theorem dX6_isUnder_14 : decode cX6_isUnder 14 = .ok (.iload_n 0, 1) := by decide +kernel
theorem dX6_isUnder_15 : decode cX6_isUnder 15 = .ok (.iconst 3, 1) := by decide +kernel
theorem dX6_isUnder_16 : decode cX6_isUnder 16 = .ok (.if_icmp .eq 13, 3) := by decide +kernel
theorem dX6_isUnder_19 : decode cX6_isUnder 19 = .ok (.iload_n 1, 1) := by decide +kernel
theorem dX6_isUnder_20 : decode cX6_isUnder 20 = .ok (.iconst 2, 1) := by decide +kernel
theorem dX6_isUnder_21 : decode cX6_isUnder 21 = .ok (.if_icmp .ne 12, 3) := by decide +kernel
theorem dX6_isUnder_24 : decode cX6_isUnder 24 = .ok (.iload_n 0, 1) := by decide +kernel
theorem dX6_isUnder_25 : decode cX6_isUnder 25 = .ok (.iconst 4, 1) := by decide +kernel
theorem dX6_isUnder_26 : decode cX6_isUnder 26 = .ok (.if_icmp .ne 7, 3) := by decide +kernel
theorem dX6_isUnder_29 : decode cX6_isUnder 29 = .ok (.iconst 1, 1) := by decide +kernel
theorem dX6_isUnder_30 : decode cX6_isUnder 30 = .ok (.goto 4, 3) := by decide +kernel
theorem dX6_isUnder_33 : decode cX6_isUnder 33 = .ok (.iconst 0, 1) := by decide +kernel
theorem dX6_isUnder_34 : decode cX6_isUnder 34 = .ok (.ireturn, 1) := by decide +kernel
theorem dX6_feed_0 : decode cX6_feed 0 = .ok (.iload_n 3, 1) := by decide +kernel
theorem dX6_feed_1 : decode cX6_feed 1 = .ok (.i2l, 1) := by decide +kernel
theorem dX6_feed_2 : decode cX6_feed 2 = .ok (.lconst 1, 1) := by decide +kernel
theorem dX6_feed_3 : decode cX6_feed 3 = .ok (.ldc2_w 68, 3) := by decide +kernel
theorem dX6_feed_6 : decode cX6_feed 6 = .ok (.invokestatic 70, 3) := by decide +kernel
theorem dX6_feed_9 : decode cX6_feed 9 = .ok (.ifCond .ne 5, 3) := by decide +kernel
theorem dX6_feed_12 : decode cX6_feed 12 = .ok (.iconst (-1), 1) := by decide +kernel
theorem dX6_feed_13 : decode cX6_feed 13 = .ok (.ireturn, 1) := by decide +kernel
theorem dX6_feed_14 : decode cX6_feed 14 = .ok (.aload_n 0, 1) := by decide +kernel
theorem dX6_feed_15 : decode cX6_feed 15 = .ok (.getfield 74, 3) := by decide +kernel
theorem dX6_feed_18 : decode cX6_feed 18 = .ok (.iload_n 3, 1) := by decide +kernel
theorem dX6_feed_19 : decode cX6_feed 19 = .ok (.iadd, 1) := by decide +kernel
theorem dX6_feed_20 : decode cX6_feed 20 = .ok (.sipush 200, 3) := by decide +kernel
theorem dX6_feed_23 : decode cX6_feed 23 = .ok (.if_icmp .le 6, 3) := by decide +kernel
theorem dX6_feed_26 : decode cX6_feed 26 = .ok (.bipush (-2), 2) := by decide +kernel
theorem dX6_feed_28 : decode cX6_feed 28 = .ok (.ireturn, 1) := by decide +kernel
theorem dX6_feed_29 : decode cX6_feed 29 = .ok (.iconst 0, 1) := by decide +kernel
theorem dX6_feed_30 : decode cX6_feed 30 = .ok (.istore 4, 2) := by decide +kernel
theorem dX6_feed_32 : decode cX6_feed 32 = .ok (.iload 4, 2) := by decide +kernel
theorem dX6_feed_34 : decode cX6_feed 34 = .ok (.iload_n 3, 1) := by decide +kernel
theorem dX6_feed_35 : decode cX6_feed 35 = .ok (.if_icmp .ge 40, 3) := by decide +kernel
theorem dX6_feed_38 : decode cX6_feed 38 = .ok (.aload_n 0, 1) := by decide +kernel
theorem dX6_feed_39 : decode cX6_feed 39 = .ok (.getfield 22, 3) := by decide +kernel
theorem dX6_feed_42 : decode cX6_feed 42 = .ok (.aload_n 0, 1) := by decide +kernel
theorem dX6_feed_43 : decode cX6_feed 43 = .ok (.getfield 74, 3) := by decide +kernel
theorem dX6_feed_46 : decode cX6_feed 46 = .ok (.lload_n 1, 1) := by decide +kernel
theorem dX6_feed_47 : decode cX6_feed 47 = .ok (.bipush 8, 2) := by decide +kernel
theorem dX6_feed_49 : decode cX6_feed 49 = .ok (.iload 4, 2) := by decide +kernel
theorem dX6_feed_51 : decode cX6_feed 51 = .ok (.imul, 1) := by decide +kernel
theorem dX6_feed_52 : decode cX6_feed 52 = .ok (.lshr, 1) := by decide +kernel
theorem dX6_feed_53 : decode cX6_feed 53 = .ok (.ldc2_w 78, 3) := by decide +kernel
theorem dX6_feed_56 : decode cX6_feed 56 = .ok (.land, 1) := by decide +kernel
theorem dX6_feed_57 : decode cX6_feed 57 = .ok (.l2i, 1) := by decide +kernel
theorem dX6_feed_58 : decode cX6_feed 58 = .ok (.iastore, 1) := by decide +kernel
theorem dX6_feed_59 : decode cX6_feed 59 = .ok (.aload_n 0, 1) := by decide +kernel
theorem dX6_feed_60 : decode cX6_feed 60 = .ok (.dup, 1) := by decide +kernel
theorem dX6_feed_61 : decode cX6_feed 61 = .ok (.getfield 74, 3) := by decide +kernel
theorem dX6_feed_64 : decode cX6_feed 64 = .ok (.iconst 1, 1) := by decide +kernel
theorem dX6_feed_65 : decode cX6_feed 65 = .ok (.iadd, 1) := by decide +kernel
theorem dX6_feed_66 : decode cX6_feed 66 = .ok (.putfield 74, 3) := by decide +kernel
theorem dX6_feed_69 : decode cX6_feed 69 = .ok (.iinc 4 1, 3) := by decide +kernel
theorem dX6_feed_72 : decode cX6_feed 72 = .ok (.goto (-40), 3) := by decide +kernel
theorem dX6_feed_75 : decode cX6_feed 75 = .ok (.aload_n 0, 1) := by decide +kernel
theorem dX6_feed_76 : decode cX6_feed 76 = .ok (.getfield 74, 3) := by decide +kernel
theorem dX6_feed_79 : decode cX6_feed 79 = .ok (.ireturn, 1) := by decide +kernel
theorem dX6_isAlpha_0 : decode cX6_isAlpha 0 = .ok (.iload_n 0, 1) := by decide +kernel
theorem dX6_isAlpha_1 : decode cX6_isAlpha 1 = .ok (.bipush 97, 2) := by decide +kernel
theorem dX6_isAlpha_3 : decode cX6_isAlpha 3 = .ok (.if_icmp .lt 13, 3) := by decide +kernel
theorem dX6_isAlpha_6 : decode cX6_isAlpha 6 = .ok (.iload_n 0, 1) := by decide +kernel
theorem dX6_isAlpha_7 : decode cX6_isAlpha 7 = .ok (.bipush 122, 2) := by decide +kernel
theorem dX6_isAlpha_9 : decode cX6_isAlpha 9 = .ok (.if_icmp .gt 7, 3) := by decide +kernel
theorem dX6_isAlpha_12 : decode cX6_isAlpha 12 = .ok (.iconst 1, 1) := by decide +kernel
theorem dX6_isAlpha_13 : decode cX6_isAlpha 13 = .ok (.goto 4, 3) := by decide +kernel
theorem dX6_isAlpha_16 : decode cX6_isAlpha 16 = .ok (.iconst 0, 1) := by decide +kernel
theorem dX6_isAlpha_17 : decode cX6_isAlpha 17 = .ok (.ireturn, 1) := by decide +kernel
theorem dX6_isDigit_0 : decode cX6_isDigit 0 = .ok (.iload_n 0, 1) := by decide +kernel
theorem dX6_isDigit_1 : decode cX6_isDigit 1 = .ok (.bipush 48, 2) := by decide +kernel
theorem dX6_isDigit_3 : decode cX6_isDigit 3 = .ok (.if_icmp .lt 13, 3) := by decide +kernel
theorem dX6_isDigit_6 : decode cX6_isDigit 6 = .ok (.iload_n 0, 1) := by decide +kernel
theorem dX6_isDigit_7 : decode cX6_isDigit 7 = .ok (.bipush 57, 2) := by decide +kernel
theorem dX6_isDigit_9 : decode cX6_isDigit 9 = .ok (.if_icmp .gt 7, 3) := by decide +kernel
theorem dX6_isDigit_12 : decode cX6_isDigit 12 = .ok (.iconst 1, 1) := by decide +kernel
theorem dX6_isDigit_13 : decode cX6_isDigit 13 = .ok (.goto 4, 3) := by decide +kernel
theorem dX6_isDigit_16 : decode cX6_isDigit 16 = .ok (.iconst 0, 1) := by decide +kernel
theorem dX6_isDigit_17 : decode cX6_isDigit 17 = .ok (.ireturn, 1) := by decide +kernel
theorem dX6_byteAt_0 : decode cX6_byteAt 0 = .ok (.iload_n 1, 1) := by decide +kernel
theorem dX6_byteAt_1 : decode cX6_byteAt 1 = .ok (.aload_n 0, 1) := by decide +kernel
theorem dX6_byteAt_2 : decode cX6_byteAt 2 = .ok (.getfield 74, 3) := by decide +kernel
theorem dX6_byteAt_5 : decode cX6_byteAt 5 = .ok (.if_icmp .ge 12, 3) := by decide +kernel
theorem dX6_byteAt_8 : decode cX6_byteAt 8 = .ok (.aload_n 0, 1) := by decide +kernel
theorem dX6_byteAt_9 : decode cX6_byteAt 9 = .ok (.getfield 22, 3) := by decide +kernel
theorem dX6_byteAt_12 : decode cX6_byteAt 12 = .ok (.iload_n 1, 1) := by decide +kernel
theorem dX6_byteAt_13 : decode cX6_byteAt 13 = .ok (.iaload, 1) := by decide +kernel
theorem dX6_byteAt_14 : decode cX6_byteAt 14 = .ok (.goto 4, 3) := by decide +kernel
theorem dX6_byteAt_17 : decode cX6_byteAt 17 = .ok (.iconst (-1), 1) := by decide +kernel
theorem dX6_byteAt_18 : decode cX6_byteAt 18 = .ok (.ireturn, 1) := by decide +kernel
theorem dX6_nextToken_0 : decode cX6_nextToken 0 = .ok (.aload_n 0, 1) := by decide +kernel
theorem dX6_nextToken_1 : decode cX6_nextToken 1 = .ok (.aload_n 0, 1) := by decide +kernel
theorem dX6_nextToken_2 : decode cX6_nextToken 2 = .ok (.getfield 80, 3) := by decide +kernel
theorem dX6_nextToken_5 : decode cX6_nextToken 5 = .ok (.putfield 83, 3) := by decide +kernel
theorem dX6_nextToken_8 : decode cX6_nextToken 8 = .ok (.aload_n 0, 1) := by decide +kernel
theorem dX6_nextToken_9 : decode cX6_nextToken 9 = .ok (.aload_n 0, 1) := by decide +kernel
theorem dX6_nextToken_10 : decode cX6_nextToken 10 = .ok (.getfield 83, 3) := by decide +kernel
theorem dX6_nextToken_13 : decode cX6_nextToken 13 = .ok (.invokevirtual 86, 3) := by decide +kernel
theorem dX6_nextToken_16 : decode cX6_nextToken 16 = .ok (.bipush 32, 2) := by decide +kernel
theorem dX6_nextToken_18 : decode cX6_nextToken 18 = .ok (.if_icmp .ne 16, 3) := by decide +kernel
theorem dX6_nextToken_21 : decode cX6_nextToken 21 = .ok (.aload_n 0, 1) := by decide +kernel
theorem dX6_nextToken_22 : decode cX6_nextToken 22 = .ok (.dup, 1) := by decide +kernel
theorem dX6_nextToken_23 : decode cX6_nextToken 23 = .ok (.getfield 83, 3) := by decide +kernel
theorem dX6_nextToken_26 : decode cX6_nextToken 26 = .ok (.iconst 1, 1) := by decide +kernel
theorem dX6_nextToken_27 : decode cX6_nextToken 27 = .ok (.iadd, 1) := by decide +kernel
theorem dX6_nextToken_28 : decode cX6_nextToken 28 = .ok (.putfield 83, 3) := by decide +kernel
theorem dX6_nextToken_31 : decode cX6_nextToken 31 = .ok (.goto (-23), 3) := by decide +kernel
theorem dX6_nextToken_34 : decode cX6_nextToken 34 = .ok (.aload_n 0, 1) := by decide +kernel
theorem dX6_nextToken_35 : decode cX6_nextToken 35 = .ok (.aload_n 0, 1) := by decide +kernel
theorem dX6_nextToken_36 : decode cX6_nextToken 36 = .ok (.getfield 83, 3) := by decide +kernel
theorem dX6_nextToken_39 : decode cX6_nextToken 39 = .ok (.putfield 80, 3) := by decide +kernel
theorem dX6_nextToken_42 : decode cX6_nextToken 42 = .ok (.aload_n 0, 1) := by decide +kernel
theorem dX6_nextToken_43 : decode cX6_nextToken 43 = .ok (.aload_n 0, 1) := by decide +kernel
theorem dX6_nextToken_44 : decode cX6_nextToken 44 = .ok (.getfield 83, 3) := by decide +kernel
theorem dX6_nextToken_47 : decode cX6_nextToken 47 = .ok (.invokevirtual 86, 3) := by decide +kernel
theorem dX6_nextToken_50 : decode cX6_nextToken 50 = .ok (.istore_n 1, 1) := by decide +kernel
theorem dX6_nextToken_51 : decode cX6_nextToken 51 = .ok (.aload_n 0, 1) := by decide +kernel
theorem dX6_nextToken_52 : decode cX6_nextToken 52 = .ok (.iload_n 1, 1) := by decide +kernel
theorem dX6_nextToken_53 : decode cX6_nextToken 53 = .ok (.ifCond .ge 7, 3) := by decide +kernel
theorem dX6_nextToken_56 : decode cX6_nextToken 56 = .ok (.iconst 0, 1) := by decide +kernel
theorem dX6_nextToken_57 : decode cX6_nextToken 57 = .ok (.goto 26, 3) := by decide +kernel
theorem dX6_nextToken_60 : decode cX6_nextToken 60 = .ok (.iload_n 1, 1) := by decide +kernel
theorem dX6_nextToken_61 : decode cX6_nextToken 61 = .ok (.invokestatic 90, 3) := by decide +kernel
theorem dX6_nextToken_64 : decode cX6_nextToken 64 = .ok (.ifCond .eq 7, 3) := by decide +kernel
theorem dX6_nextToken_67 : decode cX6_nextToken 67 = .ok (.iconst 1, 1) := by decide +kernel
theorem dX6_nextToken_68 : decode cX6_nextToken 68 = .ok (.goto 15, 3) := by decide +kernel
theorem dX6_nextToken_71 : decode cX6_nextToken 71 = .ok (.iload_n 1, 1) := by decide +kernel
theorem dX6_nextToken_72 : decode cX6_nextToken 72 = .ok (.invokestatic 94, 3) := by decide +kernel
theorem dX6_nextToken_75 : decode cX6_nextToken 75 = .ok (.ifCond .eq 7, 3) := by decide +kernel
theorem dX6_nextToken_78 : decode cX6_nextToken 78 = .ok (.iconst 2, 1) := by decide +kernel
theorem dX6_nextToken_79 : decode cX6_nextToken 79 = .ok (.goto 4, 3) := by decide +kernel
theorem dX6_nextToken_82 : decode cX6_nextToken 82 = .ok (.iconst 3, 1) := by decide +kernel
theorem dX6_nextToken_83 : decode cX6_nextToken 83 = .ok (.putfield 97, 3) := by decide +kernel
theorem dX6_nextToken_86 : decode cX6_nextToken 86 = .ok (.aload_n 0, 1) := by decide +kernel
theorem dX6_nextToken_87 : decode cX6_nextToken 87 = .ok (.iconst 0, 1) := by decide +kernel
theorem dX6_nextToken_88 : decode cX6_nextToken 88 = .ok (.putfield 100, 3) := by decide +kernel
theorem dX6_nextToken_91 : decode cX6_nextToken 91 = .ok (.aload_n 0, 1) := by decide +kernel
theorem dX6_nextToken_92 : decode cX6_nextToken 92 = .ok (.getfield 97, 3) := by decide +kernel
theorem dX6_nextToken_95 : decode cX6_nextToken 95 = .ok (.iconst 1, 1) := by decide +kernel
theorem dX6_nextToken_96 : decode cX6_nextToken 96 = .ok (.if_icmp .ne 30, 3) := by decide +kernel
theorem dX6_nextToken_99 : decode cX6_nextToken 99 = .ok (.aload_n 0, 1) := by decide +kernel
theorem dX6_nextToken_100 : decode cX6_nextToken 100 = .ok (.aload_n 0, 1) := by decide +kernel
theorem dX6_nextToken_101 : decode cX6_nextToken 101 = .ok (.getfield 80, 3) := by decide +kernel
theorem dX6_nextToken_104 : decode cX6_nextToken 104 = .ok (.invokevirtual 86, 3) := by decide +kernel
theorem dX6_nextToken_107 : decode cX6_nextToken 107 = .ok (.invokestatic 90, 3) := by decide +kernel
theorem dX6_nextToken_110 : decode cX6_nextToken 110 = .ok (.ifCond .eq 16, 3) := by decide +kernel
theorem dX6_nextToken_113 : decode cX6_nextToken 113 = .ok (.aload_n 0, 1) := by decide +kernel
theorem dX6_nextToken_114 : decode cX6_nextToken 114 = .ok (.dup, 1) := by decide +kernel
theorem dX6_nextToken_115 : decode cX6_nextToken 115 = .ok (.getfield 80, 3) := by decide +kernel
theorem dX6_nextToken_118 : decode cX6_nextToken 118 = .ok (.iconst 1, 1) := by decide +kernel
theorem dX6_nextToken_119 : decode cX6_nextToken 119 = .ok (.iadd, 1) := by decide +kernel
theorem dX6_nextToken_120 : decode cX6_nextToken 120 = .ok (.putfield 80, 3) := by decide +kernel
theorem dX6_nextToken_123 : decode cX6_nextToken 123 = .ok (.goto (-32), 3) := by decide +kernel
theorem dX6_nextToken_126 : decode cX6_nextToken 126 = .ok (.aload_n 0, 1) := by decide +kernel
theorem dX6_nextToken_127 : decode cX6_nextToken 127 = .ok (.getfield 97, 3) := by decide +kernel
theorem dX6_nextToken_130 : decode cX6_nextToken 130 = .ok (.iconst 2, 1) := by decide +kernel
theorem dX6_nextToken_131 : decode cX6_nextToken 131 = .ok (.if_icmp .ne 70, 3) := by decide +kernel
theorem dX6_nextToken_134 : decode cX6_nextToken 134 = .ok (.aload_n 0, 1) := by decide +kernel
theorem dX6_nextToken_135 : decode cX6_nextToken 135 = .ok (.aload_n 0, 1) := by decide +kernel
theorem dX6_nextToken_136 : decode cX6_nextToken 136 = .ok (.getfield 80, 3) := by decide +kernel
theorem dX6_nextToken_139 : decode cX6_nextToken 139 = .ok (.invokevirtual 86, 3) := by decide +kernel
theorem dX6_nextToken_142 : decode cX6_nextToken 142 = .ok (.invokestatic 94, 3) := by decide +kernel
theorem dX6_nextToken_145 : decode cX6_nextToken 145 = .ok (.ifCond .eq 56, 3) := by decide +kernel
theorem dX6_nextToken_148 : decode cX6_nextToken 148 = .ok (.aload_n 0, 1) := by decide +kernel
theorem dX6_nextToken_149 : decode cX6_nextToken 149 = .ok (.aload_n 0, 1) := by decide +kernel
theorem dX6_nextToken_150 : decode cX6_nextToken 150 = .ok (.getfield 100, 3) := by decide +kernel
theorem dX6_nextToken_153 : decode cX6_nextToken 153 = .ok (.sipush 999, 3) := by decide +kernel
theorem dX6_nextToken_156 : decode cX6_nextToken 156 = .ok (.if_icmp .le 10, 3) := by decide +kernel
theorem dX6_nextToken_159 : decode cX6_nextToken 159 = .ok (.aload_n 0, 1) := by decide +kernel
theorem dX6_nextToken_160 : decode cX6_nextToken 160 = .ok (.getfield 100, 3) := by decide +kernel
theorem dX6_nextToken_163 : decode cX6_nextToken 163 = .ok (.goto 22, 3) := by decide +kernel
theorem dX6_nextToken_166 : decode cX6_nextToken 166 = .ok (.bipush 10, 2) := by decide +kernel
theorem dX6_nextToken_168 : decode cX6_nextToken 168 = .ok (.aload_n 0, 1) := by decide +kernel
theorem dX6_nextToken_169 : decode cX6_nextToken 169 = .ok (.getfield 100, 3) := by decide +kernel
theorem dX6_nextToken_172 : decode cX6_nextToken 172 = .ok (.imul, 1) := by decide +kernel
theorem dX6_nextToken_173 : decode cX6_nextToken 173 = .ok (.aload_n 0, 1) := by decide +kernel
theorem dX6_nextToken_174 : decode cX6_nextToken 174 = .ok (.aload_n 0, 1) := by decide +kernel
theorem dX6_nextToken_175 : decode cX6_nextToken 175 = .ok (.getfield 80, 3) := by decide +kernel
theorem dX6_nextToken_178 : decode cX6_nextToken 178 = .ok (.invokevirtual 86, 3) := by decide +kernel
theorem dX6_nextToken_181 : decode cX6_nextToken 181 = .ok (.iadd, 1) := by decide +kernel
theorem dX6_nextToken_182 : decode cX6_nextToken 182 = .ok (.bipush 48, 2) := by decide +kernel
theorem dX6_nextToken_184 : decode cX6_nextToken 184 = .ok (.isub, 1) := by decide +kernel
theorem dX6_nextToken_185 : decode cX6_nextToken 185 = .ok (.putfield 100, 3) := by decide +kernel
theorem dX6_nextToken_188 : decode cX6_nextToken 188 = .ok (.aload_n 0, 1) := by decide +kernel
theorem dX6_nextToken_189 : decode cX6_nextToken 189 = .ok (.dup, 1) := by decide +kernel
theorem dX6_nextToken_190 : decode cX6_nextToken 190 = .ok (.getfield 80, 3) := by decide +kernel
theorem dX6_nextToken_193 : decode cX6_nextToken 193 = .ok (.iconst 1, 1) := by decide +kernel
theorem dX6_nextToken_194 : decode cX6_nextToken 194 = .ok (.iadd, 1) := by decide +kernel
theorem dX6_nextToken_195 : decode cX6_nextToken 195 = .ok (.putfield 80, 3) := by decide +kernel
theorem dX6_nextToken_198 : decode cX6_nextToken 198 = .ok (.goto (-72), 3) := by decide +kernel
theorem dX6_nextToken_201 : decode cX6_nextToken 201 = .ok (.aload_n 0, 1) := by decide +kernel
theorem dX6_nextToken_202 : decode cX6_nextToken 202 = .ok (.dup, 1) := by decide +kernel
theorem dX6_nextToken_203 : decode cX6_nextToken 203 = .ok (.getfield 80, 3) := by decide +kernel
theorem dX6_nextToken_206 : decode cX6_nextToken 206 = .ok (.aload_n 0, 1) := by decide +kernel
theorem dX6_nextToken_207 : decode cX6_nextToken 207 = .ok (.getfield 97, 3) := by decide +kernel
theorem dX6_nextToken_210 : decode cX6_nextToken 210 = .ok (.iconst 2, 1) := by decide +kernel
theorem dX6_nextToken_211 : decode cX6_nextToken 211 = .ok (.if_icmp .le 7, 3) := by decide +kernel
theorem dX6_nextToken_214 : decode cX6_nextToken 214 = .ok (.iconst 1, 1) := by decide +kernel
theorem dX6_nextToken_215 : decode cX6_nextToken 215 = .ok (.goto 4, 3) := by decide +kernel
theorem dX6_nextToken_218 : decode cX6_nextToken 218 = .ok (.iconst 0, 1) := by decide +kernel
theorem dX6_nextToken_219 : decode cX6_nextToken 219 = .ok (.iadd, 1) := by decide +kernel
theorem dX6_nextToken_220 : decode cX6_nextToken 220 = .ok (.putfield 80, 3) := by decide +kernel
theorem dX6_nextToken_223 : decode cX6_nextToken 223 = .ok (.return_, 1) := by decide +kernel
theorem dX6_needs_0 : decode cX6_needs 0 = .ok (.aload_n 0, 1) := by decide +kernel
theorem dX6_needs_1 : decode cX6_needs 1 = .ok (.aload_n 0, 1) := by decide +kernel
theorem dX6_needs_2 : decode cX6_needs 2 = .ok (.getfield 103, 3) := by decide +kernel
theorem dX6_needs_5 : decode cX6_needs 5 = .ok (.ifCond .ne 7, 3) := by decide +kernel
theorem dX6_needs_8 : decode cX6_needs 8 = .ok (.iload_n 1, 1) := by decide +kernel
theorem dX6_needs_9 : decode cX6_needs 9 = .ok (.ifCond .ne 7, 3) := by decide +kernel
theorem dX6_needs_12 : decode cX6_needs 12 = .ok (.iconst 1, 1) := by decide +kernel
theorem dX6_needs_13 : decode cX6_needs 13 = .ok (.goto 4, 3) := by decide +kernel
theorem dX6_needs_16 : decode cX6_needs 16 = .ok (.iconst 0, 1) := by decide +kernel
theorem dX6_needs_17 : decode cX6_needs 17 = .ok (.putfield 103, 3) := by decide +kernel
theorem dX6_needs_20 : decode cX6_needs 20 = .ok (.aload_n 0, 1) := by decide +kernel
theorem dX6_needs_21 : decode cX6_needs 21 = .ok (.getfield 103, 3) := by decide +kernel
theorem dX6_needs_24 : decode cX6_needs 24 = .ok (.ifCond .ne 7, 3) := by decide +kernel
theorem dX6_needs_27 : decode cX6_needs 27 = .ok (.aload_n 0, 1) := by decide +kernel
theorem dX6_needs_28 : decode cX6_needs 28 = .ok (.invokevirtual 107, 3) := by decide +kernel
theorem dX6_needs_31 : decode cX6_needs 31 = .ok (.return_, 1) := by decide +kernel
theorem dX6_isName_0 : decode cX6_isName 0 = .ok (.aload_n 0, 1) := by decide +kernel
theorem dX6_isName_1 : decode cX6_isName 1 = .ok (.getfield 97, 3) := by decide +kernel
theorem dX6_isName_4 : decode cX6_isName 4 = .ok (.iconst 1, 1) := by decide +kernel
theorem dX6_isName_5 : decode cX6_isName 5 = .ok (.if_icmp .ne 76, 3) := by decide +kernel
theorem dX6_isName_8 : decode cX6_isName 8 = .ok (.aload_n 0, 1) := by decide +kernel
theorem dX6_isName_9 : decode cX6_isName 9 = .ok (.getfield 80, 3) := by decide +kernel
theorem dX6_isName_12 : decode cX6_isName 12 = .ok (.aload_n 0, 1) := by decide +kernel
theorem dX6_isName_13 : decode cX6_isName 13 = .ok (.getfield 83, 3) := by decide +kernel
theorem dX6_isName_16 : decode cX6_isName 16 = .ok (.isub, 1) := by decide +kernel
theorem dX6_isName_17 : decode cX6_isName 17 = .ok (.iload_n 1, 1) := by decide +kernel
theorem dX6_isName_18 : decode cX6_isName 18 = .ok (.if_icmp .ne 63, 3) := by decide +kernel
theorem dX6_isName_21 : decode cX6_isName 21 = .ok (.aload_n 0, 1) := by decide +kernel
theorem dX6_isName_22 : decode cX6_isName 22 = .ok (.aload_n 0, 1) := by decide +kernel
theorem dX6_isName_23 : decode cX6_isName 23 = .ok (.getfield 83, 3) := by decide +kernel
theorem dX6_isName_26 : decode cX6_isName 26 = .ok (.invokevirtual 86, 3) := by decide +kernel
theorem dX6_isName_29 : decode cX6_isName 29 = .ok (.iload_n 2, 1) := by decide +kernel
theorem dX6_isName_30 : decode cX6_isName 30 = .ok (.if_icmp .ne 51, 3) := by decide +kernel
theorem dX6_isName_33 : decode cX6_isName 33 = .ok (.aload_n 0, 1) := by decide +kernel
theorem dX6_isName_34 : decode cX6_isName 34 = .ok (.aload_n 0, 1) := by decide +kernel
theorem dX6_isName_35 : decode cX6_isName 35 = .ok (.getfield 83, 3) := by decide +kernel
theorem dX6_isName_38 : decode cX6_isName 38 = .ok (.iconst 1, 1) := by decide +kernel
theorem dX6_isName_39 : decode cX6_isName 39 = .ok (.iadd, 1) := by decide +kernel
theorem dX6_isName_40 : decode cX6_isName 40 = .ok (.invokevirtual 86, 3) := by decide +kernel
theorem dX6_isName_43 : decode cX6_isName 43 = .ok (.iload_n 3, 1) := by decide +kernel
theorem dX6_isName_44 : decode cX6_isName 44 = .ok (.if_icmp .ne 37, 3) := by decide +kernel
theorem dX6_isName_47 : decode cX6_isName 47 = .ok (.aload_n 0, 1) := by decide +kernel
theorem dX6_isName_48 : decode cX6_isName 48 = .ok (.aload_n 0, 1) := by decide +kernel
theorem dX6_isName_49 : decode cX6_isName 49 = .ok (.getfield 83, 3) := by decide +kernel
theorem dX6_isName_52 : decode cX6_isName 52 = .ok (.iconst 2, 1) := by decide +kernel
theorem dX6_isName_53 : decode cX6_isName 53 = .ok (.iadd, 1) := by decide +kernel
theorem dX6_isName_54 : decode cX6_isName 54 = .ok (.invokevirtual 86, 3) := by decide +kernel
theorem dX6_isName_57 : decode cX6_isName 57 = .ok (.iload 4, 2) := by decide +kernel
theorem dX6_isName_59 : decode cX6_isName 59 = .ok (.if_icmp .ne 22, 3) := by decide +kernel
theorem dX6_isName_62 : decode cX6_isName 62 = .ok (.aload_n 0, 1) := by decide +kernel
theorem dX6_isName_63 : decode cX6_isName 63 = .ok (.aload_n 0, 1) := by decide +kernel
theorem dX6_isName_64 : decode cX6_isName 64 = .ok (.getfield 80, 3) := by decide +kernel
theorem dX6_isName_67 : decode cX6_isName 67 = .ok (.iconst 1, 1) := by decide +kernel
theorem dX6_isName_68 : decode cX6_isName 68 = .ok (.isub, 1) := by decide +kernel
theorem dX6_isName_69 : decode cX6_isName 69 = .ok (.invokevirtual 86, 3) := by decide +kernel
theorem dX6_isName_72 : decode cX6_isName 72 = .ok (.iload 5, 2) := by decide +kernel
theorem dX6_isName_74 : decode cX6_isName 74 = .ok (.if_icmp .ne 7, 3) := by decide +kernel
theorem dX6_isName_77 : decode cX6_isName 77 = .ok (.iconst 1, 1) := by decide +kernel
theorem dX6_isName_78 : decode cX6_isName 78 = .ok (.goto 4, 3) := by decide +kernel
theorem dX6_isName_81 : decode cX6_isName 81 = .ok (.iconst 0, 1) := by decide +kernel
theorem dX6_isName_82 : decode cX6_isName 82 = .ok (.ireturn, 1) := by decide +kernel
theorem dX6_isSame_0 : decode cX6_isSame 0 = .ok (.aload_n 0, 1) := by decide +kernel
theorem dX6_isSame_1 : decode cX6_isSame 1 = .ok (.aload_n 0, 1) := by decide +kernel
theorem dX6_isSame_2 : decode cX6_isSame 2 = .ok (.getfield 83, 3) := by decide +kernel
theorem dX6_isSame_5 : decode cX6_isSame 5 = .ok (.iload_n 1, 1) := by decide +kernel
theorem dX6_isSame_6 : decode cX6_isSame 6 = .ok (.iadd, 1) := by decide +kernel
theorem dX6_isSame_7 : decode cX6_isSame 7 = .ok (.invokevirtual 86, 3) := by decide +kernel
theorem dX6_isSame_10 : decode cX6_isSame 10 = .ok (.iload_n 2, 1) := by decide +kernel
theorem dX6_isSame_11 : decode cX6_isSame 11 = .ok (.if_icmp .ne 40, 3) := by decide +kernel
theorem dX6_isSame_14 : decode cX6_isSame 14 = .ok (.aload_n 0, 1) := by decide +kernel
theorem dX6_isSame_15 : decode cX6_isSame 15 = .ok (.aload_n 0, 1) := by decide +kernel
theorem dX6_isSame_16 : decode cX6_isSame 16 = .ok (.getfield 83, 3) := by decide +kernel
theorem dX6_isSame_19 : decode cX6_isSame 19 = .ok (.iload_n 1, 1) := by decide +kernel
theorem dX6_isSame_20 : decode cX6_isSame 20 = .ok (.iadd, 1) := by decide +kernel
theorem dX6_isSame_21 : decode cX6_isSame 21 = .ok (.iconst 1, 1) := by decide +kernel
theorem dX6_isSame_22 : decode cX6_isSame 22 = .ok (.iadd, 1) := by decide +kernel
theorem dX6_isSame_23 : decode cX6_isSame 23 = .ok (.invokevirtual 86, 3) := by decide +kernel
theorem dX6_isSame_26 : decode cX6_isSame 26 = .ok (.iload_n 3, 1) := by decide +kernel
theorem dX6_isSame_27 : decode cX6_isSame 27 = .ok (.if_icmp .ne 24, 3) := by decide +kernel
theorem dX6_isSame_30 : decode cX6_isSame 30 = .ok (.aload_n 0, 1) := by decide +kernel
theorem dX6_isSame_31 : decode cX6_isSame 31 = .ok (.aload_n 0, 1) := by decide +kernel
theorem dX6_isSame_32 : decode cX6_isSame 32 = .ok (.getfield 83, 3) := by decide +kernel
theorem dX6_isSame_35 : decode cX6_isSame 35 = .ok (.iload_n 1, 1) := by decide +kernel
theorem dX6_isSame_36 : decode cX6_isSame 36 = .ok (.iadd, 1) := by decide +kernel
theorem dX6_isSame_37 : decode cX6_isSame 37 = .ok (.iconst 2, 1) := by decide +kernel
theorem dX6_isSame_38 : decode cX6_isSame 38 = .ok (.iadd, 1) := by decide +kernel
theorem dX6_isSame_39 : decode cX6_isSame 39 = .ok (.invokevirtual 86, 3) := by decide +kernel
theorem dX6_isSame_42 : decode cX6_isSame 42 = .ok (.iload 4, 2) := by decide +kernel
theorem dX6_isSame_44 : decode cX6_isSame 44 = .ok (.if_icmp .ne 7, 3) := by decide +kernel
theorem dX6_isSame_47 : decode cX6_isSame 47 = .ok (.iconst 1, 1) := by decide +kernel
theorem dX6_isSame_48 : decode cX6_isSame 48 = .ok (.goto 4, 3) := by decide +kernel
theorem dX6_isSame_51 : decode cX6_isSame 51 = .ok (.iconst 0, 1) := by decide +kernel
theorem dX6_isSame_52 : decode cX6_isSame 52 = .ok (.ireturn, 1) := by decide +kernel
theorem dX6_isFour_0 : decode cX6_isFour 0 = .ok (.aload_n 0, 1) := by decide +kernel
theorem dX6_isFour_1 : decode cX6_isFour 1 = .ok (.iconst 4, 1) := by decide +kernel
theorem dX6_isFour_2 : decode cX6_isFour 2 = .ok (.iload_n 1, 1) := by decide +kernel
theorem dX6_isFour_3 : decode cX6_isFour 3 = .ok (.iload_n 2, 1) := by decide +kernel
theorem dX6_isFour_4 : decode cX6_isFour 4 = .ok (.iload_n 3, 1) := by decide +kernel
theorem dX6_isFour_5 : decode cX6_isFour 5 = .ok (.iload 4, 2) := by decide +kernel
theorem dX6_isFour_7 : decode cX6_isFour 7 = .ok (.invokevirtual 110, 3) := by decide +kernel
theorem dX6_isFour_10 : decode cX6_isFour 10 = .ok (.ireturn, 1) := by decide +kernel
theorem dX6_isFive_0 : decode cX6_isFive 0 = .ok (.aload_n 0, 1) := by decide +kernel
theorem dX6_isFive_1 : decode cX6_isFive 1 = .ok (.iconst 5, 1) := by decide +kernel
theorem dX6_isFive_2 : decode cX6_isFive 2 = .ok (.iload_n 1, 1) := by decide +kernel
theorem dX6_isFive_3 : decode cX6_isFive 3 = .ok (.iload_n 2, 1) := by decide +kernel
theorem dX6_isFive_4 : decode cX6_isFive 4 = .ok (.iload_n 3, 1) := by decide +kernel
theorem dX6_isFive_5 : decode cX6_isFive 5 = .ok (.iload 5, 2) := by decide +kernel
theorem dX6_isFive_7 : decode cX6_isFive 7 = .ok (.invokevirtual 110, 3) := by decide +kernel
theorem dX6_isFive_10 : decode cX6_isFive 10 = .ok (.ifCond .eq 22, 3) := by decide +kernel
theorem dX6_isFive_13 : decode cX6_isFive 13 = .ok (.aload_n 0, 1) := by decide +kernel
theorem dX6_isFive_14 : decode cX6_isFive 14 = .ok (.aload_n 0, 1) := by decide +kernel
theorem dX6_isFive_15 : decode cX6_isFive 15 = .ok (.getfield 83, 3) := by decide +kernel
theorem dX6_isFive_18 : decode cX6_isFive 18 = .ok (.iconst 3, 1) := by decide +kernel
theorem dX6_isFive_19 : decode cX6_isFive 19 = .ok (.iadd, 1) := by decide +kernel
theorem dX6_isFive_20 : decode cX6_isFive 20 = .ok (.invokevirtual 86, 3) := by decide +kernel
theorem dX6_isFive_23 : decode cX6_isFive 23 = .ok (.iload 4, 2) := by decide +kernel
theorem dX6_isFive_25 : decode cX6_isFive 25 = .ok (.if_icmp .ne 7, 3) := by decide +kernel
theorem dX6_isFive_28 : decode cX6_isFive 28 = .ok (.iconst 1, 1) := by decide +kernel
theorem dX6_isFive_29 : decode cX6_isFive 29 = .ok (.goto 4, 3) := by decide +kernel
theorem dX6_isFive_32 : decode cX6_isFive 32 = .ok (.iconst 0, 1) := by decide +kernel
theorem dX6_isFive_33 : decode cX6_isFive 33 = .ok (.ireturn, 1) := by decide +kernel
theorem dX6_kindHere_0 : decode cX6_kindHere 0 = .ok (.aload_n 0, 1) := by decide +kernel
theorem dX6_kindHere_1 : decode cX6_kindHere 1 = .ok (.iconst 3, 1) := by decide +kernel
theorem dX6_kindHere_2 : decode cX6_kindHere 2 = .ok (.bipush 97, 2) := by decide +kernel
theorem dX6_kindHere_4 : decode cX6_kindHere 4 = .ok (.bipush 105, 2) := by decide +kernel
theorem dX6_kindHere_6 : decode cX6_kindHere 6 = .ok (.bipush 114, 2) := by decide +kernel
theorem dX6_kindHere_8 : decode cX6_kindHere 8 = .ok (.bipush 114, 2) := by decide +kernel
theorem dX6_kindHere_10 : decode cX6_kindHere 10 = .ok (.invokevirtual 110, 3) := by decide +kernel
theorem dX6_kindHere_13 : decode cX6_kindHere 13 = .ok (.ifCond .eq 5, 3) := by decide +kernel
theorem dX6_kindHere_16 : decode cX6_kindHere 16 = .ok (.iconst 0, 1) := by decide +kernel
theorem dX6_kindHere_17 : decode cX6_kindHere 17 = .ok (.ireturn, 1) := by decide +kernel
theorem dX6_kindHere_18 : decode cX6_kindHere 18 = .ok (.aload_n 0, 1) := by decide +kernel
theorem dX6_kindHere_19 : decode cX6_kindHere 19 = .ok (.bipush 114, 2) := by decide +kernel
theorem dX6_kindHere_21 : decode cX6_kindHere 21 = .ok (.bipush 97, 2) := by decide +kernel
theorem dX6_kindHere_23 : decode cX6_kindHere 23 = .ok (.bipush 105, 2) := by decide +kernel
theorem dX6_kindHere_25 : decode cX6_kindHere 25 = .ok (.bipush 110, 2) := by decide +kernel
theorem dX6_kindHere_27 : decode cX6_kindHere 27 = .ok (.invokevirtual 114, 3) := by decide +kernel
theorem dX6_kindHere_30 : decode cX6_kindHere 30 = .ok (.ifCond .eq 5, 3) := by decide +kernel
theorem dX6_kindHere_33 : decode cX6_kindHere 33 = .ok (.iconst 1, 1) := by decide +kernel
theorem dX6_kindHere_34 : decode cX6_kindHere 34 = .ok (.ireturn, 1) := by decide +kernel
theorem dX6_kindHere_35 : decode cX6_kindHere 35 = .ok (.aload_n 0, 1) := by decide +kernel
theorem dX6_kindHere_36 : decode cX6_kindHere 36 = .ok (.iconst 3, 1) := by decide +kernel
theorem dX6_kindHere_37 : decode cX6_kindHere 37 = .ok (.bipush 102, 2) := by decide +kernel
theorem dX6_kindHere_39 : decode cX6_kindHere 39 = .ok (.bipush 111, 2) := by decide +kernel
theorem dX6_kindHere_41 : decode cX6_kindHere 41 = .ok (.bipush 103, 2) := by decide +kernel
theorem dX6_kindHere_43 : decode cX6_kindHere 43 = .ok (.bipush 103, 2) := by decide +kernel
theorem dX6_kindHere_45 : decode cX6_kindHere 45 = .ok (.invokevirtual 110, 3) := by decide +kernel
theorem dX6_kindHere_48 : decode cX6_kindHere 48 = .ok (.ifCond .eq 5, 3) := by decide +kernel
theorem dX6_kindHere_51 : decode cX6_kindHere 51 = .ok (.iconst 2, 1) := by decide +kernel
theorem dX6_kindHere_52 : decode cX6_kindHere 52 = .ok (.ireturn, 1) := by decide +kernel
theorem dX6_kindHere_53 : decode cX6_kindHere 53 = .ok (.aload_n 0, 1) := by decide +kernel
theorem dX6_kindHere_54 : decode cX6_kindHere 54 = .ok (.bipush 7, 2) := by decide +kernel
theorem dX6_kindHere_56 : decode cX6_kindHere 56 = .ok (.bipush 100, 2) := by decide +kernel
theorem dX6_kindHere_58 : decode cX6_kindHere 58 = .ok (.bipush 114, 2) := by decide +kernel
theorem dX6_kindHere_60 : decode cX6_kindHere 60 = .ok (.bipush 105, 2) := by decide +kernel
theorem dX6_kindHere_62 : decode cX6_kindHere 62 = .ok (.bipush 101, 2) := by decide +kernel
theorem dX6_kindHere_64 : decode cX6_kindHere 64 = .ok (.invokevirtual 110, 3) := by decide +kernel
theorem dX6_kindHere_67 : decode cX6_kindHere 67 = .ok (.ifCond .eq 19, 3) := by decide +kernel
theorem dX6_kindHere_70 : decode cX6_kindHere 70 = .ok (.aload_n 0, 1) := by decide +kernel
theorem dX6_kindHere_71 : decode cX6_kindHere 71 = .ok (.iconst 3, 1) := by decide +kernel
theorem dX6_kindHere_72 : decode cX6_kindHere 72 = .ok (.bipush 122, 2) := by decide +kernel
theorem dX6_kindHere_74 : decode cX6_kindHere 74 = .ok (.bipush 122, 2) := by decide +kernel
theorem dX6_kindHere_76 : decode cX6_kindHere 76 = .ok (.bipush 108, 2) := by decide +kernel
theorem dX6_kindHere_78 : decode cX6_kindHere 78 = .ok (.invokevirtual 118, 3) := by decide +kernel
theorem dX6_kindHere_81 : decode cX6_kindHere 81 = .ok (.ifCond .eq 5, 3) := by decide +kernel
theorem dX6_kindHere_84 : decode cX6_kindHere 84 = .ok (.iconst 3, 1) := by decide +kernel
theorem dX6_kindHere_85 : decode cX6_kindHere 85 = .ok (.ireturn, 1) := by decide +kernel
theorem dX6_kindHere_86 : decode cX6_kindHere 86 = .ok (.aload_n 0, 1) := by decide +kernel
theorem dX6_kindHere_87 : decode cX6_kindHere 87 = .ok (.bipush 109, 2) := by decide +kernel
theorem dX6_kindHere_89 : decode cX6_kindHere 89 = .ok (.bipush 105, 2) := by decide +kernel
theorem dX6_kindHere_91 : decode cX6_kindHere 91 = .ok (.bipush 115, 2) := by decide +kernel
theorem dX6_kindHere_93 : decode cX6_kindHere 93 = .ok (.bipush 116, 2) := by decide +kernel
theorem dX6_kindHere_95 : decode cX6_kindHere 95 = .ok (.invokevirtual 114, 3) := by decide +kernel
theorem dX6_kindHere_98 : decode cX6_kindHere 98 = .ok (.ifCond .eq 5, 3) := by decide +kernel
theorem dX6_kindHere_101 : decode cX6_kindHere 101 = .ok (.iconst 4, 1) := by decide +kernel
theorem dX6_kindHere_102 : decode cX6_kindHere 102 = .ok (.ireturn, 1) := by decide +kernel
theorem dX6_kindHere_103 : decode cX6_kindHere 103 = .ok (.aload_n 0, 1) := by decide +kernel
theorem dX6_kindHere_104 : decode cX6_kindHere 104 = .ok (.bipush 104, 2) := by decide +kernel
theorem dX6_kindHere_106 : decode cX6_kindHere 106 = .ok (.bipush 101, 2) := by decide +kernel
theorem dX6_kindHere_108 : decode cX6_kindHere 108 = .ok (.bipush 97, 2) := by decide +kernel
theorem dX6_kindHere_110 : decode cX6_kindHere 110 = .ok (.bipush 116, 2) := by decide +kernel
theorem dX6_kindHere_112 : decode cX6_kindHere 112 = .ok (.invokevirtual 114, 3) := by decide +kernel
theorem dX6_kindHere_115 : decode cX6_kindHere 115 = .ok (.ifCond .eq 7, 3) := by decide +kernel
theorem dX6_kindHere_118 : decode cX6_kindHere 118 = .ok (.iconst 5, 1) := by decide +kernel
theorem dX6_kindHere_119 : decode cX6_kindHere 119 = .ok (.goto 4, 3) := by decide +kernel
theorem dX6_kindHere_122 : decode cX6_kindHere 122 = .ok (.iconst (-1), 1) := by decide +kernel
theorem dX6_kindHere_123 : decode cX6_kindHere 123 = .ok (.ireturn, 1) := by decide +kernel
theorem dX6_numberTo_0 : decode cX6_numberTo 0 = .ok (.aload_n 0, 1) := by decide +kernel
theorem dX6_numberTo_1 : decode cX6_numberTo 1 = .ok (.getfield 97, 3) := by decide +kernel
theorem dX6_numberTo_4 : decode cX6_numberTo 4 = .ok (.iconst 2, 1) := by decide +kernel
theorem dX6_numberTo_5 : decode cX6_numberTo 5 = .ok (.if_icmp .ne 36, 3) := by decide +kernel
theorem dX6_numberTo_8 : decode cX6_numberTo 8 = .ok (.aload_n 0, 1) := by decide +kernel
theorem dX6_numberTo_9 : decode cX6_numberTo 9 = .ok (.getfield 80, 3) := by decide +kernel
theorem dX6_numberTo_12 : decode cX6_numberTo 12 = .ok (.aload_n 0, 1) := by decide +kernel
theorem dX6_numberTo_13 : decode cX6_numberTo 13 = .ok (.getfield 83, 3) := by decide +kernel
theorem dX6_numberTo_16 : decode cX6_numberTo 16 = .ok (.isub, 1) := by decide +kernel
theorem dX6_numberTo_17 : decode cX6_numberTo 17 = .ok (.iconst 3, 1) := by decide +kernel
theorem dX6_numberTo_18 : decode cX6_numberTo 18 = .ok (.if_icmp .gt 23, 3) := by decide +kernel
theorem dX6_numberTo_21 : decode cX6_numberTo 21 = .ok (.aload_n 0, 1) := by decide +kernel
theorem dX6_numberTo_22 : decode cX6_numberTo 22 = .ok (.getfield 100, 3) := by decide +kernel
theorem dX6_numberTo_25 : decode cX6_numberTo 25 = .ok (.iload_n 2, 1) := by decide +kernel
theorem dX6_numberTo_26 : decode cX6_numberTo 26 = .ok (.if_icmp .lt 15, 3) := by decide +kernel
theorem dX6_numberTo_29 : decode cX6_numberTo 29 = .ok (.aload_n 0, 1) := by decide +kernel
theorem dX6_numberTo_30 : decode cX6_numberTo 30 = .ok (.getfield 100, 3) := by decide +kernel
theorem dX6_numberTo_33 : decode cX6_numberTo 33 = .ok (.iload_n 3, 1) := by decide +kernel
theorem dX6_numberTo_34 : decode cX6_numberTo 34 = .ok (.if_icmp .gt 7, 3) := by decide +kernel
theorem dX6_numberTo_37 : decode cX6_numberTo 37 = .ok (.iconst 1, 1) := by decide +kernel
theorem dX6_numberTo_38 : decode cX6_numberTo 38 = .ok (.goto 4, 3) := by decide +kernel
theorem dX6_numberTo_41 : decode cX6_numberTo 41 = .ok (.iconst 0, 1) := by decide +kernel
theorem dX6_numberTo_42 : decode cX6_numberTo 42 = .ok (.istore 4, 2) := by decide +kernel
theorem dX6_numberTo_44 : decode cX6_numberTo 44 = .ok (.iload 4, 2) := by decide +kernel
theorem dX6_numberTo_46 : decode cX6_numberTo 46 = .ok (.ifCond .eq 20, 3) := by decide +kernel
theorem dX6_numberTo_49 : decode cX6_numberTo 49 = .ok (.aload_n 0, 1) := by decide +kernel
theorem dX6_numberTo_50 : decode cX6_numberTo 50 = .ok (.getfield 103, 3) := by decide +kernel
theorem dX6_numberTo_53 : decode cX6_numberTo 53 = .ok (.ifCond .ne 13, 3) := by decide +kernel
theorem dX6_numberTo_56 : decode cX6_numberTo 56 = .ok (.aload_n 0, 1) := by decide +kernel
theorem dX6_numberTo_57 : decode cX6_numberTo 57 = .ok (.getfield 7, 3) := by decide +kernel
theorem dX6_numberTo_60 : decode cX6_numberTo 60 = .ok (.iload_n 1, 1) := by decide +kernel
theorem dX6_numberTo_61 : decode cX6_numberTo 61 = .ok (.aload_n 0, 1) := by decide +kernel
theorem dX6_numberTo_62 : decode cX6_numberTo 62 = .ok (.getfield 100, 3) := by decide +kernel
theorem dX6_numberTo_65 : decode cX6_numberTo 65 = .ok (.iastore, 1) := by decide +kernel
theorem dX6_numberTo_66 : decode cX6_numberTo 66 = .ok (.aload_n 0, 1) := by decide +kernel
theorem dX6_numberTo_67 : decode cX6_numberTo 67 = .ok (.iload 4, 2) := by decide +kernel
theorem dX6_numberTo_69 : decode cX6_numberTo 69 = .ok (.invokevirtual 121, 3) := by decide +kernel
theorem dX6_numberTo_72 : decode cX6_numberTo 72 = .ok (.return_, 1) := by decide +kernel
theorem dX6_perhaps_0 : decode cX6_perhaps 0 = .ok (.aload_n 0, 1) := by decide +kernel
theorem dX6_perhaps_1 : decode cX6_perhaps 1 = .ok (.getfield 103, 3) := by decide +kernel
theorem dX6_perhaps_4 : decode cX6_perhaps 4 = .ok (.ifCond .ne 18, 3) := by decide +kernel
theorem dX6_perhaps_7 : decode cX6_perhaps 7 = .ok (.iload_n 1, 1) := by decide +kernel
theorem dX6_perhaps_8 : decode cX6_perhaps 8 = .ok (.ifCond .eq 14, 3) := by decide +kernel
theorem dX6_perhaps_11 : decode cX6_perhaps 11 = .ok (.aload_n 0, 1) := by decide +kernel
theorem dX6_perhaps_12 : decode cX6_perhaps 12 = .ok (.invokevirtual 107, 3) := by decide +kernel
theorem dX6_perhaps_15 : decode cX6_perhaps 15 = .ok (.aload_n 0, 1) := by decide +kernel
theorem dX6_perhaps_16 : decode cX6_perhaps 16 = .ok (.iload_n 2, 1) := by decide +kernel
theorem dX6_perhaps_17 : decode cX6_perhaps 17 = .ok (.iconst 0, 1) := by decide +kernel
theorem dX6_perhaps_18 : decode cX6_perhaps 18 = .ok (.iload_n 3, 1) := by decide +kernel
theorem dX6_perhaps_19 : decode cX6_perhaps 19 = .ok (.invokevirtual 125, 3) := by decide +kernel
theorem dX6_perhaps_22 : decode cX6_perhaps 22 = .ok (.return_, 1) := by decide +kernel
theorem dX6_isTwo_0 : decode cX6_isTwo 0 = .ok (.aload_n 0, 1) := by decide +kernel
theorem dX6_isTwo_1 : decode cX6_isTwo 1 = .ok (.getfield 97, 3) := by decide +kernel
theorem dX6_isTwo_4 : decode cX6_isTwo 4 = .ok (.iconst 1, 1) := by decide +kernel
theorem dX6_isTwo_5 : decode cX6_isTwo 5 = .ok (.if_icmp .ne 46, 3) := by decide +kernel
theorem dX6_isTwo_8 : decode cX6_isTwo 8 = .ok (.aload_n 0, 1) := by decide +kernel
theorem dX6_isTwo_9 : decode cX6_isTwo 9 = .ok (.getfield 80, 3) := by decide +kernel
theorem dX6_isTwo_12 : decode cX6_isTwo 12 = .ok (.aload_n 0, 1) := by decide +kernel
theorem dX6_isTwo_13 : decode cX6_isTwo 13 = .ok (.getfield 83, 3) := by decide +kernel
theorem dX6_isTwo_16 : decode cX6_isTwo 16 = .ok (.isub, 1) := by decide +kernel
theorem dX6_isTwo_17 : decode cX6_isTwo 17 = .ok (.iconst 2, 1) := by decide +kernel
theorem dX6_isTwo_18 : decode cX6_isTwo 18 = .ok (.if_icmp .ne 33, 3) := by decide +kernel
theorem dX6_isTwo_21 : decode cX6_isTwo 21 = .ok (.aload_n 0, 1) := by decide +kernel
theorem dX6_isTwo_22 : decode cX6_isTwo 22 = .ok (.aload_n 0, 1) := by decide +kernel
theorem dX6_isTwo_23 : decode cX6_isTwo 23 = .ok (.getfield 83, 3) := by decide +kernel
theorem dX6_isTwo_26 : decode cX6_isTwo 26 = .ok (.invokevirtual 86, 3) := by decide +kernel
theorem dX6_isTwo_29 : decode cX6_isTwo 29 = .ok (.iload_n 1, 1) := by decide +kernel
theorem dX6_isTwo_30 : decode cX6_isTwo 30 = .ok (.if_icmp .ne 21, 3) := by decide +kernel
theorem dX6_isTwo_33 : decode cX6_isTwo 33 = .ok (.aload_n 0, 1) := by decide +kernel
theorem dX6_isTwo_34 : decode cX6_isTwo 34 = .ok (.aload_n 0, 1) := by decide +kernel
theorem dX6_isTwo_35 : decode cX6_isTwo 35 = .ok (.getfield 83, 3) := by decide +kernel
theorem dX6_isTwo_38 : decode cX6_isTwo 38 = .ok (.iconst 1, 1) := by decide +kernel
theorem dX6_isTwo_39 : decode cX6_isTwo 39 = .ok (.iadd, 1) := by decide +kernel
theorem dX6_isTwo_40 : decode cX6_isTwo 40 = .ok (.invokevirtual 86, 3) := by decide +kernel
theorem dX6_isTwo_43 : decode cX6_isTwo 43 = .ok (.iload_n 2, 1) := by decide +kernel
theorem dX6_isTwo_44 : decode cX6_isTwo 44 = .ok (.if_icmp .ne 7, 3) := by decide +kernel
theorem dX6_isTwo_47 : decode cX6_isTwo 47 = .ok (.iconst 1, 1) := by decide +kernel
theorem dX6_isTwo_48 : decode cX6_isTwo 48 = .ok (.goto 4, 3) := by decide +kernel
theorem dX6_isTwo_51 : decode cX6_isTwo 51 = .ok (.iconst 0, 1) := by decide +kernel
theorem dX6_isTwo_52 : decode cX6_isTwo 52 = .ok (.ireturn, 1) := by decide +kernel
theorem dX6_airHere_0 : decode cX6_airHere 0 = .ok (.bipush 24, 2) := by decide +kernel
theorem dX6_airHere_2 : decode cX6_airHere 2 = .ok (.iconst 4, 1) := by decide +kernel
theorem dX6_airHere_3 : decode cX6_airHere 3 = .ok (.aload_n 0, 1) := by decide +kernel
theorem dX6_airHere_4 : decode cX6_airHere 4 = .ok (.getfield 7, 3) := by decide +kernel
theorem dX6_airHere_7 : decode cX6_airHere 7 = .ok (.iconst 0, 1) := by decide +kernel
theorem dX6_airHere_8 : decode cX6_airHere 8 = .ok (.iaload, 1) := by decide +kernel
theorem dX6_airHere_9 : decode cX6_airHere 9 = .ok (.imul, 1) := by decide +kernel
theorem dX6_airHere_10 : decode cX6_airHere 10 = .ok (.iadd, 1) := by decide +kernel
theorem dX6_airHere_11 : decode cX6_airHere 11 = .ok (.istore_n 2, 1) := by decide +kernel
theorem dX6_airHere_12 : decode cX6_airHere 12 = .ok (.aload_n 0, 1) := by decide +kernel
theorem dX6_airHere_13 : decode cX6_airHere 13 = .ok (.aload_n 0, 1) := by decide +kernel
theorem dX6_airHere_14 : decode cX6_airHere 14 = .ok (.getfield 7, 3) := by decide +kernel
theorem dX6_airHere_17 : decode cX6_airHere 17 = .ok (.iconst 0, 1) := by decide +kernel
theorem dX6_airHere_18 : decode cX6_airHere 18 = .ok (.iaload, 1) := by decide +kernel
theorem dX6_airHere_19 : decode cX6_airHere 19 = .ok (.bipush 8, 2) := by decide +kernel
theorem dX6_airHere_21 : decode cX6_airHere 21 = .ok (.if_icmp .ge 7, 3) := by decide +kernel
theorem dX6_airHere_24 : decode cX6_airHere 24 = .ok (.iconst 1, 1) := by decide +kernel
theorem dX6_airHere_25 : decode cX6_airHere 25 = .ok (.goto 4, 3) := by decide +kernel
theorem dX6_airHere_28 : decode cX6_airHere 28 = .ok (.iconst 0, 1) := by decide +kernel
theorem dX6_airHere_29 : decode cX6_airHere 29 = .ok (.invokevirtual 121, 3) := by decide +kernel
theorem dX6_airHere_32 : decode cX6_airHere 32 = .ok (.aload_n 0, 1) := by decide +kernel
theorem dX6_airHere_33 : decode cX6_airHere 33 = .ok (.aload_n 0, 1) := by decide +kernel
theorem dX6_airHere_34 : decode cX6_airHere 34 = .ok (.bipush 97, 2) := by decide +kernel
theorem dX6_airHere_36 : decode cX6_airHere 36 = .ok (.bipush 116, 2) := by decide +kernel
theorem dX6_airHere_38 : decode cX6_airHere 38 = .ok (.invokevirtual 129, 3) := by decide +kernel
theorem dX6_airHere_41 : decode cX6_airHere 41 = .ok (.invokevirtual 121, 3) := by decide +kernel
theorem dX6_airHere_44 : decode cX6_airHere 44 = .ok (.aload_n 0, 1) := by decide +kernel
theorem dX6_airHere_45 : decode cX6_airHere 45 = .ok (.getfield 103, 3) := by decide +kernel
theorem dX6_airHere_48 : decode cX6_airHere 48 = .ok (.ifCond .ne 11, 3) := by decide +kernel
theorem dX6_airHere_51 : decode cX6_airHere 51 = .ok (.aload_n 0, 1) := by decide +kernel
theorem dX6_airHere_52 : decode cX6_airHere 52 = .ok (.iload_n 1, 1) := by decide +kernel
theorem dX6_airHere_53 : decode cX6_airHere 53 = .ok (.iconst 3, 1) := by decide +kernel
theorem dX6_airHere_54 : decode cX6_airHere 54 = .ok (.iconst 0, 1) := by decide +kernel
theorem dX6_airHere_55 : decode cX6_airHere 55 = .ok (.iconst 0, 1) := by decide +kernel
theorem dX6_airHere_56 : decode cX6_airHere 56 = .ok (.invokevirtual 133, 3) := by decide +kernel
theorem dX6_airHere_59 : decode cX6_airHere 59 = .ok (.aload_n 0, 1) := by decide +kernel
theorem dX6_airHere_60 : decode cX6_airHere 60 = .ok (.aload_n 0, 1) := by decide +kernel
theorem dX6_airHere_61 : decode cX6_airHere 61 = .ok (.getfield 103, 3) := by decide +kernel
theorem dX6_airHere_64 : decode cX6_airHere 64 = .ok (.ifCond .eq 7, 3) := by decide +kernel
theorem dX6_airHere_67 : decode cX6_airHere 67 = .ok (.iconst 0, 1) := by decide +kernel
theorem dX6_airHere_68 : decode cX6_airHere 68 = .ok (.goto 6, 3) := by decide +kernel
theorem dX6_airHere_71 : decode cX6_airHere 71 = .ok (.iload_n 2, 1) := by decide +kernel
theorem dX6_airHere_72 : decode cX6_airHere 72 = .ok (.iconst 3, 1) := by decide +kernel
theorem dX6_airHere_73 : decode cX6_airHere 73 = .ok (.iadd, 1) := by decide +kernel
theorem dX6_airHere_74 : decode cX6_airHere 74 = .ok (.iconst 0, 1) := by decide +kernel
theorem dX6_airHere_75 : decode cX6_airHere 75 = .ok (.bipush 15, 2) := by decide +kernel
theorem dX6_airHere_77 : decode cX6_airHere 77 = .ok (.invokevirtual 125, 3) := by decide +kernel
theorem dX6_airHere_80 : decode cX6_airHere 80 = .ok (.aload_n 0, 1) := by decide +kernel
theorem dX6_airHere_81 : decode cX6_airHere 81 = .ok (.aload_n 0, 1) := by decide +kernel
theorem dX6_airHere_82 : decode cX6_airHere 82 = .ok (.bipush 102, 2) := by decide +kernel
theorem dX6_airHere_84 : decode cX6_airHere 84 = .ok (.bipush 111, 2) := by decide +kernel
theorem dX6_airHere_86 : decode cX6_airHere 86 = .ok (.bipush 114, 2) := by decide +kernel
theorem dX6_airHere_88 : decode cX6_airHere 88 = .ok (.bipush 99, 2) := by decide +kernel
theorem dX6_airHere_90 : decode cX6_airHere 90 = .ok (.bipush 101, 2) := by decide +kernel
theorem dX6_airHere_92 : decode cX6_airHere 92 = .ok (.invokevirtual 137, 3) := by decide +kernel
theorem dX6_airHere_95 : decode cX6_airHere 95 = .ok (.iload_n 2, 1) := by decide +kernel
theorem dX6_airHere_96 : decode cX6_airHere 96 = .ok (.iconst 1, 1) := by decide +kernel
theorem dX6_airHere_97 : decode cX6_airHere 97 = .ok (.iadd, 1) := by decide +kernel
theorem dX6_airHere_98 : decode cX6_airHere 98 = .ok (.bipush 9, 2) := by decide +kernel
theorem dX6_airHere_100 : decode cX6_airHere 100 = .ok (.invokevirtual 140, 3) := by decide +kernel
theorem dX6_airHere_103 : decode cX6_airHere 103 = .ok (.aload_n 0, 1) := by decide +kernel
theorem dX6_airHere_104 : decode cX6_airHere 104 = .ok (.aload_n 0, 1) := by decide +kernel
theorem dX6_airHere_105 : decode cX6_airHere 105 = .ok (.bipush 6, 2) := by decide +kernel
theorem dX6_airHere_107 : decode cX6_airHere 107 = .ok (.bipush 101, 2) := by decide +kernel
theorem dX6_airHere_109 : decode cX6_airHere 109 = .ok (.bipush 114, 2) := by decide +kernel
theorem dX6_airHere_111 : decode cX6_airHere 111 = .ok (.bipush 114, 2) := by decide +kernel
theorem dX6_airHere_113 : decode cX6_airHere 113 = .ok (.bipush 100, 2) := by decide +kernel
theorem dX6_airHere_115 : decode cX6_airHere 115 = .ok (.invokevirtual 110, 3) := by decide +kernel
theorem dX6_airHere_118 : decode cX6_airHere 118 = .ok (.ifCond .eq 21, 3) := by decide +kernel
theorem dX6_airHere_121 : decode cX6_airHere 121 = .ok (.aload_n 0, 1) := by decide +kernel
theorem dX6_airHere_122 : decode cX6_airHere 122 = .ok (.iconst 2, 1) := by decide +kernel
theorem dX6_airHere_123 : decode cX6_airHere 123 = .ok (.bipush 114, 2) := by decide +kernel
theorem dX6_airHere_125 : decode cX6_airHere 125 = .ok (.bipush 97, 2) := by decide +kernel
theorem dX6_airHere_127 : decode cX6_airHere 127 = .ok (.bipush 110, 2) := by decide +kernel
theorem dX6_airHere_129 : decode cX6_airHere 129 = .ok (.invokevirtual 118, 3) := by decide +kernel
theorem dX6_airHere_132 : decode cX6_airHere 132 = .ok (.ifCond .eq 7, 3) := by decide +kernel
theorem dX6_airHere_135 : decode cX6_airHere 135 = .ok (.iconst 1, 1) := by decide +kernel
theorem dX6_airHere_136 : decode cX6_airHere 136 = .ok (.goto 4, 3) := by decide +kernel
theorem dX6_airHere_139 : decode cX6_airHere 139 = .ok (.iconst 0, 1) := by decide +kernel
theorem dX6_airHere_140 : decode cX6_airHere 140 = .ok (.iload_n 2, 1) := by decide +kernel
theorem dX6_airHere_141 : decode cX6_airHere 141 = .ok (.iconst 2, 1) := by decide +kernel
theorem dX6_airHere_142 : decode cX6_airHere 142 = .ok (.iadd, 1) := by decide +kernel
theorem dX6_airHere_143 : decode cX6_airHere 143 = .ok (.bipush 15, 2) := by decide +kernel
theorem dX6_airHere_145 : decode cX6_airHere 145 = .ok (.invokevirtual 140, 3) := by decide +kernel
theorem dX6_airHere_148 : decode cX6_airHere 148 = .ok (.return_, 1) := by decide +kernel
theorem dX6_wetHere_0 : decode cX6_wetHere 0 = .ok (.aload_n 0, 1) := by decide +kernel
theorem dX6_wetHere_1 : decode cX6_wetHere 1 = .ok (.invokevirtual 107, 3) := by decide +kernel
theorem dX6_wetHere_4 : decode cX6_wetHere 4 = .ok (.aload_n 0, 1) := by decide +kernel
theorem dX6_wetHere_5 : decode cX6_wetHere 5 = .ok (.getfield 100, 3) := by decide +kernel
theorem dX6_wetHere_8 : decode cX6_wetHere 8 = .ok (.istore_n 1, 1) := by decide +kernel
theorem dX6_wetHere_9 : decode cX6_wetHere 9 = .ok (.aload_n 0, 1) := by decide +kernel
theorem dX6_wetHere_10 : decode cX6_wetHere 10 = .ok (.aload_n 0, 1) := by decide +kernel
theorem dX6_wetHere_11 : decode cX6_wetHere 11 = .ok (.getfield 97, 3) := by decide +kernel
theorem dX6_wetHere_14 : decode cX6_wetHere 14 = .ok (.iconst 2, 1) := by decide +kernel
theorem dX6_wetHere_15 : decode cX6_wetHere 15 = .ok (.if_icmp .ne 29, 3) := by decide +kernel
theorem dX6_wetHere_18 : decode cX6_wetHere 18 = .ok (.aload_n 0, 1) := by decide +kernel
theorem dX6_wetHere_19 : decode cX6_wetHere 19 = .ok (.getfield 80, 3) := by decide +kernel
theorem dX6_wetHere_22 : decode cX6_wetHere 22 = .ok (.aload_n 0, 1) := by decide +kernel
theorem dX6_wetHere_23 : decode cX6_wetHere 23 = .ok (.getfield 83, 3) := by decide +kernel
theorem dX6_wetHere_26 : decode cX6_wetHere 26 = .ok (.isub, 1) := by decide +kernel
theorem dX6_wetHere_27 : decode cX6_wetHere 27 = .ok (.iconst 3, 1) := by decide +kernel
theorem dX6_wetHere_28 : decode cX6_wetHere 28 = .ok (.if_icmp .gt 16, 3) := by decide +kernel
theorem dX6_wetHere_31 : decode cX6_wetHere 31 = .ok (.aload_n 0, 1) := by decide +kernel
theorem dX6_wetHere_32 : decode cX6_wetHere 32 = .ok (.getfield 100, 3) := by decide +kernel
theorem dX6_wetHere_35 : decode cX6_wetHere 35 = .ok (.bipush 16, 2) := by decide +kernel
theorem dX6_wetHere_37 : decode cX6_wetHere 37 = .ok (.if_icmp .ge 7, 3) := by decide +kernel
theorem dX6_wetHere_40 : decode cX6_wetHere 40 = .ok (.iconst 1, 1) := by decide +kernel
theorem dX6_wetHere_41 : decode cX6_wetHere 41 = .ok (.goto 4, 3) := by decide +kernel
theorem dX6_wetHere_44 : decode cX6_wetHere 44 = .ok (.iconst 0, 1) := by decide +kernel
theorem dX6_wetHere_45 : decode cX6_wetHere 45 = .ok (.invokevirtual 121, 3) := by decide +kernel
theorem dX6_wetHere_48 : decode cX6_wetHere 48 = .ok (.aload_n 0, 1) := by decide +kernel
theorem dX6_wetHere_49 : decode cX6_wetHere 49 = .ok (.aload_n 0, 1) := by decide +kernel
theorem dX6_wetHere_50 : decode cX6_wetHere 50 = .ok (.bipush 105, 2) := by decide +kernel
theorem dX6_wetHere_52 : decode cX6_wetHere 52 = .ok (.bipush 115, 2) := by decide +kernel
theorem dX6_wetHere_54 : decode cX6_wetHere 54 = .ok (.invokevirtual 129, 3) := by decide +kernel
theorem dX6_wetHere_57 : decode cX6_wetHere 57 = .ok (.invokevirtual 121, 3) := by decide +kernel
theorem dX6_wetHere_60 : decode cX6_wetHere 60 = .ok (.aload_n 0, 1) := by decide +kernel
theorem dX6_wetHere_61 : decode cX6_wetHere 61 = .ok (.aload_n 0, 1) := by decide +kernel
theorem dX6_wetHere_62 : decode cX6_wetHere 62 = .ok (.getfield 103, 3) := by decide +kernel
theorem dX6_wetHere_65 : decode cX6_wetHere 65 = .ok (.ifCond .eq 7, 3) := by decide +kernel
theorem dX6_wetHere_68 : decode cX6_wetHere 68 = .ok (.iconst 0, 1) := by decide +kernel
theorem dX6_wetHere_69 : decode cX6_wetHere 69 = .ok (.goto 7, 3) := by decide +kernel
theorem dX6_wetHere_72 : decode cX6_wetHere 72 = .ok (.bipush 8, 2) := by decide +kernel
theorem dX6_wetHere_74 : decode cX6_wetHere 74 = .ok (.iload_n 1, 1) := by decide +kernel
theorem dX6_wetHere_75 : decode cX6_wetHere 75 = .ok (.iadd, 1) := by decide +kernel
theorem dX6_wetHere_76 : decode cX6_wetHere 76 = .ok (.iconst 0, 1) := by decide +kernel
theorem dX6_wetHere_77 : decode cX6_wetHere 77 = .ok (.bipush 99, 2) := by decide +kernel
theorem dX6_wetHere_79 : decode cX6_wetHere 79 = .ok (.invokevirtual 125, 3) := by decide +kernel
theorem dX6_wetHere_82 : decode cX6_wetHere 82 = .ok (.return_, 1) := by decide +kernel
theorem dX6_ownHere_0 : decode cX6_ownHere 0 = .ok (.aload_n 0, 1) := by decide +kernel
theorem dX6_ownHere_1 : decode cX6_ownHere 1 = .ok (.bipush 119, 2) := by decide +kernel
theorem dX6_ownHere_3 : decode cX6_ownHere 3 = .ok (.bipush 105, 2) := by decide +kernel
theorem dX6_ownHere_5 : decode cX6_ownHere 5 = .ok (.bipush 110, 2) := by decide +kernel
theorem dX6_ownHere_7 : decode cX6_ownHere 7 = .ok (.bipush 100, 2) := by decide +kernel
theorem dX6_ownHere_9 : decode cX6_ownHere 9 = .ok (.invokevirtual 114, 3) := by decide +kernel
theorem dX6_ownHere_12 : decode cX6_ownHere 12 = .ok (.ifCond .eq 5, 3) := by decide +kernel
theorem dX6_ownHere_15 : decode cX6_ownHere 15 = .ok (.iconst 3, 1) := by decide +kernel
theorem dX6_ownHere_16 : decode cX6_ownHere 16 = .ok (.ireturn, 1) := by decide +kernel
theorem dX6_ownHere_17 : decode cX6_ownHere 17 = .ok (.aload_n 0, 1) := by decide +kernel
theorem dX6_ownHere_18 : decode cX6_ownHere 18 = .ok (.bipush 116, 2) := by decide +kernel
theorem dX6_ownHere_20 : decode cX6_ownHere 20 = .ok (.bipush 117, 2) := by decide +kernel
theorem dX6_ownHere_22 : decode cX6_ownHere 22 = .ok (.bipush 114, 2) := by decide +kernel
theorem dX6_ownHere_24 : decode cX6_ownHere 24 = .ok (.bipush 110, 2) := by decide +kernel
theorem dX6_ownHere_26 : decode cX6_ownHere 26 = .ok (.invokevirtual 114, 3) := by decide +kernel
theorem dX6_ownHere_29 : decode cX6_ownHere 29 = .ok (.ifCond .eq 5, 3) := by decide +kernel
theorem dX6_ownHere_32 : decode cX6_ownHere 32 = .ok (.iconst 4, 1) := by decide +kernel
theorem dX6_ownHere_33 : decode cX6_ownHere 33 = .ok (.ireturn, 1) := by decide +kernel
theorem dX6_ownHere_34 : decode cX6_ownHere 34 = .ok (.aload_n 0, 1) := by decide +kernel
theorem dX6_ownHere_35 : decode cX6_ownHere 35 = .ok (.bipush 100, 2) := by decide +kernel
theorem dX6_ownHere_37 : decode cX6_ownHere 37 = .ok (.bipush 97, 2) := by decide +kernel
theorem dX6_ownHere_39 : decode cX6_ownHere 39 = .ok (.bipush 109, 2) := by decide +kernel
theorem dX6_ownHere_41 : decode cX6_ownHere 41 = .ok (.bipush 112, 2) := by decide +kernel
theorem dX6_ownHere_43 : decode cX6_ownHere 43 = .ok (.invokevirtual 114, 3) := by decide +kernel
theorem dX6_ownHere_46 : decode cX6_ownHere 46 = .ok (.ifCond .eq 5, 3) := by decide +kernel
theorem dX6_ownHere_49 : decode cX6_ownHere 49 = .ok (.iconst 5, 1) := by decide +kernel
theorem dX6_ownHere_50 : decode cX6_ownHere 50 = .ok (.ireturn, 1) := by decide +kernel
theorem dX6_ownHere_51 : decode cX6_ownHere 51 = .ok (.aload_n 0, 1) := by decide +kernel
theorem dX6_ownHere_52 : decode cX6_ownHere 52 = .ok (.iconst 3, 1) := by decide +kernel
theorem dX6_ownHere_53 : decode cX6_ownHere 53 = .ok (.bipush 115, 2) := by decide +kernel
theorem dX6_ownHere_55 : decode cX6_ownHere 55 = .ok (.bipush 104, 2) := by decide +kernel
theorem dX6_ownHere_57 : decode cX6_ownHere 57 = .ok (.bipush 121, 2) := by decide +kernel
theorem dX6_ownHere_59 : decode cX6_ownHere 59 = .ok (.bipush 121, 2) := by decide +kernel
theorem dX6_ownHere_61 : decode cX6_ownHere 61 = .ok (.invokevirtual 110, 3) := by decide +kernel
theorem dX6_ownHere_64 : decode cX6_ownHere 64 = .ok (.ifCond .eq 6, 3) := by decide +kernel
theorem dX6_ownHere_67 : decode cX6_ownHere 67 = .ok (.bipush 6, 2) := by decide +kernel
theorem dX6_ownHere_69 : decode cX6_ownHere 69 = .ok (.ireturn, 1) := by decide +kernel
theorem dX6_ownHere_70 : decode cX6_ownHere 70 = .ok (.aload_n 0, 1) := by decide +kernel
theorem dX6_ownHere_71 : decode cX6_ownHere 71 = .ok (.bipush 103, 2) := by decide +kernel
theorem dX6_ownHere_73 : decode cX6_ownHere 73 = .ok (.bipush 117, 2) := by decide +kernel
theorem dX6_ownHere_75 : decode cX6_ownHere 75 = .ok (.bipush 115, 2) := by decide +kernel
theorem dX6_ownHere_77 : decode cX6_ownHere 77 = .ok (.bipush 116, 2) := by decide +kernel
theorem dX6_ownHere_79 : decode cX6_ownHere 79 = .ok (.invokevirtual 114, 3) := by decide +kernel
theorem dX6_ownHere_82 : decode cX6_ownHere 82 = .ok (.ifCond .eq 8, 3) := by decide +kernel
theorem dX6_ownHere_85 : decode cX6_ownHere 85 = .ok (.bipush 7, 2) := by decide +kernel
theorem dX6_ownHere_87 : decode cX6_ownHere 87 = .ok (.goto 4, 3) := by decide +kernel
theorem dX6_ownHere_90 : decode cX6_ownHere 90 = .ok (.iconst (-1), 1) := by decide +kernel
theorem dX6_ownHere_91 : decode cX6_ownHere 91 = .ok (.ireturn, 1) := by decide +kernel
theorem dX6_itemHere_0 : decode cX6_itemHere 0 = .ok (.aload_n 0, 1) := by decide +kernel
theorem dX6_itemHere_1 : decode cX6_itemHere 1 = .ok (.invokevirtual 144, 3) := by decide +kernel
theorem dX6_itemHere_4 : decode cX6_itemHere 4 = .ok (.istore_n 1, 1) := by decide +kernel
theorem dX6_itemHere_5 : decode cX6_itemHere 5 = .ok (.aload_n 0, 1) := by decide +kernel
theorem dX6_itemHere_6 : decode cX6_itemHere 6 = .ok (.invokevirtual 148, 3) := by decide +kernel
theorem dX6_itemHere_9 : decode cX6_itemHere 9 = .ok (.istore_n 2, 1) := by decide +kernel
theorem dX6_itemHere_10 : decode cX6_itemHere 10 = .ok (.iload_n 1, 1) := by decide +kernel
theorem dX6_itemHere_11 : decode cX6_itemHere 11 = .ok (.ifCond .lt 11, 3) := by decide +kernel
theorem dX6_itemHere_14 : decode cX6_itemHere 14 = .ok (.aload_n 0, 1) := by decide +kernel
theorem dX6_itemHere_15 : decode cX6_itemHere 15 = .ok (.iload_n 1, 1) := by decide +kernel
theorem dX6_itemHere_16 : decode cX6_itemHere 16 = .ok (.invokevirtual 151, 3) := by decide +kernel
theorem dX6_itemHere_19 : decode cX6_itemHere 19 = .ok (.goto 84, 3) := by decide +kernel
theorem dX6_itemHere_22 : decode cX6_itemHere 22 = .ok (.iload_n 2, 1) := by decide +kernel
theorem dX6_itemHere_23 : decode cX6_itemHere 23 = .ok (.ifCond .lt 52, 3) := by decide +kernel
theorem dX6_itemHere_26 : decode cX6_itemHere 26 = .ok (.aload_n 0, 1) := by decide +kernel
theorem dX6_itemHere_27 : decode cX6_itemHere 27 = .ok (.invokevirtual 107, 3) := by decide +kernel
theorem dX6_itemHere_30 : decode cX6_itemHere 30 = .ok (.aload_n 0, 1) := by decide +kernel
theorem dX6_itemHere_31 : decode cX6_itemHere 31 = .ok (.iload_n 2, 1) := by decide +kernel
theorem dX6_itemHere_32 : decode cX6_itemHere 32 = .ok (.iload_n 2, 1) := by decide +kernel
theorem dX6_itemHere_33 : decode cX6_itemHere 33 = .ok (.iconst 4, 1) := by decide +kernel
theorem dX6_itemHere_34 : decode cX6_itemHere 34 = .ok (.if_icmp .ne 7, 3) := by decide +kernel
theorem dX6_itemHere_37 : decode cX6_itemHere 37 = .ok (.iconst 1, 1) := by decide +kernel
theorem dX6_itemHere_38 : decode cX6_itemHere 38 = .ok (.goto 4, 3) := by decide +kernel
theorem dX6_itemHere_41 : decode cX6_itemHere 41 = .ok (.iconst 0, 1) := by decide +kernel
theorem dX6_itemHere_42 : decode cX6_itemHere 42 = .ok (.iload_n 2, 1) := by decide +kernel
theorem dX6_itemHere_43 : decode cX6_itemHere 43 = .ok (.iconst 3, 1) := by decide +kernel
theorem dX6_itemHere_44 : decode cX6_itemHere 44 = .ok (.if_icmp .ne 7, 3) := by decide +kernel
theorem dX6_itemHere_47 : decode cX6_itemHere 47 = .ok (.iconst 3, 1) := by decide +kernel
theorem dX6_itemHere_48 : decode cX6_itemHere 48 = .ok (.goto 21, 3) := by decide +kernel
theorem dX6_itemHere_51 : decode cX6_itemHere 51 = .ok (.iload_n 2, 1) := by decide +kernel
theorem dX6_itemHere_52 : decode cX6_itemHere 52 = .ok (.iconst 5, 1) := by decide +kernel
theorem dX6_itemHere_53 : decode cX6_itemHere 53 = .ok (.if_icmp .eq 9, 3) := by decide +kernel
theorem dX6_itemHere_56 : decode cX6_itemHere 56 = .ok (.iload_n 2, 1) := by decide +kernel
theorem dX6_itemHere_57 : decode cX6_itemHere 57 = .ok (.bipush 7, 2) := by decide +kernel
theorem dX6_itemHere_59 : decode cX6_itemHere 59 = .ok (.if_icmp .ne 8, 3) := by decide +kernel
theorem dX6_itemHere_62 : decode cX6_itemHere 62 = .ok (.bipush 99, 2) := by decide +kernel
theorem dX6_itemHere_64 : decode cX6_itemHere 64 = .ok (.goto 5, 3) := by decide +kernel
theorem dX6_itemHere_67 : decode cX6_itemHere 67 = .ok (.bipush 9, 2) := by decide +kernel
theorem dX6_itemHere_69 : decode cX6_itemHere 69 = .ok (.invokevirtual 125, 3) := by decide +kernel
theorem dX6_itemHere_72 : decode cX6_itemHere 72 = .ok (.goto 31, 3) := by decide +kernel
theorem dX6_itemHere_75 : decode cX6_itemHere 75 = .ok (.aload_n 0, 1) := by decide +kernel
theorem dX6_itemHere_76 : decode cX6_itemHere 76 = .ok (.iconst 3, 1) := by decide +kernel
theorem dX6_itemHere_77 : decode cX6_itemHere 77 = .ok (.bipush 119, 2) := by decide +kernel
theorem dX6_itemHere_79 : decode cX6_itemHere 79 = .ok (.bipush 101, 2) := by decide +kernel
theorem dX6_itemHere_81 : decode cX6_itemHere 81 = .ok (.bipush 116, 2) := by decide +kernel
theorem dX6_itemHere_83 : decode cX6_itemHere 83 = .ok (.bipush 116, 2) := by decide +kernel
theorem dX6_itemHere_85 : decode cX6_itemHere 85 = .ok (.invokevirtual 110, 3) := by decide +kernel
theorem dX6_itemHere_88 : decode cX6_itemHere 88 = .ok (.ifCond .eq 10, 3) := by decide +kernel
theorem dX6_itemHere_91 : decode cX6_itemHere 91 = .ok (.aload_n 0, 1) := by decide +kernel
theorem dX6_itemHere_92 : decode cX6_itemHere 92 = .ok (.invokevirtual 155, 3) := by decide +kernel
theorem dX6_itemHere_95 : decode cX6_itemHere 95 = .ok (.goto 8, 3) := by decide +kernel
theorem dX6_itemHere_98 : decode cX6_itemHere 98 = .ok (.aload_n 0, 1) := by decide +kernel
theorem dX6_itemHere_99 : decode cX6_itemHere 99 = .ok (.iconst 0, 1) := by decide +kernel
theorem dX6_itemHere_100 : decode cX6_itemHere 100 = .ok (.invokevirtual 121, 3) := by decide +kernel
theorem dX6_itemHere_103 : decode cX6_itemHere 103 = .ok (.aload_n 0, 1) := by decide +kernel
theorem dX6_itemHere_104 : decode cX6_itemHere 104 = .ok (.aload_n 0, 1) := by decide +kernel
theorem dX6_itemHere_105 : decode cX6_itemHere 105 = .ok (.getfield 97, 3) := by decide +kernel
theorem dX6_itemHere_108 : decode cX6_itemHere 108 = .ok (.iconst 3, 1) := by decide +kernel
theorem dX6_itemHere_109 : decode cX6_itemHere 109 = .ok (.if_icmp .ne 20, 3) := by decide +kernel
theorem dX6_itemHere_112 : decode cX6_itemHere 112 = .ok (.aload_n 0, 1) := by decide +kernel
theorem dX6_itemHere_113 : decode cX6_itemHere 113 = .ok (.aload_n 0, 1) := by decide +kernel
theorem dX6_itemHere_114 : decode cX6_itemHere 114 = .ok (.getfield 83, 3) := by decide +kernel
theorem dX6_itemHere_117 : decode cX6_itemHere 117 = .ok (.invokevirtual 86, 3) := by decide +kernel
theorem dX6_itemHere_120 : decode cX6_itemHere 120 = .ok (.bipush 59, 2) := by decide +kernel
theorem dX6_itemHere_122 : decode cX6_itemHere 122 = .ok (.if_icmp .ne 7, 3) := by decide +kernel
theorem dX6_itemHere_125 : decode cX6_itemHere 125 = .ok (.iconst 1, 1) := by decide +kernel
theorem dX6_itemHere_126 : decode cX6_itemHere 126 = .ok (.goto 4, 3) := by decide +kernel
theorem dX6_itemHere_129 : decode cX6_itemHere 129 = .ok (.iconst 0, 1) := by decide +kernel
theorem dX6_itemHere_130 : decode cX6_itemHere 130 = .ok (.invokevirtual 121, 3) := by decide +kernel
theorem dX6_itemHere_133 : decode cX6_itemHere 133 = .ok (.return_, 1) := by decide +kernel
theorem dX6_city_0 : decode cX6_city 0 = .ok (.aload_n 0, 1) := by decide +kernel
theorem dX6_city_1 : decode cX6_city 1 = .ok (.getfield 7, 3) := by decide +kernel
theorem dX6_city_4 : decode cX6_city 4 = .ok (.aload_n 0, 1) := by decide +kernel
theorem dX6_city_5 : decode cX6_city 5 = .ok (.getfield 19, 3) := by decide +kernel
theorem dX6_city_8 : decode cX6_city 8 = .ok (.invokestatic 158, 3) := by decide +kernel
theorem dX6_city_11 : decode cX6_city 11 = .ok (.aload_n 0, 1) := by decide +kernel
theorem dX6_city_12 : decode cX6_city 12 = .ok (.invokevirtual 61, 3) := by decide +kernel
theorem dX6_city_15 : decode cX6_city 15 = .ok (.aload_n 0, 1) := by decide +kernel
theorem dX6_city_16 : decode cX6_city 16 = .ok (.iconst 0, 1) := by decide +kernel
theorem dX6_city_17 : decode cX6_city 17 = .ok (.putfield 80, 3) := by decide +kernel
theorem dX6_city_20 : decode cX6_city 20 = .ok (.aload_n 0, 1) := by decide +kernel
theorem dX6_city_21 : decode cX6_city 21 = .ok (.iconst 0, 1) := by decide +kernel
theorem dX6_city_22 : decode cX6_city 22 = .ok (.putfield 103, 3) := by decide +kernel
theorem dX6_city_25 : decode cX6_city 25 = .ok (.aload_n 0, 1) := by decide +kernel
theorem dX6_city_26 : decode cX6_city 26 = .ok (.invokevirtual 107, 3) := by decide +kernel
theorem dX6_city_29 : decode cX6_city 29 = .ok (.aload_n 0, 1) := by decide +kernel
theorem dX6_city_30 : decode cX6_city 30 = .ok (.getfield 103, 3) := by decide +kernel
theorem dX6_city_33 : decode cX6_city 33 = .ok (.ifCond .ne 17, 3) := by decide +kernel
theorem dX6_city_36 : decode cX6_city 36 = .ok (.aload_n 0, 1) := by decide +kernel
theorem dX6_city_37 : decode cX6_city 37 = .ok (.getfield 97, 3) := by decide +kernel
theorem dX6_city_40 : decode cX6_city 40 = .ok (.ifCond .eq 10, 3) := by decide +kernel
theorem dX6_city_43 : decode cX6_city 43 = .ok (.aload_n 0, 1) := by decide +kernel
theorem dX6_city_44 : decode cX6_city 44 = .ok (.invokevirtual 162, 3) := by decide +kernel
theorem dX6_city_47 : decode cX6_city 47 = .ok (.goto (-18), 3) := by decide +kernel
theorem dX6_city_50 : decode cX6_city 50 = .ok (.aload_n 0, 1) := by decide +kernel
theorem dX6_city_51 : decode cX6_city 51 = .ok (.iconst 0, 1) := by decide +kernel
theorem dX6_city_52 : decode cX6_city 52 = .ok (.putfield 74, 3) := by decide +kernel
theorem dX6_city_55 : decode cX6_city 55 = .ok (.aload_n 0, 1) := by decide +kernel
theorem dX6_city_56 : decode cX6_city 56 = .ok (.getfield 103, 3) := by decide +kernel
theorem dX6_city_59 : decode cX6_city 59 = .ok (.ifCond .eq 22, 3) := by decide +kernel
theorem dX6_city_62 : decode cX6_city 62 = .ok (.aload_n 0, 1) := by decide +kernel
theorem dX6_city_63 : decode cX6_city 63 = .ok (.getfield 19, 3) := by decide +kernel
theorem dX6_city_66 : decode cX6_city 66 = .ok (.aload_n 0, 1) := by decide +kernel
theorem dX6_city_67 : decode cX6_city 67 = .ok (.getfield 7, 3) := by decide +kernel
theorem dX6_city_70 : decode cX6_city 70 = .ok (.invokestatic 158, 3) := by decide +kernel
theorem dX6_city_73 : decode cX6_city 73 = .ok (.bipush (-100), 2) := by decide +kernel
theorem dX6_city_75 : decode cX6_city 75 = .ok (.aload_n 0, 1) := by decide +kernel
theorem dX6_city_76 : decode cX6_city 76 = .ok (.getfield 83, 3) := by decide +kernel
theorem dX6_city_79 : decode cX6_city 79 = .ok (.isub, 1) := by decide +kernel
theorem dX6_city_80 : decode cX6_city 80 = .ok (.ireturn, 1) := by decide +kernel
theorem dX6_city_81 : decode cX6_city 81 = .ok (.aload_n 0, 1) := by decide +kernel
theorem dX6_city_82 : decode cX6_city 82 = .ok (.iconst 0, 1) := by decide +kernel
theorem dX6_city_83 : decode cX6_city 83 = .ok (.putfield 165, 3) := by decide +kernel
theorem dX6_city_86 : decode cX6_city 86 = .ok (.aload_n 0, 1) := by decide +kernel
theorem dX6_city_87 : decode cX6_city 87 = .ok (.getfield 7, 3) := by decide +kernel
theorem dX6_city_90 : decode cX6_city 90 = .ok (.iconst 0, 1) := by decide +kernel
theorem dX6_city_91 : decode cX6_city 91 = .ok (.iaload, 1) := by decide +kernel
theorem dX6_city_92 : decode cX6_city 92 = .ok (.ireturn, 1) := by decide +kernel
theorem dX6_set_0 : decode cX6_set 0 = .ok (.iload_n 1, 1) := by decide +kernel
theorem dX6_set_1 : decode cX6_set 1 = .ok (.i2l, 1) := by decide +kernel
theorem dX6_set_2 : decode cX6_set 2 = .ok (.lconst 0, 1) := by decide +kernel
theorem dX6_set_3 : decode cX6_set 3 = .ok (.ldc2_w 168, 3) := by decide +kernel
theorem dX6_set_6 : decode cX6_set 6 = .ok (.invokestatic 70, 3) := by decide +kernel
theorem dX6_set_9 : decode cX6_set 9 = .ok (.ifCond .eq 43, 3) := by decide +kernel
theorem dX6_set_12 : decode cX6_set 12 = .ok (.iload_n 2, 1) := by decide +kernel
theorem dX6_set_13 : decode cX6_set 13 = .ok (.i2l, 1) := by decide +kernel
theorem dX6_set_14 : decode cX6_set 14 = .ok (.iload_n 1, 1) := by decide +kernel
theorem dX6_set_15 : decode cX6_set 15 = .ok (.ifCond .ne 7, 3) := by decide +kernel
theorem dX6_set_18 : decode cX6_set 18 = .ok (.lconst 1, 1) := by decide +kernel
theorem dX6_set_19 : decode cX6_set 19 = .ok (.goto 4, 3) := by decide +kernel
theorem dX6_set_22 : decode cX6_set 22 = .ok (.lconst 0, 1) := by decide +kernel
theorem dX6_set_23 : decode cX6_set 23 = .ok (.iload_n 1, 1) := by decide +kernel
theorem dX6_set_24 : decode cX6_set 24 = .ok (.iconst 1, 1) := by decide +kernel
theorem dX6_set_25 : decode cX6_set 25 = .ok (.if_icmp .eq 8, 3) := by decide +kernel
theorem dX6_set_28 : decode cX6_set 28 = .ok (.iload_n 1, 1) := by decide +kernel
theorem dX6_set_29 : decode cX6_set 29 = .ok (.iconst 3, 1) := by decide +kernel
theorem dX6_set_30 : decode cX6_set 30 = .ok (.if_icmp .ne 9, 3) := by decide +kernel
theorem dX6_set_33 : decode cX6_set 33 = .ok (.ldc2_w 170, 3) := by decide +kernel
theorem dX6_set_36 : decode cX6_set 36 = .ok (.goto 6, 3) := by decide +kernel
theorem dX6_set_39 : decode cX6_set 39 = .ok (.ldc2_w 172, 3) := by decide +kernel
theorem dX6_set_42 : decode cX6_set 42 = .ok (.invokestatic 70, 3) := by decide +kernel
theorem dX6_set_45 : decode cX6_set 45 = .ok (.ifCond .eq 7, 3) := by decide +kernel
theorem dX6_set_48 : decode cX6_set 48 = .ok (.iconst 1, 1) := by decide +kernel
theorem dX6_set_49 : decode cX6_set 49 = .ok (.goto 4, 3) := by decide +kernel
theorem dX6_set_52 : decode cX6_set 52 = .ok (.iconst 0, 1) := by decide +kernel
theorem dX6_set_53 : decode cX6_set 53 = .ok (.istore_n 3, 1) := by decide +kernel
theorem dX6_set_54 : decode cX6_set 54 = .ok (.iload_n 3, 1) := by decide +kernel
theorem dX6_set_55 : decode cX6_set 55 = .ok (.ifCond .eq 14, 3) := by decide +kernel
theorem dX6_set_58 : decode cX6_set 58 = .ok (.aload_n 0, 1) := by decide +kernel
theorem dX6_set_59 : decode cX6_set 59 = .ok (.iconst 4, 1) := by decide +kernel
theorem dX6_set_60 : decode cX6_set 60 = .ok (.iload_n 1, 1) := by decide +kernel
theorem dX6_set_61 : decode cX6_set 61 = .ok (.iadd, 1) := by decide +kernel
theorem dX6_set_62 : decode cX6_set 62 = .ok (.iload_n 2, 1) := by decide +kernel
theorem dX6_set_63 : decode cX6_set 63 = .ok (.invokevirtual 174, 3) := by decide +kernel
theorem dX6_set_66 : decode cX6_set 66 = .ok (.goto 4, 3) := by decide +kernel
theorem dX6_set_69 : decode cX6_set 69 = .ok (.iconst (-1), 1) := by decide +kernel
theorem dX6_set_70 : decode cX6_set 70 = .ok (.ireturn, 1) := by decide +kernel
theorem dX6_lawOf_0 : decode cX6_lawOf 0 = .ok (.iload_n 1, 1) := by decide +kernel
theorem dX6_lawOf_1 : decode cX6_lawOf 1 = .ok (.i2l, 1) := by decide +kernel
theorem dX6_lawOf_2 : decode cX6_lawOf 2 = .ok (.lconst 0, 1) := by decide +kernel
theorem dX6_lawOf_3 : decode cX6_lawOf 3 = .ok (.ldc2_w 168, 3) := by decide +kernel
theorem dX6_lawOf_6 : decode cX6_lawOf 6 = .ok (.invokestatic 70, 3) := by decide +kernel
theorem dX6_lawOf_9 : decode cX6_lawOf 9 = .ok (.ifCond .eq 14, 3) := by decide +kernel
theorem dX6_lawOf_12 : decode cX6_lawOf 12 = .ok (.aload_n 0, 1) := by decide +kernel
theorem dX6_lawOf_13 : decode cX6_lawOf 13 = .ok (.getfield 7, 3) := by decide +kernel
theorem dX6_lawOf_16 : decode cX6_lawOf 16 = .ok (.iconst 4, 1) := by decide +kernel
theorem dX6_lawOf_17 : decode cX6_lawOf 17 = .ok (.iload_n 1, 1) := by decide +kernel
theorem dX6_lawOf_18 : decode cX6_lawOf 18 = .ok (.iadd, 1) := by decide +kernel
theorem dX6_lawOf_19 : decode cX6_lawOf 19 = .ok (.iaload, 1) := by decide +kernel
theorem dX6_lawOf_20 : decode cX6_lawOf 20 = .ok (.goto 4, 3) := by decide +kernel
theorem dX6_lawOf_23 : decode cX6_lawOf 23 = .ok (.iconst (-1), 1) := by decide +kernel
theorem dX6_lawOf_24 : decode cX6_lawOf 24 = .ok (.ireturn, 1) := by decide +kernel
theorem dX6_comes_0 : decode cX6_comes 0 = .ok (.bipush 24, 2) := by decide +kernel
theorem dX6_comes_2 : decode cX6_comes 2 = .ok (.iconst 4, 1) := by decide +kernel
theorem dX6_comes_3 : decode cX6_comes 3 = .ok (.aload_n 0, 1) := by decide +kernel
theorem dX6_comes_4 : decode cX6_comes 4 = .ok (.getfield 7, 3) := by decide +kernel
theorem dX6_comes_7 : decode cX6_comes 7 = .ok (.iconst 0, 1) := by decide +kernel
theorem dX6_comes_8 : decode cX6_comes 8 = .ok (.iaload, 1) := by decide +kernel
theorem dX6_comes_9 : decode cX6_comes 9 = .ok (.imul, 1) := by decide +kernel
theorem dX6_comes_10 : decode cX6_comes 10 = .ok (.iadd, 1) := by decide +kernel
theorem dX6_comes_11 : decode cX6_comes 11 = .ok (.istore 5, 2) := by decide +kernel
theorem dX6_comes_13 : decode cX6_comes 13 = .ok (.aload_n 0, 1) := by decide +kernel
theorem dX6_comes_14 : decode cX6_comes 14 = .ok (.getfield 7, 3) := by decide +kernel
theorem dX6_comes_17 : decode cX6_comes 17 = .ok (.iload 5, 2) := by decide +kernel
theorem dX6_comes_19 : decode cX6_comes 19 = .ok (.iload_n 1, 1) := by decide +kernel
theorem dX6_comes_20 : decode cX6_comes 20 = .ok (.iastore, 1) := by decide +kernel
theorem dX6_comes_21 : decode cX6_comes 21 = .ok (.aload_n 0, 1) := by decide +kernel
theorem dX6_comes_22 : decode cX6_comes 22 = .ok (.getfield 7, 3) := by decide +kernel
theorem dX6_comes_25 : decode cX6_comes 25 = .ok (.iload 5, 2) := by decide +kernel
theorem dX6_comes_27 : decode cX6_comes 27 = .ok (.iconst 1, 1) := by decide +kernel
theorem dX6_comes_28 : decode cX6_comes 28 = .ok (.iadd, 1) := by decide +kernel
theorem dX6_comes_29 : decode cX6_comes 29 = .ok (.iload_n 2, 1) := by decide +kernel
theorem dX6_comes_30 : decode cX6_comes 30 = .ok (.iastore, 1) := by decide +kernel
theorem dX6_comes_31 : decode cX6_comes 31 = .ok (.aload_n 0, 1) := by decide +kernel
theorem dX6_comes_32 : decode cX6_comes 32 = .ok (.getfield 7, 3) := by decide +kernel
theorem dX6_comes_35 : decode cX6_comes 35 = .ok (.iload 5, 2) := by decide +kernel
theorem dX6_comes_37 : decode cX6_comes 37 = .ok (.iconst 2, 1) := by decide +kernel
theorem dX6_comes_38 : decode cX6_comes 38 = .ok (.iadd, 1) := by decide +kernel
theorem dX6_comes_39 : decode cX6_comes 39 = .ok (.iload_n 3, 1) := by decide +kernel
theorem dX6_comes_40 : decode cX6_comes 40 = .ok (.iastore, 1) := by decide +kernel
theorem dX6_comes_41 : decode cX6_comes 41 = .ok (.aload_n 0, 1) := by decide +kernel
theorem dX6_comes_42 : decode cX6_comes 42 = .ok (.getfield 7, 3) := by decide +kernel
theorem dX6_comes_45 : decode cX6_comes 45 = .ok (.iload 5, 2) := by decide +kernel
theorem dX6_comes_47 : decode cX6_comes 47 = .ok (.iconst 3, 1) := by decide +kernel
theorem dX6_comes_48 : decode cX6_comes 48 = .ok (.iadd, 1) := by decide +kernel
theorem dX6_comes_49 : decode cX6_comes 49 = .ok (.iload 4, 2) := by decide +kernel
theorem dX6_comes_51 : decode cX6_comes 51 = .ok (.iastore, 1) := by decide +kernel
theorem dX6_comes_52 : decode cX6_comes 52 = .ok (.aload_n 0, 1) := by decide +kernel
theorem dX6_comes_53 : decode cX6_comes 53 = .ok (.getfield 7, 3) := by decide +kernel
theorem dX6_comes_56 : decode cX6_comes 56 = .ok (.iconst 0, 1) := by decide +kernel
theorem dX6_comes_57 : decode cX6_comes 57 = .ok (.dup2, 1) := by decide +kernel
theorem dX6_comes_58 : decode cX6_comes 58 = .ok (.iaload, 1) := by decide +kernel
theorem dX6_comes_59 : decode cX6_comes 59 = .ok (.iconst 1, 1) := by decide +kernel
theorem dX6_comes_60 : decode cX6_comes 60 = .ok (.iadd, 1) := by decide +kernel
theorem dX6_comes_61 : decode cX6_comes 61 = .ok (.iastore, 1) := by decide +kernel
theorem dX6_comes_62 : decode cX6_comes 62 = .ok (.return_, 1) := by decide +kernel
theorem dX6_air_0 : decode cX6_air 0 = .ok (.iload_n 1, 1) := by decide +kernel
theorem dX6_air_1 : decode cX6_air 1 = .ok (.i2l, 1) := by decide +kernel
theorem dX6_air_2 : decode cX6_air 2 = .ok (.lconst 0, 1) := by decide +kernel
theorem dX6_air_3 : decode cX6_air 3 = .ok (.ldc2_w 177, 3) := by decide +kernel
theorem dX6_air_6 : decode cX6_air 6 = .ok (.invokestatic 70, 3) := by decide +kernel
theorem dX6_air_9 : decode cX6_air 9 = .ok (.ifCond .eq 30, 3) := by decide +kernel
theorem dX6_air_12 : decode cX6_air 12 = .ok (.iload_n 2, 1) := by decide +kernel
theorem dX6_air_13 : decode cX6_air 13 = .ok (.i2l, 1) := by decide +kernel
theorem dX6_air_14 : decode cX6_air 14 = .ok (.lconst 0, 1) := by decide +kernel
theorem dX6_air_15 : decode cX6_air 15 = .ok (.ldc2_w 172, 3) := by decide +kernel
theorem dX6_air_18 : decode cX6_air 18 = .ok (.invokestatic 70, 3) := by decide +kernel
theorem dX6_air_21 : decode cX6_air 21 = .ok (.ifCond .eq 18, 3) := by decide +kernel
theorem dX6_air_24 : decode cX6_air 24 = .ok (.iload_n 3, 1) := by decide +kernel
theorem dX6_air_25 : decode cX6_air 25 = .ok (.invokestatic 179, 3) := by decide +kernel
theorem dX6_air_28 : decode cX6_air 28 = .ok (.ifCond .eq 11, 3) := by decide +kernel
theorem dX6_air_31 : decode cX6_air 31 = .ok (.iload 4, 2) := by decide +kernel
theorem dX6_air_33 : decode cX6_air 33 = .ok (.invokestatic 179, 3) := by decide +kernel
theorem dX6_air_36 : decode cX6_air 36 = .ok (.ifCond .ne 5, 3) := by decide +kernel
theorem dX6_air_39 : decode cX6_air 39 = .ok (.iconst (-1), 1) := by decide +kernel
theorem dX6_air_40 : decode cX6_air 40 = .ok (.ireturn, 1) := by decide +kernel
theorem dX6_air_41 : decode cX6_air 41 = .ok (.aload_n 0, 1) := by decide +kernel
theorem dX6_air_42 : decode cX6_air 42 = .ok (.getfield 7, 3) := by decide +kernel
theorem dX6_air_45 : decode cX6_air 45 = .ok (.iconst 0, 1) := by decide +kernel
theorem dX6_air_46 : decode cX6_air 46 = .ok (.iaload, 1) := by decide +kernel
theorem dX6_air_47 : decode cX6_air 47 = .ok (.bipush 8, 2) := by decide +kernel
theorem dX6_air_49 : decode cX6_air 49 = .ok (.if_icmp .ne 6, 3) := by decide +kernel
theorem dX6_air_52 : decode cX6_air 52 = .ok (.bipush (-2), 2) := by decide +kernel
theorem dX6_air_54 : decode cX6_air 54 = .ok (.ireturn, 1) := by decide +kernel
theorem dX6_air_55 : decode cX6_air 55 = .ok (.aload_n 0, 1) := by decide +kernel
theorem dX6_air_56 : decode cX6_air 56 = .ok (.iload_n 1, 1) := by decide +kernel
theorem dX6_air_57 : decode cX6_air 57 = .ok (.iload_n 2, 1) := by decide +kernel
theorem dX6_air_58 : decode cX6_air 58 = .ok (.iload_n 3, 1) := by decide +kernel
theorem dX6_air_59 : decode cX6_air 59 = .ok (.iload 4, 2) := by decide +kernel
theorem dX6_air_61 : decode cX6_air 61 = .ok (.invokevirtual 133, 3) := by decide +kernel
theorem dX6_air_64 : decode cX6_air 64 = .ok (.aload_n 0, 1) := by decide +kernel
theorem dX6_air_65 : decode cX6_air 65 = .ok (.getfield 7, 3) := by decide +kernel
theorem dX6_air_68 : decode cX6_air 68 = .ok (.iconst 0, 1) := by decide +kernel
theorem dX6_air_69 : decode cX6_air 69 = .ok (.iaload, 1) := by decide +kernel
theorem dX6_air_70 : decode cX6_air 70 = .ok (.iconst 1, 1) := by decide +kernel
theorem dX6_air_71 : decode cX6_air 71 = .ok (.isub, 1) := by decide +kernel
theorem dX6_air_72 : decode cX6_air 72 = .ok (.ireturn, 1) := by decide +kernel
theorem dX6_nextBy_0 : decode cX6_nextBy 0 = .ok (.iload_n 0, 1) := by decide +kernel
theorem dX6_nextBy_1 : decode cX6_nextBy 1 = .ok (.iconst 4, 1) := by decide +kernel
theorem dX6_nextBy_2 : decode cX6_nextBy 2 = .ok (.irem, 1) := by decide +kernel
theorem dX6_nextBy_3 : decode cX6_nextBy 3 = .ok (.istore_n 2, 1) := by decide +kernel
theorem dX6_nextBy_4 : decode cX6_nextBy 4 = .ok (.iload_n 0, 1) := by decide +kernel
theorem dX6_nextBy_5 : decode cX6_nextBy 5 = .ok (.iconst 4, 1) := by decide +kernel
theorem dX6_nextBy_6 : decode cX6_nextBy 6 = .ok (.idiv, 1) := by decide +kernel
theorem dX6_nextBy_7 : decode cX6_nextBy 7 = .ok (.istore_n 3, 1) := by decide +kernel
theorem dX6_nextBy_8 : decode cX6_nextBy 8 = .ok (.iload_n 1, 1) := by decide +kernel
theorem dX6_nextBy_9 : decode cX6_nextBy 9 = .ok (.tableswitch 65 0 2 #[27, 40, 53], 27) := by decide +kernel
theorem dX6_nextBy_36 : decode cX6_nextBy 36 = .ok (.iload_n 2, 1) := by decide +kernel
theorem dX6_nextBy_37 : decode cX6_nextBy 37 = .ok (.iconst 3, 1) := by decide +kernel
theorem dX6_nextBy_38 : decode cX6_nextBy 38 = .ok (.if_icmp .ge 9, 3) := by decide +kernel
theorem dX6_nextBy_41 : decode cX6_nextBy 41 = .ok (.iload_n 0, 1) := by decide +kernel
theorem dX6_nextBy_42 : decode cX6_nextBy 42 = .ok (.iconst 1, 1) := by decide +kernel
theorem dX6_nextBy_43 : decode cX6_nextBy 43 = .ok (.iadd, 1) := by decide +kernel
theorem dX6_nextBy_44 : decode cX6_nextBy 44 = .ok (.goto 4, 3) := by decide +kernel
theorem dX6_nextBy_47 : decode cX6_nextBy 47 = .ok (.iconst (-1), 1) := by decide +kernel
theorem dX6_nextBy_48 : decode cX6_nextBy 48 = .ok (.ireturn, 1) := by decide +kernel
theorem dX6_nextBy_49 : decode cX6_nextBy 49 = .ok (.iload_n 3, 1) := by decide +kernel
theorem dX6_nextBy_50 : decode cX6_nextBy 50 = .ok (.iconst 3, 1) := by decide +kernel
theorem dX6_nextBy_51 : decode cX6_nextBy 51 = .ok (.if_icmp .ge 9, 3) := by decide +kernel
theorem dX6_nextBy_54 : decode cX6_nextBy 54 = .ok (.iload_n 0, 1) := by decide +kernel
theorem dX6_nextBy_55 : decode cX6_nextBy 55 = .ok (.iconst 4, 1) := by decide +kernel
theorem dX6_nextBy_56 : decode cX6_nextBy 56 = .ok (.iadd, 1) := by decide +kernel
theorem dX6_nextBy_57 : decode cX6_nextBy 57 = .ok (.goto 4, 3) := by decide +kernel
theorem dX6_nextBy_60 : decode cX6_nextBy 60 = .ok (.iconst (-1), 1) := by decide +kernel
theorem dX6_nextBy_61 : decode cX6_nextBy 61 = .ok (.ireturn, 1) := by decide +kernel
theorem dX6_nextBy_62 : decode cX6_nextBy 62 = .ok (.iload_n 2, 1) := by decide +kernel
theorem dX6_nextBy_63 : decode cX6_nextBy 63 = .ok (.ifCond .le 9, 3) := by decide +kernel
theorem dX6_nextBy_66 : decode cX6_nextBy 66 = .ok (.iload_n 0, 1) := by decide +kernel
theorem dX6_nextBy_67 : decode cX6_nextBy 67 = .ok (.iconst 1, 1) := by decide +kernel
theorem dX6_nextBy_68 : decode cX6_nextBy 68 = .ok (.isub, 1) := by decide +kernel
theorem dX6_nextBy_69 : decode cX6_nextBy 69 = .ok (.goto 4, 3) := by decide +kernel
theorem dX6_nextBy_72 : decode cX6_nextBy 72 = .ok (.iconst (-1), 1) := by decide +kernel
theorem dX6_nextBy_73 : decode cX6_nextBy 73 = .ok (.ireturn, 1) := by decide +kernel
theorem dX6_nextBy_74 : decode cX6_nextBy 74 = .ok (.iload_n 3, 1) := by decide +kernel
theorem dX6_nextBy_75 : decode cX6_nextBy 75 = .ok (.ifCond .le 9, 3) := by decide +kernel
theorem dX6_nextBy_78 : decode cX6_nextBy 78 = .ok (.iload_n 0, 1) := by decide +kernel
theorem dX6_nextBy_79 : decode cX6_nextBy 79 = .ok (.iconst 4, 1) := by decide +kernel
theorem dX6_nextBy_80 : decode cX6_nextBy 80 = .ok (.isub, 1) := by decide +kernel
theorem dX6_nextBy_81 : decode cX6_nextBy 81 = .ok (.goto 4, 3) := by decide +kernel
theorem dX6_nextBy_84 : decode cX6_nextBy 84 = .ok (.iconst (-1), 1) := by decide +kernel
theorem dX6_nextBy_85 : decode cX6_nextBy 85 = .ok (.ireturn, 1) := by decide +kernel
theorem dX6_towards_0 : decode cX6_towards 0 = .ok (.aload_n 0, 1) := by decide +kernel
theorem dX6_towards_1 : decode cX6_towards 1 = .ok (.iload_n 1, 1) := by decide +kernel
theorem dX6_towards_2 : decode cX6_towards 2 = .ok (.iconst 3, 1) := by decide +kernel
theorem dX6_towards_3 : decode cX6_towards 3 = .ok (.invokevirtual 182, 3) := by decide +kernel
theorem dX6_towards_6 : decode cX6_towards 6 = .ok (.iconst 4, 1) := by decide +kernel
theorem dX6_towards_7 : decode cX6_towards 7 = .ok (.irem, 1) := by decide +kernel
theorem dX6_towards_8 : decode cX6_towards 8 = .ok (.istore_n 2, 1) := by decide +kernel
theorem dX6_towards_9 : decode cX6_towards 9 = .ok (.aload_n 0, 1) := by decide +kernel
theorem dX6_towards_10 : decode cX6_towards 10 = .ok (.iload_n 1, 1) := by decide +kernel
theorem dX6_towards_11 : decode cX6_towards 11 = .ok (.iconst 3, 1) := by decide +kernel
theorem dX6_towards_12 : decode cX6_towards 12 = .ok (.invokevirtual 182, 3) := by decide +kernel
theorem dX6_towards_15 : decode cX6_towards 15 = .ok (.iconst 4, 1) := by decide +kernel
theorem dX6_towards_16 : decode cX6_towards 16 = .ok (.idiv, 1) := by decide +kernel
theorem dX6_towards_17 : decode cX6_towards 17 = .ok (.istore_n 3, 1) := by decide +kernel
theorem dX6_towards_18 : decode cX6_towards 18 = .ok (.aload_n 0, 1) := by decide +kernel
theorem dX6_towards_19 : decode cX6_towards 19 = .ok (.iload_n 1, 1) := by decide +kernel
theorem dX6_towards_20 : decode cX6_towards 20 = .ok (.iconst 2, 1) := by decide +kernel
theorem dX6_towards_21 : decode cX6_towards 21 = .ok (.invokevirtual 182, 3) := by decide +kernel
theorem dX6_towards_24 : decode cX6_towards 24 = .ok (.iconst 4, 1) := by decide +kernel
theorem dX6_towards_25 : decode cX6_towards 25 = .ok (.irem, 1) := by decide +kernel
theorem dX6_towards_26 : decode cX6_towards 26 = .ok (.istore 4, 2) := by decide +kernel
theorem dX6_towards_28 : decode cX6_towards 28 = .ok (.aload_n 0, 1) := by decide +kernel
theorem dX6_towards_29 : decode cX6_towards 29 = .ok (.iload_n 1, 1) := by decide +kernel
theorem dX6_towards_30 : decode cX6_towards 30 = .ok (.iconst 2, 1) := by decide +kernel
theorem dX6_towards_31 : decode cX6_towards 31 = .ok (.invokevirtual 182, 3) := by decide +kernel
theorem dX6_towards_34 : decode cX6_towards 34 = .ok (.iconst 4, 1) := by decide +kernel
theorem dX6_towards_35 : decode cX6_towards 35 = .ok (.idiv, 1) := by decide +kernel
theorem dX6_towards_36 : decode cX6_towards 36 = .ok (.istore 5, 2) := by decide +kernel
theorem dX6_towards_38 : decode cX6_towards 38 = .ok (.iload_n 2, 1) := by decide +kernel
theorem dX6_towards_39 : decode cX6_towards 39 = .ok (.iload 4, 2) := by decide +kernel
theorem dX6_towards_41 : decode cX6_towards 41 = .ok (.if_icmp .eq 15, 3) := by decide +kernel
theorem dX6_towards_44 : decode cX6_towards 44 = .ok (.iload_n 2, 1) := by decide +kernel
theorem dX6_towards_45 : decode cX6_towards 45 = .ok (.iload 4, 2) := by decide +kernel
theorem dX6_towards_47 : decode cX6_towards 47 = .ok (.if_icmp .ge 7, 3) := by decide +kernel
theorem dX6_towards_50 : decode cX6_towards 50 = .ok (.iconst 0, 1) := by decide +kernel
theorem dX6_towards_51 : decode cX6_towards 51 = .ok (.goto 4, 3) := by decide +kernel
theorem dX6_towards_54 : decode cX6_towards 54 = .ok (.iconst 2, 1) := by decide +kernel
theorem dX6_towards_55 : decode cX6_towards 55 = .ok (.ireturn, 1) := by decide +kernel
theorem dX6_towards_56 : decode cX6_towards 56 = .ok (.iload_n 3, 1) := by decide +kernel
theorem dX6_towards_57 : decode cX6_towards 57 = .ok (.iload 5, 2) := by decide +kernel
theorem dX6_towards_59 : decode cX6_towards 59 = .ok (.if_icmp .ne 7, 3) := by decide +kernel
theorem dX6_towards_62 : decode cX6_towards 62 = .ok (.iconst 4, 1) := by decide +kernel
theorem dX6_towards_63 : decode cX6_towards 63 = .ok (.goto 14, 3) := by decide +kernel
theorem dX6_towards_66 : decode cX6_towards 66 = .ok (.iload_n 3, 1) := by decide +kernel
theorem dX6_towards_67 : decode cX6_towards 67 = .ok (.iload 5, 2) := by decide +kernel
theorem dX6_towards_69 : decode cX6_towards 69 = .ok (.if_icmp .ge 7, 3) := by decide +kernel
theorem dX6_towards_72 : decode cX6_towards 72 = .ok (.iconst 1, 1) := by decide +kernel
theorem dX6_towards_73 : decode cX6_towards 73 = .ok (.goto 4, 3) := by decide +kernel
theorem dX6_towards_76 : decode cX6_towards 76 = .ok (.iconst 3, 1) := by decide +kernel
theorem dX6_towards_77 : decode cX6_towards 77 = .ok (.ireturn, 1) := by decide +kernel
theorem dX6_wayOf_0 : decode cX6_wayOf 0 = .ok (.iconst 4, 1) := by decide +kernel
theorem dX6_wayOf_1 : decode cX6_wayOf 1 = .ok (.istore_n 2, 1) := by decide +kernel
theorem dX6_wayOf_2 : decode cX6_wayOf 2 = .ok (.aload_n 0, 1) := by decide +kernel
theorem dX6_wayOf_3 : decode cX6_wayOf 3 = .ok (.iload_n 1, 1) := by decide +kernel
theorem dX6_wayOf_4 : decode cX6_wayOf 4 = .ok (.iconst 0, 1) := by decide +kernel
theorem dX6_wayOf_5 : decode cX6_wayOf 5 = .ok (.invokevirtual 182, 3) := by decide +kernel
theorem dX6_wayOf_8 : decode cX6_wayOf 8 = .ok (.tableswitch 132 1 5 #[36, 66, 91, 100, 129], 36) := by decide +kernel
theorem dX6_wayOf_44 : decode cX6_wayOf 44 = .ok (.aload_n 0, 1) := by decide +kernel
theorem dX6_wayOf_45 : decode cX6_wayOf 45 = .ok (.iload_n 1, 1) := by decide +kernel
theorem dX6_wayOf_46 : decode cX6_wayOf 46 = .ok (.iconst 1, 1) := by decide +kernel
theorem dX6_wayOf_47 : decode cX6_wayOf 47 = .ok (.invokevirtual 182, 3) := by decide +kernel
theorem dX6_wayOf_50 : decode cX6_wayOf 50 = .ok (.aload_n 0, 1) := by decide +kernel
theorem dX6_wayOf_51 : decode cX6_wayOf 51 = .ok (.getfield 7, 3) := by decide +kernel
theorem dX6_wayOf_54 : decode cX6_wayOf 54 = .ok (.bipush 6, 2) := by decide +kernel
theorem dX6_wayOf_56 : decode cX6_wayOf 56 = .ok (.iaload, 1) := by decide +kernel
theorem dX6_wayOf_57 : decode cX6_wayOf 57 = .ok (.if_icmp .ge 7, 3) := by decide +kernel
theorem dX6_wayOf_60 : decode cX6_wayOf 60 = .ok (.iconst 4, 1) := by decide +kernel
theorem dX6_wayOf_61 : decode cX6_wayOf 61 = .ok (.goto 9, 3) := by decide +kernel
theorem dX6_wayOf_64 : decode cX6_wayOf 64 = .ok (.aload_n 0, 1) := by decide +kernel
theorem dX6_wayOf_65 : decode cX6_wayOf 65 = .ok (.getfield 7, 3) := by decide +kernel
theorem dX6_wayOf_68 : decode cX6_wayOf 68 = .ok (.iconst 3, 1) := by decide +kernel
theorem dX6_wayOf_69 : decode cX6_wayOf 69 = .ok (.iaload, 1) := by decide +kernel
theorem dX6_wayOf_70 : decode cX6_wayOf 70 = .ok (.istore_n 2, 1) := by decide +kernel
theorem dX6_wayOf_71 : decode cX6_wayOf 71 = .ok (.goto 76, 3) := by decide +kernel
theorem dX6_wayOf_74 : decode cX6_wayOf 74 = .ok (.aload_n 0, 1) := by decide +kernel
theorem dX6_wayOf_75 : decode cX6_wayOf 75 = .ok (.getfield 7, 3) := by decide +kernel
theorem dX6_wayOf_78 : decode cX6_wayOf 78 = .ok (.iconst 1, 1) := by decide +kernel
theorem dX6_wayOf_79 : decode cX6_wayOf 79 = .ok (.iaload, 1) := by decide +kernel
theorem dX6_wayOf_80 : decode cX6_wayOf 80 = .ok (.iconst 2, 1) := by decide +kernel
theorem dX6_wayOf_81 : decode cX6_wayOf 81 = .ok (.irem, 1) := by decide +kernel
theorem dX6_wayOf_82 : decode cX6_wayOf 82 = .ok (.ifCond .ne 12, 3) := by decide +kernel
theorem dX6_wayOf_85 : decode cX6_wayOf 85 = .ok (.aload_n 0, 1) := by decide +kernel
theorem dX6_wayOf_86 : decode cX6_wayOf 86 = .ok (.getfield 7, 3) := by decide +kernel
theorem dX6_wayOf_89 : decode cX6_wayOf 89 = .ok (.iconst 3, 1) := by decide +kernel
theorem dX6_wayOf_90 : decode cX6_wayOf 90 = .ok (.iaload, 1) := by decide +kernel
theorem dX6_wayOf_91 : decode cX6_wayOf 91 = .ok (.goto 4, 3) := by decide +kernel
theorem dX6_wayOf_94 : decode cX6_wayOf 94 = .ok (.iconst 4, 1) := by decide +kernel
theorem dX6_wayOf_95 : decode cX6_wayOf 95 = .ok (.istore_n 2, 1) := by decide +kernel
theorem dX6_wayOf_96 : decode cX6_wayOf 96 = .ok (.goto 51, 3) := by decide +kernel
theorem dX6_wayOf_99 : decode cX6_wayOf 99 = .ok (.aload_n 0, 1) := by decide +kernel
theorem dX6_wayOf_100 : decode cX6_wayOf 100 = .ok (.iload_n 1, 1) := by decide +kernel
theorem dX6_wayOf_101 : decode cX6_wayOf 101 = .ok (.invokevirtual 185, 3) := by decide +kernel
theorem dX6_wayOf_104 : decode cX6_wayOf 104 = .ok (.istore_n 2, 1) := by decide +kernel
theorem dX6_wayOf_105 : decode cX6_wayOf 105 = .ok (.goto 42, 3) := by decide +kernel
theorem dX6_wayOf_108 : decode cX6_wayOf 108 = .ok (.aload_n 0, 1) := by decide +kernel
theorem dX6_wayOf_109 : decode cX6_wayOf 109 = .ok (.getfield 7, 3) := by decide +kernel
theorem dX6_wayOf_112 : decode cX6_wayOf 112 = .ok (.iconst 1, 1) := by decide +kernel
theorem dX6_wayOf_113 : decode cX6_wayOf 113 = .ok (.iaload, 1) := by decide +kernel
theorem dX6_wayOf_114 : decode cX6_wayOf 114 = .ok (.iconst 4, 1) := by decide +kernel
theorem dX6_wayOf_115 : decode cX6_wayOf 115 = .ok (.irem, 1) := by decide +kernel
theorem dX6_wayOf_116 : decode cX6_wayOf 116 = .ok (.ifCond .ne 12, 3) := by decide +kernel
theorem dX6_wayOf_119 : decode cX6_wayOf 119 = .ok (.aload_n 0, 1) := by decide +kernel
theorem dX6_wayOf_120 : decode cX6_wayOf 120 = .ok (.getfield 7, 3) := by decide +kernel
theorem dX6_wayOf_123 : decode cX6_wayOf 123 = .ok (.iconst 3, 1) := by decide +kernel
theorem dX6_wayOf_124 : decode cX6_wayOf 124 = .ok (.iaload, 1) := by decide +kernel
theorem dX6_wayOf_125 : decode cX6_wayOf 125 = .ok (.goto 8, 3) := by decide +kernel
theorem dX6_wayOf_128 : decode cX6_wayOf 128 = .ok (.aload_n 0, 1) := by decide +kernel
theorem dX6_wayOf_129 : decode cX6_wayOf 129 = .ok (.iload_n 1, 1) := by decide +kernel
theorem dX6_wayOf_130 : decode cX6_wayOf 130 = .ok (.invokevirtual 185, 3) := by decide +kernel
theorem dX6_wayOf_133 : decode cX6_wayOf 133 = .ok (.istore_n 2, 1) := by decide +kernel
theorem dX6_wayOf_134 : decode cX6_wayOf 134 = .ok (.goto 13, 3) := by decide +kernel
theorem dX6_wayOf_137 : decode cX6_wayOf 137 = .ok (.goto 10, 3) := by decide +kernel
theorem dX6_wayOf_140 : decode cX6_wayOf 140 = .ok (.aload_n 0, 1) := by decide +kernel
theorem dX6_wayOf_141 : decode cX6_wayOf 141 = .ok (.getfield 7, 3) := by decide +kernel
theorem dX6_wayOf_144 : decode cX6_wayOf 144 = .ok (.iconst 3, 1) := by decide +kernel
theorem dX6_wayOf_145 : decode cX6_wayOf 145 = .ok (.iaload, 1) := by decide +kernel
theorem dX6_wayOf_146 : decode cX6_wayOf 146 = .ok (.istore_n 2, 1) := by decide +kernel
theorem dX6_wayOf_147 : decode cX6_wayOf 147 = .ok (.iload_n 2, 1) := by decide +kernel
theorem dX6_wayOf_148 : decode cX6_wayOf 148 = .ok (.iconst 4, 1) := by decide +kernel
theorem dX6_wayOf_149 : decode cX6_wayOf 149 = .ok (.if_icmp .eq 16, 3) := by decide +kernel
theorem dX6_wayOf_152 : decode cX6_wayOf 152 = .ok (.aload_n 0, 1) := by decide +kernel
theorem dX6_wayOf_153 : decode cX6_wayOf 153 = .ok (.iload_n 1, 1) := by decide +kernel
theorem dX6_wayOf_154 : decode cX6_wayOf 154 = .ok (.iconst 3, 1) := by decide +kernel
theorem dX6_wayOf_155 : decode cX6_wayOf 155 = .ok (.invokevirtual 182, 3) := by decide +kernel
theorem dX6_wayOf_158 : decode cX6_wayOf 158 = .ok (.iload_n 2, 1) := by decide +kernel
theorem dX6_wayOf_159 : decode cX6_wayOf 159 = .ok (.invokestatic 188, 3) := by decide +kernel
theorem dX6_wayOf_162 : decode cX6_wayOf 162 = .ok (.ifCond .ge 7, 3) := by decide +kernel
theorem dX6_wayOf_165 : decode cX6_wayOf 165 = .ok (.iconst 4, 1) := by decide +kernel
theorem dX6_wayOf_166 : decode cX6_wayOf 166 = .ok (.goto 4, 3) := by decide +kernel
theorem dX6_wayOf_169 : decode cX6_wayOf 169 = .ok (.iload_n 2, 1) := by decide +kernel
theorem dX6_wayOf_170 : decode cX6_wayOf 170 = .ok (.ireturn, 1) := by decide +kernel
theorem dX6_wets_0 : decode cX6_wets 0 = .ok (.aload_n 0, 1) := by decide +kernel
theorem dX6_wets_1 : decode cX6_wets 1 = .ok (.iload_n 1, 1) := by decide +kernel
theorem dX6_wets_2 : decode cX6_wets 2 = .ok (.iconst 1, 1) := by decide +kernel
theorem dX6_wets_3 : decode cX6_wets 3 = .ok (.invokevirtual 182, 3) := by decide +kernel
theorem dX6_wets_6 : decode cX6_wets 6 = .ok (.istore_n 2, 1) := by decide +kernel
theorem dX6_wets_7 : decode cX6_wets 7 = .ok (.aload_n 0, 1) := by decide +kernel
theorem dX6_wets_8 : decode cX6_wets 8 = .ok (.iload_n 1, 1) := by decide +kernel
theorem dX6_wets_9 : decode cX6_wets 9 = .ok (.iconst 0, 1) := by decide +kernel
theorem dX6_wets_10 : decode cX6_wets 10 = .ok (.invokevirtual 182, 3) := by decide +kernel
theorem dX6_wets_13 : decode cX6_wets 13 = .ok (.tableswitch 78 1 5 #[35, 39, 41, 68, 74], 35) := by decide +kernel
theorem dX6_wets_48 : decode cX6_wets 48 = .ok (.iconst 1, 1) := by decide +kernel
theorem dX6_wets_49 : decode cX6_wets 49 = .ok (.iload_n 2, 1) := by decide +kernel
theorem dX6_wets_50 : decode cX6_wets 50 = .ok (.iadd, 1) := by decide +kernel
theorem dX6_wets_51 : decode cX6_wets 51 = .ok (.ireturn, 1) := by decide +kernel
theorem dX6_wets_52 : decode cX6_wets 52 = .ok (.iconst 1, 1) := by decide +kernel
theorem dX6_wets_53 : decode cX6_wets 53 = .ok (.ireturn, 1) := by decide +kernel
theorem dX6_wets_54 : decode cX6_wets 54 = .ok (.aload_n 0, 1) := by decide +kernel
theorem dX6_wets_55 : decode cX6_wets 55 = .ok (.iload_n 1, 1) := by decide +kernel
theorem dX6_wets_56 : decode cX6_wets 56 = .ok (.iconst 3, 1) := by decide +kernel
theorem dX6_wets_57 : decode cX6_wets 57 = .ok (.invokevirtual 182, 3) := by decide +kernel
theorem dX6_wets_60 : decode cX6_wets 60 = .ok (.aload_n 0, 1) := by decide +kernel
theorem dX6_wets_61 : decode cX6_wets 61 = .ok (.iload_n 1, 1) := by decide +kernel
theorem dX6_wets_62 : decode cX6_wets 62 = .ok (.iconst 2, 1) := by decide +kernel
theorem dX6_wets_63 : decode cX6_wets 63 = .ok (.invokevirtual 182, 3) := by decide +kernel
theorem dX6_wets_66 : decode cX6_wets 66 = .ok (.if_icmp .ne 11, 3) := by decide +kernel
theorem dX6_wets_69 : decode cX6_wets 69 = .ok (.iconst 2, 1) := by decide +kernel
theorem dX6_wets_70 : decode cX6_wets 70 = .ok (.iconst 1, 1) := by decide +kernel
theorem dX6_wets_71 : decode cX6_wets 71 = .ok (.iload_n 2, 1) := by decide +kernel
theorem dX6_wets_72 : decode cX6_wets 72 = .ok (.iadd, 1) := by decide +kernel
theorem dX6_wets_73 : decode cX6_wets 73 = .ok (.imul, 1) := by decide +kernel
theorem dX6_wets_74 : decode cX6_wets 74 = .ok (.goto 6, 3) := by decide +kernel
theorem dX6_wets_77 : decode cX6_wets 77 = .ok (.iconst 1, 1) := by decide +kernel
theorem dX6_wets_78 : decode cX6_wets 78 = .ok (.iload_n 2, 1) := by decide +kernel
theorem dX6_wets_79 : decode cX6_wets 79 = .ok (.iadd, 1) := by decide +kernel
theorem dX6_wets_80 : decode cX6_wets 80 = .ok (.ireturn, 1) := by decide +kernel
theorem dX6_wets_81 : decode cX6_wets 81 = .ok (.iconst 1, 1) := by decide +kernel
theorem dX6_wets_82 : decode cX6_wets 82 = .ok (.iload_n 2, 1) := by decide +kernel
theorem dX6_wets_83 : decode cX6_wets 83 = .ok (.iconst 3, 1) := by decide +kernel
theorem dX6_wets_84 : decode cX6_wets 84 = .ok (.idiv, 1) := by decide +kernel
theorem dX6_wets_85 : decode cX6_wets 85 = .ok (.iadd, 1) := by decide +kernel
theorem dX6_wets_86 : decode cX6_wets 86 = .ok (.ireturn, 1) := by decide +kernel
theorem dX6_wets_87 : decode cX6_wets 87 = .ok (.iconst 0, 1) := by decide +kernel
theorem dX6_wets_88 : decode cX6_wets 88 = .ok (.iload_n 2, 1) := by decide +kernel
theorem dX6_wets_89 : decode cX6_wets 89 = .ok (.isub, 1) := by decide +kernel
theorem dX6_wets_90 : decode cX6_wets 90 = .ok (.ireturn, 1) := by decide +kernel
theorem dX6_wets_91 : decode cX6_wets 91 = .ok (.iconst 0, 1) := by decide +kernel
theorem dX6_wets_92 : decode cX6_wets 92 = .ok (.ireturn, 1) := by decide +kernel
theorem dX6_of_0 : decode cX6_of 0 = .ok (.aload_n 0, 1) := by decide +kernel
theorem dX6_of_1 : decode cX6_of 1 = .ok (.iload_n 1, 1) := by decide +kernel
theorem dX6_of_2 : decode cX6_of 2 = .ok (.invokevirtual 191, 3) := by decide +kernel
theorem dX6_of_5 : decode cX6_of 5 = .ok (.ifCond .eq 15, 3) := by decide +kernel
theorem dX6_of_8 : decode cX6_of 8 = .ok (.iload_n 2, 1) := by decide +kernel
theorem dX6_of_9 : decode cX6_of 9 = .ok (.i2l, 1) := by decide +kernel
theorem dX6_of_10 : decode cX6_of 10 = .ok (.lconst 0, 1) := by decide +kernel
theorem dX6_of_11 : decode cX6_of 11 = .ok (.ldc2_w 177, 3) := by decide +kernel
theorem dX6_of_14 : decode cX6_of 14 = .ok (.invokestatic 70, 3) := by decide +kernel
theorem dX6_of_17 : decode cX6_of 17 = .ok (.ifCond .ne 5, 3) := by decide +kernel
theorem dX6_of_20 : decode cX6_of 20 = .ok (.iconst (-1), 1) := by decide +kernel
theorem dX6_of_21 : decode cX6_of 21 = .ok (.ireturn, 1) := by decide +kernel
theorem dX6_of_22 : decode cX6_of 22 = .ok (.iload_n 2, 1) := by decide +kernel
theorem dX6_of_23 : decode cX6_of 23 = .ok (.iconst 4, 1) := by decide +kernel
theorem dX6_of_24 : decode cX6_of 24 = .ok (.if_icmp .ge 12, 3) := by decide +kernel
theorem dX6_of_27 : decode cX6_of 27 = .ok (.aload_n 0, 1) := by decide +kernel
theorem dX6_of_28 : decode cX6_of 28 = .ok (.iload_n 1, 1) := by decide +kernel
theorem dX6_of_29 : decode cX6_of 29 = .ok (.iload_n 2, 1) := by decide +kernel
theorem dX6_of_30 : decode cX6_of 30 = .ok (.invokevirtual 182, 3) := by decide +kernel
theorem dX6_of_33 : decode cX6_of 33 = .ok (.goto 25, 3) := by decide +kernel
theorem dX6_of_36 : decode cX6_of 36 = .ok (.iload_n 2, 1) := by decide +kernel
theorem dX6_of_37 : decode cX6_of 37 = .ok (.iconst 4, 1) := by decide +kernel
theorem dX6_of_38 : decode cX6_of 38 = .ok (.if_icmp .ne 11, 3) := by decide +kernel
theorem dX6_of_41 : decode cX6_of 41 = .ok (.aload_n 0, 1) := by decide +kernel
theorem dX6_of_42 : decode cX6_of 42 = .ok (.iload_n 1, 1) := by decide +kernel
theorem dX6_of_43 : decode cX6_of 43 = .ok (.invokevirtual 194, 3) := by decide +kernel
theorem dX6_of_46 : decode cX6_of 46 = .ok (.goto 12, 3) := by decide +kernel
theorem dX6_of_49 : decode cX6_of 49 = .ok (.sipush 1000, 3) := by decide +kernel
theorem dX6_of_52 : decode cX6_of 52 = .ok (.aload_n 0, 1) := by decide +kernel
theorem dX6_of_53 : decode cX6_of 53 = .ok (.iload_n 1, 1) := by decide +kernel
theorem dX6_of_54 : decode cX6_of 54 = .ok (.invokevirtual 197, 3) := by decide +kernel
theorem dX6_of_57 : decode cX6_of 57 = .ok (.iadd, 1) := by decide +kernel
theorem dX6_of_58 : decode cX6_of 58 = .ok (.ireturn, 1) := by decide +kernel
theorem dX6_mind_0 : decode cX6_mind 0 = .ok (.aload_n 0, 1) := by decide +kernel
theorem dX6_mind_1 : decode cX6_mind 1 = .ok (.iload_n 1, 1) := by decide +kernel
theorem dX6_mind_2 : decode cX6_mind 2 = .ok (.invokevirtual 191, 3) := by decide +kernel
theorem dX6_mind_5 : decode cX6_mind 5 = .ok (.ifCond .eq 27, 3) := by decide +kernel
theorem dX6_mind_8 : decode cX6_mind 8 = .ok (.iload_n 2, 1) := by decide +kernel
theorem dX6_mind_9 : decode cX6_mind 9 = .ok (.i2l, 1) := by decide +kernel
theorem dX6_mind_10 : decode cX6_mind 10 = .ok (.lconst 0, 1) := by decide +kernel
theorem dX6_mind_11 : decode cX6_mind 11 = .ok (.ldc2_w 177, 3) := by decide +kernel
theorem dX6_mind_14 : decode cX6_mind 14 = .ok (.invokestatic 70, 3) := by decide +kernel
theorem dX6_mind_17 : decode cX6_mind 17 = .ok (.ifCond .eq 15, 3) := by decide +kernel
theorem dX6_mind_20 : decode cX6_mind 20 = .ok (.iload_n 3, 1) := by decide +kernel
theorem dX6_mind_21 : decode cX6_mind 21 = .ok (.i2l, 1) := by decide +kernel
theorem dX6_mind_22 : decode cX6_mind 22 = .ok (.lconst 0, 1) := by decide +kernel
theorem dX6_mind_23 : decode cX6_mind 23 = .ok (.ldc2_w 172, 3) := by decide +kernel
theorem dX6_mind_26 : decode cX6_mind 26 = .ok (.invokestatic 70, 3) := by decide +kernel
theorem dX6_mind_29 : decode cX6_mind 29 = .ok (.ifCond .ne 5, 3) := by decide +kernel
theorem dX6_mind_32 : decode cX6_mind 32 = .ok (.iconst (-1), 1) := by decide +kernel
theorem dX6_mind_33 : decode cX6_mind 33 = .ok (.ireturn, 1) := by decide +kernel
theorem dX6_mind_34 : decode cX6_mind 34 = .ok (.aload_n 0, 1) := by decide +kernel
theorem dX6_mind_35 : decode cX6_mind 35 = .ok (.getfield 7, 3) := by decide +kernel
theorem dX6_mind_38 : decode cX6_mind 38 = .ok (.bipush 24, 2) := by decide +kernel
theorem dX6_mind_40 : decode cX6_mind 40 = .ok (.iconst 4, 1) := by decide +kernel
theorem dX6_mind_41 : decode cX6_mind 41 = .ok (.iload_n 1, 1) := by decide +kernel
theorem dX6_mind_42 : decode cX6_mind 42 = .ok (.imul, 1) := by decide +kernel
theorem dX6_mind_43 : decode cX6_mind 43 = .ok (.iadd, 1) := by decide +kernel
theorem dX6_mind_44 : decode cX6_mind 44 = .ok (.iconst 1, 1) := by decide +kernel
theorem dX6_mind_45 : decode cX6_mind 45 = .ok (.iadd, 1) := by decide +kernel
theorem dX6_mind_46 : decode cX6_mind 46 = .ok (.iload_n 3, 1) := by decide +kernel
theorem dX6_mind_47 : decode cX6_mind 47 = .ok (.iastore, 1) := by decide +kernel
theorem dX6_mind_48 : decode cX6_mind 48 = .ok (.aload_n 0, 1) := by decide +kernel
theorem dX6_mind_49 : decode cX6_mind 49 = .ok (.bipush 24, 2) := by decide +kernel
theorem dX6_mind_51 : decode cX6_mind 51 = .ok (.iconst 4, 1) := by decide +kernel
theorem dX6_mind_52 : decode cX6_mind 52 = .ok (.iload_n 1, 1) := by decide +kernel
theorem dX6_mind_53 : decode cX6_mind 53 = .ok (.imul, 1) := by decide +kernel
theorem dX6_mind_54 : decode cX6_mind 54 = .ok (.iadd, 1) := by decide +kernel
theorem dX6_mind_55 : decode cX6_mind 55 = .ok (.iload_n 2, 1) := by decide +kernel
theorem dX6_mind_56 : decode cX6_mind 56 = .ok (.invokevirtual 174, 3) := by decide +kernel
theorem dX6_mind_59 : decode cX6_mind 59 = .ok (.ireturn, 1) := by decide +kernel
theorem dX6_bring_0 : decode cX6_bring 0 = .ok (.aload_n 0, 1) := by decide +kernel
theorem dX6_bring_1 : decode cX6_bring 1 = .ok (.iload_n 1, 1) := by decide +kernel
theorem dX6_bring_2 : decode cX6_bring 2 = .ok (.invokevirtual 191, 3) := by decide +kernel
theorem dX6_bring_5 : decode cX6_bring 5 = .ok (.ifCond .eq 26, 3) := by decide +kernel
theorem dX6_bring_8 : decode cX6_bring 8 = .ok (.iload_n 2, 1) := by decide +kernel
theorem dX6_bring_9 : decode cX6_bring 9 = .ok (.invokestatic 179, 3) := by decide +kernel
theorem dX6_bring_12 : decode cX6_bring 12 = .ok (.ifCond .eq 19, 3) := by decide +kernel
theorem dX6_bring_15 : decode cX6_bring 15 = .ok (.aload_n 0, 1) := by decide +kernel
theorem dX6_bring_16 : decode cX6_bring 16 = .ok (.bipush 24, 2) := by decide +kernel
theorem dX6_bring_18 : decode cX6_bring 18 = .ok (.iconst 4, 1) := by decide +kernel
theorem dX6_bring_19 : decode cX6_bring 19 = .ok (.iload_n 1, 1) := by decide +kernel
theorem dX6_bring_20 : decode cX6_bring 20 = .ok (.imul, 1) := by decide +kernel
theorem dX6_bring_21 : decode cX6_bring 21 = .ok (.iadd, 1) := by decide +kernel
theorem dX6_bring_22 : decode cX6_bring 22 = .ok (.iconst 3, 1) := by decide +kernel
theorem dX6_bring_23 : decode cX6_bring 23 = .ok (.iadd, 1) := by decide +kernel
theorem dX6_bring_24 : decode cX6_bring 24 = .ok (.iload_n 2, 1) := by decide +kernel
theorem dX6_bring_25 : decode cX6_bring 25 = .ok (.invokevirtual 174, 3) := by decide +kernel
theorem dX6_bring_28 : decode cX6_bring 28 = .ok (.goto 4, 3) := by decide +kernel
theorem dX6_bring_31 : decode cX6_bring 31 = .ok (.iconst (-1), 1) := by decide +kernel
theorem dX6_bring_32 : decode cX6_bring 32 = .ok (.ireturn, 1) := by decide +kernel
theorem dX6_send_0 : decode cX6_send 0 = .ok (.aload_n 0, 1) := by decide +kernel
theorem dX6_send_1 : decode cX6_send 1 = .ok (.iload_n 1, 1) := by decide +kernel
theorem dX6_send_2 : decode cX6_send 2 = .ok (.invokevirtual 191, 3) := by decide +kernel
theorem dX6_send_5 : decode cX6_send 5 = .ok (.ifCond .eq 26, 3) := by decide +kernel
theorem dX6_send_8 : decode cX6_send 8 = .ok (.iload_n 2, 1) := by decide +kernel
theorem dX6_send_9 : decode cX6_send 9 = .ok (.invokestatic 179, 3) := by decide +kernel
theorem dX6_send_12 : decode cX6_send 12 = .ok (.ifCond .eq 19, 3) := by decide +kernel
theorem dX6_send_15 : decode cX6_send 15 = .ok (.aload_n 0, 1) := by decide +kernel
theorem dX6_send_16 : decode cX6_send 16 = .ok (.bipush 24, 2) := by decide +kernel
theorem dX6_send_18 : decode cX6_send 18 = .ok (.iconst 4, 1) := by decide +kernel
theorem dX6_send_19 : decode cX6_send 19 = .ok (.iload_n 1, 1) := by decide +kernel
theorem dX6_send_20 : decode cX6_send 20 = .ok (.imul, 1) := by decide +kernel
theorem dX6_send_21 : decode cX6_send 21 = .ok (.iadd, 1) := by decide +kernel
theorem dX6_send_22 : decode cX6_send 22 = .ok (.iconst 2, 1) := by decide +kernel
theorem dX6_send_23 : decode cX6_send 23 = .ok (.iadd, 1) := by decide +kernel
theorem dX6_send_24 : decode cX6_send 24 = .ok (.iload_n 2, 1) := by decide +kernel
theorem dX6_send_25 : decode cX6_send 25 = .ok (.invokevirtual 174, 3) := by decide +kernel
theorem dX6_send_28 : decode cX6_send 28 = .ok (.goto 4, 3) := by decide +kernel
theorem dX6_send_31 : decode cX6_send 31 = .ok (.iconst (-1), 1) := by decide +kernel
theorem dX6_send_32 : decode cX6_send 32 = .ok (.ireturn, 1) := by decide +kernel
theorem dX6_blow_0 : decode cX6_blow 0 = .ok (.iload_n 1, 1) := by decide +kernel
theorem dX6_blow_1 : decode cX6_blow 1 = .ok (.i2l, 1) := by decide +kernel
theorem dX6_blow_2 : decode cX6_blow 2 = .ok (.lconst 0, 1) := by decide +kernel
theorem dX6_blow_3 : decode cX6_blow 3 = .ok (.ldc2_w 168, 3) := by decide +kernel
theorem dX6_blow_6 : decode cX6_blow 6 = .ok (.invokestatic 70, 3) := by decide +kernel
theorem dX6_blow_9 : decode cX6_blow 9 = .ok (.ifCond .eq 12, 3) := by decide +kernel
theorem dX6_blow_12 : decode cX6_blow 12 = .ok (.aload_n 0, 1) := by decide +kernel
theorem dX6_blow_13 : decode cX6_blow 13 = .ok (.iconst 3, 1) := by decide +kernel
theorem dX6_blow_14 : decode cX6_blow 14 = .ok (.iload_n 1, 1) := by decide +kernel
theorem dX6_blow_15 : decode cX6_blow 15 = .ok (.invokevirtual 174, 3) := by decide +kernel
theorem dX6_blow_18 : decode cX6_blow 18 = .ok (.goto 4, 3) := by decide +kernel
theorem dX6_blow_21 : decode cX6_blow 21 = .ok (.iconst (-1), 1) := by decide +kernel
theorem dX6_blow_22 : decode cX6_blow 22 = .ok (.ireturn, 1) := by decide +kernel
theorem dX6_pour_0 : decode cX6_pour 0 = .ok (.iload_n 1, 1) := by decide +kernel
theorem dX6_pour_1 : decode cX6_pour 1 = .ok (.invokestatic 179, 3) := by decide +kernel
theorem dX6_pour_4 : decode cX6_pour 4 = .ok (.ifCond .eq 27, 3) := by decide +kernel
theorem dX6_pour_7 : decode cX6_pour 7 = .ok (.iload_n 2, 1) := by decide +kernel
theorem dX6_pour_8 : decode cX6_pour 8 = .ok (.i2l, 1) := by decide +kernel
theorem dX6_pour_9 : decode cX6_pour 9 = .ok (.lconst 0, 1) := by decide +kernel
theorem dX6_pour_10 : decode cX6_pour 10 = .ok (.ldc2_w 170, 3) := by decide +kernel
theorem dX6_pour_13 : decode cX6_pour 13 = .ok (.invokestatic 70, 3) := by decide +kernel
theorem dX6_pour_16 : decode cX6_pour 16 = .ok (.ifCond .eq 15, 3) := by decide +kernel
theorem dX6_pour_19 : decode cX6_pour 19 = .ok (.aload_n 0, 1) := by decide +kernel
theorem dX6_pour_20 : decode cX6_pour 20 = .ok (.bipush 8, 2) := by decide +kernel
theorem dX6_pour_22 : decode cX6_pour 22 = .ok (.iload_n 1, 1) := by decide +kernel
theorem dX6_pour_23 : decode cX6_pour 23 = .ok (.iadd, 1) := by decide +kernel
theorem dX6_pour_24 : decode cX6_pour 24 = .ok (.iload_n 2, 1) := by decide +kernel
theorem dX6_pour_25 : decode cX6_pour 25 = .ok (.invokevirtual 174, 3) := by decide +kernel
theorem dX6_pour_28 : decode cX6_pour 28 = .ok (.goto 4, 3) := by decide +kernel
theorem dX6_pour_31 : decode cX6_pour 31 = .ok (.iconst (-1), 1) := by decide +kernel
theorem dX6_pour_32 : decode cX6_pour 32 = .ok (.ireturn, 1) := by decide +kernel
theorem dX6_thoseAt_0 : decode cX6_thoseAt 0 = .ok (.iconst 0, 1) := by decide +kernel
theorem dX6_thoseAt_1 : decode cX6_thoseAt 1 = .ok (.istore_n 2, 1) := by decide +kernel
theorem dX6_thoseAt_2 : decode cX6_thoseAt 2 = .ok (.iconst 0, 1) := by decide +kernel
theorem dX6_thoseAt_3 : decode cX6_thoseAt 3 = .ok (.istore_n 3, 1) := by decide +kernel
theorem dX6_thoseAt_4 : decode cX6_thoseAt 4 = .ok (.iload_n 3, 1) := by decide +kernel
theorem dX6_thoseAt_5 : decode cX6_thoseAt 5 = .ok (.aload_n 0, 1) := by decide +kernel
theorem dX6_thoseAt_6 : decode cX6_thoseAt 6 = .ok (.getfield 7, 3) := by decide +kernel
theorem dX6_thoseAt_9 : decode cX6_thoseAt 9 = .ok (.iconst 0, 1) := by decide +kernel
theorem dX6_thoseAt_10 : decode cX6_thoseAt 10 = .ok (.iaload, 1) := by decide +kernel
theorem dX6_thoseAt_11 : decode cX6_thoseAt 11 = .ok (.if_icmp .ge 29, 3) := by decide +kernel
theorem dX6_thoseAt_14 : decode cX6_thoseAt 14 = .ok (.iload_n 2, 1) := by decide +kernel
theorem dX6_thoseAt_15 : decode cX6_thoseAt 15 = .ok (.aload_n 0, 1) := by decide +kernel
theorem dX6_thoseAt_16 : decode cX6_thoseAt 16 = .ok (.iload_n 3, 1) := by decide +kernel
theorem dX6_thoseAt_17 : decode cX6_thoseAt 17 = .ok (.iconst 3, 1) := by decide +kernel
theorem dX6_thoseAt_18 : decode cX6_thoseAt 18 = .ok (.invokevirtual 182, 3) := by decide +kernel
theorem dX6_thoseAt_21 : decode cX6_thoseAt 21 = .ok (.iload_n 1, 1) := by decide +kernel
theorem dX6_thoseAt_22 : decode cX6_thoseAt 22 = .ok (.if_icmp .ne 9, 3) := by decide +kernel
theorem dX6_thoseAt_25 : decode cX6_thoseAt 25 = .ok (.iconst 1, 1) := by decide +kernel
theorem dX6_thoseAt_26 : decode cX6_thoseAt 26 = .ok (.iload_n 3, 1) := by decide +kernel
theorem dX6_thoseAt_27 : decode cX6_thoseAt 27 = .ok (.ishl, 1) := by decide +kernel
theorem dX6_thoseAt_28 : decode cX6_thoseAt 28 = .ok (.goto 4, 3) := by decide +kernel
theorem dX6_thoseAt_31 : decode cX6_thoseAt 31 = .ok (.iconst 0, 1) := by decide +kernel
theorem dX6_thoseAt_32 : decode cX6_thoseAt 32 = .ok (.ior, 1) := by decide +kernel
theorem dX6_thoseAt_33 : decode cX6_thoseAt 33 = .ok (.istore_n 2, 1) := by decide +kernel
theorem dX6_thoseAt_34 : decode cX6_thoseAt 34 = .ok (.iinc 3 1, 3) := by decide +kernel
theorem dX6_thoseAt_37 : decode cX6_thoseAt 37 = .ok (.goto (-33), 3) := by decide +kernel
theorem dX6_thoseAt_40 : decode cX6_thoseAt 40 = .ok (.iload_n 2, 1) := by decide +kernel
theorem dX6_thoseAt_41 : decode cX6_thoseAt 41 = .ok (.ireturn, 1) := by decide +kernel
theorem dX6_house_0 : decode cX6_house 0 = .ok (.iload_n 1, 1) := by decide +kernel
theorem dX6_house_1 : decode cX6_house 1 = .ok (.invokestatic 179, 3) := by decide +kernel
theorem dX6_house_4 : decode cX6_house 4 = .ok (.ifCond .eq 13, 3) := by decide +kernel
theorem dX6_house_7 : decode cX6_house 7 = .ok (.iload_n 2, 1) := by decide +kernel
theorem dX6_house_8 : decode cX6_house 8 = .ok (.i2l, 1) := by decide +kernel
theorem dX6_house_9 : decode cX6_house 9 = .ok (.lconst 0, 1) := by decide +kernel
theorem dX6_house_10 : decode cX6_house 10 = .ok (.lconst 1, 1) := by decide +kernel
theorem dX6_house_11 : decode cX6_house 11 = .ok (.invokestatic 70, 3) := by decide +kernel
theorem dX6_house_14 : decode cX6_house 14 = .ok (.ifCond .ne 5, 3) := by decide +kernel
theorem dX6_house_17 : decode cX6_house 17 = .ok (.iconst (-1), 1) := by decide +kernel
theorem dX6_house_18 : decode cX6_house 18 = .ok (.ireturn, 1) := by decide +kernel
theorem dX6_house_19 : decode cX6_house 19 = .ok (.iload_n 2, 1) := by decide +kernel
theorem dX6_house_20 : decode cX6_house 20 = .ok (.ifCond .ne 15, 3) := by decide +kernel
theorem dX6_house_23 : decode cX6_house 23 = .ok (.aload_n 0, 1) := by decide +kernel
theorem dX6_house_24 : decode cX6_house 24 = .ok (.getfield 7, 3) := by decide +kernel
theorem dX6_house_27 : decode cX6_house 27 = .ok (.bipush 8, 2) := by decide +kernel
theorem dX6_house_29 : decode cX6_house 29 = .ok (.iload_n 1, 1) := by decide +kernel
theorem dX6_house_30 : decode cX6_house 30 = .ok (.iadd, 1) := by decide +kernel
theorem dX6_house_31 : decode cX6_house 31 = .ok (.iaload, 1) := by decide +kernel
theorem dX6_house_32 : decode cX6_house 32 = .ok (.goto 8, 3) := by decide +kernel
theorem dX6_house_35 : decode cX6_house 35 = .ok (.aload_n 0, 1) := by decide +kernel
theorem dX6_house_36 : decode cX6_house 36 = .ok (.iload_n 1, 1) := by decide +kernel
theorem dX6_house_37 : decode cX6_house 37 = .ok (.invokevirtual 200, 3) := by decide +kernel
theorem dX6_house_40 : decode cX6_house 40 = .ok (.ireturn, 1) := by decide +kernel
theorem dX6_goesOn_0 : decode cX6_goesOn 0 = .ok (.aload_n 0, 1) := by decide +kernel
theorem dX6_goesOn_1 : decode cX6_goesOn 1 = .ok (.getfield 7, 3) := by decide +kernel
theorem dX6_goesOn_4 : decode cX6_goesOn 4 = .ok (.iconst 1, 1) := by decide +kernel
theorem dX6_goesOn_5 : decode cX6_goesOn 5 = .ok (.iaload, 1) := by decide +kernel
theorem dX6_goesOn_6 : decode cX6_goesOn 6 = .ok (.ifCond .le 35, 3) := by decide +kernel
theorem dX6_goesOn_9 : decode cX6_goesOn 9 = .ok (.aload_n 0, 1) := by decide +kernel
theorem dX6_goesOn_10 : decode cX6_goesOn 10 = .ok (.getfield 7, 3) := by decide +kernel
theorem dX6_goesOn_13 : decode cX6_goesOn 13 = .ok (.iconst 1, 1) := by decide +kernel
theorem dX6_goesOn_14 : decode cX6_goesOn 14 = .ok (.iaload, 1) := by decide +kernel
theorem dX6_goesOn_15 : decode cX6_goesOn 15 = .ok (.aload_n 0, 1) := by decide +kernel
theorem dX6_goesOn_16 : decode cX6_goesOn 16 = .ok (.getfield 7, 3) := by decide +kernel
theorem dX6_goesOn_19 : decode cX6_goesOn 19 = .ok (.iconst 4, 1) := by decide +kernel
theorem dX6_goesOn_20 : decode cX6_goesOn 20 = .ok (.iaload, 1) := by decide +kernel
theorem dX6_goesOn_21 : decode cX6_goesOn 21 = .ok (.irem, 1) := by decide +kernel
theorem dX6_goesOn_22 : decode cX6_goesOn 22 = .ok (.ifCond .ne 19, 3) := by decide +kernel
theorem dX6_goesOn_25 : decode cX6_goesOn 25 = .ok (.aload_n 0, 1) := by decide +kernel
theorem dX6_goesOn_26 : decode cX6_goesOn 26 = .ok (.getfield 7, 3) := by decide +kernel
theorem dX6_goesOn_29 : decode cX6_goesOn 29 = .ok (.iconst 3, 1) := by decide +kernel
theorem dX6_goesOn_30 : decode cX6_goesOn 30 = .ok (.aload_n 0, 1) := by decide +kernel
theorem dX6_goesOn_31 : decode cX6_goesOn 31 = .ok (.getfield 7, 3) := by decide +kernel
theorem dX6_goesOn_34 : decode cX6_goesOn 34 = .ok (.iconst 3, 1) := by decide +kernel
theorem dX6_goesOn_35 : decode cX6_goesOn 35 = .ok (.iaload, 1) := by decide +kernel
theorem dX6_goesOn_36 : decode cX6_goesOn 36 = .ok (.iconst 1, 1) := by decide +kernel
theorem dX6_goesOn_37 : decode cX6_goesOn 37 = .ok (.iadd, 1) := by decide +kernel
theorem dX6_goesOn_38 : decode cX6_goesOn 38 = .ok (.iconst 4, 1) := by decide +kernel
theorem dX6_goesOn_39 : decode cX6_goesOn 39 = .ok (.irem, 1) := by decide +kernel
theorem dX6_goesOn_40 : decode cX6_goesOn 40 = .ok (.iastore, 1) := by decide +kernel
theorem dX6_goesOn_41 : decode cX6_goesOn 41 = .ok (.iconst 0, 1) := by decide +kernel
theorem dX6_goesOn_42 : decode cX6_goesOn 42 = .ok (.istore_n 1, 1) := by decide +kernel
theorem dX6_goesOn_43 : decode cX6_goesOn 43 = .ok (.iload_n 1, 1) := by decide +kernel
theorem dX6_goesOn_44 : decode cX6_goesOn 44 = .ok (.aload_n 0, 1) := by decide +kernel
theorem dX6_goesOn_45 : decode cX6_goesOn 45 = .ok (.getfield 7, 3) := by decide +kernel
theorem dX6_goesOn_48 : decode cX6_goesOn 48 = .ok (.iconst 0, 1) := by decide +kernel
theorem dX6_goesOn_49 : decode cX6_goesOn 49 = .ok (.iaload, 1) := by decide +kernel
theorem dX6_goesOn_50 : decode cX6_goesOn 50 = .ok (.if_icmp .ge 52, 3) := by decide +kernel
theorem dX6_goesOn_53 : decode cX6_goesOn 53 = .ok (.aload_n 0, 1) := by decide +kernel
theorem dX6_goesOn_54 : decode cX6_goesOn 54 = .ok (.iload_n 1, 1) := by decide +kernel
theorem dX6_goesOn_55 : decode cX6_goesOn 55 = .ok (.invokevirtual 194, 3) := by decide +kernel
theorem dX6_goesOn_58 : decode cX6_goesOn 58 = .ok (.istore_n 2, 1) := by decide +kernel
theorem dX6_goesOn_59 : decode cX6_goesOn 59 = .ok (.aload_n 0, 1) := by decide +kernel
theorem dX6_goesOn_60 : decode cX6_goesOn 60 = .ok (.getfield 7, 3) := by decide +kernel
theorem dX6_goesOn_63 : decode cX6_goesOn 63 = .ok (.bipush 24, 2) := by decide +kernel
theorem dX6_goesOn_65 : decode cX6_goesOn 65 = .ok (.iconst 4, 1) := by decide +kernel
theorem dX6_goesOn_66 : decode cX6_goesOn 66 = .ok (.iload_n 1, 1) := by decide +kernel
theorem dX6_goesOn_67 : decode cX6_goesOn 67 = .ok (.imul, 1) := by decide +kernel
theorem dX6_goesOn_68 : decode cX6_goesOn 68 = .ok (.iadd, 1) := by decide +kernel
theorem dX6_goesOn_69 : decode cX6_goesOn 69 = .ok (.iconst 3, 1) := by decide +kernel
theorem dX6_goesOn_70 : decode cX6_goesOn 70 = .ok (.iadd, 1) := by decide +kernel
theorem dX6_goesOn_71 : decode cX6_goesOn 71 = .ok (.iload_n 2, 1) := by decide +kernel
theorem dX6_goesOn_72 : decode cX6_goesOn 72 = .ok (.iconst 4, 1) := by decide +kernel
theorem dX6_goesOn_73 : decode cX6_goesOn 73 = .ok (.if_icmp .ne 12, 3) := by decide +kernel
theorem dX6_goesOn_76 : decode cX6_goesOn 76 = .ok (.aload_n 0, 1) := by decide +kernel
theorem dX6_goesOn_77 : decode cX6_goesOn 77 = .ok (.iload_n 1, 1) := by decide +kernel
theorem dX6_goesOn_78 : decode cX6_goesOn 78 = .ok (.iconst 3, 1) := by decide +kernel
theorem dX6_goesOn_79 : decode cX6_goesOn 79 = .ok (.invokevirtual 182, 3) := by decide +kernel
theorem dX6_goesOn_82 : decode cX6_goesOn 82 = .ok (.goto 13, 3) := by decide +kernel
theorem dX6_goesOn_85 : decode cX6_goesOn 85 = .ok (.aload_n 0, 1) := by decide +kernel
theorem dX6_goesOn_86 : decode cX6_goesOn 86 = .ok (.iload_n 1, 1) := by decide +kernel
theorem dX6_goesOn_87 : decode cX6_goesOn 87 = .ok (.iconst 3, 1) := by decide +kernel
theorem dX6_goesOn_88 : decode cX6_goesOn 88 = .ok (.invokevirtual 182, 3) := by decide +kernel
theorem dX6_goesOn_91 : decode cX6_goesOn 91 = .ok (.iload_n 2, 1) := by decide +kernel
theorem dX6_goesOn_92 : decode cX6_goesOn 92 = .ok (.invokestatic 188, 3) := by decide +kernel
theorem dX6_goesOn_95 : decode cX6_goesOn 95 = .ok (.iastore, 1) := by decide +kernel
theorem dX6_goesOn_96 : decode cX6_goesOn 96 = .ok (.iinc 1 1, 3) := by decide +kernel
theorem dX6_goesOn_99 : decode cX6_goesOn 99 = .ok (.goto (-56), 3) := by decide +kernel
theorem dX6_goesOn_102 : decode cX6_goesOn 102 = .ok (.iconst 0, 1) := by decide +kernel
theorem dX6_goesOn_103 : decode cX6_goesOn 103 = .ok (.istore_n 1, 1) := by decide +kernel
theorem dX6_goesOn_104 : decode cX6_goesOn 104 = .ok (.iload_n 1, 1) := by decide +kernel
theorem dX6_goesOn_105 : decode cX6_goesOn 105 = .ok (.aload_n 0, 1) := by decide +kernel
theorem dX6_goesOn_106 : decode cX6_goesOn 106 = .ok (.getfield 7, 3) := by decide +kernel
theorem dX6_goesOn_109 : decode cX6_goesOn 109 = .ok (.iconst 0, 1) := by decide +kernel
theorem dX6_goesOn_110 : decode cX6_goesOn 110 = .ok (.iaload, 1) := by decide +kernel
theorem dX6_goesOn_111 : decode cX6_goesOn 111 = .ok (.if_icmp .ge 42, 3) := by decide +kernel
theorem dX6_goesOn_114 : decode cX6_goesOn 114 = .ok (.bipush 8, 2) := by decide +kernel
theorem dX6_goesOn_116 : decode cX6_goesOn 116 = .ok (.aload_n 0, 1) := by decide +kernel
theorem dX6_goesOn_117 : decode cX6_goesOn 117 = .ok (.iload_n 1, 1) := by decide +kernel
theorem dX6_goesOn_118 : decode cX6_goesOn 118 = .ok (.iconst 3, 1) := by decide +kernel
theorem dX6_goesOn_119 : decode cX6_goesOn 119 = .ok (.invokevirtual 182, 3) := by decide +kernel
theorem dX6_goesOn_122 : decode cX6_goesOn 122 = .ok (.iadd, 1) := by decide +kernel
theorem dX6_goesOn_123 : decode cX6_goesOn 123 = .ok (.istore_n 2, 1) := by decide +kernel
theorem dX6_goesOn_124 : decode cX6_goesOn 124 = .ok (.aload_n 0, 1) := by decide +kernel
theorem dX6_goesOn_125 : decode cX6_goesOn 125 = .ok (.getfield 7, 3) := by decide +kernel
theorem dX6_goesOn_128 : decode cX6_goesOn 128 = .ok (.iload_n 2, 1) := by decide +kernel
theorem dX6_goesOn_129 : decode cX6_goesOn 129 = .ok (.aload_n 0, 1) := by decide +kernel
theorem dX6_goesOn_130 : decode cX6_goesOn 130 = .ok (.getfield 7, 3) := by decide +kernel
theorem dX6_goesOn_133 : decode cX6_goesOn 133 = .ok (.iload_n 2, 1) := by decide +kernel
theorem dX6_goesOn_134 : decode cX6_goesOn 134 = .ok (.iaload, 1) := by decide +kernel
theorem dX6_goesOn_135 : decode cX6_goesOn 135 = .ok (.aload_n 0, 1) := by decide +kernel
theorem dX6_goesOn_136 : decode cX6_goesOn 136 = .ok (.iload_n 1, 1) := by decide +kernel
theorem dX6_goesOn_137 : decode cX6_goesOn 137 = .ok (.invokevirtual 197, 3) := by decide +kernel
theorem dX6_goesOn_140 : decode cX6_goesOn 140 = .ok (.iadd, 1) := by decide +kernel
theorem dX6_goesOn_141 : decode cX6_goesOn 141 = .ok (.bipush 99, 2) := by decide +kernel
theorem dX6_goesOn_143 : decode cX6_goesOn 143 = .ok (.invokestatic 64, 3) := by decide +kernel
theorem dX6_goesOn_146 : decode cX6_goesOn 146 = .ok (.iastore, 1) := by decide +kernel
theorem dX6_goesOn_147 : decode cX6_goesOn 147 = .ok (.iinc 1 1, 3) := by decide +kernel
theorem dX6_goesOn_150 : decode cX6_goesOn 150 = .ok (.goto (-46), 3) := by decide +kernel
theorem dX6_goesOn_153 : decode cX6_goesOn 153 = .ok (.aload_n 0, 1) := by decide +kernel
theorem dX6_goesOn_154 : decode cX6_goesOn 154 = .ok (.getfield 7, 3) := by decide +kernel
theorem dX6_goesOn_157 : decode cX6_goesOn 157 = .ok (.iconst 1, 1) := by decide +kernel
theorem dX6_goesOn_158 : decode cX6_goesOn 158 = .ok (.dup2, 1) := by decide +kernel
theorem dX6_goesOn_159 : decode cX6_goesOn 159 = .ok (.iaload, 1) := by decide +kernel
theorem dX6_goesOn_160 : decode cX6_goesOn 160 = .ok (.iconst 1, 1) := by decide +kernel
theorem dX6_goesOn_161 : decode cX6_goesOn 161 = .ok (.iadd, 1) := by decide +kernel
theorem dX6_goesOn_162 : decode cX6_goesOn 162 = .ok (.iastore, 1) := by decide +kernel
theorem dX6_goesOn_163 : decode cX6_goesOn 163 = .ok (.return_, 1) := by decide +kernel
theorem dX6_goes_0 : decode cX6_goes 0 = .ok (.iconst 0, 1) := by decide +kernel
theorem dX6_goes_1 : decode cX6_goes 1 = .ok (.istore_n 2, 1) := by decide +kernel
theorem dX6_goes_2 : decode cX6_goes 2 = .ok (.iload_n 2, 1) := by decide +kernel
theorem dX6_goes_3 : decode cX6_goes 3 = .ok (.iload_n 1, 1) := by decide +kernel
theorem dX6_goes_4 : decode cX6_goes 4 = .ok (.if_icmp .ge 13, 3) := by decide +kernel
theorem dX6_goes_7 : decode cX6_goes 7 = .ok (.aload_n 0, 1) := by decide +kernel
theorem dX6_goes_8 : decode cX6_goes 8 = .ok (.invokevirtual 203, 3) := by decide +kernel
theorem dX6_goes_11 : decode cX6_goes 11 = .ok (.iinc 2 1, 3) := by decide +kernel
theorem dX6_goes_14 : decode cX6_goes 14 = .ok (.goto (-12), 3) := by decide +kernel
theorem dX6_goes_17 : decode cX6_goes 17 = .ok (.return_, 1) := by decide +kernel
theorem dX6_stopped_0 : decode cX6_stopped 0 = .ok (.iconst 0, 1) := by decide +kernel
theorem dX6_stopped_1 : decode cX6_stopped 1 = .ok (.istore_n 1, 1) := by decide +kernel
theorem dX6_stopped_2 : decode cX6_stopped 2 = .ok (.iconst 0, 1) := by decide +kernel
theorem dX6_stopped_3 : decode cX6_stopped 3 = .ok (.istore_n 2, 1) := by decide +kernel
theorem dX6_stopped_4 : decode cX6_stopped 4 = .ok (.iload_n 2, 1) := by decide +kernel
theorem dX6_stopped_5 : decode cX6_stopped 5 = .ok (.aload_n 0, 1) := by decide +kernel
theorem dX6_stopped_6 : decode cX6_stopped 6 = .ok (.getfield 7, 3) := by decide +kernel
theorem dX6_stopped_9 : decode cX6_stopped 9 = .ok (.iconst 0, 1) := by decide +kernel
theorem dX6_stopped_10 : decode cX6_stopped 10 = .ok (.iaload, 1) := by decide +kernel
theorem dX6_stopped_11 : decode cX6_stopped 11 = .ok (.if_icmp .ge 34, 3) := by decide +kernel
theorem dX6_stopped_14 : decode cX6_stopped 14 = .ok (.iload_n 1, 1) := by decide +kernel
theorem dX6_stopped_15 : decode cX6_stopped 15 = .ok (.aload_n 0, 1) := by decide +kernel
theorem dX6_stopped_16 : decode cX6_stopped 16 = .ok (.iload_n 2, 1) := by decide +kernel
theorem dX6_stopped_17 : decode cX6_stopped 17 = .ok (.iconst 3, 1) := by decide +kernel
theorem dX6_stopped_18 : decode cX6_stopped 18 = .ok (.invokevirtual 182, 3) := by decide +kernel
theorem dX6_stopped_21 : decode cX6_stopped 21 = .ok (.aload_n 0, 1) := by decide +kernel
theorem dX6_stopped_22 : decode cX6_stopped 22 = .ok (.iload_n 2, 1) := by decide +kernel
theorem dX6_stopped_23 : decode cX6_stopped 23 = .ok (.iconst 2, 1) := by decide +kernel
theorem dX6_stopped_24 : decode cX6_stopped 24 = .ok (.invokevirtual 182, 3) := by decide +kernel
theorem dX6_stopped_27 : decode cX6_stopped 27 = .ok (.if_icmp .ne 9, 3) := by decide +kernel
theorem dX6_stopped_30 : decode cX6_stopped 30 = .ok (.iconst 1, 1) := by decide +kernel
theorem dX6_stopped_31 : decode cX6_stopped 31 = .ok (.iload_n 2, 1) := by decide +kernel
theorem dX6_stopped_32 : decode cX6_stopped 32 = .ok (.ishl, 1) := by decide +kernel
theorem dX6_stopped_33 : decode cX6_stopped 33 = .ok (.goto 4, 3) := by decide +kernel
theorem dX6_stopped_36 : decode cX6_stopped 36 = .ok (.iconst 0, 1) := by decide +kernel
theorem dX6_stopped_37 : decode cX6_stopped 37 = .ok (.ior, 1) := by decide +kernel
theorem dX6_stopped_38 : decode cX6_stopped 38 = .ok (.istore_n 1, 1) := by decide +kernel
theorem dX6_stopped_39 : decode cX6_stopped 39 = .ok (.iinc 2 1, 3) := by decide +kernel
theorem dX6_stopped_42 : decode cX6_stopped 42 = .ok (.goto (-38), 3) := by decide +kernel
theorem dX6_stopped_45 : decode cX6_stopped 45 = .ok (.iload_n 1, 1) := by decide +kernel
theorem dX6_stopped_46 : decode cX6_stopped 46 = .ok (.ireturn, 1) := by decide +kernel
theorem dX6_steps_0 : decode cX6_steps 0 = .ok (.iload_n 1, 1) := by decide +kernel
theorem dX6_steps_1 : decode cX6_steps 1 = .ok (.i2l, 1) := by decide +kernel
theorem dX6_steps_2 : decode cX6_steps 2 = .ok (.lconst 1, 1) := by decide +kernel
theorem dX6_steps_3 : decode cX6_steps 3 = .ok (.ldc2_w 206, 3) := by decide +kernel
theorem dX6_steps_6 : decode cX6_steps 6 = .ok (.invokestatic 70, 3) := by decide +kernel
theorem dX6_steps_9 : decode cX6_steps 9 = .ok (.ifCond .ne 5, 3) := by decide +kernel
theorem dX6_steps_12 : decode cX6_steps 12 = .ok (.iconst (-1), 1) := by decide +kernel
theorem dX6_steps_13 : decode cX6_steps 13 = .ok (.ireturn, 1) := by decide +kernel
theorem dX6_steps_14 : decode cX6_steps 14 = .ok (.aload_n 0, 1) := by decide +kernel
theorem dX6_steps_15 : decode cX6_steps 15 = .ok (.iload_n 1, 1) := by decide +kernel
theorem dX6_steps_16 : decode cX6_steps 16 = .ok (.invokevirtual 208, 3) := by decide +kernel
theorem dX6_steps_19 : decode cX6_steps 19 = .ok (.aload_n 0, 1) := by decide +kernel
theorem dX6_steps_20 : decode cX6_steps 20 = .ok (.invokevirtual 211, 3) := by decide +kernel
theorem dX6_steps_23 : decode cX6_steps 23 = .ok (.invokestatic 214, 3) := by decide +kernel
theorem dX6_steps_26 : decode cX6_steps 26 = .ok (.ireturn, 1) := by decide +kernel
theorem dX6_seed_0 : decode cX6_seed 0 = .ok (.aload_n 0, 1) := by decide +kernel
theorem dX6_seed_1 : decode cX6_seed 1 = .ok (.iconst 2, 1) := by decide +kernel
theorem dX6_seed_2 : decode cX6_seed 2 = .ok (.iload_n 1, 1) := by decide +kernel
theorem dX6_seed_3 : decode cX6_seed 3 = .ok (.invokevirtual 174, 3) := by decide +kernel
theorem dX6_seed_6 : decode cX6_seed 6 = .ok (.ireturn, 1) := by decide +kernel
theorem dX6_drawn_0 : decode cX6_drawn 0 = .ok (.aload_n 0, 1) := by decide +kernel
theorem dX6_drawn_1 : decode cX6_drawn 1 = .ok (.getfield 7, 3) := by decide +kernel
theorem dX6_drawn_4 : decode cX6_drawn 4 = .ok (.iconst 2, 1) := by decide +kernel
theorem dX6_drawn_5 : decode cX6_drawn 5 = .ok (.aload_n 0, 1) := by decide +kernel
theorem dX6_drawn_6 : decode cX6_drawn 6 = .ok (.getfield 7, 3) := by decide +kernel
theorem dX6_drawn_9 : decode cX6_drawn 9 = .ok (.iconst 2, 1) := by decide +kernel
theorem dX6_drawn_10 : decode cX6_drawn 10 = .ok (.iaload, 1) := by decide +kernel
theorem dX6_drawn_11 : decode cX6_drawn 11 = .ok (.ldc 217, 2) := by decide +kernel
theorem dX6_drawn_13 : decode cX6_drawn 13 = .ok (.imul, 1) := by decide +kernel
theorem dX6_drawn_14 : decode cX6_drawn 14 = .ok (.sipush 12345, 3) := by decide +kernel
theorem dX6_drawn_17 : decode cX6_drawn 17 = .ok (.iadd, 1) := by decide +kernel
theorem dX6_drawn_18 : decode cX6_drawn 18 = .ok (.iastore, 1) := by decide +kernel
theorem dX6_drawn_19 : decode cX6_drawn 19 = .ok (.aload_n 0, 1) := by decide +kernel
theorem dX6_drawn_20 : decode cX6_drawn 20 = .ok (.getfield 7, 3) := by decide +kernel
theorem dX6_drawn_23 : decode cX6_drawn 23 = .ok (.iconst 2, 1) := by decide +kernel
theorem dX6_drawn_24 : decode cX6_drawn 24 = .ok (.iaload, 1) := by decide +kernel
theorem dX6_drawn_25 : decode cX6_drawn 25 = .ok (.bipush 16, 2) := by decide +kernel
theorem dX6_drawn_27 : decode cX6_drawn 27 = .ok (.iushr, 1) := by decide +kernel
theorem dX6_drawn_28 : decode cX6_drawn 28 = .ok (.ireturn, 1) := by decide +kernel
theorem dX6_step_0 : decode cX6_step 0 = .ok (.aload_n 0, 1) := by decide +kernel
theorem dX6_step_1 : decode cX6_step 1 = .ok (.invokevirtual 218, 3) := by decide +kernel
theorem dX6_step_4 : decode cX6_step 4 = .ok (.bipush 100, 2) := by decide +kernel
theorem dX6_step_6 : decode cX6_step 6 = .ok (.irem, 1) := by decide +kernel
theorem dX6_step_7 : decode cX6_step 7 = .ok (.aload_n 0, 1) := by decide +kernel
theorem dX6_step_8 : decode cX6_step 8 = .ok (.getfield 7, 3) := by decide +kernel
theorem dX6_step_11 : decode cX6_step 11 = .ok (.bipush 7, 2) := by decide +kernel
theorem dX6_step_13 : decode cX6_step 13 = .ok (.iaload, 1) := by decide +kernel
theorem dX6_step_14 : decode cX6_step 14 = .ok (.if_icmp .ge 15, 3) := by decide +kernel
theorem dX6_step_17 : decode cX6_step 17 = .ok (.aload_n 0, 1) := by decide +kernel
theorem dX6_step_18 : decode cX6_step 18 = .ok (.getfield 7, 3) := by decide +kernel
theorem dX6_step_21 : decode cX6_step 21 = .ok (.iconst 3, 1) := by decide +kernel
theorem dX6_step_22 : decode cX6_step 22 = .ok (.aload_n 0, 1) := by decide +kernel
theorem dX6_step_23 : decode cX6_step 23 = .ok (.invokevirtual 218, 3) := by decide +kernel
theorem dX6_step_26 : decode cX6_step 26 = .ok (.iconst 4, 1) := by decide +kernel
theorem dX6_step_27 : decode cX6_step 27 = .ok (.irem, 1) := by decide +kernel
theorem dX6_step_28 : decode cX6_step 28 = .ok (.iastore, 1) := by decide +kernel
theorem dX6_step_29 : decode cX6_step 29 = .ok (.aload_n 0, 1) := by decide +kernel
theorem dX6_step_30 : decode cX6_step 30 = .ok (.invokevirtual 203, 3) := by decide +kernel
theorem dX6_step_33 : decode cX6_step 33 = .ok (.aload_n 0, 1) := by decide +kernel
theorem dX6_step_34 : decode cX6_step 34 = .ok (.invokevirtual 211, 3) := by decide +kernel
theorem dX6_step_37 : decode cX6_step 37 = .ok (.invokestatic 214, 3) := by decide +kernel
theorem dX6_step_40 : decode cX6_step 40 = .ok (.ireturn, 1) := by decide +kernel
theorem dX6_blown_0 : decode cX6_blown 0 = .ok (.iload_n 1, 1) := by decide +kernel
theorem dX6_blown_1 : decode cX6_blown 1 = .ok (.i2l, 1) := by decide +kernel
theorem dX6_blown_2 : decode cX6_blown 2 = .ok (.lconst 1, 1) := by decide +kernel
theorem dX6_blown_3 : decode cX6_blown 3 = .ok (.ldc2_w 221, 3) := by decide +kernel
theorem dX6_blown_6 : decode cX6_blown 6 = .ok (.invokestatic 70, 3) := by decide +kernel
theorem dX6_blown_9 : decode cX6_blown 9 = .ok (.ifCond .ne 5, 3) := by decide +kernel
theorem dX6_blown_12 : decode cX6_blown 12 = .ok (.iconst (-1), 1) := by decide +kernel
theorem dX6_blown_13 : decode cX6_blown 13 = .ok (.ireturn, 1) := by decide +kernel
theorem dX6_blown_14 : decode cX6_blown 14 = .ok (.aload_n 0, 1) := by decide +kernel
theorem dX6_blown_15 : decode cX6_blown 15 = .ok (.getfield 7, 3) := by decide +kernel
theorem dX6_blown_18 : decode cX6_blown 18 = .ok (.aload_n 0, 1) := by decide +kernel
theorem dX6_blown_19 : decode cX6_blown 19 = .ok (.getfield 16, 3) := by decide +kernel
theorem dX6_blown_22 : decode cX6_blown 22 = .ok (.invokestatic 158, 3) := by decide +kernel
theorem dX6_blown_25 : decode cX6_blown 25 = .ok (.aload_n 0, 1) := by decide +kernel
theorem dX6_blown_26 : decode cX6_blown 26 = .ok (.invokevirtual 203, 3) := by decide +kernel
theorem dX6_blown_29 : decode cX6_blown 29 = .ok (.iconst 0, 1) := by decide +kernel
theorem dX6_blown_30 : decode cX6_blown 30 = .ok (.istore_n 2, 1) := by decide +kernel
theorem dX6_blown_31 : decode cX6_blown 31 = .ok (.iload_n 2, 1) := by decide +kernel
theorem dX6_blown_32 : decode cX6_blown 32 = .ok (.aload_n 0, 1) := by decide +kernel
theorem dX6_blown_33 : decode cX6_blown 33 = .ok (.getfield 7, 3) := by decide +kernel
theorem dX6_blown_36 : decode cX6_blown 36 = .ok (.iconst 0, 1) := by decide +kernel
theorem dX6_blown_37 : decode cX6_blown 37 = .ok (.iaload, 1) := by decide +kernel
theorem dX6_blown_38 : decode cX6_blown 38 = .ok (.if_icmp .ge 21, 3) := by decide +kernel
theorem dX6_blown_41 : decode cX6_blown 41 = .ok (.aload_n 0, 1) := by decide +kernel
theorem dX6_blown_42 : decode cX6_blown 42 = .ok (.getfield 25, 3) := by decide +kernel
theorem dX6_blown_45 : decode cX6_blown 45 = .ok (.iload_n 2, 1) := by decide +kernel
theorem dX6_blown_46 : decode cX6_blown 46 = .ok (.aload_n 0, 1) := by decide +kernel
theorem dX6_blown_47 : decode cX6_blown 47 = .ok (.iload_n 2, 1) := by decide +kernel
theorem dX6_blown_48 : decode cX6_blown 48 = .ok (.iconst 3, 1) := by decide +kernel
theorem dX6_blown_49 : decode cX6_blown 49 = .ok (.invokevirtual 182, 3) := by decide +kernel
theorem dX6_blown_52 : decode cX6_blown 52 = .ok (.iastore, 1) := by decide +kernel
theorem dX6_blown_53 : decode cX6_blown 53 = .ok (.iinc 2 1, 3) := by decide +kernel
theorem dX6_blown_56 : decode cX6_blown 56 = .ok (.goto (-25), 3) := by decide +kernel
theorem dX6_blown_59 : decode cX6_blown 59 = .ok (.aload_n 0, 1) := by decide +kernel
theorem dX6_blown_60 : decode cX6_blown 60 = .ok (.getfield 16, 3) := by decide +kernel
theorem dX6_blown_63 : decode cX6_blown 63 = .ok (.iconst 2, 1) := by decide +kernel
theorem dX6_blown_64 : decode cX6_blown 64 = .ok (.iaload, 1) := by decide +kernel
theorem dX6_blown_65 : decode cX6_blown 65 = .ok (.istore_n 2, 1) := by decide +kernel
theorem dX6_blown_66 : decode cX6_blown 66 = .ok (.iconst 0, 1) := by decide +kernel
theorem dX6_blown_67 : decode cX6_blown 67 = .ok (.istore_n 3, 1) := by decide +kernel
theorem dX6_blown_68 : decode cX6_blown 68 = .ok (.iconst 0, 1) := by decide +kernel
theorem dX6_blown_69 : decode cX6_blown 69 = .ok (.istore 4, 2) := by decide +kernel
theorem dX6_blown_71 : decode cX6_blown 71 = .ok (.iload 4, 2) := by decide +kernel
theorem dX6_blown_73 : decode cX6_blown 73 = .ok (.iload_n 1, 1) := by decide +kernel
theorem dX6_blown_74 : decode cX6_blown 74 = .ok (.if_icmp .ge 103, 3) := by decide +kernel
theorem dX6_blown_77 : decode cX6_blown 77 = .ok (.aload_n 0, 1) := by decide +kernel
theorem dX6_blown_78 : decode cX6_blown 78 = .ok (.getfield 16, 3) := by decide +kernel
theorem dX6_blown_81 : decode cX6_blown 81 = .ok (.aload_n 0, 1) := by decide +kernel
theorem dX6_blown_82 : decode cX6_blown 82 = .ok (.getfield 7, 3) := by decide +kernel
theorem dX6_blown_85 : decode cX6_blown 85 = .ok (.invokestatic 158, 3) := by decide +kernel
theorem dX6_blown_88 : decode cX6_blown 88 = .ok (.aload_n 0, 1) := by decide +kernel
theorem dX6_blown_89 : decode cX6_blown 89 = .ok (.getfield 7, 3) := by decide +kernel
theorem dX6_blown_92 : decode cX6_blown 92 = .ok (.iconst 2, 1) := by decide +kernel
theorem dX6_blown_93 : decode cX6_blown 93 = .ok (.iload_n 2, 1) := by decide +kernel
theorem dX6_blown_94 : decode cX6_blown 94 = .ok (.iastore, 1) := by decide +kernel
theorem dX6_blown_95 : decode cX6_blown 95 = .ok (.aload_n 0, 1) := by decide +kernel
theorem dX6_blown_96 : decode cX6_blown 96 = .ok (.invokevirtual 223, 3) := by decide +kernel
theorem dX6_blown_99 : decode cX6_blown 99 = .ok (.istore 5, 2) := by decide +kernel
theorem dX6_blown_101 : decode cX6_blown 101 = .ok (.iconst 0, 1) := by decide +kernel
theorem dX6_blown_102 : decode cX6_blown 102 = .ok (.istore 6, 2) := by decide +kernel
theorem dX6_blown_104 : decode cX6_blown 104 = .ok (.iconst 0, 1) := by decide +kernel
theorem dX6_blown_105 : decode cX6_blown 105 = .ok (.istore 7, 2) := by decide +kernel
theorem dX6_blown_107 : decode cX6_blown 107 = .ok (.iload 7, 2) := by decide +kernel
theorem dX6_blown_109 : decode cX6_blown 109 = .ok (.aload_n 0, 1) := by decide +kernel
theorem dX6_blown_110 : decode cX6_blown 110 = .ok (.getfield 7, 3) := by decide +kernel
theorem dX6_blown_113 : decode cX6_blown 113 = .ok (.iconst 0, 1) := by decide +kernel
theorem dX6_blown_114 : decode cX6_blown 114 = .ok (.iaload, 1) := by decide +kernel
theorem dX6_blown_115 : decode cX6_blown 115 = .ok (.if_icmp .ge 36, 3) := by decide +kernel
theorem dX6_blown_118 : decode cX6_blown 118 = .ok (.iload 6, 2) := by decide +kernel
theorem dX6_blown_120 : decode cX6_blown 120 = .ok (.aload_n 0, 1) := by decide +kernel
theorem dX6_blown_121 : decode cX6_blown 121 = .ok (.iload 7, 2) := by decide +kernel
theorem dX6_blown_123 : decode cX6_blown 123 = .ok (.iconst 3, 1) := by decide +kernel
theorem dX6_blown_124 : decode cX6_blown 124 = .ok (.invokevirtual 182, 3) := by decide +kernel
theorem dX6_blown_127 : decode cX6_blown 127 = .ok (.aload_n 0, 1) := by decide +kernel
theorem dX6_blown_128 : decode cX6_blown 128 = .ok (.getfield 25, 3) := by decide +kernel
theorem dX6_blown_131 : decode cX6_blown 131 = .ok (.iload 7, 2) := by decide +kernel
theorem dX6_blown_133 : decode cX6_blown 133 = .ok (.iaload, 1) := by decide +kernel
theorem dX6_blown_134 : decode cX6_blown 134 = .ok (.if_icmp .eq 7, 3) := by decide +kernel
theorem dX6_blown_137 : decode cX6_blown 137 = .ok (.iconst 1, 1) := by decide +kernel
theorem dX6_blown_138 : decode cX6_blown 138 = .ok (.goto 4, 3) := by decide +kernel
theorem dX6_blown_141 : decode cX6_blown 141 = .ok (.iconst 0, 1) := by decide +kernel
theorem dX6_blown_142 : decode cX6_blown 142 = .ok (.ior, 1) := by decide +kernel
theorem dX6_blown_143 : decode cX6_blown 143 = .ok (.istore 6, 2) := by decide +kernel
theorem dX6_blown_145 : decode cX6_blown 145 = .ok (.iinc 7 1, 3) := by decide +kernel
theorem dX6_blown_148 : decode cX6_blown 148 = .ok (.goto (-41), 3) := by decide +kernel
theorem dX6_blown_151 : decode cX6_blown 151 = .ok (.iload_n 3, 1) := by decide +kernel
theorem dX6_blown_152 : decode cX6_blown 152 = .ok (.iload 6, 2) := by decide +kernel
theorem dX6_blown_154 : decode cX6_blown 154 = .ok (.ifCond .eq 7, 3) := by decide +kernel
theorem dX6_blown_157 : decode cX6_blown 157 = .ok (.iconst 1, 1) := by decide +kernel
theorem dX6_blown_158 : decode cX6_blown 158 = .ok (.goto 4, 3) := by decide +kernel
theorem dX6_blown_161 : decode cX6_blown 161 = .ok (.iconst 0, 1) := by decide +kernel
theorem dX6_blown_162 : decode cX6_blown 162 = .ok (.iadd, 1) := by decide +kernel
theorem dX6_blown_163 : decode cX6_blown 163 = .ok (.istore_n 3, 1) := by decide +kernel
theorem dX6_blown_164 : decode cX6_blown 164 = .ok (.aload_n 0, 1) := by decide +kernel
theorem dX6_blown_165 : decode cX6_blown 165 = .ok (.getfield 7, 3) := by decide +kernel
theorem dX6_blown_168 : decode cX6_blown 168 = .ok (.iconst 2, 1) := by decide +kernel
theorem dX6_blown_169 : decode cX6_blown 169 = .ok (.iaload, 1) := by decide +kernel
theorem dX6_blown_170 : decode cX6_blown 170 = .ok (.istore_n 2, 1) := by decide +kernel
theorem dX6_blown_171 : decode cX6_blown 171 = .ok (.iinc 4 1, 3) := by decide +kernel
theorem dX6_blown_174 : decode cX6_blown 174 = .ok (.goto (-103), 3) := by decide +kernel
theorem dX6_blown_177 : decode cX6_blown 177 = .ok (.aload_n 0, 1) := by decide +kernel
theorem dX6_blown_178 : decode cX6_blown 178 = .ok (.getfield 16, 3) := by decide +kernel
theorem dX6_blown_181 : decode cX6_blown 181 = .ok (.aload_n 0, 1) := by decide +kernel
theorem dX6_blown_182 : decode cX6_blown 182 = .ok (.getfield 7, 3) := by decide +kernel
theorem dX6_blown_185 : decode cX6_blown 185 = .ok (.invokestatic 158, 3) := by decide +kernel
theorem dX6_blown_188 : decode cX6_blown 188 = .ok (.iload_n 3, 1) := by decide +kernel
theorem dX6_blown_189 : decode cX6_blown 189 = .ok (.ireturn, 1) := by decide +kernel
theorem dX6_housesInUse_0 : decode cX6_housesInUse 0 = .ok (.iconst 0, 1) := by decide +kernel
theorem dX6_housesInUse_1 : decode cX6_housesInUse 1 = .ok (.istore_n 1, 1) := by decide +kernel
theorem dX6_housesInUse_2 : decode cX6_housesInUse 2 = .ok (.iconst 0, 1) := by decide +kernel
theorem dX6_housesInUse_3 : decode cX6_housesInUse 3 = .ok (.istore_n 2, 1) := by decide +kernel
theorem dX6_housesInUse_4 : decode cX6_housesInUse 4 = .ok (.iload_n 2, 1) := by decide +kernel
theorem dX6_housesInUse_5 : decode cX6_housesInUse 5 = .ok (.aload_n 0, 1) := by decide +kernel
theorem dX6_housesInUse_6 : decode cX6_housesInUse 6 = .ok (.getfield 7, 3) := by decide +kernel
theorem dX6_housesInUse_9 : decode cX6_housesInUse 9 = .ok (.iconst 0, 1) := by decide +kernel
theorem dX6_housesInUse_10 : decode cX6_housesInUse 10 = .ok (.iaload, 1) := by decide +kernel
theorem dX6_housesInUse_11 : decode cX6_housesInUse 11 = .ok (.if_icmp .ge 20, 3) := by decide +kernel
theorem dX6_housesInUse_14 : decode cX6_housesInUse 14 = .ok (.iload_n 1, 1) := by decide +kernel
theorem dX6_housesInUse_15 : decode cX6_housesInUse 15 = .ok (.iconst 1, 1) := by decide +kernel
theorem dX6_housesInUse_16 : decode cX6_housesInUse 16 = .ok (.aload_n 0, 1) := by decide +kernel
theorem dX6_housesInUse_17 : decode cX6_housesInUse 17 = .ok (.iload_n 2, 1) := by decide +kernel
theorem dX6_housesInUse_18 : decode cX6_housesInUse 18 = .ok (.iconst 3, 1) := by decide +kernel
theorem dX6_housesInUse_19 : decode cX6_housesInUse 19 = .ok (.invokevirtual 182, 3) := by decide +kernel
theorem dX6_housesInUse_22 : decode cX6_housesInUse 22 = .ok (.ishl, 1) := by decide +kernel
theorem dX6_housesInUse_23 : decode cX6_housesInUse 23 = .ok (.ior, 1) := by decide +kernel
theorem dX6_housesInUse_24 : decode cX6_housesInUse 24 = .ok (.istore_n 1, 1) := by decide +kernel
theorem dX6_housesInUse_25 : decode cX6_housesInUse 25 = .ok (.iinc 2 1, 3) := by decide +kernel
theorem dX6_housesInUse_28 : decode cX6_housesInUse 28 = .ok (.goto (-24), 3) := by decide +kernel
theorem dX6_housesInUse_31 : decode cX6_housesInUse 31 = .ok (.iload_n 1, 1) := by decide +kernel
theorem dX6_housesInUse_32 : decode cX6_housesInUse 32 = .ok (.ireturn, 1) := by decide +kernel
theorem dX6_wetBy_0 : decode cX6_wetBy 0 = .ok (.iconst 0, 1) := by decide +kernel
theorem dX6_wetBy_1 : decode cX6_wetBy 1 = .ok (.istore_n 2, 1) := by decide +kernel
theorem dX6_wetBy_2 : decode cX6_wetBy 2 = .ok (.iconst 0, 1) := by decide +kernel
theorem dX6_wetBy_3 : decode cX6_wetBy 3 = .ok (.istore_n 3, 1) := by decide +kernel
theorem dX6_wetBy_4 : decode cX6_wetBy 4 = .ok (.iload_n 3, 1) := by decide +kernel
theorem dX6_wetBy_5 : decode cX6_wetBy 5 = .ok (.bipush 16, 2) := by decide +kernel
theorem dX6_wetBy_7 : decode cX6_wetBy 7 = .ok (.if_icmp .ge 32, 3) := by decide +kernel
theorem dX6_wetBy_10 : decode cX6_wetBy 10 = .ok (.iload_n 2, 1) := by decide +kernel
theorem dX6_wetBy_11 : decode cX6_wetBy 11 = .ok (.aload_n 0, 1) := by decide +kernel
theorem dX6_wetBy_12 : decode cX6_wetBy 12 = .ok (.getfield 7, 3) := by decide +kernel
theorem dX6_wetBy_15 : decode cX6_wetBy 15 = .ok (.bipush 8, 2) := by decide +kernel
theorem dX6_wetBy_17 : decode cX6_wetBy 17 = .ok (.iload_n 3, 1) := by decide +kernel
theorem dX6_wetBy_18 : decode cX6_wetBy 18 = .ok (.iadd, 1) := by decide +kernel
theorem dX6_wetBy_19 : decode cX6_wetBy 19 = .ok (.iaload, 1) := by decide +kernel
theorem dX6_wetBy_20 : decode cX6_wetBy 20 = .ok (.iload_n 1, 1) := by decide +kernel
theorem dX6_wetBy_21 : decode cX6_wetBy 21 = .ok (.if_icmp .lt 9, 3) := by decide +kernel
theorem dX6_wetBy_24 : decode cX6_wetBy 24 = .ok (.iconst 1, 1) := by decide +kernel
theorem dX6_wetBy_25 : decode cX6_wetBy 25 = .ok (.iload_n 3, 1) := by decide +kernel
theorem dX6_wetBy_26 : decode cX6_wetBy 26 = .ok (.ishl, 1) := by decide +kernel
theorem dX6_wetBy_27 : decode cX6_wetBy 27 = .ok (.goto 4, 3) := by decide +kernel
theorem dX6_wetBy_30 : decode cX6_wetBy 30 = .ok (.iconst 0, 1) := by decide +kernel
theorem dX6_wetBy_31 : decode cX6_wetBy 31 = .ok (.ior, 1) := by decide +kernel
theorem dX6_wetBy_32 : decode cX6_wetBy 32 = .ok (.istore_n 2, 1) := by decide +kernel
theorem dX6_wetBy_33 : decode cX6_wetBy 33 = .ok (.iinc 3 1, 3) := by decide +kernel
theorem dX6_wetBy_36 : decode cX6_wetBy 36 = .ok (.goto (-32), 3) := by decide +kernel
theorem dX6_wetBy_39 : decode cX6_wetBy 39 = .ok (.iload_n 2, 1) := by decide +kernel
theorem dX6_wetBy_40 : decode cX6_wetBy 40 = .ok (.ireturn, 1) := by decide +kernel
theorem dX6_wetOfAll_0 : decode cX6_wetOfAll 0 = .ok (.iconst 0, 1) := by decide +kernel
theorem dX6_wetOfAll_1 : decode cX6_wetOfAll 1 = .ok (.istore_n 1, 1) := by decide +kernel
theorem dX6_wetOfAll_2 : decode cX6_wetOfAll 2 = .ok (.iconst 0, 1) := by decide +kernel
theorem dX6_wetOfAll_3 : decode cX6_wetOfAll 3 = .ok (.istore_n 2, 1) := by decide +kernel
theorem dX6_wetOfAll_4 : decode cX6_wetOfAll 4 = .ok (.iload_n 2, 1) := by decide +kernel
theorem dX6_wetOfAll_5 : decode cX6_wetOfAll 5 = .ok (.bipush 16, 2) := by decide +kernel
theorem dX6_wetOfAll_7 : decode cX6_wetOfAll 7 = .ok (.if_icmp .ge 21, 3) := by decide +kernel
theorem dX6_wetOfAll_10 : decode cX6_wetOfAll 10 = .ok (.iload_n 1, 1) := by decide +kernel
theorem dX6_wetOfAll_11 : decode cX6_wetOfAll 11 = .ok (.aload_n 0, 1) := by decide +kernel
theorem dX6_wetOfAll_12 : decode cX6_wetOfAll 12 = .ok (.getfield 7, 3) := by decide +kernel
theorem dX6_wetOfAll_15 : decode cX6_wetOfAll 15 = .ok (.bipush 8, 2) := by decide +kernel
theorem dX6_wetOfAll_17 : decode cX6_wetOfAll 17 = .ok (.iload_n 2, 1) := by decide +kernel
theorem dX6_wetOfAll_18 : decode cX6_wetOfAll 18 = .ok (.iadd, 1) := by decide +kernel
theorem dX6_wetOfAll_19 : decode cX6_wetOfAll 19 = .ok (.iaload, 1) := by decide +kernel
theorem dX6_wetOfAll_20 : decode cX6_wetOfAll 20 = .ok (.iadd, 1) := by decide +kernel
theorem dX6_wetOfAll_21 : decode cX6_wetOfAll 21 = .ok (.istore_n 1, 1) := by decide +kernel
theorem dX6_wetOfAll_22 : decode cX6_wetOfAll 22 = .ok (.iinc 2 1, 3) := by decide +kernel
theorem dX6_wetOfAll_25 : decode cX6_wetOfAll 25 = .ok (.goto (-21), 3) := by decide +kernel
theorem dX6_wetOfAll_28 : decode cX6_wetOfAll 28 = .ok (.iload_n 1, 1) := by decide +kernel
theorem dX6_wetOfAll_29 : decode cX6_wetOfAll 29 = .ok (.ireturn, 1) := by decide +kernel
theorem dX6_state_0 : decode cX6_state 0 = .ok (.iload_n 1, 1) := by decide +kernel
theorem dX6_state_1 : decode cX6_state 1 = .ok (.tableswitch 79 0 5 #[39, 46, 53, 58, 63, 68], 39) := by decide +kernel
theorem dX6_state_40 : decode cX6_state 40 = .ok (.aload_n 0, 1) := by decide +kernel
theorem dX6_state_41 : decode cX6_state 41 = .ok (.getfield 7, 3) := by decide +kernel
theorem dX6_state_44 : decode cX6_state 44 = .ok (.iconst 1, 1) := by decide +kernel
theorem dX6_state_45 : decode cX6_state 45 = .ok (.iaload, 1) := by decide +kernel
theorem dX6_state_46 : decode cX6_state 46 = .ok (.ireturn, 1) := by decide +kernel
theorem dX6_state_47 : decode cX6_state 47 = .ok (.aload_n 0, 1) := by decide +kernel
theorem dX6_state_48 : decode cX6_state 48 = .ok (.getfield 7, 3) := by decide +kernel
theorem dX6_state_51 : decode cX6_state 51 = .ok (.iconst 3, 1) := by decide +kernel
theorem dX6_state_52 : decode cX6_state 52 = .ok (.iaload, 1) := by decide +kernel
theorem dX6_state_53 : decode cX6_state 53 = .ok (.ireturn, 1) := by decide +kernel
theorem dX6_state_54 : decode cX6_state 54 = .ok (.aload_n 0, 1) := by decide +kernel
theorem dX6_state_55 : decode cX6_state 55 = .ok (.invokevirtual 226, 3) := by decide +kernel
theorem dX6_state_58 : decode cX6_state 58 = .ok (.ireturn, 1) := by decide +kernel
theorem dX6_state_59 : decode cX6_state 59 = .ok (.aload_n 0, 1) := by decide +kernel
theorem dX6_state_60 : decode cX6_state 60 = .ok (.invokevirtual 229, 3) := by decide +kernel
theorem dX6_state_63 : decode cX6_state 63 = .ok (.ireturn, 1) := by decide +kernel
theorem dX6_state_64 : decode cX6_state 64 = .ok (.aload_n 0, 1) := by decide +kernel
theorem dX6_state_65 : decode cX6_state 65 = .ok (.invokevirtual 211, 3) := by decide +kernel
theorem dX6_state_68 : decode cX6_state 68 = .ok (.ireturn, 1) := by decide +kernel
theorem dX6_state_69 : decode cX6_state 69 = .ok (.aload_n 0, 1) := by decide +kernel
theorem dX6_state_70 : decode cX6_state 70 = .ok (.aload_n 0, 1) := by decide +kernel
theorem dX6_state_71 : decode cX6_state 71 = .ok (.getfield 7, 3) := by decide +kernel
theorem dX6_state_74 : decode cX6_state 74 = .ok (.iconst 5, 1) := by decide +kernel
theorem dX6_state_75 : decode cX6_state 75 = .ok (.iaload, 1) := by decide +kernel
theorem dX6_state_76 : decode cX6_state 76 = .ok (.invokevirtual 232, 3) := by decide +kernel
theorem dX6_state_79 : decode cX6_state 79 = .ok (.ireturn, 1) := by decide +kernel
theorem dX6_state_80 : decode cX6_state 80 = .ok (.iconst (-1), 1) := by decide +kernel
theorem dX6_state_81 : decode cX6_state 81 = .ok (.ireturn, 1) := by decide +kernel
theorem dX6_whereBehind_0 : decode cX6_whereBehind 0 = .ok (.aload_n 0, 1) := by decide +kernel
theorem dX6_whereBehind_1 : decode cX6_whereBehind 1 = .ok (.getfield 7, 3) := by decide +kernel
