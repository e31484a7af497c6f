theorem dX5_init_0 : decode cX5_init 0 = .ok (.aload_n 0, 1) := by decide +kernel
theorem dX5_init_1 : decode cX5_init 1 = .ok (.invokespecial 1, 3) := by decide +kernel
theorem dX5_init_4 : decode cX5_init 4 = .ok (.aload_n 0, 1) := by decide +kernel
theorem dX5_init_5 : decode cX5_init 5 = .ok (.new 7, 3) := by decide +kernel
theorem dX5_init_8 : decode cX5_init 8 = .ok (.dup, 1) := by decide +kernel
theorem dX5_init_9 : decode cX5_init 9 = .ok (.invokespecial 9, 3) := by decide +kernel
theorem dX5_init_12 : decode cX5_init 12 = .ok (.putfield 10, 3) := by decide +kernel
theorem dX5_init_15 : decode cX5_init 15 = .ok (.aload_n 0, 1) := by decide +kernel
theorem dX5_init_16 : decode cX5_init 16 = .ok (.new 7, 3) := by decide +kernel
theorem dX5_init_19 : decode cX5_init 19 = .ok (.dup, 1) := by decide +kernel
theorem dX5_init_20 : decode cX5_init 20 = .ok (.invokespecial 9, 3) := by decide +kernel
theorem dX5_init_23 : decode cX5_init 23 = .ok (.putfield 16, 3) := by decide +kernel
theorem dX5_init_26 : decode cX5_init 26 = .ok (.aload_n 0, 1) := by decide +kernel
theorem dX5_init_27 : decode cX5_init 27 = .ok (.new 7, 3) := by decide +kernel
theorem dX5_init_30 : decode cX5_init 30 = .ok (.dup, 1) := by decide +kernel
theorem dX5_init_31 : decode cX5_init 31 = .ok (.invokespecial 9, 3) := by decide +kernel
theorem dX5_init_34 : decode cX5_init 34 = .ok (.putfield 19, 3) := by decide +kernel
theorem dX5_init_37 : decode cX5_init 37 = .ok (.aload_n 0, 1) := by decide +kernel
theorem dX5_init_38 : decode cX5_init 38 = .ok (.new 22, 3) := by decide +kernel
theorem dX5_init_41 : decode cX5_init 41 = .ok (.dup, 1) := by decide +kernel
theorem dX5_init_42 : decode cX5_init 42 = .ok (.invokespecial 24, 3) := by decide +kernel
theorem dX5_init_45 : decode cX5_init 45 = .ok (.putfield 25, 3) := by decide +kernel
theorem dX5_init_48 : decode cX5_init 48 = .ok (.aload_n 0, 1) := by decide +kernel
theorem dX5_init_49 : decode cX5_init 49 = .ok (.iconst 4, 1) := by decide +kernel
theorem dX5_init_50 : decode cX5_init 50 = .ok (.anewarray 29, 3) := by decide +kernel
theorem dX5_init_53 : decode cX5_init 53 = .ok (.putfield 31, 3) := by decide +kernel
theorem dX5_init_56 : decode cX5_init 56 = .ok (.aload_n 0, 1) := by decide +kernel
theorem dX5_init_57 : decode cX5_init 57 = .ok (.iconst 4, 1) := by decide +kernel
theorem dX5_init_58 : decode cX5_init 58 = .ok (.anewarray 35, 3) := by decide +kernel
theorem dX5_init_61 : decode cX5_init 61 = .ok (.putfield 37, 3) := by decide +kernel
theorem dX5_init_64 : decode cX5_init 64 = .ok (.aload_n 0, 1) := by decide +kernel
theorem dX5_init_65 : decode cX5_init 65 = .ok (.new 41, 3) := by decide +kernel
theorem dX5_init_68 : decode cX5_init 68 = .ok (.dup, 1) := by decide +kernel
theorem dX5_init_69 : decode cX5_init 69 = .ok (.invokespecial 43, 3) := by decide +kernel
theorem dX5_init_72 : decode cX5_init 72 = .ok (.putfield 44, 3) := by decide +kernel
theorem dX5_init_75 : decode cX5_init 75 = .ok (.aload_n 0, 1) := by decide +kernel
theorem dX5_init_76 : decode cX5_init 76 = .ok (.bipush 30, 2) := by decide +kernel
theorem dX5_init_78 : decode cX5_init 78 = .ok (.newarray .int, 2) := by decide +kernel
theorem dX5_init_80 : decode cX5_init 80 = .ok (.putfield 48, 3) := by decide +kernel
theorem dX5_init_83 : decode cX5_init 83 = .ok (.aload_n 0, 1) := by decide +kernel
theorem dX5_init_84 : decode cX5_init 84 = .ok (.bipush 61, 2) := by decide +kernel
theorem dX5_init_86 : decode cX5_init 86 = .ok (.newarray .int, 2) := by decide +kernel
theorem dX5_init_88 : decode cX5_init 88 = .ok (.putfield 52, 3) := by decide +kernel
theorem dX5_init_91 : decode cX5_init 91 = .ok (.aload_n 0, 1) := by decide +kernel
theorem dX5_init_92 : decode cX5_init 92 = .ok (.bipush 61, 2) := by decide +kernel
theorem dX5_init_94 : decode cX5_init 94 = .ok (.newarray .int, 2) := by decide +kernel
theorem dX5_init_96 : decode cX5_init 96 = .ok (.putfield 55, 3) := by decide +kernel
theorem dX5_init_99 : decode cX5_init 99 = .ok (.aload_n 0, 1) := by decide +kernel
theorem dX5_init_100 : decode cX5_init 100 = .ok (.bipush 8, 2) := by decide +kernel
theorem dX5_init_102 : decode cX5_init 102 = .ok (.newarray .int, 2) := by decide +kernel
theorem dX5_init_104 : decode cX5_init 104 = .ok (.putfield 58, 3) := by decide +kernel
theorem dX5_init_107 : decode cX5_init 107 = .ok (.aload_n 0, 1) := by decide +kernel
theorem dX5_init_108 : decode cX5_init 108 = .ok (.bipush 16, 2) := by decide +kernel
theorem dX5_init_110 : decode cX5_init 110 = .ok (.newarray .int, 2) := by decide +kernel
theorem dX5_init_112 : decode cX5_init 112 = .ok (.putfield 61, 3) := by decide +kernel
theorem dX5_init_115 : decode cX5_init 115 = .ok (.aload_n 0, 1) := by decide +kernel
theorem dX5_init_116 : decode cX5_init 116 = .ok (.sipush 256, 3) := by decide +kernel
theorem dX5_init_119 : decode cX5_init 119 = .ok (.newarray .int, 2) := by decide +kernel
theorem dX5_init_121 : decode cX5_init 121 = .ok (.putfield 64, 3) := by decide +kernel
theorem dX5_init_124 : decode cX5_init 124 = .ok (.aload_n 0, 1) := by decide +kernel
theorem dX5_init_125 : decode cX5_init 125 = .ok (.iconst 0, 1) := by decide +kernel
theorem dX5_init_126 : decode cX5_init 126 = .ok (.putfield 67, 3) := by decide +kernel
theorem dX5_init_129 : decode cX5_init 129 = .ok (.aload_n 0, 1) := by decide +kernel
theorem dX5_init_130 : decode cX5_init 130 = .ok (.iconst 0, 1) := by decide +kernel
theorem dX5_init_131 : decode cX5_init 131 = .ok (.putfield 71, 3) := by decide +kernel
theorem dX5_init_134 : decode cX5_init 134 = .ok (.iconst 0, 1) := by decide +kernel
theorem dX5_init_135 : decode cX5_init 135 = .ok (.istore_n 1, 1) := by decide +kernel
theorem dX5_init_136 : decode cX5_init 136 = .ok (.iload_n 1, 1) := by decide +kernel
theorem dX5_init_137 : decode cX5_init 137 = .ok (.iconst 4, 1) := by decide +kernel
theorem dX5_init_138 : decode cX5_init 138 = .ok (.if_icmp .ge 22, 3) := by decide +kernel
theorem dX5_init_141 : decode cX5_init 141 = .ok (.aload_n 0, 1) := by decide +kernel
theorem dX5_init_142 : decode cX5_init 142 = .ok (.getfield 31, 3) := by decide +kernel
theorem dX5_init_145 : decode cX5_init 145 = .ok (.iload_n 1, 1) := by decide +kernel
theorem dX5_init_146 : decode cX5_init 146 = .ok (.new 29, 3) := by decide +kernel
theorem dX5_init_149 : decode cX5_init 149 = .ok (.dup, 1) := by decide +kernel
theorem dX5_init_150 : decode cX5_init 150 = .ok (.invokespecial 75, 3) := by decide +kernel
theorem dX5_init_153 : decode cX5_init 153 = .ok (.aastore, 1) := by decide +kernel
theorem dX5_init_154 : decode cX5_init 154 = .ok (.iinc 1 1, 3) := by decide +kernel
theorem dX5_init_157 : decode cX5_init 157 = .ok (.goto (-21), 3) := by decide +kernel
theorem dX5_init_160 : decode cX5_init 160 = .ok (.iconst 0, 1) := by decide +kernel
theorem dX5_init_161 : decode cX5_init 161 = .ok (.istore_n 1, 1) := by decide +kernel
theorem dX5_init_162 : decode cX5_init 162 = .ok (.iload_n 1, 1) := by decide +kernel
theorem dX5_init_163 : decode cX5_init 163 = .ok (.iconst 4, 1) := by decide +kernel
theorem dX5_init_164 : decode cX5_init 164 = .ok (.if_icmp .ge 22, 3) := by decide +kernel
theorem dX5_init_167 : decode cX5_init 167 = .ok (.aload_n 0, 1) := by decide +kernel
theorem dX5_init_168 : decode cX5_init 168 = .ok (.getfield 37, 3) := by decide +kernel
theorem dX5_init_171 : decode cX5_init 171 = .ok (.iload_n 1, 1) := by decide +kernel
theorem dX5_init_172 : decode cX5_init 172 = .ok (.new 35, 3) := by decide +kernel
theorem dX5_init_175 : decode cX5_init 175 = .ok (.dup, 1) := by decide +kernel
theorem dX5_init_176 : decode cX5_init 176 = .ok (.invokespecial 76, 3) := by decide +kernel
theorem dX5_init_179 : decode cX5_init 179 = .ok (.aastore, 1) := by decide +kernel
theorem dX5_init_180 : decode cX5_init 180 = .ok (.iinc 1 1, 3) := by decide +kernel
theorem dX5_init_183 : decode cX5_init 183 = .ok (.goto (-21), 3) := by decide +kernel
theorem dX5_init_186 : decode cX5_init 186 = .ok (.return_, 1) := by decide +kernel
theorem dX5_feed_0 : decode cX5_feed 0 = .ok (.iload_n 3, 1) := by decide +kernel
theorem dX5_feed_1 : decode cX5_feed 1 = .ok (.iconst 1, 1) := by decide +kernel
theorem dX5_feed_2 : decode cX5_feed 2 = .ok (.bipush 8, 2) := by decide +kernel
theorem dX5_feed_4 : decode cX5_feed 4 = .ok (.invokestatic 77, 3) := by decide +kernel
theorem dX5_feed_7 : decode cX5_feed 7 = .ok (.ifCond .ne 5, 3) := by decide +kernel
theorem dX5_feed_10 : decode cX5_feed 10 = .ok (.iconst (-1), 1) := by decide +kernel
theorem dX5_feed_11 : decode cX5_feed 11 = .ok (.ireturn, 1) := by decide +kernel
theorem dX5_feed_12 : decode cX5_feed 12 = .ok (.aload_n 0, 1) := by decide +kernel
theorem dX5_feed_13 : decode cX5_feed 13 = .ok (.getfield 25, 3) := by decide +kernel
theorem dX5_feed_16 : decode cX5_feed 16 = .ok (.lload_n 1, 1) := by decide +kernel
theorem dX5_feed_17 : decode cX5_feed 17 = .ok (.iload_n 3, 1) := by decide +kernel
theorem dX5_feed_18 : decode cX5_feed 18 = .ok (.invokevirtual 81, 3) := by decide +kernel
theorem dX5_feed_21 : decode cX5_feed 21 = .ok (.ifCond .eq 13, 3) := by decide +kernel
theorem dX5_feed_24 : decode cX5_feed 24 = .ok (.aload_n 0, 1) := by decide +kernel
theorem dX5_feed_25 : decode cX5_feed 25 = .ok (.getfield 25, 3) := by decide +kernel
theorem dX5_feed_28 : decode cX5_feed 28 = .ok (.getfield 85, 3) := by decide +kernel
theorem dX5_feed_31 : decode cX5_feed 31 = .ok (.goto 5, 3) := by decide +kernel
theorem dX5_feed_34 : decode cX5_feed 34 = .ok (.bipush (-2), 2) := by decide +kernel
theorem dX5_feed_36 : decode cX5_feed 36 = .ok (.ireturn, 1) := by decide +kernel
theorem dX5_city_0 : decode cX5_city 0 = .ok (.aload_n 0, 1) := by decide +kernel
theorem dX5_city_1 : decode cX5_city 1 = .ok (.getfield 19, 3) := by decide +kernel
theorem dX5_city_4 : decode cX5_city 4 = .ok (.invokevirtual 88, 3) := by decide +kernel
theorem dX5_city_7 : decode cX5_city 7 = .ok (.aload_n 0, 1) := by decide +kernel
theorem dX5_city_8 : decode cX5_city 8 = .ok (.getfield 19, 3) := by decide +kernel
theorem dX5_city_11 : decode cX5_city 11 = .ok (.aload_n 0, 1) := by decide +kernel
theorem dX5_city_12 : decode cX5_city 12 = .ok (.getfield 10, 3) := by decide +kernel
theorem dX5_city_15 : decode cX5_city 15 = .ok (.getfield 91, 3) := by decide +kernel
theorem dX5_city_18 : decode cX5_city 18 = .ok (.putfield 91, 3) := by decide +kernel
theorem dX5_city_21 : decode cX5_city 21 = .ok (.aload_n 0, 1) := by decide +kernel
theorem dX5_city_22 : decode cX5_city 22 = .ok (.getfield 25, 3) := by decide +kernel
theorem dX5_city_25 : decode cX5_city 25 = .ok (.aload_n 0, 1) := by decide +kernel
theorem dX5_city_26 : decode cX5_city 26 = .ok (.getfield 19, 3) := by decide +kernel
theorem dX5_city_29 : decode cX5_city 29 = .ok (.invokevirtual 94, 3) := by decide +kernel
theorem dX5_city_32 : decode cX5_city 32 = .ok (.istore_n 1, 1) := by decide +kernel
theorem dX5_city_33 : decode cX5_city 33 = .ok (.aload_n 0, 1) := by decide +kernel
theorem dX5_city_34 : decode cX5_city 34 = .ok (.getfield 25, 3) := by decide +kernel
theorem dX5_city_37 : decode cX5_city 37 = .ok (.iconst 0, 1) := by decide +kernel
theorem dX5_city_38 : decode cX5_city 38 = .ok (.putfield 85, 3) := by decide +kernel
theorem dX5_city_41 : decode cX5_city 41 = .ok (.iload_n 1, 1) := by decide +kernel
theorem dX5_city_42 : decode cX5_city 42 = .ok (.ifCond .lt 8, 3) := by decide +kernel
theorem dX5_city_45 : decode cX5_city 45 = .ok (.bipush (-100), 2) := by decide +kernel
theorem dX5_city_47 : decode cX5_city 47 = .ok (.iload_n 1, 1) := by decide +kernel
theorem dX5_city_48 : decode cX5_city 48 = .ok (.isub, 1) := by decide +kernel
theorem dX5_city_49 : decode cX5_city 49 = .ok (.ireturn, 1) := by decide +kernel
theorem dX5_city_50 : decode cX5_city 50 = .ok (.aload_n 0, 1) := by decide +kernel
theorem dX5_city_51 : decode cX5_city 51 = .ok (.getfield 10, 3) := by decide +kernel
theorem dX5_city_54 : decode cX5_city 54 = .ok (.aload_n 0, 1) := by decide +kernel
theorem dX5_city_55 : decode cX5_city 55 = .ok (.getfield 19, 3) := by decide +kernel
theorem dX5_city_58 : decode cX5_city 58 = .ok (.invokevirtual 98, 3) := by decide +kernel
theorem dX5_city_61 : decode cX5_city 61 = .ok (.aload_n 0, 1) := by decide +kernel
theorem dX5_city_62 : decode cX5_city 62 = .ok (.iconst 0, 1) := by decide +kernel
theorem dX5_city_63 : decode cX5_city 63 = .ok (.putfield 67, 3) := by decide +kernel
theorem dX5_city_66 : decode cX5_city 66 = .ok (.aload_n 0, 1) := by decide +kernel
theorem dX5_city_67 : decode cX5_city 67 = .ok (.getfield 10, 3) := by decide +kernel
theorem dX5_city_70 : decode cX5_city 70 = .ok (.getfield 102, 3) := by decide +kernel
theorem dX5_city_73 : decode cX5_city 73 = .ok (.ireturn, 1) := by decide +kernel
theorem dX5_set_0 : decode cX5_set 0 = .ok (.iload_n 1, 1) := by decide +kernel
theorem dX5_set_1 : decode cX5_set 1 = .ok (.invokestatic 105, 3) := by decide +kernel
theorem dX5_set_4 : decode cX5_set 4 = .ok (.ifCond .eq 20, 3) := by decide +kernel
theorem dX5_set_7 : decode cX5_set 7 = .ok (.iload_n 2, 1) := by decide +kernel
theorem dX5_set_8 : decode cX5_set 8 = .ok (.getstatic 109, 3) := by decide +kernel
theorem dX5_set_11 : decode cX5_set 11 = .ok (.iload_n 1, 1) := by decide +kernel
theorem dX5_set_12 : decode cX5_set 12 = .ok (.iaload, 1) := by decide +kernel
theorem dX5_set_13 : decode cX5_set 13 = .ok (.getstatic 112, 3) := by decide +kernel
theorem dX5_set_16 : decode cX5_set 16 = .ok (.iload_n 1, 1) := by decide +kernel
theorem dX5_set_17 : decode cX5_set 17 = .ok (.iaload, 1) := by decide +kernel
theorem dX5_set_18 : decode cX5_set 18 = .ok (.invokestatic 77, 3) := by decide +kernel
theorem dX5_set_21 : decode cX5_set 21 = .ok (.ifCond .ne 5, 3) := by decide +kernel
theorem dX5_set_24 : decode cX5_set 24 = .ok (.iconst (-1), 1) := by decide +kernel
theorem dX5_set_25 : decode cX5_set 25 = .ok (.ireturn, 1) := by decide +kernel
theorem dX5_set_26 : decode cX5_set 26 = .ok (.aload_n 0, 1) := by decide +kernel
theorem dX5_set_27 : decode cX5_set 27 = .ok (.getfield 10, 3) := by decide +kernel
theorem dX5_set_30 : decode cX5_set 30 = .ok (.getfield 115, 3) := by decide +kernel
theorem dX5_set_33 : decode cX5_set 33 = .ok (.iload_n 1, 1) := by decide +kernel
theorem dX5_set_34 : decode cX5_set 34 = .ok (.iaload, 1) := by decide +kernel
theorem dX5_set_35 : decode cX5_set 35 = .ok (.istore_n 3, 1) := by decide +kernel
theorem dX5_set_36 : decode cX5_set 36 = .ok (.aload_n 0, 1) := by decide +kernel
theorem dX5_set_37 : decode cX5_set 37 = .ok (.getfield 10, 3) := by decide +kernel
theorem dX5_set_40 : decode cX5_set 40 = .ok (.getfield 115, 3) := by decide +kernel
theorem dX5_set_43 : decode cX5_set 43 = .ok (.iload_n 1, 1) := by decide +kernel
theorem dX5_set_44 : decode cX5_set 44 = .ok (.iload_n 2, 1) := by decide +kernel
theorem dX5_set_45 : decode cX5_set 45 = .ok (.iastore, 1) := by decide +kernel
theorem dX5_set_46 : decode cX5_set 46 = .ok (.iload_n 3, 1) := by decide +kernel
theorem dX5_set_47 : decode cX5_set 47 = .ok (.ireturn, 1) := by decide +kernel
theorem dX5_lawOf_0 : decode cX5_lawOf 0 = .ok (.iload_n 1, 1) := by decide +kernel
theorem dX5_lawOf_1 : decode cX5_lawOf 1 = .ok (.invokestatic 105, 3) := by decide +kernel
theorem dX5_lawOf_4 : decode cX5_lawOf 4 = .ok (.ifCond .eq 15, 3) := by decide +kernel
theorem dX5_lawOf_7 : decode cX5_lawOf 7 = .ok (.aload_n 0, 1) := by decide +kernel
theorem dX5_lawOf_8 : decode cX5_lawOf 8 = .ok (.getfield 10, 3) := by decide +kernel
theorem dX5_lawOf_11 : decode cX5_lawOf 11 = .ok (.getfield 115, 3) := by decide +kernel
theorem dX5_lawOf_14 : decode cX5_lawOf 14 = .ok (.iload_n 1, 1) := by decide +kernel
theorem dX5_lawOf_15 : decode cX5_lawOf 15 = .ok (.iaload, 1) := by decide +kernel
theorem dX5_lawOf_16 : decode cX5_lawOf 16 = .ok (.goto 4, 3) := by decide +kernel
theorem dX5_lawOf_19 : decode cX5_lawOf 19 = .ok (.iconst (-1), 1) := by decide +kernel
theorem dX5_lawOf_20 : decode cX5_lawOf 20 = .ok (.ireturn, 1) := by decide +kernel
theorem dX5_air_0 : decode cX5_air 0 = .ok (.iload_n 1, 1) := by decide +kernel
theorem dX5_air_1 : decode cX5_air 1 = .ok (.invokestatic 118, 3) := by decide +kernel
theorem dX5_air_4 : decode cX5_air 4 = .ok (.ifCond .eq 25, 3) := by decide +kernel
theorem dX5_air_7 : decode cX5_air 7 = .ok (.iload_n 2, 1) := by decide +kernel
theorem dX5_air_8 : decode cX5_air 8 = .ok (.invokestatic 121, 3) := by decide +kernel
theorem dX5_air_11 : decode cX5_air 11 = .ok (.ifCond .eq 18, 3) := by decide +kernel
theorem dX5_air_14 : decode cX5_air 14 = .ok (.iload_n 3, 1) := by decide +kernel
theorem dX5_air_15 : decode cX5_air 15 = .ok (.invokestatic 124, 3) := by decide +kernel
theorem dX5_air_18 : decode cX5_air 18 = .ok (.ifCond .eq 11, 3) := by decide +kernel
theorem dX5_air_21 : decode cX5_air 21 = .ok (.iload 4, 2) := by decide +kernel
theorem dX5_air_23 : decode cX5_air 23 = .ok (.invokestatic 124, 3) := by decide +kernel
theorem dX5_air_26 : decode cX5_air 26 = .ok (.ifCond .ne 5, 3) := by decide +kernel
theorem dX5_air_29 : decode cX5_air 29 = .ok (.iconst (-1), 1) := by decide +kernel
theorem dX5_air_30 : decode cX5_air 30 = .ok (.ireturn, 1) := by decide +kernel
theorem dX5_air_31 : decode cX5_air 31 = .ok (.aload_n 0, 1) := by decide +kernel
theorem dX5_air_32 : decode cX5_air 32 = .ok (.getfield 10, 3) := by decide +kernel
theorem dX5_air_35 : decode cX5_air 35 = .ok (.iload_n 1, 1) := by decide +kernel
theorem dX5_air_36 : decode cX5_air 36 = .ok (.iload_n 2, 1) := by decide +kernel
theorem dX5_air_37 : decode cX5_air 37 = .ok (.iload_n 3, 1) := by decide +kernel
theorem dX5_air_38 : decode cX5_air 38 = .ok (.iload 4, 2) := by decide +kernel
theorem dX5_air_40 : decode cX5_air 40 = .ok (.invokevirtual 127, 3) := by decide +kernel
theorem dX5_air_43 : decode cX5_air 43 = .ok (.ifCond .eq 15, 3) := by decide +kernel
theorem dX5_air_46 : decode cX5_air 46 = .ok (.aload_n 0, 1) := by decide +kernel
theorem dX5_air_47 : decode cX5_air 47 = .ok (.getfield 10, 3) := by decide +kernel
theorem dX5_air_50 : decode cX5_air 50 = .ok (.getfield 102, 3) := by decide +kernel
theorem dX5_air_53 : decode cX5_air 53 = .ok (.iconst 1, 1) := by decide +kernel
theorem dX5_air_54 : decode cX5_air 54 = .ok (.isub, 1) := by decide +kernel
theorem dX5_air_55 : decode cX5_air 55 = .ok (.goto 5, 3) := by decide +kernel
theorem dX5_air_58 : decode cX5_air 58 = .ok (.bipush (-2), 2) := by decide +kernel
theorem dX5_air_60 : decode cX5_air 60 = .ok (.ireturn, 1) := by decide +kernel
theorem dX5_of_0 : decode cX5_of 0 = .ok (.aload_n 0, 1) := by decide +kernel
theorem dX5_of_1 : decode cX5_of 1 = .ok (.getfield 10, 3) := by decide +kernel
theorem dX5_of_4 : decode cX5_of 4 = .ok (.iload_n 1, 1) := by decide +kernel
theorem dX5_of_5 : decode cX5_of 5 = .ok (.invokevirtual 131, 3) := by decide +kernel
theorem dX5_of_8 : decode cX5_of 8 = .ok (.ifCond .ne 5, 3) := by decide +kernel
theorem dX5_of_11 : decode cX5_of 11 = .ok (.iconst (-1), 1) := by decide +kernel
theorem dX5_of_12 : decode cX5_of 12 = .ok (.ireturn, 1) := by decide +kernel
theorem dX5_of_13 : decode cX5_of 13 = .ok (.iload_n 2, 1) := by decide +kernel
theorem dX5_of_14 : decode cX5_of 14 = .ok (.tableswitch 100 0 5 #[38, 48, 58, 68, 78, 87], 38) := by decide +kernel
theorem dX5_of_52 : decode cX5_of 52 = .ok (.aload_n 0, 1) := by decide +kernel
theorem dX5_of_53 : decode cX5_of 53 = .ok (.getfield 10, 3) := by decide +kernel
theorem dX5_of_56 : decode cX5_of 56 = .ok (.getfield 134, 3) := by decide +kernel
theorem dX5_of_59 : decode cX5_of 59 = .ok (.iload_n 1, 1) := by decide +kernel
theorem dX5_of_60 : decode cX5_of 60 = .ok (.iaload, 1) := by decide +kernel
theorem dX5_of_61 : decode cX5_of 61 = .ok (.ireturn, 1) := by decide +kernel
theorem dX5_of_62 : decode cX5_of 62 = .ok (.aload_n 0, 1) := by decide +kernel
theorem dX5_of_63 : decode cX5_of 63 = .ok (.getfield 10, 3) := by decide +kernel
theorem dX5_of_66 : decode cX5_of 66 = .ok (.getfield 137, 3) := by decide +kernel
theorem dX5_of_69 : decode cX5_of 69 = .ok (.iload_n 1, 1) := by decide +kernel
theorem dX5_of_70 : decode cX5_of 70 = .ok (.iaload, 1) := by decide +kernel
theorem dX5_of_71 : decode cX5_of 71 = .ok (.ireturn, 1) := by decide +kernel
theorem dX5_of_72 : decode cX5_of 72 = .ok (.aload_n 0, 1) := by decide +kernel
theorem dX5_of_73 : decode cX5_of 73 = .ok (.getfield 10, 3) := by decide +kernel
theorem dX5_of_76 : decode cX5_of 76 = .ok (.getfield 140, 3) := by decide +kernel
theorem dX5_of_79 : decode cX5_of 79 = .ok (.iload_n 1, 1) := by decide +kernel
theorem dX5_of_80 : decode cX5_of 80 = .ok (.iaload, 1) := by decide +kernel
theorem dX5_of_81 : decode cX5_of 81 = .ok (.ireturn, 1) := by decide +kernel
theorem dX5_of_82 : decode cX5_of 82 = .ok (.aload_n 0, 1) := by decide +kernel
theorem dX5_of_83 : decode cX5_of 83 = .ok (.getfield 10, 3) := by decide +kernel
theorem dX5_of_86 : decode cX5_of 86 = .ok (.getfield 143, 3) := by decide +kernel
theorem dX5_of_89 : decode cX5_of 89 = .ok (.iload_n 1, 1) := by decide +kernel
theorem dX5_of_90 : decode cX5_of 90 = .ok (.iaload, 1) := by decide +kernel
theorem dX5_of_91 : decode cX5_of 91 = .ok (.ireturn, 1) := by decide +kernel
theorem dX5_of_92 : decode cX5_of 92 = .ok (.aload_n 0, 1) := by decide +kernel
theorem dX5_of_93 : decode cX5_of 93 = .ok (.getfield 10, 3) := by decide +kernel
theorem dX5_of_96 : decode cX5_of 96 = .ok (.iload_n 1, 1) := by decide +kernel
theorem dX5_of_97 : decode cX5_of 97 = .ok (.invokevirtual 146, 3) := by decide +kernel
theorem dX5_of_100 : decode cX5_of 100 = .ok (.ireturn, 1) := by decide +kernel
theorem dX5_of_101 : decode cX5_of 101 = .ok (.sipush 1000, 3) := by decide +kernel
theorem dX5_of_104 : decode cX5_of 104 = .ok (.aload_n 0, 1) := by decide +kernel
theorem dX5_of_105 : decode cX5_of 105 = .ok (.getfield 10, 3) := by decide +kernel
theorem dX5_of_108 : decode cX5_of 108 = .ok (.iload_n 1, 1) := by decide +kernel
theorem dX5_of_109 : decode cX5_of 109 = .ok (.invokevirtual 150, 3) := by decide +kernel
theorem dX5_of_112 : decode cX5_of 112 = .ok (.iadd, 1) := by decide +kernel
theorem dX5_of_113 : decode cX5_of 113 = .ok (.ireturn, 1) := by decide +kernel
theorem dX5_of_114 : decode cX5_of 114 = .ok (.iconst (-1), 1) := by decide +kernel
theorem dX5_of_115 : decode cX5_of 115 = .ok (.ireturn, 1) := by decide +kernel
theorem dX5_mind_0 : decode cX5_mind 0 = .ok (.aload_n 0, 1) := by decide +kernel
theorem dX5_mind_1 : decode cX5_mind 1 = .ok (.getfield 10, 3) := by decide +kernel
theorem dX5_mind_4 : decode cX5_mind 4 = .ok (.iload_n 1, 1) := by decide +kernel
theorem dX5_mind_5 : decode cX5_mind 5 = .ok (.invokevirtual 131, 3) := by decide +kernel
theorem dX5_mind_8 : decode cX5_mind 8 = .ok (.ifCond .eq 17, 3) := by decide +kernel
theorem dX5_mind_11 : decode cX5_mind 11 = .ok (.iload_n 2, 1) := by decide +kernel
theorem dX5_mind_12 : decode cX5_mind 12 = .ok (.invokestatic 118, 3) := by decide +kernel
theorem dX5_mind_15 : decode cX5_mind 15 = .ok (.ifCond .eq 10, 3) := by decide +kernel
theorem dX5_mind_18 : decode cX5_mind 18 = .ok (.iload_n 3, 1) := by decide +kernel
theorem dX5_mind_19 : decode cX5_mind 19 = .ok (.invokestatic 121, 3) := by decide +kernel
theorem dX5_mind_22 : decode cX5_mind 22 = .ok (.ifCond .ne 5, 3) := by decide +kernel
theorem dX5_mind_25 : decode cX5_mind 25 = .ok (.iconst (-1), 1) := by decide +kernel
theorem dX5_mind_26 : decode cX5_mind 26 = .ok (.ireturn, 1) := by decide +kernel
theorem dX5_mind_27 : decode cX5_mind 27 = .ok (.aload_n 0, 1) := by decide +kernel
theorem dX5_mind_28 : decode cX5_mind 28 = .ok (.getfield 10, 3) := by decide +kernel
theorem dX5_mind_31 : decode cX5_mind 31 = .ok (.getfield 134, 3) := by decide +kernel
theorem dX5_mind_34 : decode cX5_mind 34 = .ok (.iload_n 1, 1) := by decide +kernel
theorem dX5_mind_35 : decode cX5_mind 35 = .ok (.iaload, 1) := by decide +kernel
theorem dX5_mind_36 : decode cX5_mind 36 = .ok (.istore 4, 2) := by decide +kernel
theorem dX5_mind_38 : decode cX5_mind 38 = .ok (.aload_n 0, 1) := by decide +kernel
theorem dX5_mind_39 : decode cX5_mind 39 = .ok (.getfield 10, 3) := by decide +kernel
theorem dX5_mind_42 : decode cX5_mind 42 = .ok (.getfield 134, 3) := by decide +kernel
theorem dX5_mind_45 : decode cX5_mind 45 = .ok (.iload_n 1, 1) := by decide +kernel
theorem dX5_mind_46 : decode cX5_mind 46 = .ok (.iload_n 2, 1) := by decide +kernel
theorem dX5_mind_47 : decode cX5_mind 47 = .ok (.iastore, 1) := by decide +kernel
theorem dX5_mind_48 : decode cX5_mind 48 = .ok (.aload_n 0, 1) := by decide +kernel
theorem dX5_mind_49 : decode cX5_mind 49 = .ok (.getfield 10, 3) := by decide +kernel
theorem dX5_mind_52 : decode cX5_mind 52 = .ok (.getfield 137, 3) := by decide +kernel
theorem dX5_mind_55 : decode cX5_mind 55 = .ok (.iload_n 1, 1) := by decide +kernel
theorem dX5_mind_56 : decode cX5_mind 56 = .ok (.iload_n 3, 1) := by decide +kernel
theorem dX5_mind_57 : decode cX5_mind 57 = .ok (.iastore, 1) := by decide +kernel
theorem dX5_mind_58 : decode cX5_mind 58 = .ok (.iload 4, 2) := by decide +kernel
theorem dX5_mind_60 : decode cX5_mind 60 = .ok (.ireturn, 1) := by decide +kernel
theorem dX5_bring_0 : decode cX5_bring 0 = .ok (.aload_n 0, 1) := by decide +kernel
theorem dX5_bring_1 : decode cX5_bring 1 = .ok (.getfield 10, 3) := by decide +kernel
theorem dX5_bring_4 : decode cX5_bring 4 = .ok (.iload_n 1, 1) := by decide +kernel
theorem dX5_bring_5 : decode cX5_bring 5 = .ok (.invokevirtual 131, 3) := by decide +kernel
theorem dX5_bring_8 : decode cX5_bring 8 = .ok (.ifCond .eq 10, 3) := by decide +kernel
theorem dX5_bring_11 : decode cX5_bring 11 = .ok (.iload_n 2, 1) := by decide +kernel
theorem dX5_bring_12 : decode cX5_bring 12 = .ok (.invokestatic 124, 3) := by decide +kernel
theorem dX5_bring_15 : decode cX5_bring 15 = .ok (.ifCond .ne 5, 3) := by decide +kernel
theorem dX5_bring_18 : decode cX5_bring 18 = .ok (.iconst (-1), 1) := by decide +kernel
theorem dX5_bring_19 : decode cX5_bring 19 = .ok (.ireturn, 1) := by decide +kernel
theorem dX5_bring_20 : decode cX5_bring 20 = .ok (.aload_n 0, 1) := by decide +kernel
theorem dX5_bring_21 : decode cX5_bring 21 = .ok (.getfield 10, 3) := by decide +kernel
theorem dX5_bring_24 : decode cX5_bring 24 = .ok (.getfield 143, 3) := by decide +kernel
theorem dX5_bring_27 : decode cX5_bring 27 = .ok (.iload_n 1, 1) := by decide +kernel
theorem dX5_bring_28 : decode cX5_bring 28 = .ok (.iaload, 1) := by decide +kernel
theorem dX5_bring_29 : decode cX5_bring 29 = .ok (.istore_n 3, 1) := by decide +kernel
theorem dX5_bring_30 : decode cX5_bring 30 = .ok (.aload_n 0, 1) := by decide +kernel
theorem dX5_bring_31 : decode cX5_bring 31 = .ok (.getfield 10, 3) := by decide +kernel
theorem dX5_bring_34 : decode cX5_bring 34 = .ok (.getfield 143, 3) := by decide +kernel
theorem dX5_bring_37 : decode cX5_bring 37 = .ok (.iload_n 1, 1) := by decide +kernel
theorem dX5_bring_38 : decode cX5_bring 38 = .ok (.iload_n 2, 1) := by decide +kernel
theorem dX5_bring_39 : decode cX5_bring 39 = .ok (.iastore, 1) := by decide +kernel
theorem dX5_bring_40 : decode cX5_bring 40 = .ok (.iload_n 3, 1) := by decide +kernel
theorem dX5_bring_41 : decode cX5_bring 41 = .ok (.ireturn, 1) := by decide +kernel
theorem dX5_send_0 : decode cX5_send 0 = .ok (.aload_n 0, 1) := by decide +kernel
theorem dX5_send_1 : decode cX5_send 1 = .ok (.getfield 10, 3) := by decide +kernel
theorem dX5_send_4 : decode cX5_send 4 = .ok (.iload_n 1, 1) := by decide +kernel
theorem dX5_send_5 : decode cX5_send 5 = .ok (.invokevirtual 131, 3) := by decide +kernel
theorem dX5_send_8 : decode cX5_send 8 = .ok (.ifCond .eq 10, 3) := by decide +kernel
theorem dX5_send_11 : decode cX5_send 11 = .ok (.iload_n 2, 1) := by decide +kernel
theorem dX5_send_12 : decode cX5_send 12 = .ok (.invokestatic 124, 3) := by decide +kernel
theorem dX5_send_15 : decode cX5_send 15 = .ok (.ifCond .ne 5, 3) := by decide +kernel
theorem dX5_send_18 : decode cX5_send 18 = .ok (.iconst (-1), 1) := by decide +kernel
theorem dX5_send_19 : decode cX5_send 19 = .ok (.ireturn, 1) := by decide +kernel
theorem dX5_send_20 : decode cX5_send 20 = .ok (.aload_n 0, 1) := by decide +kernel
theorem dX5_send_21 : decode cX5_send 21 = .ok (.getfield 10, 3) := by decide +kernel
theorem dX5_send_24 : decode cX5_send 24 = .ok (.getfield 140, 3) := by decide +kernel
theorem dX5_send_27 : decode cX5_send 27 = .ok (.iload_n 1, 1) := by decide +kernel
theorem dX5_send_28 : decode cX5_send 28 = .ok (.iaload, 1) := by decide +kernel
theorem dX5_send_29 : decode cX5_send 29 = .ok (.istore_n 3, 1) := by decide +kernel
theorem dX5_send_30 : decode cX5_send 30 = .ok (.aload_n 0, 1) := by decide +kernel
theorem dX5_send_31 : decode cX5_send 31 = .ok (.getfield 10, 3) := by decide +kernel
theorem dX5_send_34 : decode cX5_send 34 = .ok (.getfield 140, 3) := by decide +kernel
theorem dX5_send_37 : decode cX5_send 37 = .ok (.iload_n 1, 1) := by decide +kernel
theorem dX5_send_38 : decode cX5_send 38 = .ok (.iload_n 2, 1) := by decide +kernel
theorem dX5_send_39 : decode cX5_send 39 = .ok (.iastore, 1) := by decide +kernel
theorem dX5_send_40 : decode cX5_send 40 = .ok (.iload_n 3, 1) := by decide +kernel
theorem dX5_send_41 : decode cX5_send 41 = .ok (.ireturn, 1) := by decide +kernel
theorem dX5_blow_0 : decode cX5_blow 0 = .ok (.iload_n 1, 1) := by decide +kernel
theorem dX5_blow_1 : decode cX5_blow 1 = .ok (.iconst 0, 1) := by decide +kernel
theorem dX5_blow_2 : decode cX5_blow 2 = .ok (.iconst 3, 1) := by decide +kernel
theorem dX5_blow_3 : decode cX5_blow 3 = .ok (.invokestatic 77, 3) := by decide +kernel
theorem dX5_blow_6 : decode cX5_blow 6 = .ok (.ifCond .ne 5, 3) := by decide +kernel
theorem dX5_blow_9 : decode cX5_blow 9 = .ok (.iconst (-1), 1) := by decide +kernel
theorem dX5_blow_10 : decode cX5_blow 10 = .ok (.ireturn, 1) := by decide +kernel
theorem dX5_blow_11 : decode cX5_blow 11 = .ok (.aload_n 0, 1) := by decide +kernel
theorem dX5_blow_12 : decode cX5_blow 12 = .ok (.getfield 10, 3) := by decide +kernel
theorem dX5_blow_15 : decode cX5_blow 15 = .ok (.getfield 153, 3) := by decide +kernel
theorem dX5_blow_18 : decode cX5_blow 18 = .ok (.istore_n 2, 1) := by decide +kernel
theorem dX5_blow_19 : decode cX5_blow 19 = .ok (.aload_n 0, 1) := by decide +kernel
theorem dX5_blow_20 : decode cX5_blow 20 = .ok (.getfield 10, 3) := by decide +kernel
theorem dX5_blow_23 : decode cX5_blow 23 = .ok (.iload_n 1, 1) := by decide +kernel
theorem dX5_blow_24 : decode cX5_blow 24 = .ok (.putfield 153, 3) := by decide +kernel
theorem dX5_blow_27 : decode cX5_blow 27 = .ok (.iload_n 2, 1) := by decide +kernel
theorem dX5_blow_28 : decode cX5_blow 28 = .ok (.ireturn, 1) := by decide +kernel
theorem dX5_pour_0 : decode cX5_pour 0 = .ok (.iload_n 1, 1) := by decide +kernel
theorem dX5_pour_1 : decode cX5_pour 1 = .ok (.invokestatic 124, 3) := by decide +kernel
theorem dX5_pour_4 : decode cX5_pour 4 = .ok (.ifCond .eq 13, 3) := by decide +kernel
theorem dX5_pour_7 : decode cX5_pour 7 = .ok (.iload_n 2, 1) := by decide +kernel
theorem dX5_pour_8 : decode cX5_pour 8 = .ok (.iconst 0, 1) := by decide +kernel
theorem dX5_pour_9 : decode cX5_pour 9 = .ok (.bipush 99, 2) := by decide +kernel
theorem dX5_pour_11 : decode cX5_pour 11 = .ok (.invokestatic 77, 3) := by decide +kernel
theorem dX5_pour_14 : decode cX5_pour 14 = .ok (.ifCond .ne 5, 3) := by decide +kernel
theorem dX5_pour_17 : decode cX5_pour 17 = .ok (.iconst (-1), 1) := by decide +kernel
theorem dX5_pour_18 : decode cX5_pour 18 = .ok (.ireturn, 1) := by decide +kernel
theorem dX5_pour_19 : decode cX5_pour 19 = .ok (.aload_n 0, 1) := by decide +kernel
theorem dX5_pour_20 : decode cX5_pour 20 = .ok (.getfield 10, 3) := by decide +kernel
theorem dX5_pour_23 : decode cX5_pour 23 = .ok (.getfield 156, 3) := by decide +kernel
theorem dX5_pour_26 : decode cX5_pour 26 = .ok (.iload_n 1, 1) := by decide +kernel
theorem dX5_pour_27 : decode cX5_pour 27 = .ok (.iaload, 1) := by decide +kernel
theorem dX5_pour_28 : decode cX5_pour 28 = .ok (.istore_n 3, 1) := by decide +kernel
theorem dX5_pour_29 : decode cX5_pour 29 = .ok (.aload_n 0, 1) := by decide +kernel
theorem dX5_pour_30 : decode cX5_pour 30 = .ok (.getfield 10, 3) := by decide +kernel
theorem dX5_pour_33 : decode cX5_pour 33 = .ok (.getfield 156, 3) := by decide +kernel
theorem dX5_pour_36 : decode cX5_pour 36 = .ok (.iload_n 1, 1) := by decide +kernel
theorem dX5_pour_37 : decode cX5_pour 37 = .ok (.iload_n 2, 1) := by decide +kernel
theorem dX5_pour_38 : decode cX5_pour 38 = .ok (.iastore, 1) := by decide +kernel
theorem dX5_pour_39 : decode cX5_pour 39 = .ok (.iload_n 3, 1) := by decide +kernel
theorem dX5_pour_40 : decode cX5_pour 40 = .ok (.ireturn, 1) := by decide +kernel
theorem dX5_house_0 : decode cX5_house 0 = .ok (.iload_n 1, 1) := by decide +kernel
theorem dX5_house_1 : decode cX5_house 1 = .ok (.invokestatic 124, 3) := by decide +kernel
theorem dX5_house_4 : decode cX5_house 4 = .ok (.ifCond .ne 5, 3) := by decide +kernel
theorem dX5_house_7 : decode cX5_house 7 = .ok (.iconst (-1), 1) := by decide +kernel
theorem dX5_house_8 : decode cX5_house 8 = .ok (.ireturn, 1) := by decide +kernel
theorem dX5_house_9 : decode cX5_house 9 = .ok (.iload_n 2, 1) := by decide +kernel
theorem dX5_house_10 : decode cX5_house 10 = .ok (.lookupswitch 45 #[(0, 26), (1, 36)], 26) := by decide +kernel
theorem dX5_house_36 : decode cX5_house 36 = .ok (.aload_n 0, 1) := by decide +kernel
theorem dX5_house_37 : decode cX5_house 37 = .ok (.getfield 10, 3) := by decide +kernel
theorem dX5_house_40 : decode cX5_house 40 = .ok (.getfield 156, 3) := by decide +kernel
theorem dX5_house_43 : decode cX5_house 43 = .ok (.iload_n 1, 1) := by decide +kernel
theorem dX5_house_44 : decode cX5_house 44 = .ok (.iaload, 1) := by decide +kernel
theorem dX5_house_45 : decode cX5_house 45 = .ok (.ireturn, 1) := by decide +kernel
theorem dX5_house_46 : decode cX5_house 46 = .ok (.aload_n 0, 1) := by decide +kernel
theorem dX5_house_47 : decode cX5_house 47 = .ok (.getfield 10, 3) := by decide +kernel
theorem dX5_house_50 : decode cX5_house 50 = .ok (.iload_n 1, 1) := by decide +kernel
theorem dX5_house_51 : decode cX5_house 51 = .ok (.invokevirtual 159, 3) := by decide +kernel
theorem dX5_house_54 : decode cX5_house 54 = .ok (.ireturn, 1) := by decide +kernel
theorem dX5_house_55 : decode cX5_house 55 = .ok (.iconst (-1), 1) := by decide +kernel
theorem dX5_house_56 : decode cX5_house 56 = .ok (.ireturn, 1) := by decide +kernel
theorem dX5_steps_0 : decode cX5_steps 0 = .ok (.iload_n 1, 1) := by decide +kernel
theorem dX5_steps_1 : decode cX5_steps 1 = .ok (.iconst 1, 1) := by decide +kernel
theorem dX5_steps_2 : decode cX5_steps 2 = .ok (.bipush 60, 2) := by decide +kernel
theorem dX5_steps_4 : decode cX5_steps 4 = .ok (.invokestatic 77, 3) := by decide +kernel
theorem dX5_steps_7 : decode cX5_steps 7 = .ok (.ifCond .ne 5, 3) := by decide +kernel
theorem dX5_steps_10 : decode cX5_steps 10 = .ok (.iconst (-1), 1) := by decide +kernel
theorem dX5_steps_11 : decode cX5_steps 11 = .ok (.ireturn, 1) := by decide +kernel
theorem dX5_steps_12 : decode cX5_steps 12 = .ok (.iconst 0, 1) := by decide +kernel
theorem dX5_steps_13 : decode cX5_steps 13 = .ok (.istore_n 2, 1) := by decide +kernel
theorem dX5_steps_14 : decode cX5_steps 14 = .ok (.iload_n 2, 1) := by decide +kernel
theorem dX5_steps_15 : decode cX5_steps 15 = .ok (.iload_n 1, 1) := by decide +kernel
theorem dX5_steps_16 : decode cX5_steps 16 = .ok (.if_icmp .ge 16, 3) := by decide +kernel
theorem dX5_steps_19 : decode cX5_steps 19 = .ok (.aload_n 0, 1) := by decide +kernel
theorem dX5_steps_20 : decode cX5_steps 20 = .ok (.getfield 10, 3) := by decide +kernel
theorem dX5_steps_23 : decode cX5_steps 23 = .ok (.invokevirtual 162, 3) := by decide +kernel
theorem dX5_steps_26 : decode cX5_steps 26 = .ok (.iinc 2 1, 3) := by decide +kernel
theorem dX5_steps_29 : decode cX5_steps 29 = .ok (.goto (-15), 3) := by decide +kernel
theorem dX5_steps_32 : decode cX5_steps 32 = .ok (.aload_n 0, 1) := by decide +kernel
theorem dX5_steps_33 : decode cX5_steps 33 = .ok (.getfield 10, 3) := by decide +kernel
theorem dX5_steps_36 : decode cX5_steps 36 = .ok (.invokevirtual 165, 3) := by decide +kernel
theorem dX5_steps_39 : decode cX5_steps 39 = .ok (.invokestatic 169, 3) := by decide +kernel
theorem dX5_steps_42 : decode cX5_steps 42 = .ok (.ireturn, 1) := by decide +kernel
theorem dX5_seed_0 : decode cX5_seed 0 = .ok (.aload_n 0, 1) := by decide +kernel
theorem dX5_seed_1 : decode cX5_seed 1 = .ok (.getfield 10, 3) := by decide +kernel
theorem dX5_seed_4 : decode cX5_seed 4 = .ok (.getfield 91, 3) := by decide +kernel
theorem dX5_seed_7 : decode cX5_seed 7 = .ok (.istore_n 2, 1) := by decide +kernel
theorem dX5_seed_8 : decode cX5_seed 8 = .ok (.aload_n 0, 1) := by decide +kernel
theorem dX5_seed_9 : decode cX5_seed 9 = .ok (.getfield 10, 3) := by decide +kernel
theorem dX5_seed_12 : decode cX5_seed 12 = .ok (.iload_n 1, 1) := by decide +kernel
theorem dX5_seed_13 : decode cX5_seed 13 = .ok (.putfield 91, 3) := by decide +kernel
theorem dX5_seed_16 : decode cX5_seed 16 = .ok (.iload_n 2, 1) := by decide +kernel
theorem dX5_seed_17 : decode cX5_seed 17 = .ok (.ireturn, 1) := by decide +kernel
theorem dX5_step_0 : decode cX5_step 0 = .ok (.aload_n 0, 1) := by decide +kernel
theorem dX5_step_1 : decode cX5_step 1 = .ok (.getfield 10, 3) := by decide +kernel
theorem dX5_step_4 : decode cX5_step 4 = .ok (.invokevirtual 174, 3) := by decide +kernel
theorem dX5_step_7 : decode cX5_step 7 = .ok (.aload_n 0, 1) := by decide +kernel
theorem dX5_step_8 : decode cX5_step 8 = .ok (.getfield 10, 3) := by decide +kernel
theorem dX5_step_11 : decode cX5_step 11 = .ok (.invokevirtual 165, 3) := by decide +kernel
theorem dX5_step_14 : decode cX5_step 14 = .ok (.invokestatic 169, 3) := by decide +kernel
theorem dX5_step_17 : decode cX5_step 17 = .ok (.ireturn, 1) := by decide +kernel
theorem dX5_blown_0 : decode cX5_blown 0 = .ok (.iload_n 1, 1) := by decide +kernel
theorem dX5_blown_1 : decode cX5_blown 1 = .ok (.iconst 1, 1) := by decide +kernel
theorem dX5_blown_2 : decode cX5_blown 2 = .ok (.bipush 30, 2) := by decide +kernel
theorem dX5_blown_4 : decode cX5_blown 4 = .ok (.invokestatic 77, 3) := by decide +kernel
theorem dX5_blown_7 : decode cX5_blown 7 = .ok (.ifCond .ne 5, 3) := by decide +kernel
theorem dX5_blown_10 : decode cX5_blown 10 = .ok (.iconst (-1), 1) := by decide +kernel
theorem dX5_blown_11 : decode cX5_blown 11 = .ok (.ireturn, 1) := by decide +kernel
theorem dX5_blown_12 : decode cX5_blown 12 = .ok (.aload_n 0, 1) := by decide +kernel
theorem dX5_blown_13 : decode cX5_blown 13 = .ok (.getfield 19, 3) := by decide +kernel
theorem dX5_blown_16 : decode cX5_blown 16 = .ok (.aload_n 0, 1) := by decide +kernel
theorem dX5_blown_17 : decode cX5_blown 17 = .ok (.getfield 10, 3) := by decide +kernel
theorem dX5_blown_20 : decode cX5_blown 20 = .ok (.invokevirtual 98, 3) := by decide +kernel
theorem dX5_blown_23 : decode cX5_blown 23 = .ok (.aload_n 0, 1) := by decide +kernel
theorem dX5_blown_24 : decode cX5_blown 24 = .ok (.getfield 19, 3) := by decide +kernel
theorem dX5_blown_27 : decode cX5_blown 27 = .ok (.invokevirtual 162, 3) := by decide +kernel
theorem dX5_blown_30 : decode cX5_blown 30 = .ok (.aload_n 0, 1) := by decide +kernel
theorem dX5_blown_31 : decode cX5_blown 31 = .ok (.getfield 19, 3) := by decide +kernel
theorem dX5_blown_34 : decode cX5_blown 34 = .ok (.getfield 143, 3) := by decide +kernel
theorem dX5_blown_37 : decode cX5_blown 37 = .ok (.iconst 0, 1) := by decide +kernel
theorem dX5_blown_38 : decode cX5_blown 38 = .ok (.aload_n 0, 1) := by decide +kernel
theorem dX5_blown_39 : decode cX5_blown 39 = .ok (.getfield 58, 3) := by decide +kernel
theorem dX5_blown_42 : decode cX5_blown 42 = .ok (.iconst 0, 1) := by decide +kernel
theorem dX5_blown_43 : decode cX5_blown 43 = .ok (.bipush 8, 2) := by decide +kernel
theorem dX5_blown_45 : decode cX5_blown 45 = .ok (.invokestatic 177, 3) := by decide +kernel
theorem dX5_blown_48 : decode cX5_blown 48 = .ok (.aload_n 0, 1) := by decide +kernel
theorem dX5_blown_49 : decode cX5_blown 49 = .ok (.getfield 10, 3) := by decide +kernel
theorem dX5_blown_52 : decode cX5_blown 52 = .ok (.getfield 91, 3) := by decide +kernel
theorem dX5_blown_55 : decode cX5_blown 55 = .ok (.istore_n 2, 1) := by decide +kernel
theorem dX5_blown_56 : decode cX5_blown 56 = .ok (.iconst 0, 1) := by decide +kernel
theorem dX5_blown_57 : decode cX5_blown 57 = .ok (.istore_n 3, 1) := by decide +kernel
theorem dX5_blown_58 : decode cX5_blown 58 = .ok (.iconst 0, 1) := by decide +kernel
theorem dX5_blown_59 : decode cX5_blown 59 = .ok (.istore 4, 2) := by decide +kernel
theorem dX5_blown_61 : decode cX5_blown 61 = .ok (.iload 4, 2) := by decide +kernel
theorem dX5_blown_63 : decode cX5_blown 63 = .ok (.iload_n 1, 1) := by decide +kernel
theorem dX5_blown_64 : decode cX5_blown 64 = .ok (.if_icmp .ge 60, 3) := by decide +kernel
theorem dX5_blown_67 : decode cX5_blown 67 = .ok (.aload_n 0, 1) := by decide +kernel
theorem dX5_blown_68 : decode cX5_blown 68 = .ok (.getfield 19, 3) := by decide +kernel
theorem dX5_blown_71 : decode cX5_blown 71 = .ok (.aload_n 0, 1) := by decide +kernel
theorem dX5_blown_72 : decode cX5_blown 72 = .ok (.getfield 10, 3) := by decide +kernel
theorem dX5_blown_75 : decode cX5_blown 75 = .ok (.invokevirtual 98, 3) := by decide +kernel
theorem dX5_blown_78 : decode cX5_blown 78 = .ok (.aload_n 0, 1) := by decide +kernel
theorem dX5_blown_79 : decode cX5_blown 79 = .ok (.getfield 19, 3) := by decide +kernel
theorem dX5_blown_82 : decode cX5_blown 82 = .ok (.iload_n 2, 1) := by decide +kernel
theorem dX5_blown_83 : decode cX5_blown 83 = .ok (.putfield 91, 3) := by decide +kernel
theorem dX5_blown_86 : decode cX5_blown 86 = .ok (.aload_n 0, 1) := by decide +kernel
theorem dX5_blown_87 : decode cX5_blown 87 = .ok (.getfield 19, 3) := by decide +kernel
theorem dX5_blown_90 : decode cX5_blown 90 = .ok (.invokevirtual 174, 3) := by decide +kernel
theorem dX5_blown_93 : decode cX5_blown 93 = .ok (.aload_n 0, 1) := by decide +kernel
theorem dX5_blown_94 : decode cX5_blown 94 = .ok (.getfield 19, 3) := by decide +kernel
theorem dX5_blown_97 : decode cX5_blown 97 = .ok (.getfield 91, 3) := by decide +kernel
theorem dX5_blown_100 : decode cX5_blown 100 = .ok (.istore_n 2, 1) := by decide +kernel
theorem dX5_blown_101 : decode cX5_blown 101 = .ok (.aload_n 0, 1) := by decide +kernel
theorem dX5_blown_102 : decode cX5_blown 102 = .ok (.getfield 19, 3) := by decide +kernel
theorem dX5_blown_105 : decode cX5_blown 105 = .ok (.aload_n 0, 1) := by decide +kernel
theorem dX5_blown_106 : decode cX5_blown 106 = .ok (.getfield 58, 3) := by decide +kernel
theorem dX5_blown_109 : decode cX5_blown 109 = .ok (.invokevirtual 183, 3) := by decide +kernel
theorem dX5_blown_112 : decode cX5_blown 112 = .ok (.ifCond .eq 6, 3) := by decide +kernel
theorem dX5_blown_115 : decode cX5_blown 115 = .ok (.iinc 3 1, 3) := by decide +kernel
theorem dX5_blown_118 : decode cX5_blown 118 = .ok (.iinc 4 1, 3) := by decide +kernel
theorem dX5_blown_121 : decode cX5_blown 121 = .ok (.goto (-60), 3) := by decide +kernel
theorem dX5_blown_124 : decode cX5_blown 124 = .ok (.iload_n 3, 1) := by decide +kernel
theorem dX5_blown_125 : decode cX5_blown 125 = .ok (.ireturn, 1) := by decide +kernel
theorem dX5_state_0 : decode cX5_state 0 = .ok (.iload_n 1, 1) := by decide +kernel
theorem dX5_state_1 : decode cX5_state 1 = .ok (.tableswitch 96 0 5 #[39, 47, 55, 63, 71, 79], 39) := by decide +kernel
theorem dX5_state_40 : decode cX5_state 40 = .ok (.aload_n 0, 1) := by decide +kernel
theorem dX5_state_41 : decode cX5_state 41 = .ok (.getfield 10, 3) := by decide +kernel
theorem dX5_state_44 : decode cX5_state 44 = .ok (.getfield 187, 3) := by decide +kernel
theorem dX5_state_47 : decode cX5_state 47 = .ok (.ireturn, 1) := by decide +kernel
theorem dX5_state_48 : decode cX5_state 48 = .ok (.aload_n 0, 1) := by decide +kernel
theorem dX5_state_49 : decode cX5_state 49 = .ok (.getfield 10, 3) := by decide +kernel
theorem dX5_state_52 : decode cX5_state 52 = .ok (.getfield 153, 3) := by decide +kernel
theorem dX5_state_55 : decode cX5_state 55 = .ok (.ireturn, 1) := by decide +kernel
theorem dX5_state_56 : decode cX5_state 56 = .ok (.aload_n 0, 1) := by decide +kernel
theorem dX5_state_57 : decode cX5_state 57 = .ok (.getfield 10, 3) := by decide +kernel
theorem dX5_state_60 : decode cX5_state 60 = .ok (.invokevirtual 190, 3) := by decide +kernel
theorem dX5_state_63 : decode cX5_state 63 = .ok (.ireturn, 1) := by decide +kernel
theorem dX5_state_64 : decode cX5_state 64 = .ok (.aload_n 0, 1) := by decide +kernel
theorem dX5_state_65 : decode cX5_state 65 = .ok (.getfield 10, 3) := by decide +kernel
theorem dX5_state_68 : decode cX5_state 68 = .ok (.invokevirtual 193, 3) := by decide +kernel
theorem dX5_state_71 : decode cX5_state 71 = .ok (.ireturn, 1) := by decide +kernel
theorem dX5_state_72 : decode cX5_state 72 = .ok (.aload_n 0, 1) := by decide +kernel
theorem dX5_state_73 : decode cX5_state 73 = .ok (.getfield 10, 3) := by decide +kernel
theorem dX5_state_76 : decode cX5_state 76 = .ok (.invokevirtual 165, 3) := by decide +kernel
theorem dX5_state_79 : decode cX5_state 79 = .ok (.ireturn, 1) := by decide +kernel
theorem dX5_state_80 : decode cX5_state 80 = .ok (.aload_n 0, 1) := by decide +kernel
theorem dX5_state_81 : decode cX5_state 81 = .ok (.getfield 10, 3) := by decide +kernel
theorem dX5_state_84 : decode cX5_state 84 = .ok (.aload_n 0, 1) := by decide +kernel
theorem dX5_state_85 : decode cX5_state 85 = .ok (.getfield 10, 3) := by decide +kernel
theorem dX5_state_88 : decode cX5_state 88 = .ok (.getfield 115, 3) := by decide +kernel
theorem dX5_state_91 : decode cX5_state 91 = .ok (.iconst 1, 1) := by decide +kernel
theorem dX5_state_92 : decode cX5_state 92 = .ok (.iaload, 1) := by decide +kernel
theorem dX5_state_93 : decode cX5_state 93 = .ok (.invokevirtual 196, 3) := by decide +kernel
theorem dX5_state_96 : decode cX5_state 96 = .ok (.ireturn, 1) := by decide +kernel
theorem dX5_state_97 : decode cX5_state 97 = .ok (.iconst (-1), 1) := by decide +kernel
theorem dX5_state_98 : decode cX5_state 98 = .ok (.ireturn, 1) := by decide +kernel
theorem dX5_where_0 : decode cX5_where 0 = .ok (.aload_n 0, 1) := by decide +kernel
theorem dX5_where_1 : decode cX5_where 1 = .ok (.getfield 10, 3) := by decide +kernel
theorem dX5_where_4 : decode cX5_where 4 = .ok (.iload_n 1, 1) := by decide +kernel
theorem dX5_where_5 : decode cX5_where 5 = .ok (.invokevirtual 131, 3) := by decide +kernel
theorem dX5_where_8 : decode cX5_where 8 = .ok (.ifCond .eq 13, 3) := by decide +kernel
theorem dX5_where_11 : decode cX5_where 11 = .ok (.iload_n 2, 1) := by decide +kernel
theorem dX5_where_12 : decode cX5_where 12 = .ok (.iconst 0, 1) := by decide +kernel
theorem dX5_where_13 : decode cX5_where 13 = .ok (.bipush 60, 2) := by decide +kernel
theorem dX5_where_15 : decode cX5_where 15 = .ok (.invokestatic 77, 3) := by decide +kernel
theorem dX5_where_18 : decode cX5_where 18 = .ok (.ifCond .ne 5, 3) := by decide +kernel
theorem dX5_where_21 : decode cX5_where 21 = .ok (.iconst (-1), 1) := by decide +kernel
theorem dX5_where_22 : decode cX5_where 22 = .ok (.ireturn, 1) := by decide +kernel
theorem dX5_where_23 : decode cX5_where 23 = .ok (.aload_n 0, 1) := by decide +kernel
theorem dX5_where_24 : decode cX5_where 24 = .ok (.iload_n 1, 1) := by decide +kernel
theorem dX5_where_25 : decode cX5_where 25 = .ok (.iload_n 2, 1) := by decide +kernel
theorem dX5_where_26 : decode cX5_where 26 = .ok (.aload_n 0, 1) := by decide +kernel
theorem dX5_where_27 : decode cX5_where 27 = .ok (.getfield 52, 3) := by decide +kernel
theorem dX5_where_30 : decode cX5_where 30 = .ok (.invokevirtual 199, 3) := by decide +kernel
theorem dX5_where_33 : decode cX5_where 33 = .ok (.aload_n 0, 1) := by decide +kernel
theorem dX5_where_34 : decode cX5_where 34 = .ok (.getfield 52, 3) := by decide +kernel
theorem dX5_where_37 : decode cX5_where 37 = .ok (.iload_n 2, 1) := by decide +kernel
theorem dX5_where_38 : decode cX5_where 38 = .ok (.iaload, 1) := by decide +kernel
theorem dX5_where_39 : decode cX5_where 39 = .ok (.ireturn, 1) := by decide +kernel
theorem dX5_stops_0 : decode cX5_stops 0 = .ok (.aload_n 0, 1) := by decide +kernel
theorem dX5_stops_1 : decode cX5_stops 1 = .ok (.getfield 10, 3) := by decide +kernel
theorem dX5_stops_4 : decode cX5_stops 4 = .ok (.iload_n 1, 1) := by decide +kernel
theorem dX5_stops_5 : decode cX5_stops 5 = .ok (.invokevirtual 131, 3) := by decide +kernel
theorem dX5_stops_8 : decode cX5_stops 8 = .ok (.ifCond .ne 5, 3) := by decide +kernel
theorem dX5_stops_11 : decode cX5_stops 11 = .ok (.iconst (-1), 1) := by decide +kernel
theorem dX5_stops_12 : decode cX5_stops 12 = .ok (.ireturn, 1) := by decide +kernel
theorem dX5_stops_13 : decode cX5_stops 13 = .ok (.aload_n 0, 1) := by decide +kernel
theorem dX5_stops_14 : decode cX5_stops 14 = .ok (.iload_n 1, 1) := by decide +kernel
theorem dX5_stops_15 : decode cX5_stops 15 = .ok (.bipush 60, 2) := by decide +kernel
theorem dX5_stops_17 : decode cX5_stops 17 = .ok (.aload_n 0, 1) := by decide +kernel
theorem dX5_stops_18 : decode cX5_stops 18 = .ok (.getfield 52, 3) := by decide +kernel
theorem dX5_stops_21 : decode cX5_stops 21 = .ok (.invokevirtual 199, 3) := by decide +kernel
theorem dX5_stops_24 : decode cX5_stops 24 = .ok (.iconst 0, 1) := by decide +kernel
theorem dX5_stops_25 : decode cX5_stops 25 = .ok (.istore_n 2, 1) := by decide +kernel
theorem dX5_stops_26 : decode cX5_stops 26 = .ok (.iload_n 2, 1) := by decide +kernel
theorem dX5_stops_27 : decode cX5_stops 27 = .ok (.bipush 60, 2) := by decide +kernel
theorem dX5_stops_29 : decode cX5_stops 29 = .ok (.if_icmp .gt 29, 3) := by decide +kernel
theorem dX5_stops_32 : decode cX5_stops 32 = .ok (.aload_n 0, 1) := by decide +kernel
theorem dX5_stops_33 : decode cX5_stops 33 = .ok (.getfield 52, 3) := by decide +kernel
theorem dX5_stops_36 : decode cX5_stops 36 = .ok (.iload_n 2, 1) := by decide +kernel
theorem dX5_stops_37 : decode cX5_stops 37 = .ok (.iaload, 1) := by decide +kernel
theorem dX5_stops_38 : decode cX5_stops 38 = .ok (.aload_n 0, 1) := by decide +kernel
theorem dX5_stops_39 : decode cX5_stops 39 = .ok (.getfield 10, 3) := by decide +kernel
theorem dX5_stops_42 : decode cX5_stops 42 = .ok (.getfield 140, 3) := by decide +kernel
theorem dX5_stops_45 : decode cX5_stops 45 = .ok (.iload_n 1, 1) := by decide +kernel
theorem dX5_stops_46 : decode cX5_stops 46 = .ok (.iaload, 1) := by decide +kernel
theorem dX5_stops_47 : decode cX5_stops 47 = .ok (.if_icmp .ne 5, 3) := by decide +kernel
theorem dX5_stops_50 : decode cX5_stops 50 = .ok (.iload_n 2, 1) := by decide +kernel
theorem dX5_stops_51 : decode cX5_stops 51 = .ok (.ireturn, 1) := by decide +kernel
theorem dX5_stops_52 : decode cX5_stops 52 = .ok (.iinc 2 1, 3) := by decide +kernel
theorem dX5_stops_55 : decode cX5_stops 55 = .ok (.goto (-29), 3) := by decide +kernel
theorem dX5_stops_58 : decode cX5_stops 58 = .ok (.bipush (-3), 2) := by decide +kernel
theorem dX5_stops_60 : decode cX5_stops 60 = .ok (.ireturn, 1) := by decide +kernel
theorem dX5_meets_0 : decode cX5_meets 0 = .ok (.aload_n 0, 1) := by decide +kernel
theorem dX5_meets_1 : decode cX5_meets 1 = .ok (.getfield 10, 3) := by decide +kernel
theorem dX5_meets_4 : decode cX5_meets 4 = .ok (.iload_n 1, 1) := by decide +kernel
theorem dX5_meets_5 : decode cX5_meets 5 = .ok (.invokevirtual 131, 3) := by decide +kernel
theorem dX5_meets_8 : decode cX5_meets 8 = .ok (.ifCond .eq 19, 3) := by decide +kernel
theorem dX5_meets_11 : decode cX5_meets 11 = .ok (.aload_n 0, 1) := by decide +kernel
theorem dX5_meets_12 : decode cX5_meets 12 = .ok (.getfield 10, 3) := by decide +kernel
theorem dX5_meets_15 : decode cX5_meets 15 = .ok (.iload_n 2, 1) := by decide +kernel
theorem dX5_meets_16 : decode cX5_meets 16 = .ok (.invokevirtual 131, 3) := by decide +kernel
theorem dX5_meets_19 : decode cX5_meets 19 = .ok (.ifCond .eq 8, 3) := by decide +kernel
theorem dX5_meets_22 : decode cX5_meets 22 = .ok (.iload_n 1, 1) := by decide +kernel
theorem dX5_meets_23 : decode cX5_meets 23 = .ok (.iload_n 2, 1) := by decide +kernel
theorem dX5_meets_24 : decode cX5_meets 24 = .ok (.if_icmp .ne 5, 3) := by decide +kernel
theorem dX5_meets_27 : decode cX5_meets 27 = .ok (.iconst (-1), 1) := by decide +kernel
theorem dX5_meets_28 : decode cX5_meets 28 = .ok (.ireturn, 1) := by decide +kernel
theorem dX5_meets_29 : decode cX5_meets 29 = .ok (.aload_n 0, 1) := by decide +kernel
theorem dX5_meets_30 : decode cX5_meets 30 = .ok (.iload_n 1, 1) := by decide +kernel
theorem dX5_meets_31 : decode cX5_meets 31 = .ok (.bipush 60, 2) := by decide +kernel
theorem dX5_meets_33 : decode cX5_meets 33 = .ok (.aload_n 0, 1) := by decide +kernel
theorem dX5_meets_34 : decode cX5_meets 34 = .ok (.getfield 52, 3) := by decide +kernel
theorem dX5_meets_37 : decode cX5_meets 37 = .ok (.invokevirtual 199, 3) := by decide +kernel
theorem dX5_meets_40 : decode cX5_meets 40 = .ok (.aload_n 0, 1) := by decide +kernel
theorem dX5_meets_41 : decode cX5_meets 41 = .ok (.iload_n 2, 1) := by decide +kernel
theorem dX5_meets_42 : decode cX5_meets 42 = .ok (.bipush 60, 2) := by decide +kernel
theorem dX5_meets_44 : decode cX5_meets 44 = .ok (.aload_n 0, 1) := by decide +kernel
theorem dX5_meets_45 : decode cX5_meets 45 = .ok (.getfield 55, 3) := by decide +kernel
theorem dX5_meets_48 : decode cX5_meets 48 = .ok (.invokevirtual 199, 3) := by decide +kernel
theorem dX5_meets_51 : decode cX5_meets 51 = .ok (.iconst 0, 1) := by decide +kernel
theorem dX5_meets_52 : decode cX5_meets 52 = .ok (.istore_n 3, 1) := by decide +kernel
theorem dX5_meets_53 : decode cX5_meets 53 = .ok (.iload_n 3, 1) := by decide +kernel
theorem dX5_meets_54 : decode cX5_meets 54 = .ok (.bipush 60, 2) := by decide +kernel
theorem dX5_meets_56 : decode cX5_meets 56 = .ok (.if_icmp .gt 26, 3) := by decide +kernel
theorem dX5_meets_59 : decode cX5_meets 59 = .ok (.aload_n 0, 1) := by decide +kernel
theorem dX5_meets_60 : decode cX5_meets 60 = .ok (.getfield 52, 3) := by decide +kernel
theorem dX5_meets_63 : decode cX5_meets 63 = .ok (.iload_n 3, 1) := by decide +kernel
theorem dX5_meets_64 : decode cX5_meets 64 = .ok (.iaload, 1) := by decide +kernel
theorem dX5_meets_65 : decode cX5_meets 65 = .ok (.aload_n 0, 1) := by decide +kernel
theorem dX5_meets_66 : decode cX5_meets 66 = .ok (.getfield 55, 3) := by decide +kernel
theorem dX5_meets_69 : decode cX5_meets 69 = .ok (.iload_n 3, 1) := by decide +kernel
theorem dX5_meets_70 : decode cX5_meets 70 = .ok (.iaload, 1) := by decide +kernel
theorem dX5_meets_71 : decode cX5_meets 71 = .ok (.if_icmp .ne 5, 3) := by decide +kernel
theorem dX5_meets_74 : decode cX5_meets 74 = .ok (.iload_n 3, 1) := by decide +kernel
theorem dX5_meets_75 : decode cX5_meets 75 = .ok (.ireturn, 1) := by decide +kernel
theorem dX5_meets_76 : decode cX5_meets 76 = .ok (.iinc 3 1, 3) := by decide +kernel
theorem dX5_meets_79 : decode cX5_meets 79 = .ok (.goto (-26), 3) := by decide +kernel
theorem dX5_meets_82 : decode cX5_meets 82 = .ok (.bipush (-3), 2) := by decide +kernel
theorem dX5_meets_84 : decode cX5_meets 84 = .ok (.ireturn, 1) := by decide +kernel
theorem dX5_told_0 : decode cX5_told 0 = .ok (.aload_n 0, 1) := by decide +kernel
theorem dX5_told_1 : decode cX5_told 1 = .ok (.getfield 10, 3) := by decide +kernel
theorem dX5_told_4 : decode cX5_told 4 = .ok (.iload_n 1, 1) := by decide +kernel
theorem dX5_told_5 : decode cX5_told 5 = .ok (.invokevirtual 131, 3) := by decide +kernel
theorem dX5_told_8 : decode cX5_told 8 = .ok (.ifCond .ne 5, 3) := by decide +kernel
theorem dX5_told_11 : decode cX5_told 11 = .ok (.iconst (-1), 1) := by decide +kernel
theorem dX5_told_12 : decode cX5_told 12 = .ok (.ireturn, 1) := by decide +kernel
theorem dX5_told_13 : decode cX5_told 13 = .ok (.aload_n 0, 1) := by decide +kernel
theorem dX5_told_14 : decode cX5_told 14 = .ok (.iload_n 1, 1) := by decide +kernel
theorem dX5_told_15 : decode cX5_told 15 = .ok (.bipush 60, 2) := by decide +kernel
theorem dX5_told_17 : decode cX5_told 17 = .ok (.aload_n 0, 1) := by decide +kernel
theorem dX5_told_18 : decode cX5_told 18 = .ok (.getfield 52, 3) := by decide +kernel
theorem dX5_told_21 : decode cX5_told 21 = .ok (.invokevirtual 199, 3) := by decide +kernel
theorem dX5_told_24 : decode cX5_told 24 = .ok (.aload_n 0, 1) := by decide +kernel
theorem dX5_told_25 : decode cX5_told 25 = .ok (.getfield 19, 3) := by decide +kernel
theorem dX5_told_28 : decode cX5_told 28 = .ok (.aload_n 0, 1) := by decide +kernel
theorem dX5_told_29 : decode cX5_told 29 = .ok (.getfield 10, 3) := by decide +kernel
theorem dX5_told_32 : decode cX5_told 32 = .ok (.invokevirtual 98, 3) := by decide +kernel
theorem dX5_told_35 : decode cX5_told 35 = .ok (.aload_n 0, 1) := by decide +kernel
theorem dX5_told_36 : decode cX5_told 36 = .ok (.getfield 19, 3) := by decide +kernel
theorem dX5_told_39 : decode cX5_told 39 = .ok (.getfield 134, 3) := by decide +kernel
theorem dX5_told_42 : decode cX5_told 42 = .ok (.iload_n 1, 1) := by decide +kernel
theorem dX5_told_43 : decode cX5_told 43 = .ok (.iconst 0, 1) := by decide +kernel
theorem dX5_told_44 : decode cX5_told 44 = .ok (.iastore, 1) := by decide +kernel
theorem dX5_told_45 : decode cX5_told 45 = .ok (.aload_n 0, 1) := by decide +kernel
theorem dX5_told_46 : decode cX5_told 46 = .ok (.getfield 19, 3) := by decide +kernel
theorem dX5_told_49 : decode cX5_told 49 = .ok (.iload_n 1, 1) := by decide +kernel
theorem dX5_told_50 : decode cX5_told 50 = .ok (.bipush 60, 2) := by decide +kernel
theorem dX5_told_52 : decode cX5_told 52 = .ok (.aload_n 0, 1) := by decide +kernel
theorem dX5_told_53 : decode cX5_told 53 = .ok (.getfield 55, 3) := by decide +kernel
theorem dX5_told_56 : decode cX5_told 56 = .ok (.invokevirtual 203, 3) := by decide +kernel
theorem dX5_told_59 : decode cX5_told 59 = .ok (.iconst 0, 1) := by decide +kernel
theorem dX5_told_60 : decode cX5_told 60 = .ok (.istore_n 2, 1) := by decide +kernel
theorem dX5_told_61 : decode cX5_told 61 = .ok (.iload_n 2, 1) := by decide +kernel
theorem dX5_told_62 : decode cX5_told 62 = .ok (.bipush 60, 2) := by decide +kernel
theorem dX5_told_64 : decode cX5_told 64 = .ok (.if_icmp .gt 26, 3) := by decide +kernel
theorem dX5_told_67 : decode cX5_told 67 = .ok (.aload_n 0, 1) := by decide +kernel
theorem dX5_told_68 : decode cX5_told 68 = .ok (.getfield 52, 3) := by decide +kernel
theorem dX5_told_71 : decode cX5_told 71 = .ok (.iload_n 2, 1) := by decide +kernel
theorem dX5_told_72 : decode cX5_told 72 = .ok (.iaload, 1) := by decide +kernel
theorem dX5_told_73 : decode cX5_told 73 = .ok (.aload_n 0, 1) := by decide +kernel
theorem dX5_told_74 : decode cX5_told 74 = .ok (.getfield 55, 3) := by decide +kernel
theorem dX5_told_77 : decode cX5_told 77 = .ok (.iload_n 2, 1) := by decide +kernel
theorem dX5_told_78 : decode cX5_told 78 = .ok (.iaload, 1) := by decide +kernel
theorem dX5_told_79 : decode cX5_told 79 = .ok (.if_icmp .eq 5, 3) := by decide +kernel
theorem dX5_told_82 : decode cX5_told 82 = .ok (.iload_n 2, 1) := by decide +kernel
theorem dX5_told_83 : decode cX5_told 83 = .ok (.ireturn, 1) := by decide +kernel
theorem dX5_told_84 : decode cX5_told 84 = .ok (.iinc 2 1, 3) := by decide +kernel
theorem dX5_told_87 : decode cX5_told 87 = .ok (.goto (-26), 3) := by decide +kernel
theorem dX5_told_90 : decode cX5_told 90 = .ok (.bipush (-3), 2) := by decide +kernel
theorem dX5_told_92 : decode cX5_told 92 = .ok (.ireturn, 1) := by decide +kernel
theorem dX5_off_0 : decode cX5_off 0 = .ok (.aload_n 0, 1) := by decide +kernel
theorem dX5_off_1 : decode cX5_off 1 = .ok (.getfield 10, 3) := by decide +kernel
theorem dX5_off_4 : decode cX5_off 4 = .ok (.iload_n 1, 1) := by decide +kernel
theorem dX5_off_5 : decode cX5_off 5 = .ok (.invokevirtual 131, 3) := by decide +kernel
theorem dX5_off_8 : decode cX5_off 8 = .ok (.ifCond .eq 13, 3) := by decide +kernel
theorem dX5_off_11 : decode cX5_off 11 = .ok (.iload_n 2, 1) := by decide +kernel
theorem dX5_off_12 : decode cX5_off 12 = .ok (.iconst 0, 1) := by decide +kernel
theorem dX5_off_13 : decode cX5_off 13 = .ok (.bipush 60, 2) := by decide +kernel
theorem dX5_off_15 : decode cX5_off 15 = .ok (.invokestatic 77, 3) := by decide +kernel
theorem dX5_off_18 : decode cX5_off 18 = .ok (.ifCond .ne 5, 3) := by decide +kernel
theorem dX5_off_21 : decode cX5_off 21 = .ok (.iconst (-1), 1) := by decide +kernel
theorem dX5_off_22 : decode cX5_off 22 = .ok (.ireturn, 1) := by decide +kernel
theorem dX5_off_23 : decode cX5_off 23 = .ok (.aload_n 0, 1) := by decide +kernel
theorem dX5_off_24 : decode cX5_off 24 = .ok (.getfield 19, 3) := by decide +kernel
theorem dX5_off_27 : decode cX5_off 27 = .ok (.aload_n 0, 1) := by decide +kernel
theorem dX5_off_28 : decode cX5_off 28 = .ok (.getfield 10, 3) := by decide +kernel
theorem dX5_off_31 : decode cX5_off 31 = .ok (.invokevirtual 98, 3) := by decide +kernel
theorem dX5_off_34 : decode cX5_off 34 = .ok (.aload_n 0, 1) := by decide +kernel
theorem dX5_off_35 : decode cX5_off 35 = .ok (.iload_n 1, 1) := by decide +kernel
theorem dX5_off_36 : decode cX5_off 36 = .ok (.iload_n 2, 1) := by decide +kernel
theorem dX5_off_37 : decode cX5_off 37 = .ok (.invokevirtual 206, 3) := by decide +kernel
theorem dX5_off_40 : decode cX5_off 40 = .ok (.ireturn, 1) := by decide +kernel
theorem dX5_windFor_0 : decode cX5_windFor 0 = .ok (.aload_n 0, 1) := by decide +kernel
theorem dX5_windFor_1 : decode cX5_windFor 1 = .ok (.getfield 10, 3) := by decide +kernel
theorem dX5_windFor_4 : decode cX5_windFor 4 = .ok (.iload_n 1, 1) := by decide +kernel
theorem dX5_windFor_5 : decode cX5_windFor 5 = .ok (.invokevirtual 131, 3) := by decide +kernel
theorem dX5_windFor_8 : decode cX5_windFor 8 = .ok (.ifCond .eq 13, 3) := by decide +kernel
theorem dX5_windFor_11 : decode cX5_windFor 11 = .ok (.iload_n 2, 1) := by decide +kernel
theorem dX5_windFor_12 : decode cX5_windFor 12 = .ok (.iconst 1, 1) := by decide +kernel
theorem dX5_windFor_13 : decode cX5_windFor 13 = .ok (.bipush 30, 2) := by decide +kernel
theorem dX5_windFor_15 : decode cX5_windFor 15 = .ok (.invokestatic 77, 3) := by decide +kernel
theorem dX5_windFor_18 : decode cX5_windFor 18 = .ok (.ifCond .ne 5, 3) := by decide +kernel
theorem dX5_windFor_21 : decode cX5_windFor 21 = .ok (.iconst (-1), 1) := by decide +kernel
theorem dX5_windFor_22 : decode cX5_windFor 22 = .ok (.ireturn, 1) := by decide +kernel
theorem dX5_windFor_23 : decode cX5_windFor 23 = .ok (.iconst 0, 1) := by decide +kernel
theorem dX5_windFor_24 : decode cX5_windFor 24 = .ok (.istore_n 3, 1) := by decide +kernel
theorem dX5_windFor_25 : decode cX5_windFor 25 = .ok (.bipush 16, 2) := by decide +kernel
theorem dX5_windFor_27 : decode cX5_windFor 27 = .ok (.istore 4, 2) := by decide +kernel
theorem dX5_windFor_29 : decode cX5_windFor 29 = .ok (.iconst 0, 1) := by decide +kernel
theorem dX5_windFor_30 : decode cX5_windFor 30 = .ok (.istore 5, 2) := by decide +kernel
theorem dX5_windFor_32 : decode cX5_windFor 32 = .ok (.iload 5, 2) := by decide +kernel
theorem dX5_windFor_34 : decode cX5_windFor 34 = .ok (.iconst 4, 1) := by decide +kernel
theorem dX5_windFor_35 : decode cX5_windFor 35 = .ok (.if_icmp .ge 51, 3) := by decide +kernel
theorem dX5_windFor_38 : decode cX5_windFor 38 = .ok (.aload_n 0, 1) := by decide +kernel
theorem dX5_windFor_39 : decode cX5_windFor 39 = .ok (.getfield 19, 3) := by decide +kernel
theorem dX5_windFor_42 : decode cX5_windFor 42 = .ok (.aload_n 0, 1) := by decide +kernel
theorem dX5_windFor_43 : decode cX5_windFor 43 = .ok (.getfield 10, 3) := by decide +kernel
theorem dX5_windFor_46 : decode cX5_windFor 46 = .ok (.invokevirtual 98, 3) := by decide +kernel
theorem dX5_windFor_49 : decode cX5_windFor 49 = .ok (.aload_n 0, 1) := by decide +kernel
theorem dX5_windFor_50 : decode cX5_windFor 50 = .ok (.getfield 19, 3) := by decide +kernel
theorem dX5_windFor_53 : decode cX5_windFor 53 = .ok (.iload 5, 2) := by decide +kernel
theorem dX5_windFor_55 : decode cX5_windFor 55 = .ok (.putfield 153, 3) := by decide +kernel
theorem dX5_windFor_58 : decode cX5_windFor 58 = .ok (.aload_n 0, 1) := by decide +kernel
theorem dX5_windFor_59 : decode cX5_windFor 59 = .ok (.iload_n 1, 1) := by decide +kernel
theorem dX5_windFor_60 : decode cX5_windFor 60 = .ok (.iload_n 2, 1) := by decide +kernel
theorem dX5_windFor_61 : decode cX5_windFor 61 = .ok (.invokevirtual 206, 3) := by decide +kernel
theorem dX5_windFor_64 : decode cX5_windFor 64 = .ok (.istore 6, 2) := by decide +kernel
theorem dX5_windFor_66 : decode cX5_windFor 66 = .ok (.iload 6, 2) := by decide +kernel
theorem dX5_windFor_68 : decode cX5_windFor 68 = .ok (.iload 4, 2) := by decide +kernel
theorem dX5_windFor_70 : decode cX5_windFor 70 = .ok (.if_icmp .ge 10, 3) := by decide +kernel
theorem dX5_windFor_73 : decode cX5_windFor 73 = .ok (.iload 6, 2) := by decide +kernel
theorem dX5_windFor_75 : decode cX5_windFor 75 = .ok (.istore 4, 2) := by decide +kernel
theorem dX5_windFor_77 : decode cX5_windFor 77 = .ok (.iload 5, 2) := by decide +kernel
theorem dX5_windFor_79 : decode cX5_windFor 79 = .ok (.istore_n 3, 1) := by decide +kernel
theorem dX5_windFor_80 : decode cX5_windFor 80 = .ok (.iinc 5 1, 3) := by decide +kernel
theorem dX5_windFor_83 : decode cX5_windFor 83 = .ok (.goto (-51), 3) := by decide +kernel
theorem dX5_windFor_86 : decode cX5_windFor 86 = .ok (.iload_n 3, 1) := by decide +kernel
theorem dX5_windFor_87 : decode cX5_windFor 87 = .ok (.ireturn, 1) := by decide +kernel
theorem dX5_kindFor_0 : decode cX5_kindFor 0 = .ok (.aload_n 0, 1) := by decide +kernel
theorem dX5_kindFor_1 : decode cX5_kindFor 1 = .ok (.getfield 10, 3) := by decide +kernel
theorem dX5_kindFor_4 : decode cX5_kindFor 4 = .ok (.iload_n 1, 1) := by decide +kernel
theorem dX5_kindFor_5 : decode cX5_kindFor 5 = .ok (.invokevirtual 131, 3) := by decide +kernel
theorem dX5_kindFor_8 : decode cX5_kindFor 8 = .ok (.ifCond .eq 13, 3) := by decide +kernel
theorem dX5_kindFor_11 : decode cX5_kindFor 11 = .ok (.iload_n 2, 1) := by decide +kernel
theorem dX5_kindFor_12 : decode cX5_kindFor 12 = .ok (.iconst 1, 1) := by decide +kernel
theorem dX5_kindFor_13 : decode cX5_kindFor 13 = .ok (.bipush 30, 2) := by decide +kernel
theorem dX5_kindFor_15 : decode cX5_kindFor 15 = .ok (.invokestatic 77, 3) := by decide +kernel
theorem dX5_kindFor_18 : decode cX5_kindFor 18 = .ok (.ifCond .ne 5, 3) := by decide +kernel
theorem dX5_kindFor_21 : decode cX5_kindFor 21 = .ok (.iconst (-1), 1) := by decide +kernel
theorem dX5_kindFor_22 : decode cX5_kindFor 22 = .ok (.ireturn, 1) := by decide +kernel
theorem dX5_kindFor_23 : decode cX5_kindFor 23 = .ok (.iconst 0, 1) := by decide +kernel
theorem dX5_kindFor_24 : decode cX5_kindFor 24 = .ok (.istore_n 3, 1) := by decide +kernel
theorem dX5_kindFor_25 : decode cX5_kindFor 25 = .ok (.bipush 16, 2) := by decide +kernel
theorem dX5_kindFor_27 : decode cX5_kindFor 27 = .ok (.istore 4, 2) := by decide +kernel
theorem dX5_kindFor_29 : decode cX5_kindFor 29 = .ok (.iconst 0, 1) := by decide +kernel
theorem dX5_kindFor_30 : decode cX5_kindFor 30 = .ok (.istore 5, 2) := by decide +kernel
theorem dX5_kindFor_32 : decode cX5_kindFor 32 = .ok (.iload 5, 2) := by decide +kernel
theorem dX5_kindFor_34 : decode cX5_kindFor 34 = .ok (.bipush 6, 2) := by decide +kernel
theorem dX5_kindFor_36 : decode cX5_kindFor 36 = .ok (.if_icmp .ge 53, 3) := by decide +kernel
theorem dX5_kindFor_39 : decode cX5_kindFor 39 = .ok (.aload_n 0, 1) := by decide +kernel
theorem dX5_kindFor_40 : decode cX5_kindFor 40 = .ok (.getfield 19, 3) := by decide +kernel
theorem dX5_kindFor_43 : decode cX5_kindFor 43 = .ok (.aload_n 0, 1) := by decide +kernel
theorem dX5_kindFor_44 : decode cX5_kindFor 44 = .ok (.getfield 10, 3) := by decide +kernel
theorem dX5_kindFor_47 : decode cX5_kindFor 47 = .ok (.invokevirtual 98, 3) := by decide +kernel
theorem dX5_kindFor_50 : decode cX5_kindFor 50 = .ok (.aload_n 0, 1) := by decide +kernel
theorem dX5_kindFor_51 : decode cX5_kindFor 51 = .ok (.getfield 19, 3) := by decide +kernel
theorem dX5_kindFor_54 : decode cX5_kindFor 54 = .ok (.getfield 134, 3) := by decide +kernel
theorem dX5_kindFor_57 : decode cX5_kindFor 57 = .ok (.iload_n 1, 1) := by decide +kernel
theorem dX5_kindFor_58 : decode cX5_kindFor 58 = .ok (.iload 5, 2) := by decide +kernel
theorem dX5_kindFor_60 : decode cX5_kindFor 60 = .ok (.iastore, 1) := by decide +kernel
theorem dX5_kindFor_61 : decode cX5_kindFor 61 = .ok (.aload_n 0, 1) := by decide +kernel
theorem dX5_kindFor_62 : decode cX5_kindFor 62 = .ok (.iload_n 1, 1) := by decide +kernel
theorem dX5_kindFor_63 : decode cX5_kindFor 63 = .ok (.iload_n 2, 1) := by decide +kernel
theorem dX5_kindFor_64 : decode cX5_kindFor 64 = .ok (.invokevirtual 206, 3) := by decide +kernel
theorem dX5_kindFor_67 : decode cX5_kindFor 67 = .ok (.istore 6, 2) := by decide +kernel
theorem dX5_kindFor_69 : decode cX5_kindFor 69 = .ok (.iload 6, 2) := by decide +kernel
theorem dX5_kindFor_71 : decode cX5_kindFor 71 = .ok (.iload 4, 2) := by decide +kernel
theorem dX5_kindFor_73 : decode cX5_kindFor 73 = .ok (.if_icmp .ge 10, 3) := by decide +kernel
theorem dX5_kindFor_76 : decode cX5_kindFor 76 = .ok (.iload 6, 2) := by decide +kernel
theorem dX5_kindFor_78 : decode cX5_kindFor 78 = .ok (.istore 4, 2) := by decide +kernel
theorem dX5_kindFor_80 : decode cX5_kindFor 80 = .ok (.iload 5, 2) := by decide +kernel
theorem dX5_kindFor_82 : decode cX5_kindFor 82 = .ok (.istore_n 3, 1) := by decide +kernel
theorem dX5_kindFor_83 : decode cX5_kindFor 83 = .ok (.iinc 5 1, 3) := by decide +kernel
theorem dX5_kindFor_86 : decode cX5_kindFor 86 = .ok (.goto (-54), 3) := by decide +kernel
theorem dX5_kindFor_89 : decode cX5_kindFor 89 = .ok (.iload_n 3, 1) := by decide +kernel
theorem dX5_kindFor_90 : decode cX5_kindFor 90 = .ok (.ireturn, 1) := by decide +kernel
theorem dX5_seen_0 : decode cX5_seen 0 = .ok (.iload_n 1, 1) := by decide +kernel
theorem dX5_seen_1 : decode cX5_seen 1 = .ok (.iconst 0, 1) := by decide +kernel
theorem dX5_seen_2 : decode cX5_seen 2 = .ok (.bipush 30, 2) := by decide +kernel
theorem dX5_seen_4 : decode cX5_seen 4 = .ok (.invokestatic 77, 3) := by decide +kernel
theorem dX5_seen_7 : decode cX5_seen 7 = .ok (.ifCond .ne 5, 3) := by decide +kernel
theorem dX5_seen_10 : decode cX5_seen 10 = .ok (.iconst (-1), 1) := by decide +kernel
theorem dX5_seen_11 : decode cX5_seen 11 = .ok (.ireturn, 1) := by decide +kernel
theorem dX5_seen_12 : decode cX5_seen 12 = .ok (.aload_n 0, 1) := by decide +kernel
theorem dX5_seen_13 : decode cX5_seen 13 = .ok (.getfield 61, 3) := by decide +kernel
theorem dX5_seen_16 : decode cX5_seen 16 = .ok (.iconst 0, 1) := by decide +kernel
theorem dX5_seen_17 : decode cX5_seen 17 = .ok (.invokestatic 210, 3) := by decide +kernel
theorem dX5_seen_20 : decode cX5_seen 20 = .ok (.iconst 0, 1) := by decide +kernel
theorem dX5_seen_21 : decode cX5_seen 21 = .ok (.istore_n 2, 1) := by decide +kernel
theorem dX5_seen_22 : decode cX5_seen 22 = .ok (.iload_n 2, 1) := by decide +kernel
theorem dX5_seen_23 : decode cX5_seen 23 = .ok (.aload_n 0, 1) := by decide +kernel
theorem dX5_seen_24 : decode cX5_seen 24 = .ok (.getfield 10, 3) := by decide +kernel
theorem dX5_seen_27 : decode cX5_seen 27 = .ok (.getfield 102, 3) := by decide +kernel
theorem dX5_seen_30 : decode cX5_seen 30 = .ok (.if_icmp .ge 49, 3) := by decide +kernel
theorem dX5_seen_33 : decode cX5_seen 33 = .ok (.aload_n 0, 1) := by decide +kernel
theorem dX5_seen_34 : decode cX5_seen 34 = .ok (.iload_n 2, 1) := by decide +kernel
theorem dX5_seen_35 : decode cX5_seen 35 = .ok (.iload_n 1, 1) := by decide +kernel
theorem dX5_seen_36 : decode cX5_seen 36 = .ok (.aload_n 0, 1) := by decide +kernel
theorem dX5_seen_37 : decode cX5_seen 37 = .ok (.getfield 52, 3) := by decide +kernel
theorem dX5_seen_40 : decode cX5_seen 40 = .ok (.invokevirtual 199, 3) := by decide +kernel
theorem dX5_seen_43 : decode cX5_seen 43 = .ok (.iconst 0, 1) := by decide +kernel
theorem dX5_seen_44 : decode cX5_seen 44 = .ok (.istore_n 3, 1) := by decide +kernel
theorem dX5_seen_45 : decode cX5_seen 45 = .ok (.iload_n 3, 1) := by decide +kernel
theorem dX5_seen_46 : decode cX5_seen 46 = .ok (.iload_n 1, 1) := by decide +kernel
theorem dX5_seen_47 : decode cX5_seen 47 = .ok (.if_icmp .gt 26, 3) := by decide +kernel
theorem dX5_seen_50 : decode cX5_seen 50 = .ok (.aload_n 0, 1) := by decide +kernel
theorem dX5_seen_51 : decode cX5_seen 51 = .ok (.getfield 61, 3) := by decide +kernel
theorem dX5_seen_54 : decode cX5_seen 54 = .ok (.aload_n 0, 1) := by decide +kernel
theorem dX5_seen_55 : decode cX5_seen 55 = .ok (.getfield 52, 3) := by decide +kernel
theorem dX5_seen_58 : decode cX5_seen 58 = .ok (.iload_n 3, 1) := by decide +kernel
theorem dX5_seen_59 : decode cX5_seen 59 = .ok (.iaload, 1) := by decide +kernel
theorem dX5_seen_60 : decode cX5_seen 60 = .ok (.dup2, 1) := by decide +kernel
theorem dX5_seen_61 : decode cX5_seen 61 = .ok (.iaload, 1) := by decide +kernel
theorem dX5_seen_62 : decode cX5_seen 62 = .ok (.iconst 1, 1) := by decide +kernel
theorem dX5_seen_63 : decode cX5_seen 63 = .ok (.iload_n 2, 1) := by decide +kernel
theorem dX5_seen_64 : decode cX5_seen 64 = .ok (.ishl, 1) := by decide +kernel
theorem dX5_seen_65 : decode cX5_seen 65 = .ok (.ior, 1) := by decide +kernel
theorem dX5_seen_66 : decode cX5_seen 66 = .ok (.iastore, 1) := by decide +kernel
theorem dX5_seen_67 : decode cX5_seen 67 = .ok (.iinc 3 1, 3) := by decide +kernel
theorem dX5_seen_70 : decode cX5_seen 70 = .ok (.goto (-25), 3) := by decide +kernel
theorem dX5_seen_73 : decode cX5_seen 73 = .ok (.iinc 2 1, 3) := by decide +kernel
theorem dX5_seen_76 : decode cX5_seen 76 = .ok (.goto (-54), 3) := by decide +kernel
theorem dX5_seen_79 : decode cX5_seen 79 = .ok (.aload_n 0, 1) := by decide +kernel
theorem dX5_seen_80 : decode cX5_seen 80 = .ok (.iconst 1, 1) := by decide +kernel
theorem dX5_seen_81 : decode cX5_seen 81 = .ok (.aload_n 0, 1) := by decide +kernel
theorem dX5_seen_82 : decode cX5_seen 82 = .ok (.getfield 10, 3) := by decide +kernel
theorem dX5_seen_85 : decode cX5_seen 85 = .ok (.getfield 102, 3) := by decide +kernel
theorem dX5_seen_88 : decode cX5_seen 88 = .ok (.ishl, 1) := by decide +kernel
theorem dX5_seen_89 : decode cX5_seen 89 = .ok (.iconst 1, 1) := by decide +kernel
theorem dX5_seen_90 : decode cX5_seen 90 = .ok (.isub, 1) := by decide +kernel
theorem dX5_seen_91 : decode cX5_seen 91 = .ok (.invokevirtual 216, 3) := by decide +kernel
theorem dX5_seen_94 : decode cX5_seen 94 = .ok (.ireturn, 1) := by decide +kernel
theorem dX5_dryWay_0 : decode cX5_dryWay 0 = .ok (.iload_n 1, 1) := by decide +kernel
theorem dX5_dryWay_1 : decode cX5_dryWay 1 = .ok (.invokestatic 124, 3) := by decide +kernel
theorem dX5_dryWay_4 : decode cX5_dryWay 4 = .ok (.ifCond .eq 10, 3) := by decide +kernel
theorem dX5_dryWay_7 : decode cX5_dryWay 7 = .ok (.iload_n 2, 1) := by decide +kernel
theorem dX5_dryWay_8 : decode cX5_dryWay 8 = .ok (.invokestatic 124, 3) := by decide +kernel
theorem dX5_dryWay_11 : decode cX5_dryWay 11 = .ok (.ifCond .ne 5, 3) := by decide +kernel
theorem dX5_dryWay_14 : decode cX5_dryWay 14 = .ok (.iconst (-1), 1) := by decide +kernel
theorem dX5_dryWay_15 : decode cX5_dryWay 15 = .ok (.ireturn, 1) := by decide +kernel
theorem dX5_dryWay_16 : decode cX5_dryWay 16 = .ok (.ldc 219, 2) := by decide +kernel
theorem dX5_dryWay_18 : decode cX5_dryWay 18 = .ok (.aload_n 0, 1) := by decide +kernel
theorem dX5_dryWay_19 : decode cX5_dryWay 19 = .ok (.getfield 10, 3) := by decide +kernel
theorem dX5_dryWay_22 : decode cX5_dryWay 22 = .ok (.aload_n 0, 1) := by decide +kernel
theorem dX5_dryWay_23 : decode cX5_dryWay 23 = .ok (.getfield 10, 3) := by decide +kernel
theorem dX5_dryWay_26 : decode cX5_dryWay 26 = .ok (.getfield 115, 3) := by decide +kernel
theorem dX5_dryWay_29 : decode cX5_dryWay 29 = .ok (.iconst 1, 1) := by decide +kernel
theorem dX5_dryWay_30 : decode cX5_dryWay 30 = .ok (.iaload, 1) := by decide +kernel
theorem dX5_dryWay_31 : decode cX5_dryWay 31 = .ok (.invokevirtual 196, 3) := by decide +kernel
theorem dX5_dryWay_34 : decode cX5_dryWay 34 = .ok (.iconst (-1), 1) := by decide +kernel
theorem dX5_dryWay_35 : decode cX5_dryWay 35 = .ok (.ixor, 1) := by decide +kernel
theorem dX5_dryWay_36 : decode cX5_dryWay 36 = .ok (.iand, 1) := by decide +kernel
theorem dX5_dryWay_37 : decode cX5_dryWay 37 = .ok (.istore_n 3, 1) := by decide +kernel
theorem dX5_dryWay_38 : decode cX5_dryWay 38 = .ok (.iconst 1, 1) := by decide +kernel
theorem dX5_dryWay_39 : decode cX5_dryWay 39 = .ok (.iload_n 1, 1) := by decide +kernel
theorem dX5_dryWay_40 : decode cX5_dryWay 40 = .ok (.ishl, 1) := by decide +kernel
theorem dX5_dryWay_41 : decode cX5_dryWay 41 = .ok (.iload_n 3, 1) := by decide +kernel
theorem dX5_dryWay_42 : decode cX5_dryWay 42 = .ok (.iand, 1) := by decide +kernel
theorem dX5_dryWay_43 : decode cX5_dryWay 43 = .ok (.istore 4, 2) := by decide +kernel
theorem dX5_dryWay_45 : decode cX5_dryWay 45 = .ok (.iconst 0, 1) := by decide +kernel
theorem dX5_dryWay_46 : decode cX5_dryWay 46 = .ok (.istore 5, 2) := by decide +kernel
theorem dX5_dryWay_48 : decode cX5_dryWay 48 = .ok (.iload 5, 2) := by decide +kernel
theorem dX5_dryWay_50 : decode cX5_dryWay 50 = .ok (.bipush 16, 2) := by decide +kernel
theorem dX5_dryWay_52 : decode cX5_dryWay 52 = .ok (.if_icmp .ge 30, 3) := by decide +kernel
theorem dX5_dryWay_55 : decode cX5_dryWay 55 = .ok (.iload 4, 2) := by decide +kernel
theorem dX5_dryWay_57 : decode cX5_dryWay 57 = .ok (.iload_n 2, 1) := by decide +kernel
theorem dX5_dryWay_58 : decode cX5_dryWay 58 = .ok (.invokestatic 220, 3) := by decide +kernel
theorem dX5_dryWay_61 : decode cX5_dryWay 61 = .ok (.ifCond .eq 6, 3) := by decide +kernel
theorem dX5_dryWay_64 : decode cX5_dryWay 64 = .ok (.iload 5, 2) := by decide +kernel
theorem dX5_dryWay_66 : decode cX5_dryWay 66 = .ok (.ireturn, 1) := by decide +kernel
theorem dX5_dryWay_67 : decode cX5_dryWay 67 = .ok (.iload 4, 2) := by decide +kernel
theorem dX5_dryWay_69 : decode cX5_dryWay 69 = .ok (.invokestatic 224, 3) := by decide +kernel
theorem dX5_dryWay_72 : decode cX5_dryWay 72 = .ok (.iload_n 3, 1) := by decide +kernel
theorem dX5_dryWay_73 : decode cX5_dryWay 73 = .ok (.iand, 1) := by decide +kernel
theorem dX5_dryWay_74 : decode cX5_dryWay 74 = .ok (.istore 4, 2) := by decide +kernel
theorem dX5_dryWay_76 : decode cX5_dryWay 76 = .ok (.iinc 5 1, 3) := by decide +kernel
theorem dX5_dryWay_79 : decode cX5_dryWay 79 = .ok (.goto (-31), 3) := by decide +kernel
theorem dX5_dryWay_82 : decode cX5_dryWay 82 = .ok (.bipush (-3), 2) := by decide +kernel
theorem dX5_dryWay_84 : decode cX5_dryWay 84 = .ok (.ireturn, 1) := by decide +kernel
theorem dX5_fits_0 : decode cX5_fits 0 = .ok (.aload_n 0, 1) := by decide +kernel
theorem dX5_fits_1 : decode cX5_fits 1 = .ok (.iload_n 1, 1) := by decide +kernel
theorem dX5_fits_2 : decode cX5_fits 2 = .ok (.invokevirtual 227, 3) := by decide +kernel
theorem dX5_fits_5 : decode cX5_fits 5 = .ok (.astore 4, 2) := by decide +kernel
theorem dX5_fits_7 : decode cX5_fits 7 = .ok (.aload 4, 2) := by decide +kernel
theorem dX5_fits_9 : decode cX5_fits 9 = .ok (.ifnull 23, 3) := by decide +kernel
theorem dX5_fits_12 : decode cX5_fits 12 = .ok (.aload_n 0, 1) := by decide +kernel
theorem dX5_fits_13 : decode cX5_fits 13 = .ok (.getfield 10, 3) := by decide +kernel
theorem dX5_fits_16 : decode cX5_fits 16 = .ok (.iload_n 2, 1) := by decide +kernel
theorem dX5_fits_17 : decode cX5_fits 17 = .ok (.invokevirtual 131, 3) := by decide +kernel
theorem dX5_fits_20 : decode cX5_fits 20 = .ok (.ifCond .eq 12, 3) := by decide +kernel
theorem dX5_fits_23 : decode cX5_fits 23 = .ok (.iload_n 3, 1) := by decide +kernel
theorem dX5_fits_24 : decode cX5_fits 24 = .ok (.iconst 0, 1) := by decide +kernel
theorem dX5_fits_25 : decode cX5_fits 25 = .ok (.iconst 1, 1) := by decide +kernel
theorem dX5_fits_26 : decode cX5_fits 26 = .ok (.invokestatic 77, 3) := by decide +kernel
theorem dX5_fits_29 : decode cX5_fits 29 = .ok (.ifCond .ne 5, 3) := by decide +kernel
theorem dX5_fits_32 : decode cX5_fits 32 = .ok (.iconst (-1), 1) := by decide +kernel
theorem dX5_fits_33 : decode cX5_fits 33 = .ok (.ireturn, 1) := by decide +kernel
theorem dX5_fits_34 : decode cX5_fits 34 = .ok (.aload 4, 2) := by decide +kernel
theorem dX5_fits_36 : decode cX5_fits 36 = .ok (.invokevirtual 231, 3) := by decide +kernel
theorem dX5_fits_39 : decode cX5_fits 39 = .ok (.ifCond .eq 6, 3) := by decide +kernel
theorem dX5_fits_42 : decode cX5_fits 42 = .ok (.bipush (-11), 2) := by decide +kernel
theorem dX5_fits_44 : decode cX5_fits 44 = .ok (.ireturn, 1) := by decide +kernel
theorem dX5_fits_45 : decode cX5_fits 45 = .ok (.iconst 0, 1) := by decide +kernel
theorem dX5_fits_46 : decode cX5_fits 46 = .ok (.istore 5, 2) := by decide +kernel
theorem dX5_fits_48 : decode cX5_fits 48 = .ok (.bipush (-3), 2) := by decide +kernel
theorem dX5_fits_50 : decode cX5_fits 50 = .ok (.istore 6, 2) := by decide +kernel
theorem dX5_fits_52 : decode cX5_fits 52 = .ok (.bipush 15, 2) := by decide +kernel
theorem dX5_fits_54 : decode cX5_fits 54 = .ok (.istore 7, 2) := by decide +kernel
theorem dX5_fits_56 : decode cX5_fits 56 = .ok (.iload 7, 2) := by decide +kernel
theorem dX5_fits_58 : decode cX5_fits 58 = .ok (.ifCond .lt 28, 3) := by decide +kernel
theorem dX5_fits_61 : decode cX5_fits 61 = .ok (.aload_n 0, 1) := by decide +kernel
theorem dX5_fits_62 : decode cX5_fits 62 = .ok (.iload 7, 2) := by decide +kernel
theorem dX5_fits_64 : decode cX5_fits 64 = .ok (.iload_n 2, 1) := by decide +kernel
theorem dX5_fits_65 : decode cX5_fits 65 = .ok (.aload 4, 2) := by decide +kernel
theorem dX5_fits_67 : decode cX5_fits 67 = .ok (.invokevirtual 235, 3) := by decide +kernel
theorem dX5_fits_70 : decode cX5_fits 70 = .ok (.ifCond .eq 10, 3) := by decide +kernel
theorem dX5_fits_73 : decode cX5_fits 73 = .ok (.iinc 5 1, 3) := by decide +kernel
theorem dX5_fits_76 : decode cX5_fits 76 = .ok (.iload 7, 2) := by decide +kernel
theorem dX5_fits_78 : decode cX5_fits 78 = .ok (.istore 6, 2) := by decide +kernel
theorem dX5_fits_80 : decode cX5_fits 80 = .ok (.iinc 7 (-1), 3) := by decide +kernel
theorem dX5_fits_83 : decode cX5_fits 83 = .ok (.goto (-27), 3) := by decide +kernel
theorem dX5_fits_86 : decode cX5_fits 86 = .ok (.iload_n 3, 1) := by decide +kernel
theorem dX5_fits_87 : decode cX5_fits 87 = .ok (.ifCond .ne 8, 3) := by decide +kernel
theorem dX5_fits_90 : decode cX5_fits 90 = .ok (.iload 5, 2) := by decide +kernel
theorem dX5_fits_92 : decode cX5_fits 92 = .ok (.goto 5, 3) := by decide +kernel
theorem dX5_fits_95 : decode cX5_fits 95 = .ok (.iload 6, 2) := by decide +kernel
theorem dX5_fits_97 : decode cX5_fits 97 = .ok (.ireturn, 1) := by decide +kernel
theorem dX5_odds_0 : decode cX5_odds 0 = .ok (.iload_n 1, 1) := by decide +kernel
theorem dX5_odds_1 : decode cX5_odds 1 = .ok (.iconst 0, 1) := by decide +kernel
theorem dX5_odds_2 : decode cX5_odds 2 = .ok (.bipush 8, 2) := by decide +kernel
theorem dX5_odds_4 : decode cX5_odds 4 = .ok (.invokestatic 77, 3) := by decide +kernel
theorem dX5_odds_7 : decode cX5_odds 7 = .ok (.ifCond .eq 21, 3) := by decide +kernel
theorem dX5_odds_10 : decode cX5_odds 10 = .ok (.iload_n 2, 1) := by decide +kernel
theorem dX5_odds_11 : decode cX5_odds 11 = .ok (.iconst 0, 1) := by decide +kernel
theorem dX5_odds_12 : decode cX5_odds 12 = .ok (.iload_n 1, 1) := by decide +kernel
theorem dX5_odds_13 : decode cX5_odds 13 = .ok (.invokestatic 77, 3) := by decide +kernel
theorem dX5_odds_16 : decode cX5_odds 16 = .ok (.ifCond .eq 12, 3) := by decide +kernel
theorem dX5_odds_19 : decode cX5_odds 19 = .ok (.iload_n 3, 1) := by decide +kernel
theorem dX5_odds_20 : decode cX5_odds 20 = .ok (.iconst 0, 1) := by decide +kernel
theorem dX5_odds_21 : decode cX5_odds 21 = .ok (.iconst 1, 1) := by decide +kernel
theorem dX5_odds_22 : decode cX5_odds 22 = .ok (.invokestatic 77, 3) := by decide +kernel
theorem dX5_odds_25 : decode cX5_odds 25 = .ok (.ifCond .ne 7, 3) := by decide +kernel
theorem dX5_odds_28 : decode cX5_odds 28 = .ok (.ldc2_w 239, 3) := by decide +kernel
theorem dX5_odds_31 : decode cX5_odds 31 = .ok (.lreturn, 1) := by decide +kernel
theorem dX5_odds_32 : decode cX5_odds 32 = .ok (.aload_n 0, 1) := by decide +kernel
theorem dX5_odds_33 : decode cX5_odds 33 = .ok (.getfield 10, 3) := by decide +kernel
theorem dX5_odds_36 : decode cX5_odds 36 = .ok (.getfield 115, 3) := by decide +kernel
theorem dX5_odds_39 : decode cX5_odds 39 = .ok (.iconst 3, 1) := by decide +kernel
theorem dX5_odds_40 : decode cX5_odds 40 = .ok (.iaload, 1) := by decide +kernel
theorem dX5_odds_41 : decode cX5_odds 41 = .ok (.istore 4, 2) := by decide +kernel
theorem dX5_odds_43 : decode cX5_odds 43 = .ok (.iload_n 1, 1) := by decide +kernel
theorem dX5_odds_44 : decode cX5_odds 44 = .ok (.iload_n 2, 1) := by decide +kernel
theorem dX5_odds_45 : decode cX5_odds 45 = .ok (.invokestatic 241, 3) := by decide +kernel
theorem dX5_odds_48 : decode cX5_odds 48 = .ok (.iload 4, 2) := by decide +kernel
theorem dX5_odds_50 : decode cX5_odds 50 = .ok (.i2l, 1) := by decide +kernel
theorem dX5_odds_51 : decode cX5_odds 51 = .ok (.iload_n 2, 1) := by decide +kernel
theorem dX5_odds_52 : decode cX5_odds 52 = .ok (.invokestatic 245, 3) := by decide +kernel
theorem dX5_odds_55 : decode cX5_odds 55 = .ok (.lmul, 1) := by decide +kernel
theorem dX5_odds_56 : decode cX5_odds 56 = .ok (.bipush 100, 2) := by decide +kernel
theorem dX5_odds_58 : decode cX5_odds 58 = .ok (.iload 4, 2) := by decide +kernel
theorem dX5_odds_60 : decode cX5_odds 60 = .ok (.isub, 1) := by decide +kernel
theorem dX5_odds_61 : decode cX5_odds 61 = .ok (.i2l, 1) := by decide +kernel
theorem dX5_odds_62 : decode cX5_odds 62 = .ok (.iload_n 1, 1) := by decide +kernel
theorem dX5_odds_63 : decode cX5_odds 63 = .ok (.iload_n 2, 1) := by decide +kernel
theorem dX5_odds_64 : decode cX5_odds 64 = .ok (.isub, 1) := by decide +kernel
theorem dX5_odds_65 : decode cX5_odds 65 = .ok (.invokestatic 245, 3) := by decide +kernel
theorem dX5_odds_68 : decode cX5_odds 68 = .ok (.lmul, 1) := by decide +kernel
theorem dX5_odds_69 : decode cX5_odds 69 = .ok (.lstore 5, 2) := by decide +kernel
theorem dX5_odds_71 : decode cX5_odds 71 = .ok (.lload 5, 2) := by decide +kernel
theorem dX5_odds_73 : decode cX5_odds 73 = .ok (.ldc2_w 249, 3) := by decide +kernel
theorem dX5_odds_76 : decode cX5_odds 76 = .ok (.iload_n 1, 1) := by decide +kernel
theorem dX5_odds_77 : decode cX5_odds 77 = .ok (.invokestatic 245, 3) := by decide +kernel
theorem dX5_odds_80 : decode cX5_odds 80 = .ok (.iload_n 3, 1) := by decide +kernel
theorem dX5_odds_81 : decode cX5_odds 81 = .ok (.invokestatic 251, 3) := by decide +kernel
theorem dX5_odds_84 : decode cX5_odds 84 = .ok (.lreturn, 1) := by decide +kernel
theorem dX5_hope_0 : decode cX5_hope 0 = .ok (.iload_n 1, 1) := by decide +kernel
theorem dX5_hope_1 : decode cX5_hope 1 = .ok (.iconst 0, 1) := by decide +kernel
theorem dX5_hope_2 : decode cX5_hope 2 = .ok (.bipush 99, 2) := by decide +kernel
theorem dX5_hope_4 : decode cX5_hope 4 = .ok (.invokestatic 77, 3) := by decide +kernel
theorem dX5_hope_7 : decode cX5_hope 7 = .ok (.ifCond .eq 12, 3) := by decide +kernel
theorem dX5_hope_10 : decode cX5_hope 10 = .ok (.iload_n 2, 1) := by decide +kernel
theorem dX5_hope_11 : decode cX5_hope 11 = .ok (.iconst 0, 1) := by decide +kernel
theorem dX5_hope_12 : decode cX5_hope 12 = .ok (.iconst 1, 1) := by decide +kernel
theorem dX5_hope_13 : decode cX5_hope 13 = .ok (.invokestatic 77, 3) := by decide +kernel
theorem dX5_hope_16 : decode cX5_hope 16 = .ok (.ifCond .ne 7, 3) := by decide +kernel
theorem dX5_hope_19 : decode cX5_hope 19 = .ok (.ldc2_w 239, 3) := by decide +kernel
theorem dX5_hope_22 : decode cX5_hope 22 = .ok (.lreturn, 1) := by decide +kernel
theorem dX5_hope_23 : decode cX5_hope 23 = .ok (.iload_n 1, 1) := by decide +kernel
theorem dX5_hope_24 : decode cX5_hope 24 = .ok (.i2l, 1) := by decide +kernel
theorem dX5_hope_25 : decode cX5_hope 25 = .ok (.aload_n 0, 1) := by decide +kernel
theorem dX5_hope_26 : decode cX5_hope 26 = .ok (.getfield 10, 3) := by decide +kernel
theorem dX5_hope_29 : decode cX5_hope 29 = .ok (.getfield 115, 3) := by decide +kernel
theorem dX5_hope_32 : decode cX5_hope 32 = .ok (.iconst 3, 1) := by decide +kernel
theorem dX5_hope_33 : decode cX5_hope 33 = .ok (.iaload, 1) := by decide +kernel
theorem dX5_hope_34 : decode cX5_hope 34 = .ok (.i2l, 1) := by decide +kernel
theorem dX5_hope_35 : decode cX5_hope 35 = .ok (.lmul, 1) := by decide +kernel
theorem dX5_hope_36 : decode cX5_hope 36 = .ok (.ldc2_w 249, 3) := by decide +kernel
theorem dX5_hope_39 : decode cX5_hope 39 = .ok (.iload_n 2, 1) := by decide +kernel
theorem dX5_hope_40 : decode cX5_hope 40 = .ok (.invokestatic 251, 3) := by decide +kernel
theorem dX5_hope_43 : decode cX5_hope 43 = .ok (.lreturn, 1) := by decide +kernel
theorem dX5_prove_0 : decode cX5_prove 0 = .ok (.aload_n 0, 1) := by decide +kernel
theorem dX5_prove_1 : decode cX5_prove 1 = .ok (.getfield 10, 3) := by decide +kernel
theorem dX5_prove_4 : decode cX5_prove 4 = .ok (.iload_n 1, 1) := by decide +kernel
theorem dX5_prove_5 : decode cX5_prove 5 = .ok (.invokevirtual 131, 3) := by decide +kernel
theorem dX5_prove_8 : decode cX5_prove 8 = .ok (.ifCond .eq 13, 3) := by decide +kernel
theorem dX5_prove_11 : decode cX5_prove 11 = .ok (.iload_n 2, 1) := by decide +kernel
theorem dX5_prove_12 : decode cX5_prove 12 = .ok (.iconst 1, 1) := by decide +kernel
theorem dX5_prove_13 : decode cX5_prove 13 = .ok (.bipush 10, 2) := by decide +kernel
theorem dX5_prove_15 : decode cX5_prove 15 = .ok (.invokestatic 77, 3) := by decide +kernel
theorem dX5_prove_18 : decode cX5_prove 18 = .ok (.ifCond .ne 5, 3) := by decide +kernel
theorem dX5_prove_21 : decode cX5_prove 21 = .ok (.iconst (-1), 1) := by decide +kernel
theorem dX5_prove_22 : decode cX5_prove 22 = .ok (.ireturn, 1) := by decide +kernel
theorem dX5_prove_23 : decode cX5_prove 23 = .ok (.aload_n 0, 1) := by decide +kernel
theorem dX5_prove_24 : decode cX5_prove 24 = .ok (.getfield 19, 3) := by decide +kernel
theorem dX5_prove_27 : decode cX5_prove 27 = .ok (.aload_n 0, 1) := by decide +kernel
theorem dX5_prove_28 : decode cX5_prove 28 = .ok (.getfield 10, 3) := by decide +kernel
theorem dX5_prove_31 : decode cX5_prove 31 = .ok (.invokevirtual 98, 3) := by decide +kernel
theorem dX5_prove_34 : decode cX5_prove 34 = .ok (.iconst 0, 1) := by decide +kernel
theorem dX5_prove_35 : decode cX5_prove 35 = .ok (.istore_n 3, 1) := by decide +kernel
theorem dX5_prove_36 : decode cX5_prove 36 = .ok (.iload_n 3, 1) := by decide +kernel
theorem dX5_prove_37 : decode cX5_prove 37 = .ok (.iload_n 2, 1) := by decide +kernel
theorem dX5_prove_38 : decode cX5_prove 38 = .ok (.if_icmp .ge 52, 3) := by decide +kernel
theorem dX5_prove_41 : decode cX5_prove 41 = .ok (.aload_n 0, 1) := by decide +kernel
theorem dX5_prove_42 : decode cX5_prove 42 = .ok (.getfield 19, 3) := by decide +kernel
theorem dX5_prove_45 : decode cX5_prove 45 = .ok (.invokevirtual 162, 3) := by decide +kernel
theorem dX5_prove_48 : decode cX5_prove 48 = .ok (.iconst 0, 1) := by decide +kernel
theorem dX5_prove_49 : decode cX5_prove 49 = .ok (.istore 4, 2) := by decide +kernel
theorem dX5_prove_51 : decode cX5_prove 51 = .ok (.iload 4, 2) := by decide +kernel
theorem dX5_prove_53 : decode cX5_prove 53 = .ok (.iconst 3, 1) := by decide +kernel
theorem dX5_prove_54 : decode cX5_prove 54 = .ok (.if_icmp .ge 30, 3) := by decide +kernel
theorem dX5_prove_57 : decode cX5_prove 57 = .ok (.aload_n 0, 1) := by decide +kernel
theorem dX5_prove_58 : decode cX5_prove 58 = .ok (.getfield 48, 3) := by decide +kernel
theorem dX5_prove_61 : decode cX5_prove 61 = .ok (.iload_n 3, 1) := by decide +kernel
theorem dX5_prove_62 : decode cX5_prove 62 = .ok (.iconst 3, 1) := by decide +kernel
theorem dX5_prove_63 : decode cX5_prove 63 = .ok (.imul, 1) := by decide +kernel
theorem dX5_prove_64 : decode cX5_prove 64 = .ok (.iload 4, 2) := by decide +kernel
theorem dX5_prove_66 : decode cX5_prove 66 = .ok (.iadd, 1) := by decide +kernel
theorem dX5_prove_67 : decode cX5_prove 67 = .ok (.aload_n 0, 1) := by decide +kernel
theorem dX5_prove_68 : decode cX5_prove 68 = .ok (.getfield 19, 3) := by decide +kernel
theorem dX5_prove_71 : decode cX5_prove 71 = .ok (.iload_n 1, 1) := by decide +kernel
theorem dX5_prove_72 : decode cX5_prove 72 = .ok (.iload 4, 2) := by decide +kernel
theorem dX5_prove_74 : decode cX5_prove 74 = .ok (.invokevirtual 255, 3) := by decide +kernel
theorem dX5_prove_77 : decode cX5_prove 77 = .ok (.iastore, 1) := by decide +kernel
theorem dX5_prove_78 : decode cX5_prove 78 = .ok (.iinc 4 1, 3) := by decide +kernel
theorem dX5_prove_81 : decode cX5_prove 81 = .ok (.goto (-30), 3) := by decide +kernel
theorem dX5_prove_84 : decode cX5_prove 84 = .ok (.iinc 3 1, 3) := by decide +kernel
theorem dX5_prove_87 : decode cX5_prove 87 = .ok (.goto (-51), 3) := by decide +kernel
theorem dX5_prove_90 : decode cX5_prove 90 = .ok (.aload_n 0, 1) := by decide +kernel
theorem dX5_prove_91 : decode cX5_prove 91 = .ok (.iload_n 2, 1) := by decide +kernel
theorem dX5_prove_92 : decode cX5_prove 92 = .ok (.putfield 67, 3) := by decide +kernel
theorem dX5_prove_95 : decode cX5_prove 95 = .ok (.iload_n 2, 1) := by decide +kernel
theorem dX5_prove_96 : decode cX5_prove 96 = .ok (.ireturn, 1) := by decide +kernel
theorem dX5_row_0 : decode cX5_row 0 = .ok (.aload_n 0, 1) := by decide +kernel
theorem dX5_row_1 : decode cX5_row 1 = .ok (.iload_n 1, 1) := by decide +kernel
theorem dX5_row_2 : decode cX5_row 2 = .ok (.iload_n 2, 1) := by decide +kernel
theorem dX5_row_3 : decode cX5_row 3 = .ok (.invokevirtual 258, 3) := by decide +kernel
theorem dX5_row_6 : decode cX5_row 6 = .ok (.ifCond .eq 16, 3) := by decide +kernel
theorem dX5_row_9 : decode cX5_row 9 = .ok (.aload_n 0, 1) := by decide +kernel
theorem dX5_row_10 : decode cX5_row 10 = .ok (.getfield 48, 3) := by decide +kernel
theorem dX5_row_13 : decode cX5_row 13 = .ok (.iload_n 1, 1) := by decide +kernel
theorem dX5_row_14 : decode cX5_row 14 = .ok (.iconst 3, 1) := by decide +kernel
theorem dX5_row_15 : decode cX5_row 15 = .ok (.imul, 1) := by decide +kernel
theorem dX5_row_16 : decode cX5_row 16 = .ok (.iload_n 2, 1) := by decide +kernel
theorem dX5_row_17 : decode cX5_row 17 = .ok (.iadd, 1) := by decide +kernel
theorem dX5_row_18 : decode cX5_row 18 = .ok (.iaload, 1) := by decide +kernel
theorem dX5_row_19 : decode cX5_row 19 = .ok (.goto 5, 3) := by decide +kernel
theorem dX5_row_22 : decode cX5_row 22 = .ok (.bipush (-9), 2) := by decide +kernel
theorem dX5_row_24 : decode cX5_row 24 = .ok (.ireturn, 1) := by decide +kernel
theorem dX5_alterRow_0 : decode cX5_alterRow 0 = .ok (.aload_n 0, 1) := by decide +kernel
theorem dX5_alterRow_1 : decode cX5_alterRow 1 = .ok (.iload_n 1, 1) := by decide +kernel
theorem dX5_alterRow_2 : decode cX5_alterRow 2 = .ok (.iload_n 2, 1) := by decide +kernel
theorem dX5_alterRow_3 : decode cX5_alterRow 3 = .ok (.invokevirtual 258, 3) := by decide +kernel
theorem dX5_alterRow_6 : decode cX5_alterRow 6 = .ok (.ifCond .ne 6, 3) := by decide +kernel
theorem dX5_alterRow_9 : decode cX5_alterRow 9 = .ok (.bipush (-9), 2) := by decide +kernel
theorem dX5_alterRow_11 : decode cX5_alterRow 11 = .ok (.ireturn, 1) := by decide +kernel
theorem dX5_alterRow_12 : decode cX5_alterRow 12 = .ok (.aload_n 0, 1) := by decide +kernel
theorem dX5_alterRow_13 : decode cX5_alterRow 13 = .ok (.getfield 48, 3) := by decide +kernel
theorem dX5_alterRow_16 : decode cX5_alterRow 16 = .ok (.iload_n 1, 1) := by decide +kernel
theorem dX5_alterRow_17 : decode cX5_alterRow 17 = .ok (.iconst 3, 1) := by decide +kernel
theorem dX5_alterRow_18 : decode cX5_alterRow 18 = .ok (.imul, 1) := by decide +kernel
theorem dX5_alterRow_19 : decode cX5_alterRow 19 = .ok (.iload_n 2, 1) := by decide +kernel
theorem dX5_alterRow_20 : decode cX5_alterRow 20 = .ok (.iadd, 1) := by decide +kernel
theorem dX5_alterRow_21 : decode cX5_alterRow 21 = .ok (.iaload, 1) := by decide +kernel
theorem dX5_alterRow_22 : decode cX5_alterRow 22 = .ok (.istore 4, 2) := by decide +kernel
theorem dX5_alterRow_24 : decode cX5_alterRow 24 = .ok (.aload_n 0, 1) := by decide +kernel
theorem dX5_alterRow_25 : decode cX5_alterRow 25 = .ok (.getfield 48, 3) := by decide +kernel
theorem dX5_alterRow_28 : decode cX5_alterRow 28 = .ok (.iload_n 1, 1) := by decide +kernel
theorem dX5_alterRow_29 : decode cX5_alterRow 29 = .ok (.iconst 3, 1) := by decide +kernel
theorem dX5_alterRow_30 : decode cX5_alterRow 30 = .ok (.imul, 1) := by decide +kernel
theorem dX5_alterRow_31 : decode cX5_alterRow 31 = .ok (.iload_n 2, 1) := by decide +kernel
theorem dX5_alterRow_32 : decode cX5_alterRow 32 = .ok (.iadd, 1) := by decide +kernel
theorem dX5_alterRow_33 : decode cX5_alterRow 33 = .ok (.iload_n 3, 1) := by decide +kernel
theorem dX5_alterRow_34 : decode cX5_alterRow 34 = .ok (.iastore, 1) := by decide +kernel
theorem dX5_alterRow_35 : decode cX5_alterRow 35 = .ok (.iload 4, 2) := by decide +kernel
theorem dX5_alterRow_37 : decode cX5_alterRow 37 = .ok (.ireturn, 1) := by decide +kernel
theorem dX5_judge_0 : decode cX5_judge 0 = .ok (.aload_n 0, 1) := by decide +kernel
theorem dX5_judge_1 : decode cX5_judge 1 = .ok (.getfield 10, 3) := by decide +kernel
theorem dX5_judge_4 : decode cX5_judge 4 = .ok (.iload_n 1, 1) := by decide +kernel
theorem dX5_judge_5 : decode cX5_judge 5 = .ok (.invokevirtual 131, 3) := by decide +kernel
theorem dX5_judge_8 : decode cX5_judge 8 = .ok (.ifCond .ne 5, 3) := by decide +kernel
theorem dX5_judge_11 : decode cX5_judge 11 = .ok (.iconst (-1), 1) := by decide +kernel
theorem dX5_judge_12 : decode cX5_judge 12 = .ok (.ireturn, 1) := by decide +kernel
theorem dX5_judge_13 : decode cX5_judge 13 = .ok (.aload_n 0, 1) := by decide +kernel
theorem dX5_judge_14 : decode cX5_judge 14 = .ok (.getfield 19, 3) := by decide +kernel
theorem dX5_judge_17 : decode cX5_judge 17 = .ok (.aload_n 0, 1) := by decide +kernel
theorem dX5_judge_18 : decode cX5_judge 18 = .ok (.getfield 10, 3) := by decide +kernel
theorem dX5_judge_21 : decode cX5_judge 21 = .ok (.invokevirtual 98, 3) := by decide +kernel
theorem dX5_judge_24 : decode cX5_judge 24 = .ok (.iconst 0, 1) := by decide +kernel
theorem dX5_judge_25 : decode cX5_judge 25 = .ok (.istore_n 2, 1) := by decide +kernel
theorem dX5_judge_26 : decode cX5_judge 26 = .ok (.iload_n 2, 1) := by decide +kernel
theorem dX5_judge_27 : decode cX5_judge 27 = .ok (.aload_n 0, 1) := by decide +kernel
theorem dX5_judge_28 : decode cX5_judge 28 = .ok (.getfield 67, 3) := by decide +kernel
theorem dX5_judge_31 : decode cX5_judge 31 = .ok (.if_icmp .ge 55, 3) := by decide +kernel
theorem dX5_judge_34 : decode cX5_judge 34 = .ok (.aload_n 0, 1) := by decide +kernel
theorem dX5_judge_35 : decode cX5_judge 35 = .ok (.getfield 19, 3) := by decide +kernel
theorem dX5_judge_38 : decode cX5_judge 38 = .ok (.invokevirtual 162, 3) := by decide +kernel
theorem dX5_judge_41 : decode cX5_judge 41 = .ok (.iconst 0, 1) := by decide +kernel
theorem dX5_judge_42 : decode cX5_judge 42 = .ok (.istore_n 3, 1) := by decide +kernel
theorem dX5_judge_43 : decode cX5_judge 43 = .ok (.iload_n 3, 1) := by decide +kernel
theorem dX5_judge_44 : decode cX5_judge 44 = .ok (.iconst 3, 1) := by decide +kernel
theorem dX5_judge_45 : decode cX5_judge 45 = .ok (.if_icmp .ge 35, 3) := by decide +kernel
theorem dX5_judge_48 : decode cX5_judge 48 = .ok (.aload_n 0, 1) := by decide +kernel
theorem dX5_judge_49 : decode cX5_judge 49 = .ok (.getfield 48, 3) := by decide +kernel
theorem dX5_judge_52 : decode cX5_judge 52 = .ok (.iload_n 2, 1) := by decide +kernel
theorem dX5_judge_53 : decode cX5_judge 53 = .ok (.iconst 3, 1) := by decide +kernel
theorem dX5_judge_54 : decode cX5_judge 54 = .ok (.imul, 1) := by decide +kernel
theorem dX5_judge_55 : decode cX5_judge 55 = .ok (.iload_n 3, 1) := by decide +kernel
theorem dX5_judge_56 : decode cX5_judge 56 = .ok (.iadd, 1) := by decide +kernel
theorem dX5_judge_57 : decode cX5_judge 57 = .ok (.iaload, 1) := by decide +kernel
theorem dX5_judge_58 : decode cX5_judge 58 = .ok (.aload_n 0, 1) := by decide +kernel
theorem dX5_judge_59 : decode cX5_judge 59 = .ok (.getfield 19, 3) := by decide +kernel
theorem dX5_judge_62 : decode cX5_judge 62 = .ok (.iload_n 1, 1) := by decide +kernel
theorem dX5_judge_63 : decode cX5_judge 63 = .ok (.iload_n 3, 1) := by decide +kernel
theorem dX5_judge_64 : decode cX5_judge 64 = .ok (.invokevirtual 255, 3) := by decide +kernel
theorem dX5_judge_67 : decode cX5_judge 67 = .ok (.if_icmp .eq 7, 3) := by decide +kernel
theorem dX5_judge_70 : decode cX5_judge 70 = .ok (.iload_n 2, 1) := by decide +kernel
theorem dX5_judge_71 : decode cX5_judge 71 = .ok (.iconst 1, 1) := by decide +kernel
theorem dX5_judge_72 : decode cX5_judge 72 = .ok (.iadd, 1) := by decide +kernel
theorem dX5_judge_73 : decode cX5_judge 73 = .ok (.ireturn, 1) := by decide +kernel
theorem dX5_judge_74 : decode cX5_judge 74 = .ok (.iinc 3 1, 3) := by decide +kernel
theorem dX5_judge_77 : decode cX5_judge 77 = .ok (.goto (-34), 3) := by decide +kernel
theorem dX5_judge_80 : decode cX5_judge 80 = .ok (.iinc 2 1, 3) := by decide +kernel
theorem dX5_judge_83 : decode cX5_judge 83 = .ok (.goto (-57), 3) := by decide +kernel
theorem dX5_judge_86 : decode cX5_judge 86 = .ok (.iconst 0, 1) := by decide +kernel
theorem dX5_judge_87 : decode cX5_judge 87 = .ok (.ireturn, 1) := by decide +kernel
theorem dX5_minds_0 : decode cX5_minds 0 = .ok (.aload_n 0, 1) := by decide +kernel
theorem dX5_minds_1 : decode cX5_minds 1 = .ok (.iload_n 1, 1) := by decide +kernel
theorem dX5_minds_2 : decode cX5_minds 2 = .ok (.invokevirtual 227, 3) := by decide +kernel
theorem dX5_minds_5 : decode cX5_minds 5 = .ok (.astore 5, 2) := by decide +kernel
theorem dX5_minds_7 : decode cX5_minds 7 = .ok (.aload 5, 2) := by decide +kernel
theorem dX5_minds_9 : decode cX5_minds 9 = .ok (.ifnull 39, 3) := by decide +kernel
theorem dX5_minds_12 : decode cX5_minds 12 = .ok (.aload_n 0, 1) := by decide +kernel
theorem dX5_minds_13 : decode cX5_minds 13 = .ok (.getfield 10, 3) := by decide +kernel
theorem dX5_minds_16 : decode cX5_minds 16 = .ok (.iload_n 3, 1) := by decide +kernel
theorem dX5_minds_17 : decode cX5_minds 17 = .ok (.invokevirtual 131, 3) := by decide +kernel
theorem dX5_minds_20 : decode cX5_minds 20 = .ok (.ifCond .eq 28, 3) := by decide +kernel
theorem dX5_minds_23 : decode cX5_minds 23 = .ok (.iload 4, 2) := by decide +kernel
theorem dX5_minds_25 : decode cX5_minds 25 = .ok (.iconst 0, 1) := by decide +kernel
theorem dX5_minds_26 : decode cX5_minds 26 = .ok (.bipush 8, 2) := by decide +kernel
theorem dX5_minds_28 : decode cX5_minds 28 = .ok (.invokestatic 77, 3) := by decide +kernel
theorem dX5_minds_31 : decode cX5_minds 31 = .ok (.ifCond .eq 17, 3) := by decide +kernel
theorem dX5_minds_34 : decode cX5_minds 34 = .ok (.iload 4, 2) := by decide +kernel
theorem dX5_minds_36 : decode cX5_minds 36 = .ok (.aload_n 0, 1) := by decide +kernel
theorem dX5_minds_37 : decode cX5_minds 37 = .ok (.getfield 10, 3) := by decide +kernel
theorem dX5_minds_40 : decode cX5_minds 40 = .ok (.getfield 102, 3) := by decide +kernel
theorem dX5_minds_43 : decode cX5_minds 43 = .ok (.iload_n 3, 1) := by decide +kernel
theorem dX5_minds_44 : decode cX5_minds 44 = .ok (.isub, 1) := by decide +kernel
theorem dX5_minds_45 : decode cX5_minds 45 = .ok (.if_icmp .le 5, 3) := by decide +kernel
theorem dX5_minds_48 : decode cX5_minds 48 = .ok (.iconst (-1), 1) := by decide +kernel
theorem dX5_minds_49 : decode cX5_minds 49 = .ok (.ireturn, 1) := by decide +kernel
theorem dX5_minds_50 : decode cX5_minds 50 = .ok (.aload 5, 2) := by decide +kernel
theorem dX5_minds_52 : decode cX5_minds 52 = .ok (.invokevirtual 231, 3) := by decide +kernel
theorem dX5_minds_55 : decode cX5_minds 55 = .ok (.ifCond .eq 6, 3) := by decide +kernel
theorem dX5_minds_58 : decode cX5_minds 58 = .ok (.bipush (-11), 2) := by decide +kernel
theorem dX5_minds_60 : decode cX5_minds 60 = .ok (.ireturn, 1) := by decide +kernel
theorem dX5_minds_61 : decode cX5_minds 61 = .ok (.aload 5, 2) := by decide +kernel
theorem dX5_minds_63 : decode cX5_minds 63 = .ok (.getfield 261, 3) := by decide +kernel
theorem dX5_minds_66 : decode cX5_minds 66 = .ok (.ifCond .eq 6, 3) := by decide +kernel
theorem dX5_minds_69 : decode cX5_minds 69 = .ok (.bipush (-13), 2) := by decide +kernel
theorem dX5_minds_71 : decode cX5_minds 71 = .ok (.ireturn, 1) := by decide +kernel
theorem dX5_minds_72 : decode cX5_minds 72 = .ok (.iload_n 2, 1) := by decide +kernel
theorem dX5_minds_73 : decode cX5_minds 73 = .ok (.iconst 0, 1) := by decide +kernel
theorem dX5_minds_74 : decode cX5_minds 74 = .ok (.aload 5, 2) := by decide +kernel
theorem dX5_minds_76 : decode cX5_minds 76 = .ok (.getfield 264, 3) := by decide +kernel
theorem dX5_minds_79 : decode cX5_minds 79 = .ok (.invokestatic 77, 3) := by decide +kernel
theorem dX5_minds_82 : decode cX5_minds 82 = .ok (.ifCond .eq 15, 3) := by decide +kernel
theorem dX5_minds_85 : decode cX5_minds 85 = .ok (.iload 4, 2) := by decide +kernel
theorem dX5_minds_87 : decode cX5_minds 87 = .ok (.aload 5, 2) := by decide +kernel
theorem dX5_minds_89 : decode cX5_minds 89 = .ok (.getfield 264, 3) := by decide +kernel
theorem dX5_minds_92 : decode cX5_minds 92 = .ok (.iload_n 2, 1) := by decide +kernel
theorem dX5_minds_93 : decode cX5_minds 93 = .ok (.isub, 1) := by decide +kernel
theorem dX5_minds_94 : decode cX5_minds 94 = .ok (.if_icmp .le 6, 3) := by decide +kernel
theorem dX5_minds_97 : decode cX5_minds 97 = .ok (.bipush (-12), 2) := by decide +kernel
theorem dX5_minds_99 : decode cX5_minds 99 = .ok (.ireturn, 1) := by decide +kernel
theorem dX5_minds_100 : decode cX5_minds 100 = .ok (.iconst 0, 1) := by decide +kernel
theorem dX5_minds_101 : decode cX5_minds 101 = .ok (.istore 6, 2) := by decide +kernel
theorem dX5_minds_103 : decode cX5_minds 103 = .ok (.iload 6, 2) := by decide +kernel
theorem dX5_minds_105 : decode cX5_minds 105 = .ok (.iload 4, 2) := by decide +kernel
theorem dX5_minds_107 : decode cX5_minds 107 = .ok (.if_icmp .ge 36, 3) := by decide +kernel
theorem dX5_minds_110 : decode cX5_minds 110 = .ok (.aload_n 0, 1) := by decide +kernel
theorem dX5_minds_111 : decode cX5_minds 111 = .ok (.getfield 10, 3) := by decide +kernel
theorem dX5_minds_114 : decode cX5_minds 114 = .ok (.getfield 137, 3) := by decide +kernel
theorem dX5_minds_117 : decode cX5_minds 117 = .ok (.iload_n 3, 1) := by decide +kernel
theorem dX5_minds_118 : decode cX5_minds 118 = .ok (.iload 6, 2) := by decide +kernel
theorem dX5_minds_120 : decode cX5_minds 120 = .ok (.iadd, 1) := by decide +kernel
theorem dX5_minds_121 : decode cX5_minds 121 = .ok (.aload 5, 2) := by decide +kernel
theorem dX5_minds_123 : decode cX5_minds 123 = .ok (.getfield 265, 3) := by decide +kernel
theorem dX5_minds_126 : decode cX5_minds 126 = .ok (.iload_n 2, 1) := by decide +kernel
theorem dX5_minds_127 : decode cX5_minds 127 = .ok (.iload 6, 2) := by decide +kernel
theorem dX5_minds_129 : decode cX5_minds 129 = .ok (.iadd, 1) := by decide +kernel
theorem dX5_minds_130 : decode cX5_minds 130 = .ok (.iaload, 1) := by decide +kernel
theorem dX5_minds_131 : decode cX5_minds 131 = .ok (.bipush 9, 2) := by decide +kernel
theorem dX5_minds_133 : decode cX5_minds 133 = .ok (.invokestatic 268, 3) := by decide +kernel
theorem dX5_minds_136 : decode cX5_minds 136 = .ok (.iastore, 1) := by decide +kernel
theorem dX5_minds_137 : decode cX5_minds 137 = .ok (.iinc 6 1, 3) := by decide +kernel
theorem dX5_minds_140 : decode cX5_minds 140 = .ok (.goto (-37), 3) := by decide +kernel
theorem dX5_minds_143 : decode cX5_minds 143 = .ok (.iload 4, 2) := by decide +kernel
theorem dX5_minds_145 : decode cX5_minds 145 = .ok (.ireturn, 1) := by decide +kernel
theorem dX5_sheet_0 : decode cX5_sheet 0 = .ok (.aload_n 0, 1) := by decide +kernel
theorem dX5_sheet_1 : decode cX5_sheet 1 = .ok (.iload_n 1, 1) := by decide +kernel
theorem dX5_sheet_2 : decode cX5_sheet 2 = .ok (.invokevirtual 227, 3) := by decide +kernel
theorem dX5_sheet_5 : decode cX5_sheet 5 = .ok (.astore 4, 2) := by decide +kernel
theorem dX5_sheet_7 : decode cX5_sheet 7 = .ok (.aload 4, 2) := by decide +kernel
theorem dX5_sheet_9 : decode cX5_sheet 9 = .ok (.ifnull 12, 3) := by decide +kernel
theorem dX5_sheet_12 : decode cX5_sheet 12 = .ok (.iload_n 2, 1) := by decide +kernel
theorem dX5_sheet_13 : decode cX5_sheet 13 = .ok (.iconst (-1), 1) := by decide +kernel
theorem dX5_sheet_14 : decode cX5_sheet 14 = .ok (.iconst 3, 1) := by decide +kernel
theorem dX5_sheet_15 : decode cX5_sheet 15 = .ok (.invokestatic 77, 3) := by decide +kernel
theorem dX5_sheet_18 : decode cX5_sheet 18 = .ok (.ifCond .ne 5, 3) := by decide +kernel
theorem dX5_sheet_21 : decode cX5_sheet 21 = .ok (.iconst (-1), 1) := by decide +kernel
theorem dX5_sheet_22 : decode cX5_sheet 22 = .ok (.ireturn, 1) := by decide +kernel
theorem dX5_sheet_23 : decode cX5_sheet 23 = .ok (.iload_n 2, 1) := by decide +kernel
theorem dX5_sheet_24 : decode cX5_sheet 24 = .ok (.iconst (-1), 1) := by decide +kernel
theorem dX5_sheet_25 : decode cX5_sheet 25 = .ok (.if_icmp .ne 11, 3) := by decide +kernel
theorem dX5_sheet_28 : decode cX5_sheet 28 = .ok (.aload 4, 2) := by decide +kernel
theorem dX5_sheet_30 : decode cX5_sheet 30 = .ok (.iconst (-1), 1) := by decide +kernel
theorem dX5_sheet_31 : decode cX5_sheet 31 = .ok (.putfield 261, 3) := by decide +kernel
theorem dX5_sheet_34 : decode cX5_sheet 34 = .ok (.iconst 1, 1) := by decide +kernel
theorem dX5_sheet_35 : decode cX5_sheet 35 = .ok (.ireturn, 1) := by decide +kernel
theorem dX5_sheet_36 : decode cX5_sheet 36 = .ok (.iload_n 3, 1) := by decide +kernel
theorem dX5_sheet_37 : decode cX5_sheet 37 = .ok (.bipush 40, 2) := by decide +kernel
theorem dX5_sheet_39 : decode cX5_sheet 39 = .ok (.if_icmp .le 5, 3) := by decide +kernel
theorem dX5_sheet_42 : decode cX5_sheet 42 = .ok (.iconst (-1), 1) := by decide +kernel
theorem dX5_sheet_43 : decode cX5_sheet 43 = .ok (.ireturn, 1) := by decide +kernel
theorem dX5_sheet_44 : decode cX5_sheet 44 = .ok (.iload_n 3, 1) := by decide +kernel
theorem dX5_sheet_45 : decode cX5_sheet 45 = .ok (.ifCond .ge 6, 3) := by decide +kernel
theorem dX5_sheet_48 : decode cX5_sheet 48 = .ok (.bipush (-14), 2) := by decide +kernel
theorem dX5_sheet_50 : decode cX5_sheet 50 = .ok (.ireturn, 1) := by decide +kernel
theorem dX5_sheet_51 : decode cX5_sheet 51 = .ok (.aload 4, 2) := by decide +kernel
theorem dX5_sheet_53 : decode cX5_sheet 53 = .ok (.iload_n 2, 1) := by decide +kernel
theorem dX5_sheet_54 : decode cX5_sheet 54 = .ok (.iload_n 3, 1) := by decide +kernel
theorem dX5_sheet_55 : decode cX5_sheet 55 = .ok (.invokevirtual 271, 3) := by decide +kernel
theorem dX5_sheet_58 : decode cX5_sheet 58 = .ok (.iconst 1, 1) := by decide +kernel
theorem dX5_sheet_59 : decode cX5_sheet 59 = .ok (.ireturn, 1) := by decide +kernel
theorem dX5_put_0 : decode cX5_put 0 = .ok (.aload_n 0, 1) := by decide +kernel
theorem dX5_put_1 : decode cX5_put 1 = .ok (.iload_n 1, 1) := by decide +kernel
theorem dX5_put_2 : decode cX5_put 2 = .ok (.invokevirtual 227, 3) := by decide +kernel
theorem dX5_put_5 : decode cX5_put 5 = .ok (.astore 4, 2) := by decide +kernel
theorem dX5_put_7 : decode cX5_put 7 = .ok (.aload 4, 2) := by decide +kernel
theorem dX5_put_9 : decode cX5_put 9 = .ok (.ifnonnull 5, 3) := by decide +kernel
theorem dX5_put_12 : decode cX5_put 12 = .ok (.iconst (-1), 1) := by decide +kernel
theorem dX5_put_13 : decode cX5_put 13 = .ok (.ireturn, 1) := by decide +kernel
theorem dX5_put_14 : decode cX5_put 14 = .ok (.aload 4, 2) := by decide +kernel
theorem dX5_put_16 : decode cX5_put 16 = .ok (.invokevirtual 231, 3) := by decide +kernel
theorem dX5_put_19 : decode cX5_put 19 = .ok (.ifCond .eq 6, 3) := by decide +kernel
theorem dX5_put_22 : decode cX5_put 22 = .ok (.bipush (-11), 2) := by decide +kernel
theorem dX5_put_24 : decode cX5_put 24 = .ok (.ireturn, 1) := by decide +kernel
theorem dX5_put_25 : decode cX5_put 25 = .ok (.aload 4, 2) := by decide +kernel
theorem dX5_put_27 : decode cX5_put 27 = .ok (.iload_n 2, 1) := by decide +kernel
theorem dX5_put_28 : decode cX5_put 28 = .ok (.invokevirtual 275, 3) := by decide +kernel
theorem dX5_put_31 : decode cX5_put 31 = .ok (.ifCond .ne 6, 3) := by decide +kernel
theorem dX5_put_34 : decode cX5_put 34 = .ok (.bipush (-12), 2) := by decide +kernel
theorem dX5_put_36 : decode cX5_put 36 = .ok (.ireturn, 1) := by decide +kernel
theorem dX5_put_37 : decode cX5_put 37 = .ok (.aload 4, 2) := by decide +kernel
theorem dX5_put_39 : decode cX5_put 39 = .ok (.getfield 265, 3) := by decide +kernel
theorem dX5_put_42 : decode cX5_put 42 = .ok (.iload_n 2, 1) := by decide +kernel
theorem dX5_put_43 : decode cX5_put 43 = .ok (.aload 4, 2) := by decide +kernel
theorem dX5_put_45 : decode cX5_put 45 = .ok (.iload_n 3, 1) := by decide +kernel
theorem dX5_put_46 : decode cX5_put 46 = .ok (.invokevirtual 278, 3) := by decide +kernel
theorem dX5_put_49 : decode cX5_put 49 = .ok (.iastore, 1) := by decide +kernel
theorem dX5_put_50 : decode cX5_put 50 = .ok (.iconst 1, 1) := by decide +kernel
theorem dX5_put_51 : decode cX5_put 51 = .ok (.ireturn, 1) := by decide +kernel
theorem dX5_item_0 : decode cX5_item 0 = .ok (.aload_n 0, 1) := by decide +kernel
theorem dX5_item_1 : decode cX5_item 1 = .ok (.iload_n 1, 1) := by decide +kernel
theorem dX5_item_2 : decode cX5_item 2 = .ok (.invokevirtual 227, 3) := by decide +kernel
theorem dX5_item_5 : decode cX5_item 5 = .ok (.astore 4, 2) := by decide +kernel
theorem dX5_item_7 : decode cX5_item 7 = .ok (.aload 4, 2) := by decide +kernel
theorem dX5_item_9 : decode cX5_item 9 = .ok (.ifnull 12, 3) := by decide +kernel
theorem dX5_item_12 : decode cX5_item 12 = .ok (.iload_n 2, 1) := by decide +kernel
theorem dX5_item_13 : decode cX5_item 13 = .ok (.iconst 0, 1) := by decide +kernel
theorem dX5_item_14 : decode cX5_item 14 = .ok (.iconst 3, 1) := by decide +kernel
theorem dX5_item_15 : decode cX5_item 15 = .ok (.invokestatic 77, 3) := by decide +kernel
theorem dX5_item_18 : decode cX5_item 18 = .ok (.ifCond .ne 5, 3) := by decide +kernel
theorem dX5_item_21 : decode cX5_item 21 = .ok (.iconst (-1), 1) := by decide +kernel
theorem dX5_item_22 : decode cX5_item 22 = .ok (.ireturn, 1) := by decide +kernel
theorem dX5_item_23 : decode cX5_item 23 = .ok (.aload 4, 2) := by decide +kernel
theorem dX5_item_25 : decode cX5_item 25 = .ok (.invokevirtual 231, 3) := by decide +kernel
theorem dX5_item_28 : decode cX5_item 28 = .ok (.ifCond .eq 6, 3) := by decide +kernel
theorem dX5_item_31 : decode cX5_item 31 = .ok (.bipush (-11), 2) := by decide +kernel
theorem dX5_item_33 : decode cX5_item 33 = .ok (.ireturn, 1) := by decide +kernel
theorem dX5_item_34 : decode cX5_item 34 = .ok (.aload 4, 2) := by decide +kernel
theorem dX5_item_36 : decode cX5_item 36 = .ok (.getfield 261, 3) := by decide +kernel
theorem dX5_item_39 : decode cX5_item 39 = .ok (.iload_n 2, 1) := by decide +kernel
theorem dX5_item_40 : decode cX5_item 40 = .ok (.if_icmp .eq 6, 3) := by decide +kernel
theorem dX5_item_43 : decode cX5_item 43 = .ok (.bipush (-13), 2) := by decide +kernel
theorem dX5_item_45 : decode cX5_item 45 = .ok (.ireturn, 1) := by decide +kernel
theorem dX5_item_46 : decode cX5_item 46 = .ok (.aload 4, 2) := by decide +kernel
theorem dX5_item_48 : decode cX5_item 48 = .ok (.iload_n 3, 1) := by decide +kernel
theorem dX5_item_49 : decode cX5_item 49 = .ok (.invokevirtual 275, 3) := by decide +kernel
theorem dX5_item_52 : decode cX5_item 52 = .ok (.ifCond .eq 13, 3) := by decide +kernel
theorem dX5_item_55 : decode cX5_item 55 = .ok (.aload 4, 2) := by decide +kernel
theorem dX5_item_57 : decode cX5_item 57 = .ok (.getfield 265, 3) := by decide +kernel
theorem dX5_item_60 : decode cX5_item 60 = .ok (.iload_n 3, 1) := by decide +kernel
theorem dX5_item_61 : decode cX5_item 61 = .ok (.iaload, 1) := by decide +kernel
theorem dX5_item_62 : decode cX5_item 62 = .ok (.goto 5, 3) := by decide +kernel
theorem dX5_item_65 : decode cX5_item 65 = .ok (.bipush (-12), 2) := by decide +kernel
theorem dX5_item_67 : decode cX5_item 67 = .ok (.ireturn, 1) := by decide +kernel
theorem dX5_shelf_0 : decode cX5_shelf 0 = .ok (.aload_n 0, 1) := by decide +kernel
theorem dX5_shelf_1 : decode cX5_shelf 1 = .ok (.iload_n 1, 1) := by decide +kernel
theorem dX5_shelf_2 : decode cX5_shelf 2 = .ok (.invokevirtual 281, 3) := by decide +kernel
theorem dX5_shelf_5 : decode cX5_shelf 5 = .ok (.astore 4, 2) := by decide +kernel
theorem dX5_shelf_7 : decode cX5_shelf 7 = .ok (.aload 4, 2) := by decide +kernel
theorem dX5_shelf_9 : decode cX5_shelf 9 = .ok (.ifnonnull 5, 3) := by decide +kernel
theorem dX5_shelf_12 : decode cX5_shelf 12 = .ok (.iconst (-1), 1) := by decide +kernel
theorem dX5_shelf_13 : decode cX5_shelf 13 = .ok (.ireturn, 1) := by decide +kernel
theorem dX5_shelf_14 : decode cX5_shelf 14 = .ok (.iload_n 2, 1) := by decide +kernel
theorem dX5_shelf_15 : decode cX5_shelf 15 = .ok (.tableswitch 77 0 2 #[25, 46, 69], 25) := by decide +kernel
theorem dX5_shelf_40 : decode cX5_shelf 40 = .ok (.aload_n 0, 1) := by decide +kernel
theorem dX5_shelf_41 : decode cX5_shelf 41 = .ok (.getfield 10, 3) := by decide +kernel
theorem dX5_shelf_44 : decode cX5_shelf 44 = .ok (.iload_n 3, 1) := by decide +kernel
theorem dX5_shelf_45 : decode cX5_shelf 45 = .ok (.invokevirtual 131, 3) := by decide +kernel
theorem dX5_shelf_48 : decode cX5_shelf 48 = .ok (.ifCond .ne 5, 3) := by decide +kernel
theorem dX5_shelf_51 : decode cX5_shelf 51 = .ok (.iconst (-1), 1) := by decide +kernel
theorem dX5_shelf_52 : decode cX5_shelf 52 = .ok (.ireturn, 1) := by decide +kernel
theorem dX5_shelf_53 : decode cX5_shelf 53 = .ok (.aload 4, 2) := by decide +kernel
theorem dX5_shelf_55 : decode cX5_shelf 55 = .ok (.iload_n 3, 1) := by decide +kernel
theorem dX5_shelf_56 : decode cX5_shelf 56 = .ok (.invokevirtual 285, 3) := by decide +kernel
theorem dX5_shelf_59 : decode cX5_shelf 59 = .ok (.iconst 1, 1) := by decide +kernel
theorem dX5_shelf_60 : decode cX5_shelf 60 = .ok (.ireturn, 1) := by decide +kernel
theorem dX5_shelf_61 : decode cX5_shelf 61 = .ok (.aload_n 0, 1) := by decide +kernel
theorem dX5_shelf_62 : decode cX5_shelf 62 = .ok (.iload_n 3, 1) := by decide +kernel
theorem dX5_shelf_63 : decode cX5_shelf 63 = .ok (.invokevirtual 227, 3) := by decide +kernel
theorem dX5_shelf_66 : decode cX5_shelf 66 = .ok (.astore 5, 2) := by decide +kernel
theorem dX5_shelf_68 : decode cX5_shelf 68 = .ok (.aload 5, 2) := by decide +kernel
theorem dX5_shelf_70 : decode cX5_shelf 70 = .ok (.ifnonnull 5, 3) := by decide +kernel
theorem dX5_shelf_73 : decode cX5_shelf 73 = .ok (.iconst (-1), 1) := by decide +kernel
theorem dX5_shelf_74 : decode cX5_shelf 74 = .ok (.ireturn, 1) := by decide +kernel
theorem dX5_shelf_75 : decode cX5_shelf 75 = .ok (.aload 4, 2) := by decide +kernel
theorem dX5_shelf_77 : decode cX5_shelf 77 = .ok (.aload 5, 2) := by decide +kernel
theorem dX5_shelf_79 : decode cX5_shelf 79 = .ok (.invokevirtual 289, 3) := by decide +kernel
theorem dX5_shelf_82 : decode cX5_shelf 82 = .ok (.iconst 1, 1) := by decide +kernel
theorem dX5_shelf_83 : decode cX5_shelf 83 = .ok (.ireturn, 1) := by decide +kernel
theorem dX5_shelf_84 : decode cX5_shelf 84 = .ok (.aload 4, 2) := by decide +kernel
theorem dX5_shelf_86 : decode cX5_shelf 86 = .ok (.iconst 2, 1) := by decide +kernel
theorem dX5_shelf_87 : decode cX5_shelf 87 = .ok (.putfield 293, 3) := by decide +kernel
theorem dX5_shelf_90 : decode cX5_shelf 90 = .ok (.iconst 1, 1) := by decide +kernel
theorem dX5_shelf_91 : decode cX5_shelf 91 = .ok (.ireturn, 1) := by decide +kernel
theorem dX5_shelf_92 : decode cX5_shelf 92 = .ok (.iconst (-1), 1) := by decide +kernel
theorem dX5_shelf_93 : decode cX5_shelf 93 = .ok (.ireturn, 1) := by decide +kernel
theorem dX5_taken_0 : decode cX5_taken 0 = .ok (.aload_n 0, 1) := by decide +kernel
theorem dX5_taken_1 : decode cX5_taken 1 = .ok (.iload_n 1, 1) := by decide +kernel
theorem dX5_taken_2 : decode cX5_taken 2 = .ok (.invokevirtual 281, 3) := by decide +kernel
theorem dX5_taken_5 : decode cX5_taken 5 = .ok (.astore_n 3, 1) := by decide +kernel
theorem dX5_taken_6 : decode cX5_taken 6 = .ok (.iload_n 2, 1) := by decide +kernel
theorem dX5_taken_7 : decode cX5_taken 7 = .ok (.bipush 10, 2) := by decide +kernel
theorem dX5_taken_9 : decode cX5_taken 9 = .ok (.bipush 13, 2) := by decide +kernel
theorem dX5_taken_11 : decode cX5_taken 11 = .ok (.invokestatic 77, 3) := by decide +kernel
theorem dX5_taken_14 : decode cX5_taken 14 = .ok (.istore 4, 2) := by decide +kernel
theorem dX5_taken_16 : decode cX5_taken 16 = .ok (.aload_n 3, 1) := by decide +kernel
theorem dX5_taken_17 : decode cX5_taken 17 = .ok (.ifnull 15, 3) := by decide +kernel
theorem dX5_taken_20 : decode cX5_taken 20 = .ok (.iload_n 2, 1) := by decide +kernel
theorem dX5_taken_21 : decode cX5_taken 21 = .ok (.invokestatic 118, 3) := by decide +kernel
theorem dX5_taken_24 : decode cX5_taken 24 = .ok (.ifCond .ne 10, 3) := by decide +kernel
theorem dX5_taken_27 : decode cX5_taken 27 = .ok (.iload 4, 2) := by decide +kernel
theorem dX5_taken_29 : decode cX5_taken 29 = .ok (.ifCond .ne 5, 3) := by decide +kernel
theorem dX5_taken_32 : decode cX5_taken 32 = .ok (.iconst (-1), 1) := by decide +kernel
theorem dX5_taken_33 : decode cX5_taken 33 = .ok (.ireturn, 1) := by decide +kernel
theorem dX5_taken_34 : decode cX5_taken 34 = .ok (.aload_n 3, 1) := by decide +kernel
theorem dX5_taken_35 : decode cX5_taken 35 = .ok (.getfield 293, 3) := by decide +kernel
theorem dX5_taken_38 : decode cX5_taken 38 = .ok (.iconst 1, 1) := by decide +kernel
theorem dX5_taken_39 : decode cX5_taken 39 = .ok (.if_icmp .ne 24, 3) := by decide +kernel
theorem dX5_taken_42 : decode cX5_taken 42 = .ok (.iload_n 2, 1) := by decide +kernel
theorem dX5_taken_43 : decode cX5_taken 43 = .ok (.bipush 10, 2) := by decide +kernel
theorem dX5_taken_45 : decode cX5_taken 45 = .ok (.aload_n 3, 1) := by decide +kernel
theorem dX5_taken_46 : decode cX5_taken 46 = .ok (.getfield 296, 3) := by decide +kernel
theorem dX5_taken_49 : decode cX5_taken 49 = .ok (.iadd, 1) := by decide +kernel
theorem dX5_taken_50 : decode cX5_taken 50 = .ok (.if_icmp .ne 10, 3) := by decide +kernel
theorem dX5_taken_53 : decode cX5_taken 53 = .ok (.aload_n 3, 1) := by decide +kernel
theorem dX5_taken_54 : decode cX5_taken 54 = .ok (.getfield 297, 3) := by decide +kernel
theorem dX5_taken_57 : decode cX5_taken 57 = .ok (.goto 5, 3) := by decide +kernel
theorem dX5_taken_60 : decode cX5_taken 60 = .ok (.bipush (-13), 2) := by decide +kernel
theorem dX5_taken_62 : decode cX5_taken 62 = .ok (.ireturn, 1) := by decide +kernel
theorem dX5_taken_63 : decode cX5_taken 63 = .ok (.aload_n 0, 1) := by decide +kernel
theorem dX5_taken_64 : decode cX5_taken 64 = .ok (.aload_n 3, 1) := by decide +kernel
theorem dX5_taken_65 : decode cX5_taken 65 = .ok (.invokevirtual 298, 3) := by decide +kernel
theorem dX5_taken_68 : decode cX5_taken 68 = .ok (.ifCond .ne 6, 3) := by decide +kernel
theorem dX5_taken_71 : decode cX5_taken 71 = .ok (.bipush (-11), 2) := by decide +kernel
theorem dX5_taken_73 : decode cX5_taken 73 = .ok (.ireturn, 1) := by decide +kernel
theorem dX5_taken_74 : decode cX5_taken 74 = .ok (.iload 4, 2) := by decide +kernel
theorem dX5_taken_76 : decode cX5_taken 76 = .ok (.ifCond .ne 29, 3) := by decide +kernel
theorem dX5_taken_79 : decode cX5_taken 79 = .ok (.aload_n 0, 1) := by decide +kernel
theorem dX5_taken_80 : decode cX5_taken 80 = .ok (.getfield 10, 3) := by decide +kernel
theorem dX5_taken_83 : decode cX5_taken 83 = .ok (.getfield 134, 3) := by decide +kernel
theorem dX5_taken_86 : decode cX5_taken 86 = .ok (.aload_n 3, 1) := by decide +kernel
theorem dX5_taken_87 : decode cX5_taken 87 = .ok (.getfield 302, 3) := by decide +kernel
theorem dX5_taken_90 : decode cX5_taken 90 = .ok (.iaload, 1) := by decide +kernel
theorem dX5_taken_91 : decode cX5_taken 91 = .ok (.iload_n 2, 1) := by decide +kernel
theorem dX5_taken_92 : decode cX5_taken 92 = .ok (.invokestatic 305, 3) := by decide +kernel
theorem dX5_taken_95 : decode cX5_taken 95 = .ok (.ifCond .eq 10, 3) := by decide +kernel
theorem dX5_taken_98 : decode cX5_taken 98 = .ok (.aload_n 3, 1) := by decide +kernel
theorem dX5_taken_99 : decode cX5_taken 99 = .ok (.getfield 302, 3) := by decide +kernel
theorem dX5_taken_102 : decode cX5_taken 102 = .ok (.goto 5, 3) := by decide +kernel
theorem dX5_taken_105 : decode cX5_taken 105 = .ok (.bipush (-13), 2) := by decide +kernel
theorem dX5_taken_107 : decode cX5_taken 107 = .ok (.ireturn, 1) := by decide +kernel
theorem dX5_act_0 : decode cX5_act 0 = .ok (.aload_n 0, 1) := by decide +kernel
theorem dX5_act_1 : decode cX5_act 1 = .ok (.iload_n 1, 1) := by decide +kernel
theorem dX5_act_2 : decode cX5_act 2 = .ok (.invokevirtual 281, 3) := by decide +kernel
theorem dX5_act_5 : decode cX5_act 5 = .ok (.astore 4, 2) := by decide +kernel
theorem dX5_act_7 : decode cX5_act 7 = .ok (.aload_n 0, 1) := by decide +kernel
theorem dX5_act_8 : decode cX5_act 8 = .ok (.getfield 44, 3) := by decide +kernel
theorem dX5_act_11 : decode cX5_act 11 = .ok (.iconst 0, 1) := by decide +kernel
theorem dX5_act_12 : decode cX5_act 12 = .ok (.putfield 308, 3) := by decide +kernel
theorem dX5_act_15 : decode cX5_act 15 = .ok (.aload 4, 2) := by decide +kernel
theorem dX5_act_17 : decode cX5_act 17 = .ok (.ifnull 21, 3) := by decide +kernel
theorem dX5_act_20 : decode cX5_act 20 = .ok (.aload_n 0, 1) := by decide +kernel
theorem dX5_act_21 : decode cX5_act 21 = .ok (.aload 4, 2) := by decide +kernel
theorem dX5_act_23 : decode cX5_act 23 = .ok (.invokevirtual 298, 3) := by decide +kernel
theorem dX5_act_26 : decode cX5_act 26 = .ok (.ifCond .eq 12, 3) := by decide +kernel
theorem dX5_act_29 : decode cX5_act 29 = .ok (.iload_n 2, 1) := by decide +kernel
theorem dX5_act_30 : decode cX5_act 30 = .ok (.iconst 0, 1) := by decide +kernel
theorem dX5_act_31 : decode cX5_act 31 = .ok (.iconst 3, 1) := by decide +kernel
theorem dX5_act_32 : decode cX5_act 32 = .ok (.invokestatic 77, 3) := by decide +kernel
theorem dX5_act_35 : decode cX5_act 35 = .ok (.ifCond .ne 5, 3) := by decide +kernel
theorem dX5_act_38 : decode cX5_act 38 = .ok (.iconst 0, 1) := by decide +kernel
theorem dX5_act_39 : decode cX5_act 39 = .ok (.ireturn, 1) := by decide +kernel
theorem dX5_act_40 : decode cX5_act 40 = .ok (.aload_n 0, 1) := by decide +kernel
theorem dX5_act_41 : decode cX5_act 41 = .ok (.getfield 44, 3) := by decide +kernel
theorem dX5_act_44 : decode cX5_act 44 = .ok (.aload_n 0, 1) := by decide +kernel
theorem dX5_act_45 : decode cX5_act 45 = .ok (.getfield 10, 3) := by decide +kernel
theorem dX5_act_48 : decode cX5_act 48 = .ok (.getfield 134, 3) := by decide +kernel
theorem dX5_act_51 : decode cX5_act 51 = .ok (.aload 4, 2) := by decide +kernel
theorem dX5_act_53 : decode cX5_act 53 = .ok (.getfield 302, 3) := by decide +kernel
theorem dX5_act_56 : decode cX5_act 56 = .ok (.iaload, 1) := by decide +kernel
theorem dX5_act_57 : decode cX5_act 57 = .ok (.aload 4, 2) := by decide +kernel
theorem dX5_act_59 : decode cX5_act 59 = .ok (.getfield 302, 3) := by decide +kernel
theorem dX5_act_62 : decode cX5_act 62 = .ok (.aload_n 0, 1) := by decide +kernel
theorem dX5_act_63 : decode cX5_act 63 = .ok (.getfield 10, 3) := by decide +kernel
theorem dX5_act_66 : decode cX5_act 66 = .ok (.getfield 137, 3) := by decide +kernel
theorem dX5_act_69 : decode cX5_act 69 = .ok (.aload 4, 2) := by decide +kernel
theorem dX5_act_71 : decode cX5_act 71 = .ok (.getfield 302, 3) := by decide +kernel
theorem dX5_act_74 : decode cX5_act 74 = .ok (.iaload, 1) := by decide +kernel
theorem dX5_act_75 : decode cX5_act 75 = .ok (.invokevirtual 311, 3) := by decide +kernel
theorem dX5_act_78 : decode cX5_act 78 = .ok (.aload_n 0, 1) := by decide +kernel
theorem dX5_act_79 : decode cX5_act 79 = .ok (.getfield 44, 3) := by decide +kernel
theorem dX5_act_82 : decode cX5_act 82 = .ok (.iload_n 2, 1) := by decide +kernel
theorem dX5_act_83 : decode cX5_act 83 = .ok (.iload_n 3, 1) := by decide +kernel
theorem dX5_act_84 : decode cX5_act 84 = .ok (.invokevirtual 315, 3) := by decide +kernel
theorem dX5_act_87 : decode cX5_act 87 = .ok (.istore 5, 2) := by decide +kernel
theorem dX5_act_89 : decode cX5_act 89 = .ok (.aload_n 0, 1) := by decide +kernel
theorem dX5_act_90 : decode cX5_act 90 = .ok (.getfield 44, 3) := by decide +kernel
theorem dX5_act_93 : decode cX5_act 93 = .ok (.getfield 318, 3) := by decide +kernel
theorem dX5_act_96 : decode cX5_act 96 = .ok (.ifCond .eq 8, 3) := by decide +kernel
theorem dX5_act_99 : decode cX5_act 99 = .ok (.bipush (-15), 2) := by decide +kernel
theorem dX5_act_101 : decode cX5_act 101 = .ok (.goto 5, 3) := by decide +kernel
theorem dX5_act_104 : decode cX5_act 104 = .ok (.iload 5, 2) := by decide +kernel
theorem dX5_act_106 : decode cX5_act 106 = .ok (.ireturn, 1) := by decide +kernel
theorem dX5_trace_0 : decode cX5_trace 0 = .ok (.iload_n 1, 1) := by decide +kernel
theorem dX5_trace_1 : decode cX5_trace 1 = .ok (.iconst 0, 1) := by decide +kernel
theorem dX5_trace_2 : decode cX5_trace 2 = .ok (.aload_n 0, 1) := by decide +kernel
theorem dX5_trace_3 : decode cX5_trace 3 = .ok (.getfield 44, 3) := by decide +kernel
theorem dX5_trace_6 : decode cX5_trace 6 = .ok (.getfield 308, 3) := by decide +kernel
theorem dX5_trace_9 : decode cX5_trace 9 = .ok (.iconst 1, 1) := by decide +kernel
theorem dX5_trace_10 : decode cX5_trace 10 = .ok (.isub, 1) := by decide +kernel
theorem dX5_trace_11 : decode cX5_trace 11 = .ok (.invokestatic 77, 3) := by decide +kernel
theorem dX5_trace_14 : decode cX5_trace 14 = .ok (.ifCond .eq 15, 3) := by decide +kernel
theorem dX5_trace_17 : decode cX5_trace 17 = .ok (.aload_n 0, 1) := by decide +kernel
theorem dX5_trace_18 : decode cX5_trace 18 = .ok (.getfield 44, 3) := by decide +kernel
theorem dX5_trace_21 : decode cX5_trace 21 = .ok (.getfield 321, 3) := by decide +kernel
theorem dX5_trace_24 : decode cX5_trace 24 = .ok (.iload_n 1, 1) := by decide +kernel
theorem dX5_trace_25 : decode cX5_trace 25 = .ok (.iaload, 1) := by decide +kernel
theorem dX5_trace_26 : decode cX5_trace 26 = .ok (.goto 5, 3) := by decide +kernel
theorem dX5_trace_29 : decode cX5_trace 29 = .ok (.bipush (-3), 2) := by decide +kernel
theorem dX5_trace_31 : decode cX5_trace 31 = .ok (.ireturn, 1) := by decide +kernel
theorem dX5_many_0 : decode cX5_many 0 = .ok (.iload_n 1, 1) := by decide +kernel
theorem dX5_many_1 : decode cX5_many 1 = .ok (.tableswitch 106 0 6 #[43, 51, 62, 73, 85, 90, 98], 43) := by decide +kernel
theorem dX5_many_44 : decode cX5_many 44 = .ok (.aload_n 0, 1) := by decide +kernel
theorem dX5_many_45 : decode cX5_many 45 = .ok (.getfield 10, 3) := by decide +kernel
theorem dX5_many_48 : decode cX5_many 48 = .ok (.getfield 102, 3) := by decide +kernel
theorem dX5_many_51 : decode cX5_many 51 = .ok (.ireturn, 1) := by decide +kernel
theorem dX5_many_52 : decode cX5_many 52 = .ok (.aload_n 0, 1) := by decide +kernel
theorem dX5_many_53 : decode cX5_many 53 = .ok (.getfield 10, 3) := by decide +kernel
theorem dX5_many_56 : decode cX5_many 56 = .ok (.invokevirtual 165, 3) := by decide +kernel
theorem dX5_many_59 : decode cX5_many 59 = .ok (.invokestatic 169, 3) := by decide +kernel
theorem dX5_many_62 : decode cX5_many 62 = .ok (.ireturn, 1) := by decide +kernel
theorem dX5_many_63 : decode cX5_many 63 = .ok (.aload_n 0, 1) := by decide +kernel
theorem dX5_many_64 : decode cX5_many 64 = .ok (.getfield 10, 3) := by decide +kernel
theorem dX5_many_67 : decode cX5_many 67 = .ok (.invokevirtual 193, 3) := by decide +kernel
theorem dX5_many_70 : decode cX5_many 70 = .ok (.invokestatic 169, 3) := by decide +kernel
theorem dX5_many_73 : decode cX5_many 73 = .ok (.ireturn, 1) := by decide +kernel
theorem dX5_many_74 : decode cX5_many 74 = .ok (.aload_n 0, 1) := by decide +kernel
theorem dX5_many_75 : decode cX5_many 75 = .ok (.getfield 10, 3) := by decide +kernel
theorem dX5_many_78 : decode cX5_many 78 = .ok (.iconst 1, 1) := by decide +kernel
theorem dX5_many_79 : decode cX5_many 79 = .ok (.invokevirtual 196, 3) := by decide +kernel
theorem dX5_many_82 : decode cX5_many 82 = .ok (.invokestatic 169, 3) := by decide +kernel
theorem dX5_many_85 : decode cX5_many 85 = .ok (.ireturn, 1) := by decide +kernel
theorem dX5_many_86 : decode cX5_many 86 = .ok (.aload_n 0, 1) := by decide +kernel
theorem dX5_many_87 : decode cX5_many 87 = .ok (.getfield 67, 3) := by decide +kernel
theorem dX5_many_90 : decode cX5_many 90 = .ok (.ireturn, 1) := by decide +kernel
theorem dX5_many_91 : decode cX5_many 91 = .ok (.aload_n 0, 1) := by decide +kernel
theorem dX5_many_92 : decode cX5_many 92 = .ok (.getfield 25, 3) := by decide +kernel
theorem dX5_many_95 : decode cX5_many 95 = .ok (.getfield 85, 3) := by decide +kernel
theorem dX5_many_98 : decode cX5_many 98 = .ok (.ireturn, 1) := by decide +kernel
theorem dX5_many_99 : decode cX5_many 99 = .ok (.aload_n 0, 1) := by decide +kernel
theorem dX5_many_100 : decode cX5_many 100 = .ok (.getfield 44, 3) := by decide +kernel
theorem dX5_many_103 : decode cX5_many 103 = .ok (.getfield 308, 3) := by decide +kernel
theorem dX5_many_106 : decode cX5_many 106 = .ok (.ireturn, 1) := by decide +kernel
theorem dX5_many_107 : decode cX5_many 107 = .ok (.iconst (-1), 1) := by decide +kernel
theorem dX5_many_108 : decode cX5_many 108 = .ok (.ireturn, 1) := by decide +kernel
theorem dX5_keep_0 : decode cX5_keep 0 = .ok (.aload_n 0, 1) := by decide +kernel
theorem dX5_keep_1 : decode cX5_keep 1 = .ok (.getfield 16, 3) := by decide +kernel
theorem dX5_keep_4 : decode cX5_keep 4 = .ok (.aload_n 0, 1) := by decide +kernel
theorem dX5_keep_5 : decode cX5_keep 5 = .ok (.getfield 10, 3) := by decide +kernel
theorem dX5_keep_8 : decode cX5_keep 8 = .ok (.invokevirtual 98, 3) := by decide +kernel
theorem dX5_keep_11 : decode cX5_keep 11 = .ok (.aload_n 0, 1) := by decide +kernel
theorem dX5_keep_12 : decode cX5_keep 12 = .ok (.iconst 1, 1) := by decide +kernel
theorem dX5_keep_13 : decode cX5_keep 13 = .ok (.putfield 71, 3) := by decide +kernel
theorem dX5_keep_16 : decode cX5_keep 16 = .ok (.iconst 1, 1) := by decide +kernel
theorem dX5_keep_17 : decode cX5_keep 17 = .ok (.ireturn, 1) := by decide +kernel
theorem dX5_again_0 : decode cX5_again 0 = .ok (.aload_n 0, 1) := by decide +kernel
theorem dX5_again_1 : decode cX5_again 1 = .ok (.getfield 71, 3) := by decide +kernel
theorem dX5_again_4 : decode cX5_again 4 = .ok (.ifCond .ne 6, 3) := by decide +kernel
theorem dX5_again_7 : decode cX5_again 7 = .ok (.bipush (-3), 2) := by decide +kernel
theorem dX5_again_9 : decode cX5_again 9 = .ok (.ireturn, 1) := by decide +kernel
theorem dX5_again_10 : decode cX5_again 10 = .ok (.aload_n 0, 1) := by decide +kernel
theorem dX5_again_11 : decode cX5_again 11 = .ok (.getfield 10, 3) := by decide +kernel
theorem dX5_again_14 : decode cX5_again 14 = .ok (.aload_n 0, 1) := by decide +kernel
theorem dX5_again_15 : decode cX5_again 15 = .ok (.getfield 16, 3) := by decide +kernel
theorem dX5_again_18 : decode cX5_again 18 = .ok (.invokevirtual 98, 3) := by decide +kernel
theorem dX5_again_21 : decode cX5_again 21 = .ok (.aload_n 0, 1) := by decide +kernel
theorem dX5_again_22 : decode cX5_again 22 = .ok (.getfield 10, 3) := by decide +kernel
theorem dX5_again_25 : decode cX5_again 25 = .ok (.getfield 102, 3) := by decide +kernel
theorem dX5_again_28 : decode cX5_again 28 = .ok (.ireturn, 1) := by decide +kernel
theorem dX5_tryWalk_0 : decode cX5_tryWalk 0 = .ok (.aload_n 0, 1) := by decide +kernel
theorem dX5_tryWalk_1 : decode cX5_tryWalk 1 = .ok (.getfield 19, 3) := by decide +kernel
theorem dX5_tryWalk_4 : decode cX5_tryWalk 4 = .ok (.aload_n 0, 1) := by decide +kernel
theorem dX5_tryWalk_5 : decode cX5_tryWalk 5 = .ok (.getfield 10, 3) := by decide +kernel
theorem dX5_tryWalk_8 : decode cX5_tryWalk 8 = .ok (.invokevirtual 98, 3) := by decide +kernel
theorem dX5_tryWalk_11 : decode cX5_tryWalk 11 = .ok (.aload_n 0, 1) := by decide +kernel
theorem dX5_tryWalk_12 : decode cX5_tryWalk 12 = .ok (.getfield 19, 3) := by decide +kernel
theorem dX5_tryWalk_15 : decode cX5_tryWalk 15 = .ok (.iload_n 1, 1) := by decide +kernel
theorem dX5_tryWalk_16 : decode cX5_tryWalk 16 = .ok (.iload_n 2, 1) := by decide +kernel
theorem dX5_tryWalk_17 : decode cX5_tryWalk 17 = .ok (.aload_n 3, 1) := by decide +kernel
theorem dX5_tryWalk_18 : decode cX5_tryWalk 18 = .ok (.invokevirtual 203, 3) := by decide +kernel
theorem dX5_tryWalk_21 : decode cX5_tryWalk 21 = .ok (.return_, 1) := by decide +kernel
theorem dX5_offOfTried_0 : decode cX5_offOfTried 0 = .ok (.aload_n 0, 1) := by decide +kernel
theorem dX5_offOfTried_1 : decode cX5_offOfTried 1 = .ok (.getfield 19, 3) := by decide +kernel
theorem dX5_offOfTried_4 : decode cX5_offOfTried 4 = .ok (.iload_n 1, 1) := by decide +kernel
theorem dX5_offOfTried_5 : decode cX5_offOfTried 5 = .ok (.iload_n 2, 1) := by decide +kernel
theorem dX5_offOfTried_6 : decode cX5_offOfTried 6 = .ok (.aload_n 0, 1) := by decide +kernel
theorem dX5_offOfTried_7 : decode cX5_offOfTried 7 = .ok (.getfield 52, 3) := by decide +kernel
theorem dX5_offOfTried_10 : decode cX5_offOfTried 10 = .ok (.invokevirtual 203, 3) := by decide +kernel
theorem dX5_offOfTried_13 : decode cX5_offOfTried 13 = .ok (.aload_n 0, 1) := by decide +kernel
theorem dX5_offOfTried_14 : decode cX5_offOfTried 14 = .ok (.getfield 52, 3) := by decide +kernel
theorem dX5_offOfTried_17 : decode cX5_offOfTried 17 = .ok (.iload_n 2, 1) := by decide +kernel
theorem dX5_offOfTried_18 : decode cX5_offOfTried 18 = .ok (.iaload, 1) := by decide +kernel
theorem dX5_offOfTried_19 : decode cX5_offOfTried 19 = .ok (.aload_n 0, 1) := by decide +kernel
theorem dX5_offOfTried_20 : decode cX5_offOfTried 20 = .ok (.getfield 10, 3) := by decide +kernel
theorem dX5_offOfTried_23 : decode cX5_offOfTried 23 = .ok (.getfield 140, 3) := by decide +kernel
theorem dX5_offOfTried_26 : decode cX5_offOfTried 26 = .ok (.iload_n 1, 1) := by decide +kernel
theorem dX5_offOfTried_27 : decode cX5_offOfTried 27 = .ok (.iaload, 1) := by decide +kernel
theorem dX5_offOfTried_28 : decode cX5_offOfTried 28 = .ok (.invokestatic 324, 3) := by decide +kernel
theorem dX5_offOfTried_31 : decode cX5_offOfTried 31 = .ok (.ireturn, 1) := by decide +kernel
theorem dX5_fewestThatSee_0 : decode cX5_fewestThatSee 0 = .ok (.aload_n 0, 1) := by decide +kernel
theorem dX5_fewestThatSee_1 : decode cX5_fewestThatSee 1 = .ok (.getfield 64, 3) := by decide +kernel
theorem dX5_fewestThatSee_4 : decode cX5_fewestThatSee 4 = .ok (.bipush 16, 2) := by decide +kernel
theorem dX5_fewestThatSee_6 : decode cX5_fewestThatSee 6 = .ok (.invokestatic 210, 3) := by decide +kernel
theorem dX5_fewestThatSee_9 : decode cX5_fewestThatSee 9 = .ok (.aload_n 0, 1) := by decide +kernel
theorem dX5_fewestThatSee_10 : decode cX5_fewestThatSee 10 = .ok (.getfield 64, 3) := by decide +kernel
theorem dX5_fewestThatSee_13 : decode cX5_fewestThatSee 13 = .ok (.iconst 0, 1) := by decide +kernel
theorem dX5_fewestThatSee_14 : decode cX5_fewestThatSee 14 = .ok (.iconst 0, 1) := by decide +kernel
theorem dX5_fewestThatSee_15 : decode cX5_fewestThatSee 15 = .ok (.iastore, 1) := by decide +kernel
theorem dX5_fewestThatSee_16 : decode cX5_fewestThatSee 16 = .ok (.iconst 0, 1) := by decide +kernel
theorem dX5_fewestThatSee_17 : decode cX5_fewestThatSee 17 = .ok (.istore_n 2, 1) := by decide +kernel
theorem dX5_fewestThatSee_18 : decode cX5_fewestThatSee 18 = .ok (.iload_n 2, 1) := by decide +kernel
theorem dX5_fewestThatSee_19 : decode cX5_fewestThatSee 19 = .ok (.bipush 16, 2) := by decide +kernel
theorem dX5_fewestThatSee_21 : decode cX5_fewestThatSee 21 = .ok (.if_icmp .ge 57, 3) := by decide +kernel
theorem dX5_fewestThatSee_24 : decode cX5_fewestThatSee 24 = .ok (.iconst 0, 1) := by decide +kernel
theorem dX5_fewestThatSee_25 : decode cX5_fewestThatSee 25 = .ok (.istore_n 3, 1) := by decide +kernel
theorem dX5_fewestThatSee_26 : decode cX5_fewestThatSee 26 = .ok (.iload_n 3, 1) := by decide +kernel
theorem dX5_fewestThatSee_27 : decode cX5_fewestThatSee 27 = .ok (.iload_n 1, 1) := by decide +kernel
theorem dX5_fewestThatSee_28 : decode cX5_fewestThatSee 28 = .ok (.if_icmp .gt 44, 3) := by decide +kernel
theorem dX5_fewestThatSee_31 : decode cX5_fewestThatSee 31 = .ok (.iload_n 3, 1) := by decide +kernel
theorem dX5_fewestThatSee_32 : decode cX5_fewestThatSee 32 = .ok (.aload_n 0, 1) := by decide +kernel
theorem dX5_fewestThatSee_33 : decode cX5_fewestThatSee 33 = .ok (.getfield 61, 3) := by decide +kernel
theorem dX5_fewestThatSee_36 : decode cX5_fewestThatSee 36 = .ok (.iload_n 2, 1) := by decide +kernel
theorem dX5_fewestThatSee_37 : decode cX5_fewestThatSee 37 = .ok (.iaload, 1) := by decide +kernel
theorem dX5_fewestThatSee_38 : decode cX5_fewestThatSee 38 = .ok (.ior, 1) := by decide +kernel
theorem dX5_fewestThatSee_39 : decode cX5_fewestThatSee 39 = .ok (.istore 4, 2) := by decide +kernel
theorem dX5_fewestThatSee_41 : decode cX5_fewestThatSee 41 = .ok (.aload_n 0, 1) := by decide +kernel
theorem dX5_fewestThatSee_42 : decode cX5_fewestThatSee 42 = .ok (.getfield 64, 3) := by decide +kernel
theorem dX5_fewestThatSee_45 : decode cX5_fewestThatSee 45 = .ok (.iload 4, 2) := by decide +kernel
theorem dX5_fewestThatSee_47 : decode cX5_fewestThatSee 47 = .ok (.aload_n 0, 1) := by decide +kernel
theorem dX5_fewestThatSee_48 : decode cX5_fewestThatSee 48 = .ok (.getfield 64, 3) := by decide +kernel
theorem dX5_fewestThatSee_51 : decode cX5_fewestThatSee 51 = .ok (.iload 4, 2) := by decide +kernel
theorem dX5_fewestThatSee_53 : decode cX5_fewestThatSee 53 = .ok (.iaload, 1) := by decide +kernel
theorem dX5_fewestThatSee_54 : decode cX5_fewestThatSee 54 = .ok (.aload_n 0, 1) := by decide +kernel
theorem dX5_fewestThatSee_55 : decode cX5_fewestThatSee 55 = .ok (.getfield 64, 3) := by decide +kernel
theorem dX5_fewestThatSee_58 : decode cX5_fewestThatSee 58 = .ok (.iload_n 3, 1) := by decide +kernel
theorem dX5_fewestThatSee_59 : decode cX5_fewestThatSee 59 = .ok (.iaload, 1) := by decide +kernel
theorem dX5_fewestThatSee_60 : decode cX5_fewestThatSee 60 = .ok (.iconst 1, 1) := by decide +kernel
theorem dX5_fewestThatSee_61 : decode cX5_fewestThatSee 61 = .ok (.iadd, 1) := by decide +kernel
theorem dX5_fewestThatSee_62 : decode cX5_fewestThatSee 62 = .ok (.invokestatic 327, 3) := by decide +kernel
theorem dX5_fewestThatSee_65 : decode cX5_fewestThatSee 65 = .ok (.iastore, 1) := by decide +kernel
theorem dX5_fewestThatSee_66 : decode cX5_fewestThatSee 66 = .ok (.iinc 3 1, 3) := by decide +kernel
theorem dX5_fewestThatSee_69 : decode cX5_fewestThatSee 69 = .ok (.goto (-43), 3) := by decide +kernel
theorem dX5_fewestThatSee_72 : decode cX5_fewestThatSee 72 = .ok (.iinc 2 1, 3) := by decide +kernel
theorem dX5_fewestThatSee_75 : decode cX5_fewestThatSee 75 = .ok (.goto (-57), 3) := by decide +kernel
theorem dX5_fewestThatSee_78 : decode cX5_fewestThatSee 78 = .ok (.aload_n 0, 1) := by decide +kernel
theorem dX5_fewestThatSee_79 : decode cX5_fewestThatSee 79 = .ok (.getfield 64, 3) := by decide +kernel
theorem dX5_fewestThatSee_82 : decode cX5_fewestThatSee 82 = .ok (.iload_n 1, 1) := by decide +kernel
theorem dX5_fewestThatSee_83 : decode cX5_fewestThatSee 83 = .ok (.iaload, 1) := by decide +kernel
theorem dX5_fewestThatSee_84 : decode cX5_fewestThatSee 84 = .ok (.ireturn, 1) := by decide +kernel
theorem dX5_fitsFrom_0 : decode cX5_fitsFrom 0 = .ok (.aload_n 0, 1) := by decide +kernel
theorem dX5_fitsFrom_1 : decode cX5_fitsFrom 1 = .ok (.getfield 19, 3) := by decide +kernel
theorem dX5_fitsFrom_4 : decode cX5_fitsFrom 4 = .ok (.aload_n 0, 1) := by decide +kernel
theorem dX5_fitsFrom_5 : decode cX5_fitsFrom 5 = .ok (.getfield 10, 3) := by decide +kernel
theorem dX5_fitsFrom_8 : decode cX5_fitsFrom 8 = .ok (.invokevirtual 98, 3) := by decide +kernel
theorem dX5_fitsFrom_11 : decode cX5_fitsFrom 11 = .ok (.aload_n 0, 1) := by decide +kernel
theorem dX5_fitsFrom_12 : decode cX5_fitsFrom 12 = .ok (.getfield 19, 3) := by decide +kernel
theorem dX5_fitsFrom_15 : decode cX5_fitsFrom 15 = .ok (.getfield 143, 3) := by decide +kernel
theorem dX5_fitsFrom_18 : decode cX5_fitsFrom 18 = .ok (.iload_n 2, 1) := by decide +kernel
theorem dX5_fitsFrom_19 : decode cX5_fitsFrom 19 = .ok (.iload_n 1, 1) := by decide +kernel
theorem dX5_fitsFrom_20 : decode cX5_fitsFrom 20 = .ok (.iastore, 1) := by decide +kernel
theorem dX5_fitsFrom_21 : decode cX5_fitsFrom 21 = .ok (.aload_n 0, 1) := by decide +kernel
theorem dX5_fitsFrom_22 : decode cX5_fitsFrom 22 = .ok (.getfield 19, 3) := by decide +kernel
theorem dX5_fitsFrom_25 : decode cX5_fitsFrom 25 = .ok (.iload_n 2, 1) := by decide +kernel
theorem dX5_fitsFrom_26 : decode cX5_fitsFrom 26 = .ok (.aload_n 3, 1) := by decide +kernel
theorem dX5_fitsFrom_27 : decode cX5_fitsFrom 27 = .ok (.getfield 264, 3) := by decide +kernel
theorem dX5_fitsFrom_30 : decode cX5_fitsFrom 30 = .ok (.aload_n 0, 1) := by decide +kernel
theorem dX5_fitsFrom_31 : decode cX5_fitsFrom 31 = .ok (.getfield 52, 3) := by decide +kernel
theorem dX5_fitsFrom_34 : decode cX5_fitsFrom 34 = .ok (.invokevirtual 203, 3) := by decide +kernel
theorem dX5_fitsFrom_37 : decode cX5_fitsFrom 37 = .ok (.iconst 0, 1) := by decide +kernel
theorem dX5_fitsFrom_38 : decode cX5_fitsFrom 38 = .ok (.istore 4, 2) := by decide +kernel
theorem dX5_fitsFrom_40 : decode cX5_fitsFrom 40 = .ok (.iload 4, 2) := by decide +kernel
theorem dX5_fitsFrom_42 : decode cX5_fitsFrom 42 = .ok (.aload_n 3, 1) := by decide +kernel
theorem dX5_fitsFrom_43 : decode cX5_fitsFrom 43 = .ok (.getfield 264, 3) := by decide +kernel
theorem dX5_fitsFrom_46 : decode cX5_fitsFrom 46 = .ok (.if_icmp .ge 41, 3) := by decide +kernel
theorem dX5_fitsFrom_49 : decode cX5_fitsFrom 49 = .ok (.aload_n 3, 1) := by decide +kernel
theorem dX5_fitsFrom_50 : decode cX5_fitsFrom 50 = .ok (.getfield 265, 3) := by decide +kernel
theorem dX5_fitsFrom_53 : decode cX5_fitsFrom 53 = .ok (.iload 4, 2) := by decide +kernel
theorem dX5_fitsFrom_55 : decode cX5_fitsFrom 55 = .ok (.iaload, 1) := by decide +kernel
theorem dX5_fitsFrom_56 : decode cX5_fitsFrom 56 = .ok (.iconst (-1), 1) := by decide +kernel
theorem dX5_fitsFrom_57 : decode cX5_fitsFrom 57 = .ok (.if_icmp .eq 24, 3) := by decide +kernel
theorem dX5_fitsFrom_60 : decode cX5_fitsFrom 60 = .ok (.aload_n 3, 1) := by decide +kernel
theorem dX5_fitsFrom_61 : decode cX5_fitsFrom 61 = .ok (.getfield 265, 3) := by decide +kernel
theorem dX5_fitsFrom_64 : decode cX5_fitsFrom 64 = .ok (.iload 4, 2) := by decide +kernel
theorem dX5_fitsFrom_66 : decode cX5_fitsFrom 66 = .ok (.iaload, 1) := by decide +kernel
theorem dX5_fitsFrom_67 : decode cX5_fitsFrom 67 = .ok (.aload_n 0, 1) := by decide +kernel
theorem dX5_fitsFrom_68 : decode cX5_fitsFrom 68 = .ok (.getfield 52, 3) := by decide +kernel
theorem dX5_fitsFrom_71 : decode cX5_fitsFrom 71 = .ok (.iload 4, 2) := by decide +kernel
theorem dX5_fitsFrom_73 : decode cX5_fitsFrom 73 = .ok (.iconst 1, 1) := by decide +kernel
theorem dX5_fitsFrom_74 : decode cX5_fitsFrom 74 = .ok (.iadd, 1) := by decide +kernel
theorem dX5_fitsFrom_75 : decode cX5_fitsFrom 75 = .ok (.iaload, 1) := by decide +kernel
theorem dX5_fitsFrom_76 : decode cX5_fitsFrom 76 = .ok (.if_icmp .eq 5, 3) := by decide +kernel
theorem dX5_fitsFrom_79 : decode cX5_fitsFrom 79 = .ok (.iconst 0, 1) := by decide +kernel
theorem dX5_fitsFrom_80 : decode cX5_fitsFrom 80 = .ok (.ireturn, 1) := by decide +kernel
theorem dX5_fitsFrom_81 : decode cX5_fitsFrom 81 = .ok (.iinc 4 1, 3) := by decide +kernel
theorem dX5_fitsFrom_84 : decode cX5_fitsFrom 84 = .ok (.goto (-44), 3) := by decide +kernel
theorem dX5_fitsFrom_87 : decode cX5_fitsFrom 87 = .ok (.iconst 1, 1) := by decide +kernel
theorem dX5_fitsFrom_88 : decode cX5_fitsFrom 88 = .ok (.ireturn, 1) := by decide +kernel
theorem dX5_isRow_0 : decode cX5_isRow 0 = .ok (.iload_n 1, 1) := by decide +kernel
theorem dX5_isRow_1 : decode cX5_isRow 1 = .ok (.iconst 0, 1) := by decide +kernel
theorem dX5_isRow_2 : decode cX5_isRow 2 = .ok (.aload_n 0, 1) := by decide +kernel
theorem dX5_isRow_3 : decode cX5_isRow 3 = .ok (.getfield 67, 3) := by decide +kernel
theorem dX5_isRow_6 : decode cX5_isRow 6 = .ok (.iconst 1, 1) := by decide +kernel
theorem dX5_isRow_7 : decode cX5_isRow 7 = .ok (.isub, 1) := by decide +kernel
theorem dX5_isRow_8 : decode cX5_isRow 8 = .ok (.invokestatic 77, 3) := by decide +kernel
theorem dX5_isRow_11 : decode cX5_isRow 11 = .ok (.ifCond .eq 16, 3) := by decide +kernel
theorem dX5_isRow_14 : decode cX5_isRow 14 = .ok (.iload_n 2, 1) := by decide +kernel
theorem dX5_isRow_15 : decode cX5_isRow 15 = .ok (.iconst 0, 1) := by decide +kernel
theorem dX5_isRow_16 : decode cX5_isRow 16 = .ok (.iconst 2, 1) := by decide +kernel
theorem dX5_isRow_17 : decode cX5_isRow 17 = .ok (.invokestatic 77, 3) := by decide +kernel
theorem dX5_isRow_20 : decode cX5_isRow 20 = .ok (.ifCond .eq 7, 3) := by decide +kernel
theorem dX5_isRow_23 : decode cX5_isRow 23 = .ok (.iconst 1, 1) := by decide +kernel
theorem dX5_isRow_24 : decode cX5_isRow 24 = .ok (.goto 4, 3) := by decide +kernel
theorem dX5_isRow_27 : decode cX5_isRow 27 = .ok (.iconst 0, 1) := by decide +kernel
theorem dX5_isRow_28 : decode cX5_isRow 28 = .ok (.ireturn, 1) := by decide +kernel
theorem dX5_sheetAt_0 : decode cX5_sheetAt 0 = .ok (.iload_n 1, 1) := by decide +kernel
theorem dX5_sheetAt_1 : decode cX5_sheetAt 1 = .ok (.iconst 0, 1) := by decide +kernel
theorem dX5_sheetAt_2 : decode cX5_sheetAt 2 = .ok (.iconst 3, 1) := by decide +kernel
theorem dX5_sheetAt_3 : decode cX5_sheetAt 3 = .ok (.invokestatic 77, 3) := by decide +kernel
theorem dX5_sheetAt_6 : decode cX5_sheetAt 6 = .ok (.ifCond .eq 12, 3) := by decide +kernel
theorem dX5_sheetAt_9 : decode cX5_sheetAt 9 = .ok (.aload_n 0, 1) := by decide +kernel
theorem dX5_sheetAt_10 : decode cX5_sheetAt 10 = .ok (.getfield 31, 3) := by decide +kernel
theorem dX5_sheetAt_13 : decode cX5_sheetAt 13 = .ok (.iload_n 1, 1) := by decide +kernel
theorem dX5_sheetAt_14 : decode cX5_sheetAt 14 = .ok (.aaload, 1) := by decide +kernel
theorem dX5_sheetAt_15 : decode cX5_sheetAt 15 = .ok (.goto 4, 3) := by decide +kernel
theorem dX5_sheetAt_18 : decode cX5_sheetAt 18 = .ok (.aconst_null, 1) := by decide +kernel
theorem dX5_sheetAt_19 : decode cX5_sheetAt 19 = .ok (.areturn, 1) := by decide +kernel
theorem dX5_shelfAt_0 : decode cX5_shelfAt 0 = .ok (.iload_n 1, 1) := by decide +kernel
theorem dX5_shelfAt_1 : decode cX5_shelfAt 1 = .ok (.iconst 0, 1) := by decide +kernel
theorem dX5_shelfAt_2 : decode cX5_shelfAt 2 = .ok (.iconst 3, 1) := by decide +kernel
theorem dX5_shelfAt_3 : decode cX5_shelfAt 3 = .ok (.invokestatic 77, 3) := by decide +kernel
theorem dX5_shelfAt_6 : decode cX5_shelfAt 6 = .ok (.ifCond .eq 12, 3) := by decide +kernel
theorem dX5_shelfAt_9 : decode cX5_shelfAt 9 = .ok (.aload_n 0, 1) := by decide +kernel
theorem dX5_shelfAt_10 : decode cX5_shelfAt 10 = .ok (.getfield 37, 3) := by decide +kernel
theorem dX5_shelfAt_13 : decode cX5_shelfAt 13 = .ok (.iload_n 1, 1) := by decide +kernel
theorem dX5_shelfAt_14 : decode cX5_shelfAt 14 = .ok (.aaload, 1) := by decide +kernel
theorem dX5_shelfAt_15 : decode cX5_shelfAt 15 = .ok (.goto 4, 3) := by decide +kernel
theorem dX5_shelfAt_18 : decode cX5_shelfAt 18 = .ok (.aconst_null, 1) := by decide +kernel
theorem dX5_shelfAt_19 : decode cX5_shelfAt 19 = .ok (.areturn, 1) := by decide +kernel
theorem dX5_holdsAir_0 : decode cX5_holdsAir 0 = .ok (.aload_n 1, 1) := by decide +kernel
theorem dX5_holdsAir_1 : decode cX5_holdsAir 1 = .ok (.getfield 293, 3) := by decide +kernel
theorem dX5_holdsAir_4 : decode cX5_holdsAir 4 = .ok (.ifCond .ne 21, 3) := by decide +kernel
theorem dX5_holdsAir_7 : decode cX5_holdsAir 7 = .ok (.aload_n 0, 1) := by decide +kernel
theorem dX5_holdsAir_8 : decode cX5_holdsAir 8 = .ok (.getfield 10, 3) := by decide +kernel
theorem dX5_holdsAir_11 : decode cX5_holdsAir 11 = .ok (.aload_n 1, 1) := by decide +kernel
theorem dX5_holdsAir_12 : decode cX5_holdsAir 12 = .ok (.getfield 302, 3) := by decide +kernel
theorem dX5_holdsAir_15 : decode cX5_holdsAir 15 = .ok (.invokevirtual 131, 3) := by decide +kernel
theorem dX5_holdsAir_18 : decode cX5_holdsAir 18 = .ok (.ifCond .eq 7, 3) := by decide +kernel
theorem dX5_holdsAir_21 : decode cX5_holdsAir 21 = .ok (.iconst 1, 1) := by decide +kernel
theorem dX5_holdsAir_22 : decode cX5_holdsAir 22 = .ok (.goto 4, 3) := by decide +kernel
theorem dX5_holdsAir_25 : decode cX5_holdsAir 25 = .ok (.iconst 0, 1) := by decide +kernel
theorem dX5_holdsAir_26 : decode cX5_holdsAir 26 = .ok (.ireturn, 1) := by decide +kernel
theorem dX5_isWithin_0 : decode cX5_isWithin 0 = .ok (.iload_n 0, 1) := by decide +kernel
theorem dX5_isWithin_1 : decode cX5_isWithin 1 = .ok (.iload_n 1, 1) := by decide +kernel
theorem dX5_isWithin_2 : decode cX5_isWithin 2 = .ok (.if_icmp .lt 12, 3) := by decide +kernel
theorem dX5_isWithin_5 : decode cX5_isWithin 5 = .ok (.iload_n 0, 1) := by decide +kernel
theorem dX5_isWithin_6 : decode cX5_isWithin 6 = .ok (.iload_n 2, 1) := by decide +kernel
theorem dX5_isWithin_7 : decode cX5_isWithin 7 = .ok (.if_icmp .gt 7, 3) := by decide +kernel
theorem dX5_isWithin_10 : decode cX5_isWithin 10 = .ok (.iconst 1, 1) := by decide +kernel
theorem dX5_isWithin_11 : decode cX5_isWithin 11 = .ok (.goto 4, 3) := by decide +kernel
theorem dX5_isWithin_14 : decode cX5_isWithin 14 = .ok (.iconst 0, 1) := by decide +kernel
theorem dX5_isWithin_15 : decode cX5_isWithin 15 = .ok (.ireturn, 1) := by decide +kernel
theorem dX5_isLaw_0 : decode cX5_isLaw 0 = .ok (.iload_n 0, 1) := by decide +kernel
theorem dX5_isLaw_1 : decode cX5_isLaw 1 = .ok (.iconst 0, 1) := by decide +kernel
theorem dX5_isLaw_2 : decode cX5_isLaw 2 = .ok (.iconst 3, 1) := by decide +kernel
theorem dX5_isLaw_3 : decode cX5_isLaw 3 = .ok (.invokestatic 77, 3) := by decide +kernel
theorem dX5_isLaw_6 : decode cX5_isLaw 6 = .ok (.ireturn, 1) := by decide +kernel
theorem dX5_isKind_0 : decode cX5_isKind 0 = .ok (.iload_n 0, 1) := by decide +kernel
theorem dX5_isKind_1 : decode cX5_isKind 1 = .ok (.iconst 0, 1) := by decide +kernel
theorem dX5_isKind_2 : decode cX5_isKind 2 = .ok (.iconst 5, 1) := by decide +kernel
theorem dX5_isKind_3 : decode cX5_isKind 3 = .ok (.invokestatic 77, 3) := by decide +kernel
theorem dX5_isKind_6 : decode cX5_isKind 6 = .ok (.ireturn, 1) := by decide +kernel
theorem dX5_isForce_0 : decode cX5_isForce 0 = .ok (.iload_n 0, 1) := by decide +kernel
theorem dX5_isForce_1 : decode cX5_isForce 1 = .ok (.iconst 0, 1) := by decide +kernel
theorem dX5_isForce_2 : decode cX5_isForce 2 = .ok (.bipush 9, 2) := by decide +kernel
theorem dX5_isForce_4 : decode cX5_isForce 4 = .ok (.invokestatic 77, 3) := by decide +kernel
theorem dX5_isForce_7 : decode cX5_isForce 7 = .ok (.ireturn, 1) := by decide +kernel
theorem dX5_isHouse_0 : decode cX5_isHouse 0 = .ok (.iload_n 0, 1) := by decide +kernel
theorem dX5_isHouse_1 : decode cX5_isHouse 1 = .ok (.iconst 0, 1) := by decide +kernel
theorem dX5_isHouse_2 : decode cX5_isHouse 2 = .ok (.bipush 15, 2) := by decide +kernel
theorem dX5_isHouse_4 : decode cX5_isHouse 4 = .ok (.invokestatic 77, 3) := by decide +kernel
theorem dX5_isHouse_7 : decode cX5_isHouse 7 = .ok (.ireturn, 1) := by decide +kernel
theorem dX5_isIn_0 : decode cX5_isIn 0 = .ok (.iload_n 0, 1) := by decide +kernel
theorem dX5_isIn_1 : decode cX5_isIn 1 = .ok (.iload_n 1, 1) := by decide +kernel
theorem dX5_isIn_2 : decode cX5_isIn 2 = .ok (.iushr, 1) := by decide +kernel
theorem dX5_isIn_3 : decode cX5_isIn 3 = .ok (.iconst 1, 1) := by decide +kernel
theorem dX5_isIn_4 : decode cX5_isIn 4 = .ok (.iand, 1) := by decide +kernel
theorem dX5_isIn_5 : decode cX5_isIn 5 = .ok (.iconst 1, 1) := by decide +kernel
theorem dX5_isIn_6 : decode cX5_isIn 6 = .ok (.if_icmp .ne 7, 3) := by decide +kernel
theorem dX5_isIn_9 : decode cX5_isIn 9 = .ok (.iconst 1, 1) := by decide +kernel
theorem dX5_isIn_10 : decode cX5_isIn 10 = .ok (.goto 4, 3) := by decide +kernel
theorem dX5_isIn_13 : decode cX5_isIn 13 = .ok (.iconst 0, 1) := by decide +kernel
theorem dX5_isIn_14 : decode cX5_isIn 14 = .ok (.ireturn, 1) := by decide +kernel
theorem dX5_held_0 : decode cX5_held 0 = .ok (.iconst 0, 1) := by decide +kernel
theorem dX5_held_1 : decode cX5_held 1 = .ok (.iload_n 1, 1) := by decide +kernel
theorem dX5_held_2 : decode cX5_held 2 = .ok (.iload_n 0, 1) := by decide +kernel
theorem dX5_held_3 : decode cX5_held 3 = .ok (.invokestatic 327, 3) := by decide +kernel
theorem dX5_held_6 : decode cX5_held 6 = .ok (.invokestatic 332, 3) := by decide +kernel
theorem dX5_held_9 : decode cX5_held 9 = .ok (.ireturn, 1) := by decide +kernel
theorem dX5_isUnder_0 : decode cX5_isUnder 0 = .ok (.iload_n 1, 1) := by decide +kernel
theorem dX5_isUnder_1 : decode cX5_isUnder 1 = .ok (.tableswitch 61 0 2 #[27, 29, 45], 27) := by decide +kernel
theorem dX5_isUnder_28 : decode cX5_isUnder 28 = .ok (.iconst 1, 1) := by decide +kernel
theorem dX5_isUnder_29 : decode cX5_isUnder 29 = .ok (.ireturn, 1) := by decide +kernel
theorem dX5_isUnder_30 : decode cX5_isUnder 30 = .ok (.iload_n 0, 1) := by decide +kernel
theorem dX5_isUnder_31 : decode cX5_isUnder 31 = .ok (.iconst 1, 1) := by decide +kernel
theorem dX5_isUnder_32 : decode cX5_isUnder 32 = .ok (.if_icmp .eq 8, 3) := by decide +kernel
theorem dX5_isUnder_35 : decode cX5_isUnder 35 = .ok (.iload_n 0, 1) := by decide +kernel
theorem dX5_isUnder_36 : decode cX5_isUnder 36 = .ok (.iconst 3, 1) := by decide +kernel
theorem dX5_isUnder_37 : decode cX5_isUnder 37 = .ok (.if_icmp .ne 7, 3) := by decide +kernel
theorem dX5_isUnder_40 : decode cX5_isUnder 40 = .ok (.iconst 1, 1) := by decide +kernel
theorem dX5_isUnder_41 : decode cX5_isUnder 41 = .ok (.goto 4, 3) := by decide +kernel
theorem dX5_isUnder_44 : decode cX5_isUnder 44 = .ok (.iconst 0, 1) := by decide +kernel
theorem dX5_isUnder_45 : decode cX5_isUnder 45 = .ok (.ireturn, 1) := by decide +kernel
theorem dX5_isUnder_46 : decode cX5_isUnder 46 = .ok (.iload_n 0, 1) := by decide +kernel
theorem dX5_isUnder_47 : decode cX5_isUnder 47 = .ok (.iconst 2, 1) := by decide +kernel
theorem dX5_isUnder_48 : decode cX5_isUnder 48 = .ok (.if_icmp .eq 8, 3) := by decide +kernel
theorem dX5_isUnder_51 : decode cX5_isUnder 51 = .ok (.iload_n 0, 1) := by decide +kernel
theorem dX5_isUnder_52 : decode cX5_isUnder 52 = .ok (.iconst 4, 1) := by decide +kernel
theorem dX5_isUnder_53 : decode cX5_isUnder 53 = .ok (.if_icmp .ne 7, 3) := by decide +kernel
theorem dX5_isUnder_56 : decode cX5_isUnder 56 = .ok (.iconst 1, 1) := by decide +kernel
theorem dX5_isUnder_57 : decode cX5_isUnder 57 = .ok (.goto 4, 3) := by decide +kernel
theorem dX5_isUnder_60 : decode cX5_isUnder 60 = .ok (.iconst 0, 1) := by decide +kernel
theorem dX5_isUnder_61 : decode cX5_isUnder 61 = .ok (.ireturn, 1) := by decide +kernel
theorem dX5_isUnder_62 : decode cX5_isUnder 62 = .ok (.iload_n 0, 1) := by decide +kernel
theorem dX5_isUnder_63 : decode cX5_isUnder 63 = .ok (.iload_n 1, 1) := by decide +kernel
theorem dX5_isUnder_64 : decode cX5_isUnder 64 = .ok (.if_icmp .ne 7, 3) := by decide +kernel
theorem dX5_isUnder_67 : decode cX5_isUnder 67 = .ok (.iconst 1, 1) := by decide +kernel
theorem dX5_isUnder_68 : decode cX5_isUnder 68 = .ok (.goto 4, 3) := by decide +kernel
theorem dX5_isUnder_71 : decode cX5_isUnder 71 = .ok (.iconst 0, 1) := by decide +kernel
theorem dX5_isUnder_72 : decode cX5_isUnder 72 = .ok (.ireturn, 1) := by decide +kernel
theorem dX5_columnOf_0 : decode cX5_columnOf 0 = .ok (.iload_n 0, 1) := by decide +kernel
theorem dX5_columnOf_1 : decode cX5_columnOf 1 = .ok (.iconst 4, 1) := by decide +kernel
theorem dX5_columnOf_2 : decode cX5_columnOf 2 = .ok (.irem, 1) := by decide +kernel
theorem dX5_columnOf_3 : decode cX5_columnOf 3 = .ok (.ireturn, 1) := by decide +kernel
theorem dX5_rowOf_0 : decode cX5_rowOf 0 = .ok (.iload_n 0, 1) := by decide +kernel
theorem dX5_rowOf_1 : decode cX5_rowOf 1 = .ok (.iconst 4, 1) := by decide +kernel
theorem dX5_rowOf_2 : decode cX5_rowOf 2 = .ok (.idiv, 1) := by decide +kernel
theorem dX5_rowOf_3 : decode cX5_rowOf 3 = .ok (.ireturn, 1) := by decide +kernel
theorem dX5_apart_0 : decode cX5_apart 0 = .ok (.iload_n 0, 1) := by decide +kernel
theorem dX5_apart_1 : decode cX5_apart 1 = .ok (.invokestatic 335, 3) := by decide +kernel
theorem dX5_apart_4 : decode cX5_apart 4 = .ok (.iload_n 1, 1) := by decide +kernel
theorem dX5_apart_5 : decode cX5_apart 5 = .ok (.invokestatic 335, 3) := by decide +kernel
theorem dX5_apart_8 : decode cX5_apart 8 = .ok (.isub, 1) := by decide +kernel
theorem dX5_apart_9 : decode cX5_apart 9 = .ok (.invokestatic 338, 3) := by decide +kernel
theorem dX5_apart_12 : decode cX5_apart 12 = .ok (.iload_n 0, 1) := by decide +kernel
theorem dX5_apart_13 : decode cX5_apart 13 = .ok (.invokestatic 341, 3) := by decide +kernel
theorem dX5_apart_16 : decode cX5_apart 16 = .ok (.iload_n 1, 1) := by decide +kernel
theorem dX5_apart_17 : decode cX5_apart 17 = .ok (.invokestatic 341, 3) := by decide +kernel
theorem dX5_apart_20 : decode cX5_apart 20 = .ok (.isub, 1) := by decide +kernel
theorem dX5_apart_21 : decode cX5_apart 21 = .ok (.invokestatic 338, 3) := by decide +kernel
theorem dX5_apart_24 : decode cX5_apart 24 = .ok (.iadd, 1) := by decide +kernel
theorem dX5_apart_25 : decode cX5_apart 25 = .ok (.ireturn, 1) := by decide +kernel
theorem dX5_nextHouse_0 : decode cX5_nextHouse 0 = .ok (.iload_n 1, 1) := by decide +kernel
theorem dX5_nextHouse_1 : decode cX5_nextHouse 1 = .ok (.tableswitch 93 0 3 #[31, 47, 63, 78], 31) := by decide +kernel
theorem dX5_nextHouse_32 : decode cX5_nextHouse 32 = .ok (.iload_n 0, 1) := by decide +kernel
theorem dX5_nextHouse_33 : decode cX5_nextHouse 33 = .ok (.invokestatic 335, 3) := by decide +kernel
theorem dX5_nextHouse_36 : decode cX5_nextHouse 36 = .ok (.iconst 3, 1) := by decide +kernel
theorem dX5_nextHouse_37 : decode cX5_nextHouse 37 = .ok (.if_icmp .ge 9, 3) := by decide +kernel
theorem dX5_nextHouse_40 : decode cX5_nextHouse 40 = .ok (.iload_n 0, 1) := by decide +kernel
theorem dX5_nextHouse_41 : decode cX5_nextHouse 41 = .ok (.iconst 1, 1) := by decide +kernel
theorem dX5_nextHouse_42 : decode cX5_nextHouse 42 = .ok (.iadd, 1) := by decide +kernel
theorem dX5_nextHouse_43 : decode cX5_nextHouse 43 = .ok (.goto 4, 3) := by decide +kernel
theorem dX5_nextHouse_46 : decode cX5_nextHouse 46 = .ok (.iload_n 0, 1) := by decide +kernel
theorem dX5_nextHouse_47 : decode cX5_nextHouse 47 = .ok (.ireturn, 1) := by decide +kernel
theorem dX5_nextHouse_48 : decode cX5_nextHouse 48 = .ok (.iload_n 0, 1) := by decide +kernel
theorem dX5_nextHouse_49 : decode cX5_nextHouse 49 = .ok (.invokestatic 341, 3) := by decide +kernel
theorem dX5_nextHouse_52 : decode cX5_nextHouse 52 = .ok (.iconst 3, 1) := by decide +kernel
theorem dX5_nextHouse_53 : decode cX5_nextHouse 53 = .ok (.if_icmp .ge 9, 3) := by decide +kernel
theorem dX5_nextHouse_56 : decode cX5_nextHouse 56 = .ok (.iload_n 0, 1) := by decide +kernel
theorem dX5_nextHouse_57 : decode cX5_nextHouse 57 = .ok (.iconst 4, 1) := by decide +kernel
theorem dX5_nextHouse_58 : decode cX5_nextHouse 58 = .ok (.iadd, 1) := by decide +kernel
theorem dX5_nextHouse_59 : decode cX5_nextHouse 59 = .ok (.goto 4, 3) := by decide +kernel
theorem dX5_nextHouse_62 : decode cX5_nextHouse 62 = .ok (.iload_n 0, 1) := by decide +kernel
theorem dX5_nextHouse_63 : decode cX5_nextHouse 63 = .ok (.ireturn, 1) := by decide +kernel
theorem dX5_nextHouse_64 : decode cX5_nextHouse 64 = .ok (.iload_n 0, 1) := by decide +kernel
theorem dX5_nextHouse_65 : decode cX5_nextHouse 65 = .ok (.invokestatic 335, 3) := by decide +kernel
theorem dX5_nextHouse_68 : decode cX5_nextHouse 68 = .ok (.ifCond .le 9, 3) := by decide +kernel
theorem dX5_nextHouse_71 : decode cX5_nextHouse 71 = .ok (.iload_n 0, 1) := by decide +kernel
theorem dX5_nextHouse_72 : decode cX5_nextHouse 72 = .ok (.iconst 1, 1) := by decide +kernel
theorem dX5_nextHouse_73 : decode cX5_nextHouse 73 = .ok (.isub, 1) := by decide +kernel
theorem dX5_nextHouse_74 : decode cX5_nextHouse 74 = .ok (.goto 4, 3) := by decide +kernel
theorem dX5_nextHouse_77 : decode cX5_nextHouse 77 = .ok (.iload_n 0, 1) := by decide +kernel
theorem dX5_nextHouse_78 : decode cX5_nextHouse 78 = .ok (.ireturn, 1) := by decide +kernel
theorem dX5_nextHouse_79 : decode cX5_nextHouse 79 = .ok (.iload_n 0, 1) := by decide +kernel
theorem dX5_nextHouse_80 : decode cX5_nextHouse 80 = .ok (.invokestatic 341, 3) := by decide +kernel
theorem dX5_nextHouse_83 : decode cX5_nextHouse 83 = .ok (.ifCond .le 9, 3) := by decide +kernel
theorem dX5_nextHouse_86 : decode cX5_nextHouse 86 = .ok (.iload_n 0, 1) := by decide +kernel
theorem dX5_nextHouse_87 : decode cX5_nextHouse 87 = .ok (.iconst 4, 1) := by decide +kernel
theorem dX5_nextHouse_88 : decode cX5_nextHouse 88 = .ok (.isub, 1) := by decide +kernel
theorem dX5_nextHouse_89 : decode cX5_nextHouse 89 = .ok (.goto 4, 3) := by decide +kernel
theorem dX5_nextHouse_92 : decode cX5_nextHouse 92 = .ok (.iload_n 0, 1) := by decide +kernel
theorem dX5_nextHouse_93 : decode cX5_nextHouse 93 = .ok (.ireturn, 1) := by decide +kernel
theorem dX5_nextHouse_94 : decode cX5_nextHouse 94 = .ok (.iload_n 0, 1) := by decide +kernel
theorem dX5_nextHouse_95 : decode cX5_nextHouse 95 = .ok (.ireturn, 1) := by decide +kernel
theorem dX5_wayTowards_0 : decode cX5_wayTowards 0 = .ok (.iload_n 0, 1) := by decide +kernel
theorem dX5_wayTowards_1 : decode cX5_wayTowards 1 = .ok (.invokestatic 335, 3) := by decide +kernel
theorem dX5_wayTowards_4 : decode cX5_wayTowards 4 = .ok (.iload_n 1, 1) := by decide +kernel
theorem dX5_wayTowards_5 : decode cX5_wayTowards 5 = .ok (.invokestatic 335, 3) := by decide +kernel
theorem dX5_wayTowards_8 : decode cX5_wayTowards 8 = .ok (.if_icmp .eq 20, 3) := by decide +kernel
theorem dX5_wayTowards_11 : decode cX5_wayTowards 11 = .ok (.iload_n 0, 1) := by decide +kernel
theorem dX5_wayTowards_12 : decode cX5_wayTowards 12 = .ok (.invokestatic 335, 3) := by decide +kernel
theorem dX5_wayTowards_15 : decode cX5_wayTowards 15 = .ok (.iload_n 1, 1) := by decide +kernel
theorem dX5_wayTowards_16 : decode cX5_wayTowards 16 = .ok (.invokestatic 335, 3) := by decide +kernel
theorem dX5_wayTowards_19 : decode cX5_wayTowards 19 = .ok (.if_icmp .ge 7, 3) := by decide +kernel
theorem dX5_wayTowards_22 : decode cX5_wayTowards 22 = .ok (.iconst 0, 1) := by decide +kernel
theorem dX5_wayTowards_23 : decode cX5_wayTowards 23 = .ok (.goto 4, 3) := by decide +kernel
theorem dX5_wayTowards_26 : decode cX5_wayTowards 26 = .ok (.iconst 2, 1) := by decide +kernel
theorem dX5_wayTowards_27 : decode cX5_wayTowards 27 = .ok (.ireturn, 1) := by decide +kernel
theorem dX5_wayTowards_28 : decode cX5_wayTowards 28 = .ok (.iload_n 0, 1) := by decide +kernel
theorem dX5_wayTowards_29 : decode cX5_wayTowards 29 = .ok (.invokestatic 341, 3) := by decide +kernel
theorem dX5_wayTowards_32 : decode cX5_wayTowards 32 = .ok (.iload_n 1, 1) := by decide +kernel
theorem dX5_wayTowards_33 : decode cX5_wayTowards 33 = .ok (.invokestatic 341, 3) := by decide +kernel
theorem dX5_wayTowards_36 : decode cX5_wayTowards 36 = .ok (.if_icmp .eq 20, 3) := by decide +kernel
theorem dX5_wayTowards_39 : decode cX5_wayTowards 39 = .ok (.iload_n 0, 1) := by decide +kernel
theorem dX5_wayTowards_40 : decode cX5_wayTowards 40 = .ok (.invokestatic 341, 3) := by decide +kernel
theorem dX5_wayTowards_43 : decode cX5_wayTowards 43 = .ok (.iload_n 1, 1) := by decide +kernel
theorem dX5_wayTowards_44 : decode cX5_wayTowards 44 = .ok (.invokestatic 341, 3) := by decide +kernel
theorem dX5_wayTowards_47 : decode cX5_wayTowards 47 = .ok (.if_icmp .ge 7, 3) := by decide +kernel
theorem dX5_wayTowards_50 : decode cX5_wayTowards 50 = .ok (.iconst 1, 1) := by decide +kernel
theorem dX5_wayTowards_51 : decode cX5_wayTowards 51 = .ok (.goto 4, 3) := by decide +kernel
theorem dX5_wayTowards_54 : decode cX5_wayTowards 54 = .ok (.iconst 3, 1) := by decide +kernel
theorem dX5_wayTowards_55 : decode cX5_wayTowards 55 = .ok (.ireturn, 1) := by decide +kernel
theorem dX5_wayTowards_56 : decode cX5_wayTowards 56 = .ok (.iconst 4, 1) := by decide +kernel
theorem dX5_wayTowards_57 : decode cX5_wayTowards 57 = .ok (.ireturn, 1) := by decide +kernel
theorem dX5_withNext_0 : decode cX5_withNext 0 = .ok (.iload_n 0, 1) := by decide +kernel
theorem dX5_withNext_1 : decode cX5_withNext 1 = .ok (.ldc_w 344, 3) := by decide +kernel
theorem dX5_withNext_4 : decode cX5_withNext 4 = .ok (.iand, 1) := by decide +kernel
theorem dX5_withNext_5 : decode cX5_withNext 5 = .ok (.iconst 1, 1) := by decide +kernel
theorem dX5_withNext_6 : decode cX5_withNext 6 = .ok (.ishl, 1) := by decide +kernel
theorem dX5_withNext_7 : decode cX5_withNext 7 = .ok (.istore_n 1, 1) := by decide +kernel
theorem dX5_withNext_8 : decode cX5_withNext 8 = .ok (.iload_n 0, 1) := by decide +kernel
theorem dX5_withNext_9 : decode cX5_withNext 9 = .ok (.sipush (-4370), 3) := by decide +kernel
theorem dX5_withNext_12 : decode cX5_withNext 12 = .ok (.iand, 1) := by decide +kernel
theorem dX5_withNext_13 : decode cX5_withNext 13 = .ok (.iconst 1, 1) := by decide +kernel
theorem dX5_withNext_14 : decode cX5_withNext 14 = .ok (.iushr, 1) := by decide +kernel
theorem dX5_withNext_15 : decode cX5_withNext 15 = .ok (.istore_n 2, 1) := by decide +kernel
theorem dX5_withNext_16 : decode cX5_withNext 16 = .ok (.iload_n 0, 1) := by decide +kernel
theorem dX5_withNext_17 : decode cX5_withNext 17 = .ok (.iload_n 1, 1) := by decide +kernel
theorem dX5_withNext_18 : decode cX5_withNext 18 = .ok (.ior, 1) := by decide +kernel
theorem dX5_withNext_19 : decode cX5_withNext 19 = .ok (.iload_n 2, 1) := by decide +kernel
theorem dX5_withNext_20 : decode cX5_withNext 20 = .ok (.ior, 1) := by decide +kernel
theorem dX5_withNext_21 : decode cX5_withNext 21 = .ok (.iload_n 0, 1) := by decide +kernel
theorem dX5_withNext_22 : decode cX5_withNext 22 = .ok (.iconst 4, 1) := by decide +kernel
theorem dX5_withNext_23 : decode cX5_withNext 23 = .ok (.ishl, 1) := by decide +kernel
theorem dX5_withNext_24 : decode cX5_withNext 24 = .ok (.ior, 1) := by decide +kernel
theorem dX5_withNext_25 : decode cX5_withNext 25 = .ok (.iload_n 0, 1) := by decide +kernel
theorem dX5_withNext_26 : decode cX5_withNext 26 = .ok (.iconst 4, 1) := by decide +kernel
theorem dX5_withNext_27 : decode cX5_withNext 27 = .ok (.iushr, 1) := by decide +kernel
theorem dX5_withNext_28 : decode cX5_withNext 28 = .ok (.ior, 1) := by decide +kernel
theorem dX5_withNext_29 : decode cX5_withNext 29 = .ok (.ldc 219, 2) := by decide +kernel
theorem dX5_withNext_31 : decode cX5_withNext 31 = .ok (.iand, 1) := by decide +kernel
theorem dX5_withNext_32 : decode cX5_withNext 32 = .ok (.ireturn, 1) := by decide +kernel
theorem dX5_choices_0 : decode cX5_choices 0 = .ok (.lconst 1, 1) := by decide +kernel
theorem dX5_choices_1 : decode cX5_choices 1 = .ok (.lstore_n 2, 1) := by decide +kernel
theorem dX5_choices_2 : decode cX5_choices 2 = .ok (.iconst 1, 1) := by decide +kernel
theorem dX5_choices_3 : decode cX5_choices 3 = .ok (.istore 4, 2) := by decide +kernel
theorem dX5_choices_5 : decode cX5_choices 5 = .ok (.iload 4, 2) := by decide +kernel
theorem dX5_choices_7 : decode cX5_choices 7 = .ok (.iload_n 1, 1) := by decide +kernel
theorem dX5_choices_8 : decode cX5_choices 8 = .ok (.if_icmp .gt 23, 3) := by decide +kernel
theorem dX5_choices_11 : decode cX5_choices 11 = .ok (.lload_n 2, 1) := by decide +kernel
theorem dX5_choices_12 : decode cX5_choices 12 = .ok (.iload_n 0, 1) := by decide +kernel
theorem dX5_choices_13 : decode cX5_choices 13 = .ok (.iload_n 1, 1) := by decide +kernel
theorem dX5_choices_14 : decode cX5_choices 14 = .ok (.isub, 1) := by decide +kernel
theorem dX5_choices_15 : decode cX5_choices 15 = .ok (.iload 4, 2) := by decide +kernel
theorem dX5_choices_17 : decode cX5_choices 17 = .ok (.iadd, 1) := by decide +kernel
theorem dX5_choices_18 : decode cX5_choices 18 = .ok (.i2l, 1) := by decide +kernel
theorem dX5_choices_19 : decode cX5_choices 19 = .ok (.lmul, 1) := by decide +kernel
theorem dX5_choices_20 : decode cX5_choices 20 = .ok (.iload 4, 2) := by decide +kernel
theorem dX5_choices_22 : decode cX5_choices 22 = .ok (.i2l, 1) := by decide +kernel
theorem dX5_choices_23 : decode cX5_choices 23 = .ok (.ldiv, 1) := by decide +kernel
theorem dX5_choices_24 : decode cX5_choices 24 = .ok (.lstore_n 2, 1) := by decide +kernel
theorem dX5_choices_25 : decode cX5_choices 25 = .ok (.iinc 4 1, 3) := by decide +kernel
theorem dX5_choices_28 : decode cX5_choices 28 = .ok (.goto (-23), 3) := by decide +kernel
theorem dX5_choices_31 : decode cX5_choices 31 = .ok (.lload_n 2, 1) := by decide +kernel
theorem dX5_choices_32 : decode cX5_choices 32 = .ok (.lreturn, 1) := by decide +kernel
theorem dX5_power_0 : decode cX5_power 0 = .ok (.lconst 1, 1) := by decide +kernel
theorem dX5_power_1 : decode cX5_power 1 = .ok (.lstore_n 3, 1) := by decide +kernel
theorem dX5_power_2 : decode cX5_power 2 = .ok (.iconst 0, 1) := by decide +kernel
theorem dX5_power_3 : decode cX5_power 3 = .ok (.istore 5, 2) := by decide +kernel
theorem dX5_power_5 : decode cX5_power 5 = .ok (.iload 5, 2) := by decide +kernel
theorem dX5_power_7 : decode cX5_power 7 = .ok (.iload_n 2, 1) := by decide +kernel
theorem dX5_power_8 : decode cX5_power 8 = .ok (.if_icmp .ge 13, 3) := by decide +kernel
theorem dX5_power_11 : decode cX5_power 11 = .ok (.lload_n 3, 1) := by decide +kernel
theorem dX5_power_12 : decode cX5_power 12 = .ok (.lload_n 0, 1) := by decide +kernel
theorem dX5_power_13 : decode cX5_power 13 = .ok (.lmul, 1) := by decide +kernel
theorem dX5_power_14 : decode cX5_power 14 = .ok (.lstore_n 3, 1) := by decide +kernel
theorem dX5_power_15 : decode cX5_power 15 = .ok (.iinc 5 1, 3) := by decide +kernel
theorem dX5_power_18 : decode cX5_power 18 = .ok (.goto (-13), 3) := by decide +kernel
theorem dX5_power_21 : decode cX5_power 21 = .ok (.lload_n 3, 1) := by decide +kernel
theorem dX5_power_22 : decode cX5_power 22 = .ok (.lreturn, 1) := by decide +kernel
theorem dX5_partOf_0 : decode cX5_partOf 0 = .ok (.lconst 1, 1) := by decide +kernel
theorem dX5_partOf_1 : decode cX5_partOf 1 = .ok (.lload_n 0, 1) := by decide +kernel
theorem dX5_partOf_2 : decode cX5_partOf 2 = .ok (.lload_n 2, 1) := by decide +kernel
theorem dX5_partOf_3 : decode cX5_partOf 3 = .ok (.invokestatic 345, 3) := by decide +kernel
theorem dX5_partOf_6 : decode cX5_partOf 6 = .ok (.invokestatic 349, 3) := by decide +kernel
theorem dX5_partOf_9 : decode cX5_partOf 9 = .ok (.lstore 5, 2) := by decide +kernel
theorem dX5_partOf_11 : decode cX5_partOf 11 = .ok (.iload 4, 2) := by decide +kernel
theorem dX5_partOf_13 : decode cX5_partOf 13 = .ok (.ifCond .ne 7, 3) := by decide +kernel
theorem dX5_partOf_16 : decode cX5_partOf 16 = .ok (.lload_n 0, 1) := by decide +kernel
theorem dX5_partOf_17 : decode cX5_partOf 17 = .ok (.goto 4, 3) := by decide +kernel
theorem dX5_partOf_20 : decode cX5_partOf 20 = .ok (.lload_n 2, 1) := by decide +kernel
theorem dX5_partOf_21 : decode cX5_partOf 21 = .ok (.lload 5, 2) := by decide +kernel
theorem dX5_partOf_23 : decode cX5_partOf 23 = .ok (.ldiv, 1) := by decide +kernel
theorem dX5_partOf_24 : decode cX5_partOf 24 = .ok (.lreturn, 1) := by decide +kernel
theorem dX5_commonDivisor_0 : decode cX5_commonDivisor 0 = .ok (.lload_n 0, 1) := by decide +kernel
theorem dX5_commonDivisor_1 : decode cX5_commonDivisor 1 = .ok (.lstore 4, 2) := by decide +kernel
theorem dX5_commonDivisor_3 : decode cX5_commonDivisor 3 = .ok (.lload_n 2, 1) := by decide +kernel
theorem dX5_commonDivisor_4 : decode cX5_commonDivisor 4 = .ok (.lstore 6, 2) := by decide +kernel
theorem dX5_commonDivisor_6 : decode cX5_commonDivisor 6 = .ok (.iconst 0, 1) := by decide +kernel
theorem dX5_commonDivisor_7 : decode cX5_commonDivisor 7 = .ok (.istore 8, 2) := by decide +kernel
theorem dX5_commonDivisor_9 : decode cX5_commonDivisor 9 = .ok (.iload 8, 2) := by decide +kernel
theorem dX5_commonDivisor_11 : decode cX5_commonDivisor 11 = .ok (.sipush 1000, 3) := by decide +kernel
theorem dX5_commonDivisor_14 : decode cX5_commonDivisor 14 = .ok (.if_icmp .ge 31, 3) := by decide +kernel
theorem dX5_commonDivisor_17 : decode cX5_commonDivisor 17 = .ok (.lload 6, 2) := by decide +kernel
theorem dX5_commonDivisor_19 : decode cX5_commonDivisor 19 = .ok (.lconst 0, 1) := by decide +kernel
theorem dX5_commonDivisor_20 : decode cX5_commonDivisor 20 = .ok (.lcmp, 1) := by decide +kernel
theorem dX5_commonDivisor_21 : decode cX5_commonDivisor 21 = .ok (.ifCond .eq 24, 3) := by decide +kernel
theorem dX5_commonDivisor_24 : decode cX5_commonDivisor 24 = .ok (.lload 4, 2) := by decide +kernel
theorem dX5_commonDivisor_26 : decode cX5_commonDivisor 26 = .ok (.lload 6, 2) := by decide +kernel
theorem dX5_commonDivisor_28 : decode cX5_commonDivisor 28 = .ok (.lrem, 1) := by decide +kernel
theorem dX5_commonDivisor_29 : decode cX5_commonDivisor 29 = .ok (.lstore 9, 2) := by decide +kernel
theorem dX5_commonDivisor_31 : decode cX5_commonDivisor 31 = .ok (.lload 6, 2) := by decide +kernel
theorem dX5_commonDivisor_33 : decode cX5_commonDivisor 33 = .ok (.lstore 4, 2) := by decide +kernel
theorem dX5_commonDivisor_35 : decode cX5_commonDivisor 35 = .ok (.lload 9, 2) := by decide +kernel
theorem dX5_commonDivisor_37 : decode cX5_commonDivisor 37 = .ok (.lstore 6, 2) := by decide +kernel
theorem dX5_commonDivisor_39 : decode cX5_commonDivisor 39 = .ok (.iinc 8 1, 3) := by decide +kernel
theorem dX5_commonDivisor_42 : decode cX5_commonDivisor 42 = .ok (.goto (-33), 3) := by decide +kernel
theorem dX5_commonDivisor_45 : decode cX5_commonDivisor 45 = .ok (.lload 4, 2) := by decide +kernel
theorem dX5_commonDivisor_47 : decode cX5_commonDivisor 47 = .ok (.lreturn, 1) := by decide +kernel
