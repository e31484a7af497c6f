theorem dX6_whereBehind_4 : decode cX6_whereBehind 4 = .ok (.aload_n 0, 1) := by decide +kernel
theorem dX6_whereBehind_5 : decode cX6_whereBehind 5 = .ok (.getfield 16, 3) := by decide +kernel
theorem dX6_whereBehind_8 : decode cX6_whereBehind 8 = .ok (.invokestatic 158, 3) := by decide +kernel
theorem dX6_whereBehind_11 : decode cX6_whereBehind 11 = .ok (.aload_n 0, 1) := by decide +kernel
theorem dX6_whereBehind_12 : decode cX6_whereBehind 12 = .ok (.iload_n 2, 1) := by decide +kernel
theorem dX6_whereBehind_13 : decode cX6_whereBehind 13 = .ok (.invokevirtual 208, 3) := by decide +kernel
theorem dX6_whereBehind_16 : decode cX6_whereBehind 16 = .ok (.aload_n 0, 1) := by decide +kernel
theorem dX6_whereBehind_17 : decode cX6_whereBehind 17 = .ok (.iload_n 1, 1) := by decide +kernel
theorem dX6_whereBehind_18 : decode cX6_whereBehind 18 = .ok (.iconst 3, 1) := by decide +kernel
theorem dX6_whereBehind_19 : decode cX6_whereBehind 19 = .ok (.invokevirtual 182, 3) := by decide +kernel
theorem dX6_whereBehind_22 : decode cX6_whereBehind 22 = .ok (.istore_n 3, 1) := by decide +kernel
theorem dX6_whereBehind_23 : decode cX6_whereBehind 23 = .ok (.aload_n 0, 1) := by decide +kernel
theorem dX6_whereBehind_24 : decode cX6_whereBehind 24 = .ok (.getfield 16, 3) := by decide +kernel
theorem dX6_whereBehind_27 : decode cX6_whereBehind 27 = .ok (.aload_n 0, 1) := by decide +kernel
theorem dX6_whereBehind_28 : decode cX6_whereBehind 28 = .ok (.getfield 7, 3) := by decide +kernel
theorem dX6_whereBehind_31 : decode cX6_whereBehind 31 = .ok (.invokestatic 158, 3) := by decide +kernel
theorem dX6_whereBehind_34 : decode cX6_whereBehind 34 = .ok (.iload_n 3, 1) := by decide +kernel
theorem dX6_whereBehind_35 : decode cX6_whereBehind 35 = .ok (.ireturn, 1) := by decide +kernel
theorem dX6_where_0 : decode cX6_where 0 = .ok (.aload_n 0, 1) := by decide +kernel
theorem dX6_where_1 : decode cX6_where 1 = .ok (.iload_n 1, 1) := by decide +kernel
theorem dX6_where_2 : decode cX6_where 2 = .ok (.invokevirtual 191, 3) := by decide +kernel
theorem dX6_where_5 : decode cX6_where 5 = .ok (.ifCond .eq 24, 3) := by decide +kernel
theorem dX6_where_8 : decode cX6_where 8 = .ok (.iload_n 2, 1) := by decide +kernel
theorem dX6_where_9 : decode cX6_where 9 = .ok (.i2l, 1) := by decide +kernel
theorem dX6_where_10 : decode cX6_where 10 = .ok (.lconst 0, 1) := by decide +kernel
theorem dX6_where_11 : decode cX6_where 11 = .ok (.ldc2_w 206, 3) := by decide +kernel
theorem dX6_where_14 : decode cX6_where 14 = .ok (.invokestatic 70, 3) := by decide +kernel
theorem dX6_where_17 : decode cX6_where 17 = .ok (.ifCond .eq 12, 3) := by decide +kernel
theorem dX6_where_20 : decode cX6_where 20 = .ok (.aload_n 0, 1) := by decide +kernel
theorem dX6_where_21 : decode cX6_where 21 = .ok (.iload_n 1, 1) := by decide +kernel
theorem dX6_where_22 : decode cX6_where 22 = .ok (.iload_n 2, 1) := by decide +kernel
theorem dX6_where_23 : decode cX6_where 23 = .ok (.invokevirtual 235, 3) := by decide +kernel
theorem dX6_where_26 : decode cX6_where 26 = .ok (.goto 4, 3) := by decide +kernel
theorem dX6_where_29 : decode cX6_where 29 = .ok (.iconst (-1), 1) := by decide +kernel
theorem dX6_where_30 : decode cX6_where 30 = .ok (.ireturn, 1) := by decide +kernel
theorem dX6_stops_0 : decode cX6_stops 0 = .ok (.aload_n 0, 1) := by decide +kernel
theorem dX6_stops_1 : decode cX6_stops 1 = .ok (.iload_n 1, 1) := by decide +kernel
theorem dX6_stops_2 : decode cX6_stops 2 = .ok (.invokevirtual 191, 3) := by decide +kernel
theorem dX6_stops_5 : decode cX6_stops 5 = .ok (.ifCond .ne 5, 3) := by decide +kernel
theorem dX6_stops_8 : decode cX6_stops 8 = .ok (.iconst (-1), 1) := by decide +kernel
theorem dX6_stops_9 : decode cX6_stops 9 = .ok (.ireturn, 1) := by decide +kernel
theorem dX6_stops_10 : decode cX6_stops 10 = .ok (.aload_n 0, 1) := by decide +kernel
theorem dX6_stops_11 : decode cX6_stops 11 = .ok (.getfield 7, 3) := by decide +kernel
theorem dX6_stops_14 : decode cX6_stops 14 = .ok (.aload_n 0, 1) := by decide +kernel
theorem dX6_stops_15 : decode cX6_stops 15 = .ok (.getfield 16, 3) := by decide +kernel
theorem dX6_stops_18 : decode cX6_stops 18 = .ok (.invokestatic 158, 3) := by decide +kernel
theorem dX6_stops_21 : decode cX6_stops 21 = .ok (.iconst 0, 1) := by decide +kernel
theorem dX6_stops_22 : decode cX6_stops 22 = .ok (.istore_n 2, 1) := by decide +kernel
theorem dX6_stops_23 : decode cX6_stops 23 = .ok (.iload_n 2, 1) := by decide +kernel
theorem dX6_stops_24 : decode cX6_stops 24 = .ok (.bipush 60, 2) := by decide +kernel
theorem dX6_stops_26 : decode cX6_stops 26 = .ok (.if_icmp .gt 28, 3) := by decide +kernel
theorem dX6_stops_29 : decode cX6_stops 29 = .ok (.aload_n 0, 1) := by decide +kernel
theorem dX6_stops_30 : decode cX6_stops 30 = .ok (.iload_n 1, 1) := by decide +kernel
theorem dX6_stops_31 : decode cX6_stops 31 = .ok (.iconst 3, 1) := by decide +kernel
theorem dX6_stops_32 : decode cX6_stops 32 = .ok (.invokevirtual 182, 3) := by decide +kernel
theorem dX6_stops_35 : decode cX6_stops 35 = .ok (.aload_n 0, 1) := by decide +kernel
theorem dX6_stops_36 : decode cX6_stops 36 = .ok (.iload_n 1, 1) := by decide +kernel
theorem dX6_stops_37 : decode cX6_stops 37 = .ok (.iconst 2, 1) := by decide +kernel
theorem dX6_stops_38 : decode cX6_stops 38 = .ok (.invokevirtual 182, 3) := by decide +kernel
theorem dX6_stops_41 : decode cX6_stops 41 = .ok (.if_icmp .eq 13, 3) := by decide +kernel
theorem dX6_stops_44 : decode cX6_stops 44 = .ok (.aload_n 0, 1) := by decide +kernel
theorem dX6_stops_45 : decode cX6_stops 45 = .ok (.invokevirtual 203, 3) := by decide +kernel
theorem dX6_stops_48 : decode cX6_stops 48 = .ok (.iinc 2 1, 3) := by decide +kernel
theorem dX6_stops_51 : decode cX6_stops 51 = .ok (.goto (-28), 3) := by decide +kernel
theorem dX6_stops_54 : decode cX6_stops 54 = .ok (.aload_n 0, 1) := by decide +kernel
theorem dX6_stops_55 : decode cX6_stops 55 = .ok (.getfield 16, 3) := by decide +kernel
theorem dX6_stops_58 : decode cX6_stops 58 = .ok (.aload_n 0, 1) := by decide +kernel
theorem dX6_stops_59 : decode cX6_stops 59 = .ok (.getfield 7, 3) := by decide +kernel
theorem dX6_stops_62 : decode cX6_stops 62 = .ok (.invokestatic 158, 3) := by decide +kernel
theorem dX6_stops_65 : decode cX6_stops 65 = .ok (.iload_n 2, 1) := by decide +kernel
theorem dX6_stops_66 : decode cX6_stops 66 = .ok (.bipush 60, 2) := by decide +kernel
theorem dX6_stops_68 : decode cX6_stops 68 = .ok (.if_icmp .gt 7, 3) := by decide +kernel
theorem dX6_stops_71 : decode cX6_stops 71 = .ok (.iload_n 2, 1) := by decide +kernel
theorem dX6_stops_72 : decode cX6_stops 72 = .ok (.goto 5, 3) := by decide +kernel
theorem dX6_stops_75 : decode cX6_stops 75 = .ok (.bipush (-3), 2) := by decide +kernel
theorem dX6_stops_77 : decode cX6_stops 77 = .ok (.ireturn, 1) := by decide +kernel
theorem dX6_meets_0 : decode cX6_meets 0 = .ok (.aload_n 0, 1) := by decide +kernel
theorem dX6_meets_1 : decode cX6_meets 1 = .ok (.iload_n 1, 1) := by decide +kernel
theorem dX6_meets_2 : decode cX6_meets 2 = .ok (.invokevirtual 191, 3) := by decide +kernel
theorem dX6_meets_5 : decode cX6_meets 5 = .ok (.ifCond .eq 16, 3) := by decide +kernel
theorem dX6_meets_8 : decode cX6_meets 8 = .ok (.aload_n 0, 1) := by decide +kernel
theorem dX6_meets_9 : decode cX6_meets 9 = .ok (.iload_n 2, 1) := by decide +kernel
theorem dX6_meets_10 : decode cX6_meets 10 = .ok (.invokevirtual 191, 3) := by decide +kernel
theorem dX6_meets_13 : decode cX6_meets 13 = .ok (.ifCond .eq 8, 3) := by decide +kernel
theorem dX6_meets_16 : decode cX6_meets 16 = .ok (.iload_n 1, 1) := by decide +kernel
theorem dX6_meets_17 : decode cX6_meets 17 = .ok (.iload_n 2, 1) := by decide +kernel
theorem dX6_meets_18 : decode cX6_meets 18 = .ok (.if_icmp .ne 5, 3) := by decide +kernel
theorem dX6_meets_21 : decode cX6_meets 21 = .ok (.iconst (-1), 1) := by decide +kernel
theorem dX6_meets_22 : decode cX6_meets 22 = .ok (.ireturn, 1) := by decide +kernel
theorem dX6_meets_23 : decode cX6_meets 23 = .ok (.aload_n 0, 1) := by decide +kernel
theorem dX6_meets_24 : decode cX6_meets 24 = .ok (.getfield 7, 3) := by decide +kernel
theorem dX6_meets_27 : decode cX6_meets 27 = .ok (.aload_n 0, 1) := by decide +kernel
theorem dX6_meets_28 : decode cX6_meets 28 = .ok (.getfield 16, 3) := by decide +kernel
theorem dX6_meets_31 : decode cX6_meets 31 = .ok (.invokestatic 158, 3) := by decide +kernel
theorem dX6_meets_34 : decode cX6_meets 34 = .ok (.iconst 0, 1) := by decide +kernel
theorem dX6_meets_35 : decode cX6_meets 35 = .ok (.istore_n 3, 1) := by decide +kernel
theorem dX6_meets_36 : decode cX6_meets 36 = .ok (.iload_n 3, 1) := by decide +kernel
theorem dX6_meets_37 : decode cX6_meets 37 = .ok (.bipush 60, 2) := by decide +kernel
theorem dX6_meets_39 : decode cX6_meets 39 = .ok (.if_icmp .gt 28, 3) := by decide +kernel
theorem dX6_meets_42 : decode cX6_meets 42 = .ok (.aload_n 0, 1) := by decide +kernel
theorem dX6_meets_43 : decode cX6_meets 43 = .ok (.iload_n 1, 1) := by decide +kernel
theorem dX6_meets_44 : decode cX6_meets 44 = .ok (.iconst 3, 1) := by decide +kernel
theorem dX6_meets_45 : decode cX6_meets 45 = .ok (.invokevirtual 182, 3) := by decide +kernel
theorem dX6_meets_48 : decode cX6_meets 48 = .ok (.aload_n 0, 1) := by decide +kernel
theorem dX6_meets_49 : decode cX6_meets 49 = .ok (.iload_n 2, 1) := by decide +kernel
theorem dX6_meets_50 : decode cX6_meets 50 = .ok (.iconst 3, 1) := by decide +kernel
theorem dX6_meets_51 : decode cX6_meets 51 = .ok (.invokevirtual 182, 3) := by decide +kernel
theorem dX6_meets_54 : decode cX6_meets 54 = .ok (.if_icmp .eq 13, 3) := by decide +kernel
theorem dX6_meets_57 : decode cX6_meets 57 = .ok (.aload_n 0, 1) := by decide +kernel
theorem dX6_meets_58 : decode cX6_meets 58 = .ok (.invokevirtual 203, 3) := by decide +kernel
theorem dX6_meets_61 : decode cX6_meets 61 = .ok (.iinc 3 1, 3) := by decide +kernel
theorem dX6_meets_64 : decode cX6_meets 64 = .ok (.goto (-28), 3) := by decide +kernel
theorem dX6_meets_67 : decode cX6_meets 67 = .ok (.aload_n 0, 1) := by decide +kernel
theorem dX6_meets_68 : decode cX6_meets 68 = .ok (.getfield 16, 3) := by decide +kernel
theorem dX6_meets_71 : decode cX6_meets 71 = .ok (.aload_n 0, 1) := by decide +kernel
theorem dX6_meets_72 : decode cX6_meets 72 = .ok (.getfield 7, 3) := by decide +kernel
theorem dX6_meets_75 : decode cX6_meets 75 = .ok (.invokestatic 158, 3) := by decide +kernel
theorem dX6_meets_78 : decode cX6_meets 78 = .ok (.iload_n 3, 1) := by decide +kernel
theorem dX6_meets_79 : decode cX6_meets 79 = .ok (.bipush 60, 2) := by decide +kernel
theorem dX6_meets_81 : decode cX6_meets 81 = .ok (.if_icmp .gt 7, 3) := by decide +kernel
theorem dX6_meets_84 : decode cX6_meets 84 = .ok (.iload_n 3, 1) := by decide +kernel
theorem dX6_meets_85 : decode cX6_meets 85 = .ok (.goto 5, 3) := by decide +kernel
theorem dX6_meets_88 : decode cX6_meets 88 = .ok (.bipush (-3), 2) := by decide +kernel
theorem dX6_meets_90 : decode cX6_meets 90 = .ok (.ireturn, 1) := by decide +kernel
theorem dX6_told_0 : decode cX6_told 0 = .ok (.aload_n 0, 1) := by decide +kernel
theorem dX6_told_1 : decode cX6_told 1 = .ok (.iload_n 1, 1) := by decide +kernel
theorem dX6_told_2 : decode cX6_told 2 = .ok (.invokevirtual 191, 3) := by decide +kernel
theorem dX6_told_5 : decode cX6_told 5 = .ok (.ifCond .ne 5, 3) := by decide +kernel
theorem dX6_told_8 : decode cX6_told 8 = .ok (.iconst (-1), 1) := by decide +kernel
theorem dX6_told_9 : decode cX6_told 9 = .ok (.ireturn, 1) := by decide +kernel
theorem dX6_told_10 : decode cX6_told 10 = .ok (.aload_n 0, 1) := by decide +kernel
theorem dX6_told_11 : decode cX6_told 11 = .ok (.getfield 7, 3) := by decide +kernel
theorem dX6_told_14 : decode cX6_told 14 = .ok (.aload_n 0, 1) := by decide +kernel
theorem dX6_told_15 : decode cX6_told 15 = .ok (.getfield 16, 3) := by decide +kernel
theorem dX6_told_18 : decode cX6_told 18 = .ok (.invokestatic 158, 3) := by decide +kernel
theorem dX6_told_21 : decode cX6_told 21 = .ok (.aload_n 0, 1) := by decide +kernel
theorem dX6_told_22 : decode cX6_told 22 = .ok (.getfield 7, 3) := by decide +kernel
theorem dX6_told_25 : decode cX6_told 25 = .ok (.bipush 24, 2) := by decide +kernel
theorem dX6_told_27 : decode cX6_told 27 = .ok (.iconst 4, 1) := by decide +kernel
theorem dX6_told_28 : decode cX6_told 28 = .ok (.iload_n 1, 1) := by decide +kernel
theorem dX6_told_29 : decode cX6_told 29 = .ok (.imul, 1) := by decide +kernel
theorem dX6_told_30 : decode cX6_told 30 = .ok (.iadd, 1) := by decide +kernel
theorem dX6_told_31 : decode cX6_told 31 = .ok (.iconst 0, 1) := by decide +kernel
theorem dX6_told_32 : decode cX6_told 32 = .ok (.iastore, 1) := by decide +kernel
theorem dX6_told_33 : decode cX6_told 33 = .ok (.iconst 0, 1) := by decide +kernel
theorem dX6_told_34 : decode cX6_told 34 = .ok (.istore_n 2, 1) := by decide +kernel
theorem dX6_told_35 : decode cX6_told 35 = .ok (.iload_n 2, 1) := by decide +kernel
theorem dX6_told_36 : decode cX6_told 36 = .ok (.bipush 60, 2) := by decide +kernel
theorem dX6_told_38 : decode cX6_told 38 = .ok (.if_icmp .gt 25, 3) := by decide +kernel
theorem dX6_told_41 : decode cX6_told 41 = .ok (.aload_n 0, 1) := by decide +kernel
theorem dX6_told_42 : decode cX6_told 42 = .ok (.getfield 28, 3) := by decide +kernel
theorem dX6_told_45 : decode cX6_told 45 = .ok (.iload_n 2, 1) := by decide +kernel
theorem dX6_told_46 : decode cX6_told 46 = .ok (.aload_n 0, 1) := by decide +kernel
theorem dX6_told_47 : decode cX6_told 47 = .ok (.iload_n 1, 1) := by decide +kernel
theorem dX6_told_48 : decode cX6_told 48 = .ok (.iconst 3, 1) := by decide +kernel
theorem dX6_told_49 : decode cX6_told 49 = .ok (.invokevirtual 182, 3) := by decide +kernel
theorem dX6_told_52 : decode cX6_told 52 = .ok (.iastore, 1) := by decide +kernel
theorem dX6_told_53 : decode cX6_told 53 = .ok (.aload_n 0, 1) := by decide +kernel
theorem dX6_told_54 : decode cX6_told 54 = .ok (.invokevirtual 203, 3) := by decide +kernel
theorem dX6_told_57 : decode cX6_told 57 = .ok (.iinc 2 1, 3) := by decide +kernel
theorem dX6_told_60 : decode cX6_told 60 = .ok (.goto (-25), 3) := by decide +kernel
theorem dX6_told_63 : decode cX6_told 63 = .ok (.aload_n 0, 1) := by decide +kernel
theorem dX6_told_64 : decode cX6_told 64 = .ok (.getfield 16, 3) := by decide +kernel
theorem dX6_told_67 : decode cX6_told 67 = .ok (.aload_n 0, 1) := by decide +kernel
theorem dX6_told_68 : decode cX6_told 68 = .ok (.getfield 7, 3) := by decide +kernel
theorem dX6_told_71 : decode cX6_told 71 = .ok (.invokestatic 158, 3) := by decide +kernel
theorem dX6_told_74 : decode cX6_told 74 = .ok (.iconst 0, 1) := by decide +kernel
theorem dX6_told_75 : decode cX6_told 75 = .ok (.istore_n 2, 1) := by decide +kernel
theorem dX6_told_76 : decode cX6_told 76 = .ok (.iload_n 2, 1) := by decide +kernel
theorem dX6_told_77 : decode cX6_told 77 = .ok (.bipush 60, 2) := by decide +kernel
theorem dX6_told_79 : decode cX6_told 79 = .ok (.if_icmp .gt 28, 3) := by decide +kernel
theorem dX6_told_82 : decode cX6_told 82 = .ok (.aload_n 0, 1) := by decide +kernel
theorem dX6_told_83 : decode cX6_told 83 = .ok (.iload_n 1, 1) := by decide +kernel
theorem dX6_told_84 : decode cX6_told 84 = .ok (.iconst 3, 1) := by decide +kernel
theorem dX6_told_85 : decode cX6_told 85 = .ok (.invokevirtual 182, 3) := by decide +kernel
theorem dX6_told_88 : decode cX6_told 88 = .ok (.aload_n 0, 1) := by decide +kernel
theorem dX6_told_89 : decode cX6_told 89 = .ok (.getfield 28, 3) := by decide +kernel
theorem dX6_told_92 : decode cX6_told 92 = .ok (.iload_n 2, 1) := by decide +kernel
theorem dX6_told_93 : decode cX6_told 93 = .ok (.iaload, 1) := by decide +kernel
theorem dX6_told_94 : decode cX6_told 94 = .ok (.if_icmp .ne 13, 3) := by decide +kernel
theorem dX6_told_97 : decode cX6_told 97 = .ok (.aload_n 0, 1) := by decide +kernel
theorem dX6_told_98 : decode cX6_told 98 = .ok (.invokevirtual 203, 3) := by decide +kernel
theorem dX6_told_101 : decode cX6_told 101 = .ok (.iinc 2 1, 3) := by decide +kernel
theorem dX6_told_104 : decode cX6_told 104 = .ok (.goto (-28), 3) := by decide +kernel
theorem dX6_told_107 : decode cX6_told 107 = .ok (.aload_n 0, 1) := by decide +kernel
theorem dX6_told_108 : decode cX6_told 108 = .ok (.getfield 16, 3) := by decide +kernel
theorem dX6_told_111 : decode cX6_told 111 = .ok (.aload_n 0, 1) := by decide +kernel
theorem dX6_told_112 : decode cX6_told 112 = .ok (.getfield 7, 3) := by decide +kernel
theorem dX6_told_115 : decode cX6_told 115 = .ok (.invokestatic 158, 3) := by decide +kernel
theorem dX6_told_118 : decode cX6_told 118 = .ok (.iload_n 2, 1) := by decide +kernel
theorem dX6_told_119 : decode cX6_told 119 = .ok (.bipush 60, 2) := by decide +kernel
theorem dX6_told_121 : decode cX6_told 121 = .ok (.if_icmp .gt 7, 3) := by decide +kernel
theorem dX6_told_124 : decode cX6_told 124 = .ok (.iload_n 2, 1) := by decide +kernel
theorem dX6_told_125 : decode cX6_told 125 = .ok (.goto 5, 3) := by decide +kernel
theorem dX6_told_128 : decode cX6_told 128 = .ok (.bipush (-3), 2) := by decide +kernel
theorem dX6_told_130 : decode cX6_told 130 = .ok (.ireturn, 1) := by decide +kernel
theorem dX6_offNow_0 : decode cX6_offNow 0 = .ok (.aload_n 0, 1) := by decide +kernel
theorem dX6_offNow_1 : decode cX6_offNow 1 = .ok (.iload_n 1, 1) := by decide +kernel
theorem dX6_offNow_2 : decode cX6_offNow 2 = .ok (.iconst 3, 1) := by decide +kernel
theorem dX6_offNow_3 : decode cX6_offNow 3 = .ok (.invokevirtual 182, 3) := by decide +kernel
theorem dX6_offNow_6 : decode cX6_offNow 6 = .ok (.istore_n 2, 1) := by decide +kernel
theorem dX6_offNow_7 : decode cX6_offNow 7 = .ok (.aload_n 0, 1) := by decide +kernel
theorem dX6_offNow_8 : decode cX6_offNow 8 = .ok (.iload_n 1, 1) := by decide +kernel
theorem dX6_offNow_9 : decode cX6_offNow 9 = .ok (.iconst 2, 1) := by decide +kernel
theorem dX6_offNow_10 : decode cX6_offNow 10 = .ok (.invokevirtual 182, 3) := by decide +kernel
theorem dX6_offNow_13 : decode cX6_offNow 13 = .ok (.istore_n 3, 1) := by decide +kernel
theorem dX6_offNow_14 : decode cX6_offNow 14 = .ok (.iload_n 2, 1) := by decide +kernel
theorem dX6_offNow_15 : decode cX6_offNow 15 = .ok (.iconst 4, 1) := by decide +kernel
theorem dX6_offNow_16 : decode cX6_offNow 16 = .ok (.irem, 1) := by decide +kernel
theorem dX6_offNow_17 : decode cX6_offNow 17 = .ok (.iload_n 3, 1) := by decide +kernel
theorem dX6_offNow_18 : decode cX6_offNow 18 = .ok (.iconst 4, 1) := by decide +kernel
theorem dX6_offNow_19 : decode cX6_offNow 19 = .ok (.irem, 1) := by decide +kernel
theorem dX6_offNow_20 : decode cX6_offNow 20 = .ok (.invokestatic 238, 3) := by decide +kernel
theorem dX6_offNow_23 : decode cX6_offNow 23 = .ok (.iload_n 2, 1) := by decide +kernel
theorem dX6_offNow_24 : decode cX6_offNow 24 = .ok (.iconst 4, 1) := by decide +kernel
theorem dX6_offNow_25 : decode cX6_offNow 25 = .ok (.idiv, 1) := by decide +kernel
theorem dX6_offNow_26 : decode cX6_offNow 26 = .ok (.iload_n 3, 1) := by decide +kernel
theorem dX6_offNow_27 : decode cX6_offNow 27 = .ok (.iconst 4, 1) := by decide +kernel
theorem dX6_offNow_28 : decode cX6_offNow 28 = .ok (.idiv, 1) := by decide +kernel
theorem dX6_offNow_29 : decode cX6_offNow 29 = .ok (.invokestatic 238, 3) := by decide +kernel
theorem dX6_offNow_32 : decode cX6_offNow 32 = .ok (.iadd, 1) := by decide +kernel
theorem dX6_offNow_33 : decode cX6_offNow 33 = .ok (.ireturn, 1) := by decide +kernel
theorem dX6_offBehind_0 : decode cX6_offBehind 0 = .ok (.aload_n 0, 1) := by decide +kernel
theorem dX6_offBehind_1 : decode cX6_offBehind 1 = .ok (.getfield 7, 3) := by decide +kernel
theorem dX6_offBehind_4 : decode cX6_offBehind 4 = .ok (.aload_n 0, 1) := by decide +kernel
theorem dX6_offBehind_5 : decode cX6_offBehind 5 = .ok (.getfield 16, 3) := by decide +kernel
theorem dX6_offBehind_8 : decode cX6_offBehind 8 = .ok (.invokestatic 158, 3) := by decide +kernel
theorem dX6_offBehind_11 : decode cX6_offBehind 11 = .ok (.aload_n 0, 1) := by decide +kernel
theorem dX6_offBehind_12 : decode cX6_offBehind 12 = .ok (.iload_n 2, 1) := by decide +kernel
theorem dX6_offBehind_13 : decode cX6_offBehind 13 = .ok (.invokevirtual 208, 3) := by decide +kernel
theorem dX6_offBehind_16 : decode cX6_offBehind 16 = .ok (.aload_n 0, 1) := by decide +kernel
theorem dX6_offBehind_17 : decode cX6_offBehind 17 = .ok (.iload_n 1, 1) := by decide +kernel
theorem dX6_offBehind_18 : decode cX6_offBehind 18 = .ok (.invokevirtual 241, 3) := by decide +kernel
theorem dX6_offBehind_21 : decode cX6_offBehind 21 = .ok (.istore_n 3, 1) := by decide +kernel
theorem dX6_offBehind_22 : decode cX6_offBehind 22 = .ok (.aload_n 0, 1) := by decide +kernel
theorem dX6_offBehind_23 : decode cX6_offBehind 23 = .ok (.getfield 16, 3) := by decide +kernel
theorem dX6_offBehind_26 : decode cX6_offBehind 26 = .ok (.aload_n 0, 1) := by decide +kernel
theorem dX6_offBehind_27 : decode cX6_offBehind 27 = .ok (.getfield 7, 3) := by decide +kernel
theorem dX6_offBehind_30 : decode cX6_offBehind 30 = .ok (.invokestatic 158, 3) := by decide +kernel
theorem dX6_offBehind_33 : decode cX6_offBehind 33 = .ok (.iload_n 3, 1) := by decide +kernel
theorem dX6_offBehind_34 : decode cX6_offBehind 34 = .ok (.ireturn, 1) := by decide +kernel
theorem dX6_off_0 : decode cX6_off 0 = .ok (.aload_n 0, 1) := by decide +kernel
theorem dX6_off_1 : decode cX6_off 1 = .ok (.iload_n 1, 1) := by decide +kernel
theorem dX6_off_2 : decode cX6_off 2 = .ok (.invokevirtual 191, 3) := by decide +kernel
theorem dX6_off_5 : decode cX6_off 5 = .ok (.ifCond .eq 24, 3) := by decide +kernel
theorem dX6_off_8 : decode cX6_off 8 = .ok (.iload_n 2, 1) := by decide +kernel
theorem dX6_off_9 : decode cX6_off 9 = .ok (.i2l, 1) := by decide +kernel
theorem dX6_off_10 : decode cX6_off 10 = .ok (.lconst 0, 1) := by decide +kernel
theorem dX6_off_11 : decode cX6_off 11 = .ok (.ldc2_w 206, 3) := by decide +kernel
theorem dX6_off_14 : decode cX6_off 14 = .ok (.invokestatic 70, 3) := by decide +kernel
theorem dX6_off_17 : decode cX6_off 17 = .ok (.ifCond .eq 12, 3) := by decide +kernel
theorem dX6_off_20 : decode cX6_off 20 = .ok (.aload_n 0, 1) := by decide +kernel
theorem dX6_off_21 : decode cX6_off 21 = .ok (.iload_n 1, 1) := by decide +kernel
theorem dX6_off_22 : decode cX6_off 22 = .ok (.iload_n 2, 1) := by decide +kernel
theorem dX6_off_23 : decode cX6_off 23 = .ok (.invokevirtual 244, 3) := by decide +kernel
theorem dX6_off_26 : decode cX6_off 26 = .ok (.goto 4, 3) := by decide +kernel
theorem dX6_off_29 : decode cX6_off 29 = .ok (.iconst (-1), 1) := by decide +kernel
theorem dX6_off_30 : decode cX6_off 30 = .ok (.ireturn, 1) := by decide +kernel
theorem dX6_isShort_0 : decode cX6_isShort 0 = .ok (.iload_n 0, 1) := by decide +kernel
theorem dX6_isShort_1 : decode cX6_isShort 1 = .ok (.i2l, 1) := by decide +kernel
theorem dX6_isShort_2 : decode cX6_isShort 2 = .ok (.lconst 1, 1) := by decide +kernel
theorem dX6_isShort_3 : decode cX6_isShort 3 = .ok (.ldc2_w 221, 3) := by decide +kernel
theorem dX6_isShort_6 : decode cX6_isShort 6 = .ok (.invokestatic 70, 3) := by decide +kernel
theorem dX6_isShort_9 : decode cX6_isShort 9 = .ok (.ireturn, 1) := by decide +kernel
theorem dX6_nearestBy_0 : decode cX6_nearestBy 0 = .ok (.aload_n 0, 1) := by decide +kernel
theorem dX6_nearestBy_1 : decode cX6_nearestBy 1 = .ok (.getfield 7, 3) := by decide +kernel
theorem dX6_nearestBy_4 : decode cX6_nearestBy 4 = .ok (.iload_n 2, 1) := by decide +kernel
theorem dX6_nearestBy_5 : decode cX6_nearestBy 5 = .ok (.iaload, 1) := by decide +kernel
theorem dX6_nearestBy_6 : decode cX6_nearestBy 6 = .ok (.istore 5, 2) := by decide +kernel
theorem dX6_nearestBy_8 : decode cX6_nearestBy 8 = .ok (.iconst 0, 1) := by decide +kernel
theorem dX6_nearestBy_9 : decode cX6_nearestBy 9 = .ok (.istore 6, 2) := by decide +kernel
theorem dX6_nearestBy_11 : decode cX6_nearestBy 11 = .ok (.sipush 1000, 3) := by decide +kernel
theorem dX6_nearestBy_14 : decode cX6_nearestBy 14 = .ok (.istore 7, 2) := by decide +kernel
theorem dX6_nearestBy_16 : decode cX6_nearestBy 16 = .ok (.iconst 0, 1) := by decide +kernel
theorem dX6_nearestBy_17 : decode cX6_nearestBy 17 = .ok (.istore 8, 2) := by decide +kernel
theorem dX6_nearestBy_19 : decode cX6_nearestBy 19 = .ok (.iload 8, 2) := by decide +kernel
theorem dX6_nearestBy_21 : decode cX6_nearestBy 21 = .ok (.iload_n 3, 1) := by decide +kernel
theorem dX6_nearestBy_22 : decode cX6_nearestBy 22 = .ok (.if_icmp .gt 51, 3) := by decide +kernel
theorem dX6_nearestBy_25 : decode cX6_nearestBy 25 = .ok (.aload_n 0, 1) := by decide +kernel
theorem dX6_nearestBy_26 : decode cX6_nearestBy 26 = .ok (.getfield 7, 3) := by decide +kernel
theorem dX6_nearestBy_29 : decode cX6_nearestBy 29 = .ok (.iload_n 2, 1) := by decide +kernel
theorem dX6_nearestBy_30 : decode cX6_nearestBy 30 = .ok (.iload 8, 2) := by decide +kernel
theorem dX6_nearestBy_32 : decode cX6_nearestBy 32 = .ok (.iastore, 1) := by decide +kernel
theorem dX6_nearestBy_33 : decode cX6_nearestBy 33 = .ok (.aload_n 0, 1) := by decide +kernel
theorem dX6_nearestBy_34 : decode cX6_nearestBy 34 = .ok (.iload_n 1, 1) := by decide +kernel
theorem dX6_nearestBy_35 : decode cX6_nearestBy 35 = .ok (.iload 4, 2) := by decide +kernel
theorem dX6_nearestBy_37 : decode cX6_nearestBy 37 = .ok (.invokevirtual 244, 3) := by decide +kernel
theorem dX6_nearestBy_40 : decode cX6_nearestBy 40 = .ok (.istore 9, 2) := by decide +kernel
theorem dX6_nearestBy_42 : decode cX6_nearestBy 42 = .ok (.iload 9, 2) := by decide +kernel
theorem dX6_nearestBy_44 : decode cX6_nearestBy 44 = .ok (.iload 7, 2) := by decide +kernel
theorem dX6_nearestBy_46 : decode cX6_nearestBy 46 = .ok (.if_icmp .ge 8, 3) := by decide +kernel
theorem dX6_nearestBy_49 : decode cX6_nearestBy 49 = .ok (.iload 8, 2) := by decide +kernel
theorem dX6_nearestBy_51 : decode cX6_nearestBy 51 = .ok (.goto 5, 3) := by decide +kernel
theorem dX6_nearestBy_54 : decode cX6_nearestBy 54 = .ok (.iload 6, 2) := by decide +kernel
theorem dX6_nearestBy_56 : decode cX6_nearestBy 56 = .ok (.istore 6, 2) := by decide +kernel
theorem dX6_nearestBy_58 : decode cX6_nearestBy 58 = .ok (.iload 7, 2) := by decide +kernel
theorem dX6_nearestBy_60 : decode cX6_nearestBy 60 = .ok (.iload 9, 2) := by decide +kernel
theorem dX6_nearestBy_62 : decode cX6_nearestBy 62 = .ok (.invokestatic 247, 3) := by decide +kernel
theorem dX6_nearestBy_65 : decode cX6_nearestBy 65 = .ok (.istore 7, 2) := by decide +kernel
theorem dX6_nearestBy_67 : decode cX6_nearestBy 67 = .ok (.iinc 8 1, 3) := by decide +kernel
theorem dX6_nearestBy_70 : decode cX6_nearestBy 70 = .ok (.goto (-51), 3) := by decide +kernel
theorem dX6_nearestBy_73 : decode cX6_nearestBy 73 = .ok (.aload_n 0, 1) := by decide +kernel
theorem dX6_nearestBy_74 : decode cX6_nearestBy 74 = .ok (.getfield 7, 3) := by decide +kernel
theorem dX6_nearestBy_77 : decode cX6_nearestBy 77 = .ok (.iload_n 2, 1) := by decide +kernel
theorem dX6_nearestBy_78 : decode cX6_nearestBy 78 = .ok (.iload 5, 2) := by decide +kernel
theorem dX6_nearestBy_80 : decode cX6_nearestBy 80 = .ok (.iastore, 1) := by decide +kernel
theorem dX6_nearestBy_81 : decode cX6_nearestBy 81 = .ok (.iload 6, 2) := by decide +kernel
theorem dX6_nearestBy_83 : decode cX6_nearestBy 83 = .ok (.ireturn, 1) := by decide +kernel
theorem dX6_windFor_0 : decode cX6_windFor 0 = .ok (.aload_n 0, 1) := by decide +kernel
theorem dX6_windFor_1 : decode cX6_windFor 1 = .ok (.iload_n 1, 1) := by decide +kernel
theorem dX6_windFor_2 : decode cX6_windFor 2 = .ok (.invokevirtual 191, 3) := by decide +kernel
theorem dX6_windFor_5 : decode cX6_windFor 5 = .ok (.ifCond .eq 21, 3) := by decide +kernel
theorem dX6_windFor_8 : decode cX6_windFor 8 = .ok (.iload_n 2, 1) := by decide +kernel
theorem dX6_windFor_9 : decode cX6_windFor 9 = .ok (.invokestatic 250, 3) := by decide +kernel
theorem dX6_windFor_12 : decode cX6_windFor 12 = .ok (.ifCond .eq 14, 3) := by decide +kernel
theorem dX6_windFor_15 : decode cX6_windFor 15 = .ok (.aload_n 0, 1) := by decide +kernel
theorem dX6_windFor_16 : decode cX6_windFor 16 = .ok (.iload_n 1, 1) := by decide +kernel
theorem dX6_windFor_17 : decode cX6_windFor 17 = .ok (.iconst 3, 1) := by decide +kernel
theorem dX6_windFor_18 : decode cX6_windFor 18 = .ok (.iconst 3, 1) := by decide +kernel
theorem dX6_windFor_19 : decode cX6_windFor 19 = .ok (.iload_n 2, 1) := by decide +kernel
theorem dX6_windFor_20 : decode cX6_windFor 20 = .ok (.invokevirtual 253, 3) := by decide +kernel
theorem dX6_windFor_23 : decode cX6_windFor 23 = .ok (.goto 4, 3) := by decide +kernel
theorem dX6_windFor_26 : decode cX6_windFor 26 = .ok (.iconst (-1), 1) := by decide +kernel
theorem dX6_windFor_27 : decode cX6_windFor 27 = .ok (.ireturn, 1) := by decide +kernel
theorem dX6_kindFor_0 : decode cX6_kindFor 0 = .ok (.aload_n 0, 1) := by decide +kernel
theorem dX6_kindFor_1 : decode cX6_kindFor 1 = .ok (.iload_n 1, 1) := by decide +kernel
theorem dX6_kindFor_2 : decode cX6_kindFor 2 = .ok (.invokevirtual 191, 3) := by decide +kernel
theorem dX6_kindFor_5 : decode cX6_kindFor 5 = .ok (.ifCond .eq 26, 3) := by decide +kernel
theorem dX6_kindFor_8 : decode cX6_kindFor 8 = .ok (.iload_n 2, 1) := by decide +kernel
theorem dX6_kindFor_9 : decode cX6_kindFor 9 = .ok (.invokestatic 250, 3) := by decide +kernel
theorem dX6_kindFor_12 : decode cX6_kindFor 12 = .ok (.ifCond .eq 19, 3) := by decide +kernel
theorem dX6_kindFor_15 : decode cX6_kindFor 15 = .ok (.aload_n 0, 1) := by decide +kernel
theorem dX6_kindFor_16 : decode cX6_kindFor 16 = .ok (.iload_n 1, 1) := by decide +kernel
theorem dX6_kindFor_17 : decode cX6_kindFor 17 = .ok (.bipush 24, 2) := by decide +kernel
theorem dX6_kindFor_19 : decode cX6_kindFor 19 = .ok (.iconst 4, 1) := by decide +kernel
theorem dX6_kindFor_20 : decode cX6_kindFor 20 = .ok (.iload_n 1, 1) := by decide +kernel
theorem dX6_kindFor_21 : decode cX6_kindFor 21 = .ok (.imul, 1) := by decide +kernel
theorem dX6_kindFor_22 : decode cX6_kindFor 22 = .ok (.iadd, 1) := by decide +kernel
theorem dX6_kindFor_23 : decode cX6_kindFor 23 = .ok (.iconst 5, 1) := by decide +kernel
theorem dX6_kindFor_24 : decode cX6_kindFor 24 = .ok (.iload_n 2, 1) := by decide +kernel
theorem dX6_kindFor_25 : decode cX6_kindFor 25 = .ok (.invokevirtual 253, 3) := by decide +kernel
theorem dX6_kindFor_28 : decode cX6_kindFor 28 = .ok (.goto 4, 3) := by decide +kernel
theorem dX6_kindFor_31 : decode cX6_kindFor 31 = .ok (.iconst (-1), 1) := by decide +kernel
theorem dX6_kindFor_32 : decode cX6_kindFor 32 = .ok (.ireturn, 1) := by decide +kernel
theorem dX6_seen_0 : decode cX6_seen 0 = .ok (.iload_n 1, 1) := by decide +kernel
theorem dX6_seen_1 : decode cX6_seen 1 = .ok (.i2l, 1) := by decide +kernel
theorem dX6_seen_2 : decode cX6_seen 2 = .ok (.lconst 0, 1) := by decide +kernel
theorem dX6_seen_3 : decode cX6_seen 3 = .ok (.ldc2_w 221, 3) := by decide +kernel
theorem dX6_seen_6 : decode cX6_seen 6 = .ok (.invokestatic 70, 3) := by decide +kernel
theorem dX6_seen_9 : decode cX6_seen 9 = .ok (.ifCond .ne 5, 3) := by decide +kernel
theorem dX6_seen_12 : decode cX6_seen 12 = .ok (.iconst (-1), 1) := by decide +kernel
theorem dX6_seen_13 : decode cX6_seen 13 = .ok (.ireturn, 1) := by decide +kernel
theorem dX6_seen_14 : decode cX6_seen 14 = .ok (.iconst 0, 1) := by decide +kernel
theorem dX6_seen_15 : decode cX6_seen 15 = .ok (.istore_n 2, 1) := by decide +kernel
theorem dX6_seen_16 : decode cX6_seen 16 = .ok (.iload_n 2, 1) := by decide +kernel
theorem dX6_seen_17 : decode cX6_seen 17 = .ok (.bipush 16, 2) := by decide +kernel
theorem dX6_seen_19 : decode cX6_seen 19 = .ok (.if_icmp .ge 16, 3) := by decide +kernel
theorem dX6_seen_22 : decode cX6_seen 22 = .ok (.aload_n 0, 1) := by decide +kernel
theorem dX6_seen_23 : decode cX6_seen 23 = .ok (.getfield 31, 3) := by decide +kernel
theorem dX6_seen_26 : decode cX6_seen 26 = .ok (.iload_n 2, 1) := by decide +kernel
theorem dX6_seen_27 : decode cX6_seen 27 = .ok (.iconst 0, 1) := by decide +kernel
theorem dX6_seen_28 : decode cX6_seen 28 = .ok (.iastore, 1) := by decide +kernel
theorem dX6_seen_29 : decode cX6_seen 29 = .ok (.iinc 2 1, 3) := by decide +kernel
theorem dX6_seen_32 : decode cX6_seen 32 = .ok (.goto (-16), 3) := by decide +kernel
theorem dX6_seen_35 : decode cX6_seen 35 = .ok (.aload_n 0, 1) := by decide +kernel
theorem dX6_seen_36 : decode cX6_seen 36 = .ok (.getfield 7, 3) := by decide +kernel
theorem dX6_seen_39 : decode cX6_seen 39 = .ok (.aload_n 0, 1) := by decide +kernel
theorem dX6_seen_40 : decode cX6_seen 40 = .ok (.getfield 16, 3) := by decide +kernel
theorem dX6_seen_43 : decode cX6_seen 43 = .ok (.invokestatic 158, 3) := by decide +kernel
theorem dX6_seen_46 : decode cX6_seen 46 = .ok (.iconst 0, 1) := by decide +kernel
theorem dX6_seen_47 : decode cX6_seen 47 = .ok (.istore_n 2, 1) := by decide +kernel
theorem dX6_seen_48 : decode cX6_seen 48 = .ok (.iload_n 2, 1) := by decide +kernel
theorem dX6_seen_49 : decode cX6_seen 49 = .ok (.iload_n 1, 1) := by decide +kernel
theorem dX6_seen_50 : decode cX6_seen 50 = .ok (.if_icmp .gt 48, 3) := by decide +kernel
theorem dX6_seen_53 : decode cX6_seen 53 = .ok (.iconst 0, 1) := by decide +kernel
theorem dX6_seen_54 : decode cX6_seen 54 = .ok (.istore_n 3, 1) := by decide +kernel
theorem dX6_seen_55 : decode cX6_seen 55 = .ok (.iload_n 3, 1) := by decide +kernel
theorem dX6_seen_56 : decode cX6_seen 56 = .ok (.aload_n 0, 1) := by decide +kernel
theorem dX6_seen_57 : decode cX6_seen 57 = .ok (.getfield 7, 3) := by decide +kernel
theorem dX6_seen_60 : decode cX6_seen 60 = .ok (.iconst 0, 1) := by decide +kernel
theorem dX6_seen_61 : decode cX6_seen 61 = .ok (.iaload, 1) := by decide +kernel
theorem dX6_seen_62 : decode cX6_seen 62 = .ok (.if_icmp .ge 26, 3) := by decide +kernel
theorem dX6_seen_65 : decode cX6_seen 65 = .ok (.aload_n 0, 1) := by decide +kernel
theorem dX6_seen_66 : decode cX6_seen 66 = .ok (.getfield 31, 3) := by decide +kernel
theorem dX6_seen_69 : decode cX6_seen 69 = .ok (.aload_n 0, 1) := by decide +kernel
theorem dX6_seen_70 : decode cX6_seen 70 = .ok (.iload_n 3, 1) := by decide +kernel
theorem dX6_seen_71 : decode cX6_seen 71 = .ok (.iconst 3, 1) := by decide +kernel
theorem dX6_seen_72 : decode cX6_seen 72 = .ok (.invokevirtual 182, 3) := by decide +kernel
theorem dX6_seen_75 : decode cX6_seen 75 = .ok (.dup2, 1) := by decide +kernel
theorem dX6_seen_76 : decode cX6_seen 76 = .ok (.iaload, 1) := by decide +kernel
theorem dX6_seen_77 : decode cX6_seen 77 = .ok (.iconst 1, 1) := by decide +kernel
theorem dX6_seen_78 : decode cX6_seen 78 = .ok (.iload_n 3, 1) := by decide +kernel
theorem dX6_seen_79 : decode cX6_seen 79 = .ok (.ishl, 1) := by decide +kernel
theorem dX6_seen_80 : decode cX6_seen 80 = .ok (.ior, 1) := by decide +kernel
theorem dX6_seen_81 : decode cX6_seen 81 = .ok (.iastore, 1) := by decide +kernel
theorem dX6_seen_82 : decode cX6_seen 82 = .ok (.iinc 3 1, 3) := by decide +kernel
theorem dX6_seen_85 : decode cX6_seen 85 = .ok (.goto (-30), 3) := by decide +kernel
theorem dX6_seen_88 : decode cX6_seen 88 = .ok (.aload_n 0, 1) := by decide +kernel
theorem dX6_seen_89 : decode cX6_seen 89 = .ok (.invokevirtual 203, 3) := by decide +kernel
theorem dX6_seen_92 : decode cX6_seen 92 = .ok (.iinc 2 1, 3) := by decide +kernel
theorem dX6_seen_95 : decode cX6_seen 95 = .ok (.goto (-47), 3) := by decide +kernel
theorem dX6_seen_98 : decode cX6_seen 98 = .ok (.aload_n 0, 1) := by decide +kernel
theorem dX6_seen_99 : decode cX6_seen 99 = .ok (.getfield 16, 3) := by decide +kernel
theorem dX6_seen_102 : decode cX6_seen 102 = .ok (.aload_n 0, 1) := by decide +kernel
theorem dX6_seen_103 : decode cX6_seen 103 = .ok (.getfield 7, 3) := by decide +kernel
theorem dX6_seen_106 : decode cX6_seen 106 = .ok (.invokestatic 158, 3) := by decide +kernel
theorem dX6_seen_109 : decode cX6_seen 109 = .ok (.aload_n 0, 1) := by decide +kernel
theorem dX6_seen_110 : decode cX6_seen 110 = .ok (.getfield 34, 3) := by decide +kernel
theorem dX6_seen_113 : decode cX6_seen 113 = .ok (.iconst 0, 1) := by decide +kernel
theorem dX6_seen_114 : decode cX6_seen 114 = .ok (.iconst 0, 1) := by decide +kernel
theorem dX6_seen_115 : decode cX6_seen 115 = .ok (.iastore, 1) := by decide +kernel
theorem dX6_seen_116 : decode cX6_seen 116 = .ok (.iconst 1, 1) := by decide +kernel
theorem dX6_seen_117 : decode cX6_seen 117 = .ok (.istore_n 2, 1) := by decide +kernel
theorem dX6_seen_118 : decode cX6_seen 118 = .ok (.iload_n 2, 1) := by decide +kernel
theorem dX6_seen_119 : decode cX6_seen 119 = .ok (.iconst 1, 1) := by decide +kernel
theorem dX6_seen_120 : decode cX6_seen 120 = .ok (.aload_n 0, 1) := by decide +kernel
theorem dX6_seen_121 : decode cX6_seen 121 = .ok (.getfield 7, 3) := by decide +kernel
theorem dX6_seen_124 : decode cX6_seen 124 = .ok (.iconst 0, 1) := by decide +kernel
theorem dX6_seen_125 : decode cX6_seen 125 = .ok (.iaload, 1) := by decide +kernel
theorem dX6_seen_126 : decode cX6_seen 126 = .ok (.ishl, 1) := by decide +kernel
theorem dX6_seen_127 : decode cX6_seen 127 = .ok (.if_icmp .ge 74, 3) := by decide +kernel
theorem dX6_seen_130 : decode cX6_seen 130 = .ok (.aload_n 0, 1) := by decide +kernel
theorem dX6_seen_131 : decode cX6_seen 131 = .ok (.getfield 34, 3) := by decide +kernel
theorem dX6_seen_134 : decode cX6_seen 134 = .ok (.iload_n 2, 1) := by decide +kernel
theorem dX6_seen_135 : decode cX6_seen 135 = .ok (.bipush 100, 2) := by decide +kernel
theorem dX6_seen_137 : decode cX6_seen 137 = .ok (.iastore, 1) := by decide +kernel
theorem dX6_seen_138 : decode cX6_seen 138 = .ok (.iconst 0, 1) := by decide +kernel
theorem dX6_seen_139 : decode cX6_seen 139 = .ok (.istore_n 3, 1) := by decide +kernel
theorem dX6_seen_140 : decode cX6_seen 140 = .ok (.iload_n 3, 1) := by decide +kernel
theorem dX6_seen_141 : decode cX6_seen 141 = .ok (.bipush 16, 2) := by decide +kernel
theorem dX6_seen_143 : decode cX6_seen 143 = .ok (.if_icmp .ge 52, 3) := by decide +kernel
theorem dX6_seen_146 : decode cX6_seen 146 = .ok (.iload_n 2, 1) := by decide +kernel
theorem dX6_seen_147 : decode cX6_seen 147 = .ok (.aload_n 0, 1) := by decide +kernel
theorem dX6_seen_148 : decode cX6_seen 148 = .ok (.getfield 31, 3) := by decide +kernel
theorem dX6_seen_151 : decode cX6_seen 151 = .ok (.iload_n 3, 1) := by decide +kernel
theorem dX6_seen_152 : decode cX6_seen 152 = .ok (.iaload, 1) := by decide +kernel
theorem dX6_seen_153 : decode cX6_seen 153 = .ok (.iand, 1) := by decide +kernel
theorem dX6_seen_154 : decode cX6_seen 154 = .ok (.ifCond .eq 35, 3) := by decide +kernel
theorem dX6_seen_157 : decode cX6_seen 157 = .ok (.aload_n 0, 1) := by decide +kernel
theorem dX6_seen_158 : decode cX6_seen 158 = .ok (.getfield 34, 3) := by decide +kernel
theorem dX6_seen_161 : decode cX6_seen 161 = .ok (.iload_n 2, 1) := by decide +kernel
theorem dX6_seen_162 : decode cX6_seen 162 = .ok (.aload_n 0, 1) := by decide +kernel
theorem dX6_seen_163 : decode cX6_seen 163 = .ok (.getfield 34, 3) := by decide +kernel
theorem dX6_seen_166 : decode cX6_seen 166 = .ok (.iload_n 2, 1) := by decide +kernel
theorem dX6_seen_167 : decode cX6_seen 167 = .ok (.iaload, 1) := by decide +kernel
theorem dX6_seen_168 : decode cX6_seen 168 = .ok (.iconst 1, 1) := by decide +kernel
theorem dX6_seen_169 : decode cX6_seen 169 = .ok (.aload_n 0, 1) := by decide +kernel
theorem dX6_seen_170 : decode cX6_seen 170 = .ok (.getfield 34, 3) := by decide +kernel
theorem dX6_seen_173 : decode cX6_seen 173 = .ok (.iload_n 2, 1) := by decide +kernel
theorem dX6_seen_174 : decode cX6_seen 174 = .ok (.aload_n 0, 1) := by decide +kernel
theorem dX6_seen_175 : decode cX6_seen 175 = .ok (.getfield 31, 3) := by decide +kernel
theorem dX6_seen_178 : decode cX6_seen 178 = .ok (.iload_n 3, 1) := by decide +kernel
theorem dX6_seen_179 : decode cX6_seen 179 = .ok (.iaload, 1) := by decide +kernel
theorem dX6_seen_180 : decode cX6_seen 180 = .ok (.iconst (-1), 1) := by decide +kernel
theorem dX6_seen_181 : decode cX6_seen 181 = .ok (.ixor, 1) := by decide +kernel
theorem dX6_seen_182 : decode cX6_seen 182 = .ok (.iand, 1) := by decide +kernel
theorem dX6_seen_183 : decode cX6_seen 183 = .ok (.iaload, 1) := by decide +kernel
theorem dX6_seen_184 : decode cX6_seen 184 = .ok (.iadd, 1) := by decide +kernel
theorem dX6_seen_185 : decode cX6_seen 185 = .ok (.invokestatic 247, 3) := by decide +kernel
theorem dX6_seen_188 : decode cX6_seen 188 = .ok (.iastore, 1) := by decide +kernel
theorem dX6_seen_189 : decode cX6_seen 189 = .ok (.iinc 3 1, 3) := by decide +kernel
theorem dX6_seen_192 : decode cX6_seen 192 = .ok (.goto (-52), 3) := by decide +kernel
theorem dX6_seen_195 : decode cX6_seen 195 = .ok (.iinc 2 1, 3) := by decide +kernel
theorem dX6_seen_198 : decode cX6_seen 198 = .ok (.goto (-80), 3) := by decide +kernel
theorem dX6_seen_201 : decode cX6_seen 201 = .ok (.aload_n 0, 1) := by decide +kernel
theorem dX6_seen_202 : decode cX6_seen 202 = .ok (.getfield 34, 3) := by decide +kernel
theorem dX6_seen_205 : decode cX6_seen 205 = .ok (.iconst 1, 1) := by decide +kernel
theorem dX6_seen_206 : decode cX6_seen 206 = .ok (.aload_n 0, 1) := by decide +kernel
theorem dX6_seen_207 : decode cX6_seen 207 = .ok (.getfield 7, 3) := by decide +kernel
theorem dX6_seen_210 : decode cX6_seen 210 = .ok (.iconst 0, 1) := by decide +kernel
theorem dX6_seen_211 : decode cX6_seen 211 = .ok (.iaload, 1) := by decide +kernel
theorem dX6_seen_212 : decode cX6_seen 212 = .ok (.ishl, 1) := by decide +kernel
theorem dX6_seen_213 : decode cX6_seen 213 = .ok (.iconst 1, 1) := by decide +kernel
theorem dX6_seen_214 : decode cX6_seen 214 = .ok (.isub, 1) := by decide +kernel
theorem dX6_seen_215 : decode cX6_seen 215 = .ok (.iaload, 1) := by decide +kernel
theorem dX6_seen_216 : decode cX6_seen 216 = .ok (.ireturn, 1) := by decide +kernel
theorem dX6_dryWay_0 : decode cX6_dryWay 0 = .ok (.iload_n 1, 1) := by decide +kernel
theorem dX6_dryWay_1 : decode cX6_dryWay 1 = .ok (.invokestatic 179, 3) := by decide +kernel
theorem dX6_dryWay_4 : decode cX6_dryWay 4 = .ok (.ifCond .eq 10, 3) := by decide +kernel
theorem dX6_dryWay_7 : decode cX6_dryWay 7 = .ok (.iload_n 2, 1) := by decide +kernel
theorem dX6_dryWay_8 : decode cX6_dryWay 8 = .ok (.invokestatic 179, 3) := by decide +kernel
theorem dX6_dryWay_11 : decode cX6_dryWay 11 = .ok (.ifCond .ne 5, 3) := by decide +kernel
theorem dX6_dryWay_14 : decode cX6_dryWay 14 = .ok (.iconst (-1), 1) := by decide +kernel
theorem dX6_dryWay_15 : decode cX6_dryWay 15 = .ok (.ireturn, 1) := by decide +kernel
theorem dX6_dryWay_16 : decode cX6_dryWay 16 = .ok (.aload_n 0, 1) := by decide +kernel
theorem dX6_dryWay_17 : decode cX6_dryWay 17 = .ok (.aload_n 0, 1) := by decide +kernel
theorem dX6_dryWay_18 : decode cX6_dryWay 18 = .ok (.getfield 7, 3) := by decide +kernel
theorem dX6_dryWay_21 : decode cX6_dryWay 21 = .ok (.iconst 5, 1) := by decide +kernel
theorem dX6_dryWay_22 : decode cX6_dryWay 22 = .ok (.iaload, 1) := by decide +kernel
theorem dX6_dryWay_23 : decode cX6_dryWay 23 = .ok (.invokevirtual 232, 3) := by decide +kernel
theorem dX6_dryWay_26 : decode cX6_dryWay 26 = .ok (.istore_n 3, 1) := by decide +kernel
theorem dX6_dryWay_27 : decode cX6_dryWay 27 = .ok (.iconst 1, 1) := by decide +kernel
theorem dX6_dryWay_28 : decode cX6_dryWay 28 = .ok (.iload_n 1, 1) := by decide +kernel
theorem dX6_dryWay_29 : decode cX6_dryWay 29 = .ok (.ishl, 1) := by decide +kernel
theorem dX6_dryWay_30 : decode cX6_dryWay 30 = .ok (.iload_n 3, 1) := by decide +kernel
theorem dX6_dryWay_31 : decode cX6_dryWay 31 = .ok (.iconst (-1), 1) := by decide +kernel
theorem dX6_dryWay_32 : decode cX6_dryWay 32 = .ok (.ixor, 1) := by decide +kernel
theorem dX6_dryWay_33 : decode cX6_dryWay 33 = .ok (.iand, 1) := by decide +kernel
theorem dX6_dryWay_34 : decode cX6_dryWay 34 = .ok (.istore 4, 2) := by decide +kernel
theorem dX6_dryWay_36 : decode cX6_dryWay 36 = .ok (.iconst 0, 1) := by decide +kernel
theorem dX6_dryWay_37 : decode cX6_dryWay 37 = .ok (.istore 5, 2) := by decide +kernel
theorem dX6_dryWay_39 : decode cX6_dryWay 39 = .ok (.iload 5, 2) := by decide +kernel
theorem dX6_dryWay_41 : decode cX6_dryWay 41 = .ok (.bipush 16, 2) := by decide +kernel
theorem dX6_dryWay_43 : decode cX6_dryWay 43 = .ok (.if_icmp .ge 108, 3) := by decide +kernel
theorem dX6_dryWay_46 : decode cX6_dryWay 46 = .ok (.iload 4, 2) := by decide +kernel
theorem dX6_dryWay_48 : decode cX6_dryWay 48 = .ok (.iload_n 2, 1) := by decide +kernel
theorem dX6_dryWay_49 : decode cX6_dryWay 49 = .ok (.ishr, 1) := by decide +kernel
theorem dX6_dryWay_50 : decode cX6_dryWay 50 = .ok (.iconst 1, 1) := by decide +kernel
theorem dX6_dryWay_51 : decode cX6_dryWay 51 = .ok (.iand, 1) := by decide +kernel
theorem dX6_dryWay_52 : decode cX6_dryWay 52 = .ok (.iconst 1, 1) := by decide +kernel
theorem dX6_dryWay_53 : decode cX6_dryWay 53 = .ok (.if_icmp .ne 6, 3) := by decide +kernel
theorem dX6_dryWay_56 : decode cX6_dryWay 56 = .ok (.iload 5, 2) := by decide +kernel
theorem dX6_dryWay_58 : decode cX6_dryWay 58 = .ok (.ireturn, 1) := by decide +kernel
theorem dX6_dryWay_59 : decode cX6_dryWay 59 = .ok (.iload 4, 2) := by decide +kernel
theorem dX6_dryWay_61 : decode cX6_dryWay 61 = .ok (.istore 6, 2) := by decide +kernel
theorem dX6_dryWay_63 : decode cX6_dryWay 63 = .ok (.iconst 0, 1) := by decide +kernel
theorem dX6_dryWay_64 : decode cX6_dryWay 64 = .ok (.istore 7, 2) := by decide +kernel
theorem dX6_dryWay_66 : decode cX6_dryWay 66 = .ok (.iload 7, 2) := by decide +kernel
theorem dX6_dryWay_68 : decode cX6_dryWay 68 = .ok (.bipush 16, 2) := by decide +kernel
theorem dX6_dryWay_70 : decode cX6_dryWay 70 = .ok (.if_icmp .ge 71, 3) := by decide +kernel
theorem dX6_dryWay_73 : decode cX6_dryWay 73 = .ok (.iconst 0, 1) := by decide +kernel
theorem dX6_dryWay_74 : decode cX6_dryWay 74 = .ok (.istore 8, 2) := by decide +kernel
theorem dX6_dryWay_76 : decode cX6_dryWay 76 = .ok (.iload 8, 2) := by decide +kernel
theorem dX6_dryWay_78 : decode cX6_dryWay 78 = .ok (.iconst 4, 1) := by decide +kernel
theorem dX6_dryWay_79 : decode cX6_dryWay 79 = .ok (.if_icmp .ge 56, 3) := by decide +kernel
theorem dX6_dryWay_82 : decode cX6_dryWay 82 = .ok (.iload 4, 2) := by decide +kernel
theorem dX6_dryWay_84 : decode cX6_dryWay 84 = .ok (.iload 7, 2) := by decide +kernel
theorem dX6_dryWay_86 : decode cX6_dryWay 86 = .ok (.ishr, 1) := by decide +kernel
theorem dX6_dryWay_87 : decode cX6_dryWay 87 = .ok (.iconst 1, 1) := by decide +kernel
theorem dX6_dryWay_88 : decode cX6_dryWay 88 = .ok (.iand, 1) := by decide +kernel
theorem dX6_dryWay_89 : decode cX6_dryWay 89 = .ok (.iconst 1, 1) := by decide +kernel
theorem dX6_dryWay_90 : decode cX6_dryWay 90 = .ok (.if_icmp .ne 45, 3) := by decide +kernel
theorem dX6_dryWay_93 : decode cX6_dryWay 93 = .ok (.iload 7, 2) := by decide +kernel
theorem dX6_dryWay_95 : decode cX6_dryWay 95 = .ok (.iload 8, 2) := by decide +kernel
theorem dX6_dryWay_97 : decode cX6_dryWay 97 = .ok (.invokestatic 188, 3) := by decide +kernel
theorem dX6_dryWay_100 : decode cX6_dryWay 100 = .ok (.istore 9, 2) := by decide +kernel
theorem dX6_dryWay_102 : decode cX6_dryWay 102 = .ok (.iload 6, 2) := by decide +kernel
theorem dX6_dryWay_104 : decode cX6_dryWay 104 = .ok (.iload 9, 2) := by decide +kernel
theorem dX6_dryWay_106 : decode cX6_dryWay 106 = .ok (.ifCond .lt 19, 3) := by decide +kernel
theorem dX6_dryWay_109 : decode cX6_dryWay 109 = .ok (.iload_n 3, 1) := by decide +kernel
theorem dX6_dryWay_110 : decode cX6_dryWay 110 = .ok (.iload 9, 2) := by decide +kernel
theorem dX6_dryWay_112 : decode cX6_dryWay 112 = .ok (.ishr, 1) := by decide +kernel
theorem dX6_dryWay_113 : decode cX6_dryWay 113 = .ok (.iconst 1, 1) := by decide +kernel
theorem dX6_dryWay_114 : decode cX6_dryWay 114 = .ok (.iand, 1) := by decide +kernel
theorem dX6_dryWay_115 : decode cX6_dryWay 115 = .ok (.ifCond .ne 10, 3) := by decide +kernel
theorem dX6_dryWay_118 : decode cX6_dryWay 118 = .ok (.iconst 1, 1) := by decide +kernel
theorem dX6_dryWay_119 : decode cX6_dryWay 119 = .ok (.iload 9, 2) := by decide +kernel
theorem dX6_dryWay_121 : decode cX6_dryWay 121 = .ok (.ishl, 1) := by decide +kernel
theorem dX6_dryWay_122 : decode cX6_dryWay 122 = .ok (.goto 4, 3) := by decide +kernel
theorem dX6_dryWay_125 : decode cX6_dryWay 125 = .ok (.iconst 0, 1) := by decide +kernel
theorem dX6_dryWay_126 : decode cX6_dryWay 126 = .ok (.ior, 1) := by decide +kernel
theorem dX6_dryWay_127 : decode cX6_dryWay 127 = .ok (.istore 6, 2) := by decide +kernel
theorem dX6_dryWay_129 : decode cX6_dryWay 129 = .ok (.iinc 8 1, 3) := by decide +kernel
theorem dX6_dryWay_132 : decode cX6_dryWay 132 = .ok (.goto (-56), 3) := by decide +kernel
theorem dX6_dryWay_135 : decode cX6_dryWay 135 = .ok (.iinc 7 1, 3) := by decide +kernel
theorem dX6_dryWay_138 : decode cX6_dryWay 138 = .ok (.goto (-72), 3) := by decide +kernel
theorem dX6_dryWay_141 : decode cX6_dryWay 141 = .ok (.iload 6, 2) := by decide +kernel
theorem dX6_dryWay_143 : decode cX6_dryWay 143 = .ok (.istore 4, 2) := by decide +kernel
theorem dX6_dryWay_145 : decode cX6_dryWay 145 = .ok (.iinc 5 1, 3) := by decide +kernel
theorem dX6_dryWay_148 : decode cX6_dryWay 148 = .ok (.goto (-109), 3) := by decide +kernel
theorem dX6_dryWay_151 : decode cX6_dryWay 151 = .ok (.bipush (-3), 2) := by decide +kernel
theorem dX6_dryWay_153 : decode cX6_dryWay 153 = .ok (.ireturn, 1) := by decide +kernel
theorem dX6_product_0 : decode cX6_product 0 = .ok (.lconst 1, 1) := by decide +kernel
theorem dX6_product_1 : decode cX6_product 1 = .ok (.lstore_n 1, 1) := by decide +kernel
theorem dX6_product_2 : decode cX6_product 2 = .ok (.iconst 2, 1) := by decide +kernel
theorem dX6_product_3 : decode cX6_product 3 = .ok (.istore_n 3, 1) := by decide +kernel
theorem dX6_product_4 : decode cX6_product 4 = .ok (.iload_n 3, 1) := by decide +kernel
theorem dX6_product_5 : decode cX6_product 5 = .ok (.iload_n 0, 1) := by decide +kernel
theorem dX6_product_6 : decode cX6_product 6 = .ok (.if_icmp .gt 14, 3) := by decide +kernel
theorem dX6_product_9 : decode cX6_product 9 = .ok (.lload_n 1, 1) := by decide +kernel
theorem dX6_product_10 : decode cX6_product 10 = .ok (.iload_n 3, 1) := by decide +kernel
theorem dX6_product_11 : decode cX6_product 11 = .ok (.i2l, 1) := by decide +kernel
theorem dX6_product_12 : decode cX6_product 12 = .ok (.lmul, 1) := by decide +kernel
theorem dX6_product_13 : decode cX6_product 13 = .ok (.lstore_n 1, 1) := by decide +kernel
theorem dX6_product_14 : decode cX6_product 14 = .ok (.iinc 3 1, 3) := by decide +kernel
theorem dX6_product_17 : decode cX6_product 17 = .ok (.goto (-13), 3) := by decide +kernel
theorem dX6_product_20 : decode cX6_product 20 = .ok (.lload_n 1, 1) := by decide +kernel
theorem dX6_product_21 : decode cX6_product 21 = .ok (.lreturn, 1) := by decide +kernel
theorem dX6_partOf_0 : decode cX6_partOf 0 = .ok (.lload_n 2, 1) := by decide +kernel
theorem dX6_partOf_1 : decode cX6_partOf 1 = .ok (.lstore 5, 2) := by decide +kernel
theorem dX6_partOf_3 : decode cX6_partOf 3 = .ok (.lload_n 0, 1) := by decide +kernel
theorem dX6_partOf_4 : decode cX6_partOf 4 = .ok (.lstore 7, 2) := by decide +kernel
theorem dX6_partOf_6 : decode cX6_partOf 6 = .ok (.lload 7, 2) := by decide +kernel
theorem dX6_partOf_8 : decode cX6_partOf 8 = .ok (.lconst 0, 1) := by decide +kernel
theorem dX6_partOf_9 : decode cX6_partOf 9 = .ok (.lcmp, 1) := by decide +kernel
theorem dX6_partOf_10 : decode cX6_partOf 10 = .ok (.ifCond .eq 21, 3) := by decide +kernel
theorem dX6_partOf_13 : decode cX6_partOf 13 = .ok (.lload 5, 2) := by decide +kernel
theorem dX6_partOf_15 : decode cX6_partOf 15 = .ok (.lload 7, 2) := by decide +kernel
theorem dX6_partOf_17 : decode cX6_partOf 17 = .ok (.lrem, 1) := by decide +kernel
theorem dX6_partOf_18 : decode cX6_partOf 18 = .ok (.lstore 9, 2) := by decide +kernel
theorem dX6_partOf_20 : decode cX6_partOf 20 = .ok (.lload 7, 2) := by decide +kernel
theorem dX6_partOf_22 : decode cX6_partOf 22 = .ok (.lstore 5, 2) := by decide +kernel
theorem dX6_partOf_24 : decode cX6_partOf 24 = .ok (.lload 9, 2) := by decide +kernel
theorem dX6_partOf_26 : decode cX6_partOf 26 = .ok (.lstore 7, 2) := by decide +kernel
theorem dX6_partOf_28 : decode cX6_partOf 28 = .ok (.goto (-22), 3) := by decide +kernel
theorem dX6_partOf_31 : decode cX6_partOf 31 = .ok (.iload 4, 2) := by decide +kernel
theorem dX6_partOf_33 : decode cX6_partOf 33 = .ok (.ifCond .ne 10, 3) := by decide +kernel
theorem dX6_partOf_36 : decode cX6_partOf 36 = .ok (.lload_n 0, 1) := by decide +kernel
theorem dX6_partOf_37 : decode cX6_partOf 37 = .ok (.lload 5, 2) := by decide +kernel
theorem dX6_partOf_39 : decode cX6_partOf 39 = .ok (.ldiv, 1) := by decide +kernel
theorem dX6_partOf_40 : decode cX6_partOf 40 = .ok (.goto 7, 3) := by decide +kernel
theorem dX6_partOf_43 : decode cX6_partOf 43 = .ok (.lload_n 2, 1) := by decide +kernel
theorem dX6_partOf_44 : decode cX6_partOf 44 = .ok (.lload 5, 2) := by decide +kernel
theorem dX6_partOf_46 : decode cX6_partOf 46 = .ok (.ldiv, 1) := by decide +kernel
theorem dX6_partOf_47 : decode cX6_partOf 47 = .ok (.lreturn, 1) := by decide +kernel
theorem dX6_isTold_0 : decode cX6_isTold 0 = .ok (.aload_n 0, 1) := by decide +kernel
theorem dX6_isTold_1 : decode cX6_isTold 1 = .ok (.getfield 7, 3) := by decide +kernel
theorem dX6_isTold_4 : decode cX6_isTold 4 = .ok (.aload_n 0, 1) := by decide +kernel
theorem dX6_isTold_5 : decode cX6_isTold 5 = .ok (.getfield 16, 3) := by decide +kernel
theorem dX6_isTold_8 : decode cX6_isTold 8 = .ok (.invokestatic 158, 3) := by decide +kernel
theorem dX6_isTold_11 : decode cX6_isTold 11 = .ok (.iconst 1, 1) := by decide +kernel
theorem dX6_isTold_12 : decode cX6_isTold 12 = .ok (.istore_n 3, 1) := by decide +kernel
theorem dX6_isTold_13 : decode cX6_isTold 13 = .ok (.iconst 0, 1) := by decide +kernel
theorem dX6_isTold_14 : decode cX6_isTold 14 = .ok (.istore 4, 2) := by decide +kernel
theorem dX6_isTold_16 : decode cX6_isTold 16 = .ok (.iload 4, 2) := by decide +kernel
theorem dX6_isTold_18 : decode cX6_isTold 18 = .ok (.aload_n 0, 1) := by decide +kernel
theorem dX6_isTold_19 : decode cX6_isTold 19 = .ok (.getfield 43, 3) := by decide +kernel
theorem dX6_isTold_22 : decode cX6_isTold 22 = .ok (.iload_n 1, 1) := by decide +kernel
theorem dX6_isTold_23 : decode cX6_isTold 23 = .ok (.iaload, 1) := by decide +kernel
theorem dX6_isTold_24 : decode cX6_isTold 24 = .ok (.if_icmp .ge 60, 3) := by decide +kernel
theorem dX6_isTold_27 : decode cX6_isTold 27 = .ok (.iload_n 3, 1) := by decide +kernel
theorem dX6_isTold_28 : decode cX6_isTold 28 = .ok (.ifCond .eq 56, 3) := by decide +kernel
theorem dX6_isTold_31 : decode cX6_isTold 31 = .ok (.aload_n 0, 1) := by decide +kernel
theorem dX6_isTold_32 : decode cX6_isTold 32 = .ok (.invokevirtual 203, 3) := by decide +kernel
theorem dX6_isTold_35 : decode cX6_isTold 35 = .ok (.aload_n 0, 1) := by decide +kernel
theorem dX6_isTold_36 : decode cX6_isTold 36 = .ok (.getfield 46, 3) := by decide +kernel
theorem dX6_isTold_39 : decode cX6_isTold 39 = .ok (.bipush 40, 2) := by decide +kernel
theorem dX6_isTold_41 : decode cX6_isTold 41 = .ok (.iload_n 1, 1) := by decide +kernel
theorem dX6_isTold_42 : decode cX6_isTold 42 = .ok (.imul, 1) := by decide +kernel
theorem dX6_isTold_43 : decode cX6_isTold 43 = .ok (.iload 4, 2) := by decide +kernel
theorem dX6_isTold_45 : decode cX6_isTold 45 = .ok (.iadd, 1) := by decide +kernel
theorem dX6_isTold_46 : decode cX6_isTold 46 = .ok (.iaload, 1) := by decide +kernel
theorem dX6_isTold_47 : decode cX6_isTold 47 = .ok (.iconst (-1), 1) := by decide +kernel
theorem dX6_isTold_48 : decode cX6_isTold 48 = .ok (.if_icmp .eq 24, 3) := by decide +kernel
theorem dX6_isTold_51 : decode cX6_isTold 51 = .ok (.aload_n 0, 1) := by decide +kernel
theorem dX6_isTold_52 : decode cX6_isTold 52 = .ok (.getfield 46, 3) := by decide +kernel
theorem dX6_isTold_55 : decode cX6_isTold 55 = .ok (.bipush 40, 2) := by decide +kernel
theorem dX6_isTold_57 : decode cX6_isTold 57 = .ok (.iload_n 1, 1) := by decide +kernel
theorem dX6_isTold_58 : decode cX6_isTold 58 = .ok (.imul, 1) := by decide +kernel
theorem dX6_isTold_59 : decode cX6_isTold 59 = .ok (.iload 4, 2) := by decide +kernel
theorem dX6_isTold_61 : decode cX6_isTold 61 = .ok (.iadd, 1) := by decide +kernel
theorem dX6_isTold_62 : decode cX6_isTold 62 = .ok (.iaload, 1) := by decide +kernel
theorem dX6_isTold_63 : decode cX6_isTold 63 = .ok (.aload_n 0, 1) := by decide +kernel
theorem dX6_isTold_64 : decode cX6_isTold 64 = .ok (.iload_n 2, 1) := by decide +kernel
theorem dX6_isTold_65 : decode cX6_isTold 65 = .ok (.iconst 3, 1) := by decide +kernel
theorem dX6_isTold_66 : decode cX6_isTold 66 = .ok (.invokevirtual 182, 3) := by decide +kernel
theorem dX6_isTold_69 : decode cX6_isTold 69 = .ok (.if_icmp .ne 7, 3) := by decide +kernel
theorem dX6_isTold_72 : decode cX6_isTold 72 = .ok (.iconst 1, 1) := by decide +kernel
theorem dX6_isTold_73 : decode cX6_isTold 73 = .ok (.goto 4, 3) := by decide +kernel
theorem dX6_isTold_76 : decode cX6_isTold 76 = .ok (.iconst 0, 1) := by decide +kernel
theorem dX6_isTold_77 : decode cX6_isTold 77 = .ok (.istore_n 3, 1) := by decide +kernel
theorem dX6_isTold_78 : decode cX6_isTold 78 = .ok (.iinc 4 1, 3) := by decide +kernel
theorem dX6_isTold_81 : decode cX6_isTold 81 = .ok (.goto (-65), 3) := by decide +kernel
theorem dX6_isTold_84 : decode cX6_isTold 84 = .ok (.aload_n 0, 1) := by decide +kernel
theorem dX6_isTold_85 : decode cX6_isTold 85 = .ok (.getfield 16, 3) := by decide +kernel
theorem dX6_isTold_88 : decode cX6_isTold 88 = .ok (.aload_n 0, 1) := by decide +kernel
theorem dX6_isTold_89 : decode cX6_isTold 89 = .ok (.getfield 7, 3) := by decide +kernel
theorem dX6_isTold_92 : decode cX6_isTold 92 = .ok (.invokestatic 158, 3) := by decide +kernel
theorem dX6_isTold_95 : decode cX6_isTold 95 = .ok (.iload_n 3, 1) := by decide +kernel
theorem dX6_isTold_96 : decode cX6_isTold 96 = .ok (.ireturn, 1) := by decide +kernel
theorem dX6_fits_0 : decode cX6_fits 0 = .ok (.iload_n 1, 1) := by decide +kernel
theorem dX6_fits_1 : decode cX6_fits 1 = .ok (.invokestatic 257, 3) := by decide +kernel
theorem dX6_fits_4 : decode cX6_fits 4 = .ok (.ifCond .eq 21, 3) := by decide +kernel
theorem dX6_fits_7 : decode cX6_fits 7 = .ok (.aload_n 0, 1) := by decide +kernel
theorem dX6_fits_8 : decode cX6_fits 8 = .ok (.iload_n 2, 1) := by decide +kernel
theorem dX6_fits_9 : decode cX6_fits 9 = .ok (.invokevirtual 191, 3) := by decide +kernel
theorem dX6_fits_12 : decode cX6_fits 12 = .ok (.ifCond .eq 13, 3) := by decide +kernel
theorem dX6_fits_15 : decode cX6_fits 15 = .ok (.iload_n 3, 1) := by decide +kernel
theorem dX6_fits_16 : decode cX6_fits 16 = .ok (.i2l, 1) := by decide +kernel
theorem dX6_fits_17 : decode cX6_fits 17 = .ok (.lconst 0, 1) := by decide +kernel
theorem dX6_fits_18 : decode cX6_fits 18 = .ok (.lconst 1, 1) := by decide +kernel
theorem dX6_fits_19 : decode cX6_fits 19 = .ok (.invokestatic 70, 3) := by decide +kernel
theorem dX6_fits_22 : decode cX6_fits 22 = .ok (.ifCond .ne 5, 3) := by decide +kernel
theorem dX6_fits_25 : decode cX6_fits 25 = .ok (.iconst (-1), 1) := by decide +kernel
theorem dX6_fits_26 : decode cX6_fits 26 = .ok (.ireturn, 1) := by decide +kernel
theorem dX6_fits_27 : decode cX6_fits 27 = .ok (.aload_n 0, 1) := by decide +kernel
theorem dX6_fits_28 : decode cX6_fits 28 = .ok (.getfield 40, 3) := by decide +kernel
theorem dX6_fits_31 : decode cX6_fits 31 = .ok (.iload_n 1, 1) := by decide +kernel
theorem dX6_fits_32 : decode cX6_fits 32 = .ok (.iaload, 1) := by decide +kernel
theorem dX6_fits_33 : decode cX6_fits 33 = .ok (.ifCond .ge 6, 3) := by decide +kernel
theorem dX6_fits_36 : decode cX6_fits 36 = .ok (.bipush (-11), 2) := by decide +kernel
theorem dX6_fits_38 : decode cX6_fits 38 = .ok (.ireturn, 1) := by decide +kernel
theorem dX6_fits_39 : decode cX6_fits 39 = .ok (.bipush 24, 2) := by decide +kernel
theorem dX6_fits_41 : decode cX6_fits 41 = .ok (.iconst 4, 1) := by decide +kernel
theorem dX6_fits_42 : decode cX6_fits 42 = .ok (.iload_n 2, 1) := by decide +kernel
theorem dX6_fits_43 : decode cX6_fits 43 = .ok (.imul, 1) := by decide +kernel
theorem dX6_fits_44 : decode cX6_fits 44 = .ok (.iadd, 1) := by decide +kernel
theorem dX6_fits_45 : decode cX6_fits 45 = .ok (.iconst 3, 1) := by decide +kernel
theorem dX6_fits_46 : decode cX6_fits 46 = .ok (.iadd, 1) := by decide +kernel
theorem dX6_fits_47 : decode cX6_fits 47 = .ok (.istore 4, 2) := by decide +kernel
theorem dX6_fits_49 : decode cX6_fits 49 = .ok (.aload_n 0, 1) := by decide +kernel
theorem dX6_fits_50 : decode cX6_fits 50 = .ok (.getfield 7, 3) := by decide +kernel
theorem dX6_fits_53 : decode cX6_fits 53 = .ok (.iload 4, 2) := by decide +kernel
theorem dX6_fits_55 : decode cX6_fits 55 = .ok (.iaload, 1) := by decide +kernel
theorem dX6_fits_56 : decode cX6_fits 56 = .ok (.istore 5, 2) := by decide +kernel
theorem dX6_fits_58 : decode cX6_fits 58 = .ok (.iconst 0, 1) := by decide +kernel
theorem dX6_fits_59 : decode cX6_fits 59 = .ok (.istore 6, 2) := by decide +kernel
theorem dX6_fits_61 : decode cX6_fits 61 = .ok (.bipush (-3), 2) := by decide +kernel
theorem dX6_fits_63 : decode cX6_fits 63 = .ok (.istore 7, 2) := by decide +kernel
theorem dX6_fits_65 : decode cX6_fits 65 = .ok (.bipush 15, 2) := by decide +kernel
theorem dX6_fits_67 : decode cX6_fits 67 = .ok (.istore 8, 2) := by decide +kernel
theorem dX6_fits_69 : decode cX6_fits 69 = .ok (.iload 8, 2) := by decide +kernel
theorem dX6_fits_71 : decode cX6_fits 71 = .ok (.ifCond .lt 55, 3) := by decide +kernel
theorem dX6_fits_74 : decode cX6_fits 74 = .ok (.aload_n 0, 1) := by decide +kernel
theorem dX6_fits_75 : decode cX6_fits 75 = .ok (.getfield 7, 3) := by decide +kernel
theorem dX6_fits_78 : decode cX6_fits 78 = .ok (.iload 4, 2) := by decide +kernel
theorem dX6_fits_80 : decode cX6_fits 80 = .ok (.iload 8, 2) := by decide +kernel
theorem dX6_fits_82 : decode cX6_fits 82 = .ok (.iastore, 1) := by decide +kernel
theorem dX6_fits_83 : decode cX6_fits 83 = .ok (.aload_n 0, 1) := by decide +kernel
theorem dX6_fits_84 : decode cX6_fits 84 = .ok (.iload_n 1, 1) := by decide +kernel
theorem dX6_fits_85 : decode cX6_fits 85 = .ok (.iload_n 2, 1) := by decide +kernel
theorem dX6_fits_86 : decode cX6_fits 86 = .ok (.invokevirtual 260, 3) := by decide +kernel
theorem dX6_fits_89 : decode cX6_fits 89 = .ok (.istore 9, 2) := by decide +kernel
theorem dX6_fits_91 : decode cX6_fits 91 = .ok (.iload 6, 2) := by decide +kernel
theorem dX6_fits_93 : decode cX6_fits 93 = .ok (.iload 9, 2) := by decide +kernel
theorem dX6_fits_95 : decode cX6_fits 95 = .ok (.ifCond .eq 7, 3) := by decide +kernel
theorem dX6_fits_98 : decode cX6_fits 98 = .ok (.iconst 1, 1) := by decide +kernel
theorem dX6_fits_99 : decode cX6_fits 99 = .ok (.goto 4, 3) := by decide +kernel
theorem dX6_fits_102 : decode cX6_fits 102 = .ok (.iconst 0, 1) := by decide +kernel
theorem dX6_fits_103 : decode cX6_fits 103 = .ok (.iadd, 1) := by decide +kernel
theorem dX6_fits_104 : decode cX6_fits 104 = .ok (.istore 6, 2) := by decide +kernel
theorem dX6_fits_106 : decode cX6_fits 106 = .ok (.iload 9, 2) := by decide +kernel
theorem dX6_fits_108 : decode cX6_fits 108 = .ok (.ifCond .eq 8, 3) := by decide +kernel
theorem dX6_fits_111 : decode cX6_fits 111 = .ok (.iload 8, 2) := by decide +kernel
theorem dX6_fits_113 : decode cX6_fits 113 = .ok (.goto 5, 3) := by decide +kernel
theorem dX6_fits_116 : decode cX6_fits 116 = .ok (.iload 7, 2) := by decide +kernel
theorem dX6_fits_118 : decode cX6_fits 118 = .ok (.istore 7, 2) := by decide +kernel
theorem dX6_fits_120 : decode cX6_fits 120 = .ok (.iinc 8 (-1), 3) := by decide +kernel
theorem dX6_fits_123 : decode cX6_fits 123 = .ok (.goto (-54), 3) := by decide +kernel
theorem dX6_fits_126 : decode cX6_fits 126 = .ok (.aload_n 0, 1) := by decide +kernel
theorem dX6_fits_127 : decode cX6_fits 127 = .ok (.getfield 7, 3) := by decide +kernel
theorem dX6_fits_130 : decode cX6_fits 130 = .ok (.iload 4, 2) := by decide +kernel
theorem dX6_fits_132 : decode cX6_fits 132 = .ok (.iload 5, 2) := by decide +kernel
theorem dX6_fits_134 : decode cX6_fits 134 = .ok (.iastore, 1) := by decide +kernel
theorem dX6_fits_135 : decode cX6_fits 135 = .ok (.iload_n 3, 1) := by decide +kernel
theorem dX6_fits_136 : decode cX6_fits 136 = .ok (.ifCond .ne 8, 3) := by decide +kernel
theorem dX6_fits_139 : decode cX6_fits 139 = .ok (.iload 6, 2) := by decide +kernel
theorem dX6_fits_141 : decode cX6_fits 141 = .ok (.goto 5, 3) := by decide +kernel
theorem dX6_fits_144 : decode cX6_fits 144 = .ok (.iload 7, 2) := by decide +kernel
theorem dX6_fits_146 : decode cX6_fits 146 = .ok (.ireturn, 1) := by decide +kernel
theorem dX6_odds_0 : decode cX6_odds 0 = .ok (.iload_n 1, 1) := by decide +kernel
theorem dX6_odds_1 : decode cX6_odds 1 = .ok (.i2l, 1) := by decide +kernel
theorem dX6_odds_2 : decode cX6_odds 2 = .ok (.lconst 0, 1) := by decide +kernel
theorem dX6_odds_3 : decode cX6_odds 3 = .ok (.ldc2_w 68, 3) := by decide +kernel
theorem dX6_odds_6 : decode cX6_odds 6 = .ok (.invokestatic 70, 3) := by decide +kernel
theorem dX6_odds_9 : decode cX6_odds 9 = .ok (.ifCond .eq 24, 3) := by decide +kernel
theorem dX6_odds_12 : decode cX6_odds 12 = .ok (.iload_n 2, 1) := by decide +kernel
theorem dX6_odds_13 : decode cX6_odds 13 = .ok (.i2l, 1) := by decide +kernel
theorem dX6_odds_14 : decode cX6_odds 14 = .ok (.lconst 0, 1) := by decide +kernel
theorem dX6_odds_15 : decode cX6_odds 15 = .ok (.iload_n 1, 1) := by decide +kernel
theorem dX6_odds_16 : decode cX6_odds 16 = .ok (.i2l, 1) := by decide +kernel
theorem dX6_odds_17 : decode cX6_odds 17 = .ok (.invokestatic 70, 3) := by decide +kernel
theorem dX6_odds_20 : decode cX6_odds 20 = .ok (.ifCond .eq 13, 3) := by decide +kernel
theorem dX6_odds_23 : decode cX6_odds 23 = .ok (.iload_n 3, 1) := by decide +kernel
theorem dX6_odds_24 : decode cX6_odds 24 = .ok (.i2l, 1) := by decide +kernel
theorem dX6_odds_25 : decode cX6_odds 25 = .ok (.lconst 0, 1) := by decide +kernel
theorem dX6_odds_26 : decode cX6_odds 26 = .ok (.lconst 1, 1) := by decide +kernel
theorem dX6_odds_27 : decode cX6_odds 27 = .ok (.invokestatic 70, 3) := by decide +kernel
theorem dX6_odds_30 : decode cX6_odds 30 = .ok (.ifCond .ne 7, 3) := by decide +kernel
theorem dX6_odds_33 : decode cX6_odds 33 = .ok (.ldc2_w 263, 3) := by decide +kernel
theorem dX6_odds_36 : decode cX6_odds 36 = .ok (.lreturn, 1) := by decide +kernel
theorem dX6_odds_37 : decode cX6_odds 37 = .ok (.iload_n 1, 1) := by decide +kernel
theorem dX6_odds_38 : decode cX6_odds 38 = .ok (.invokestatic 265, 3) := by decide +kernel
theorem dX6_odds_41 : decode cX6_odds 41 = .ok (.iload_n 2, 1) := by decide +kernel
theorem dX6_odds_42 : decode cX6_odds 42 = .ok (.invokestatic 265, 3) := by decide +kernel
theorem dX6_odds_45 : decode cX6_odds 45 = .ok (.ldiv, 1) := by decide +kernel
theorem dX6_odds_46 : decode cX6_odds 46 = .ok (.iload_n 1, 1) := by decide +kernel
theorem dX6_odds_47 : decode cX6_odds 47 = .ok (.iload_n 2, 1) := by decide +kernel
theorem dX6_odds_48 : decode cX6_odds 48 = .ok (.isub, 1) := by decide +kernel
theorem dX6_odds_49 : decode cX6_odds 49 = .ok (.invokestatic 265, 3) := by decide +kernel
theorem dX6_odds_52 : decode cX6_odds 52 = .ok (.ldiv, 1) := by decide +kernel
theorem dX6_odds_53 : decode cX6_odds 53 = .ok (.lstore 4, 2) := by decide +kernel
theorem dX6_odds_55 : decode cX6_odds 55 = .ok (.lconst 1, 1) := by decide +kernel
theorem dX6_odds_56 : decode cX6_odds 56 = .ok (.lstore 6, 2) := by decide +kernel
theorem dX6_odds_58 : decode cX6_odds 58 = .ok (.iconst 0, 1) := by decide +kernel
theorem dX6_odds_59 : decode cX6_odds 59 = .ok (.istore 8, 2) := by decide +kernel
theorem dX6_odds_61 : decode cX6_odds 61 = .ok (.iload 8, 2) := by decide +kernel
theorem dX6_odds_63 : decode cX6_odds 63 = .ok (.iload_n 1, 1) := by decide +kernel
theorem dX6_odds_64 : decode cX6_odds 64 = .ok (.if_icmp .ge 50, 3) := by decide +kernel
theorem dX6_odds_67 : decode cX6_odds 67 = .ok (.lload 4, 2) := by decide +kernel
theorem dX6_odds_69 : decode cX6_odds 69 = .ok (.iload 8, 2) := by decide +kernel
theorem dX6_odds_71 : decode cX6_odds 71 = .ok (.iload_n 2, 1) := by decide +kernel
theorem dX6_odds_72 : decode cX6_odds 72 = .ok (.if_icmp .ge 14, 3) := by decide +kernel
theorem dX6_odds_75 : decode cX6_odds 75 = .ok (.aload_n 0, 1) := by decide +kernel
theorem dX6_odds_76 : decode cX6_odds 76 = .ok (.getfield 7, 3) := by decide +kernel
theorem dX6_odds_79 : decode cX6_odds 79 = .ok (.bipush 7, 2) := by decide +kernel
theorem dX6_odds_81 : decode cX6_odds 81 = .ok (.iaload, 1) := by decide +kernel
theorem dX6_odds_82 : decode cX6_odds 82 = .ok (.i2l, 1) := by decide +kernel
theorem dX6_odds_83 : decode cX6_odds 83 = .ok (.goto 14, 3) := by decide +kernel
theorem dX6_odds_86 : decode cX6_odds 86 = .ok (.bipush 100, 2) := by decide +kernel
theorem dX6_odds_88 : decode cX6_odds 88 = .ok (.aload_n 0, 1) := by decide +kernel
theorem dX6_odds_89 : decode cX6_odds 89 = .ok (.getfield 7, 3) := by decide +kernel
theorem dX6_odds_92 : decode cX6_odds 92 = .ok (.bipush 7, 2) := by decide +kernel
theorem dX6_odds_94 : decode cX6_odds 94 = .ok (.iaload, 1) := by decide +kernel
theorem dX6_odds_95 : decode cX6_odds 95 = .ok (.isub, 1) := by decide +kernel
theorem dX6_odds_96 : decode cX6_odds 96 = .ok (.i2l, 1) := by decide +kernel
theorem dX6_odds_97 : decode cX6_odds 97 = .ok (.lmul, 1) := by decide +kernel
theorem dX6_odds_98 : decode cX6_odds 98 = .ok (.lstore 4, 2) := by decide +kernel
theorem dX6_odds_100 : decode cX6_odds 100 = .ok (.lload 6, 2) := by decide +kernel
theorem dX6_odds_102 : decode cX6_odds 102 = .ok (.ldc2_w 269, 3) := by decide +kernel
theorem dX6_odds_105 : decode cX6_odds 105 = .ok (.lmul, 1) := by decide +kernel
theorem dX6_odds_106 : decode cX6_odds 106 = .ok (.lstore 6, 2) := by decide +kernel
theorem dX6_odds_108 : decode cX6_odds 108 = .ok (.iinc 8 1, 3) := by decide +kernel
theorem dX6_odds_111 : decode cX6_odds 111 = .ok (.goto (-50), 3) := by decide +kernel
theorem dX6_odds_114 : decode cX6_odds 114 = .ok (.lload 4, 2) := by decide +kernel
theorem dX6_odds_116 : decode cX6_odds 116 = .ok (.lload 6, 2) := by decide +kernel
theorem dX6_odds_118 : decode cX6_odds 118 = .ok (.iload_n 3, 1) := by decide +kernel
theorem dX6_odds_119 : decode cX6_odds 119 = .ok (.invokestatic 271, 3) := by decide +kernel
theorem dX6_odds_122 : decode cX6_odds 122 = .ok (.lreturn, 1) := by decide +kernel
theorem dX6_hope_0 : decode cX6_hope 0 = .ok (.iload_n 1, 1) := by decide +kernel
theorem dX6_hope_1 : decode cX6_hope 1 = .ok (.i2l, 1) := by decide +kernel
theorem dX6_hope_2 : decode cX6_hope 2 = .ok (.lconst 0, 1) := by decide +kernel
theorem dX6_hope_3 : decode cX6_hope 3 = .ok (.ldc2_w 170, 3) := by decide +kernel
theorem dX6_hope_6 : decode cX6_hope 6 = .ok (.invokestatic 70, 3) := by decide +kernel
theorem dX6_hope_9 : decode cX6_hope 9 = .ok (.ifCond .eq 34, 3) := by decide +kernel
theorem dX6_hope_12 : decode cX6_hope 12 = .ok (.iload_n 2, 1) := by decide +kernel
theorem dX6_hope_13 : decode cX6_hope 13 = .ok (.i2l, 1) := by decide +kernel
theorem dX6_hope_14 : decode cX6_hope 14 = .ok (.lconst 0, 1) := by decide +kernel
theorem dX6_hope_15 : decode cX6_hope 15 = .ok (.lconst 1, 1) := by decide +kernel
theorem dX6_hope_16 : decode cX6_hope 16 = .ok (.invokestatic 70, 3) := by decide +kernel
theorem dX6_hope_19 : decode cX6_hope 19 = .ok (.ifCond .eq 24, 3) := by decide +kernel
theorem dX6_hope_22 : decode cX6_hope 22 = .ok (.iload_n 1, 1) := by decide +kernel
theorem dX6_hope_23 : decode cX6_hope 23 = .ok (.i2l, 1) := by decide +kernel
theorem dX6_hope_24 : decode cX6_hope 24 = .ok (.aload_n 0, 1) := by decide +kernel
theorem dX6_hope_25 : decode cX6_hope 25 = .ok (.getfield 7, 3) := by decide +kernel
theorem dX6_hope_28 : decode cX6_hope 28 = .ok (.bipush 7, 2) := by decide +kernel
theorem dX6_hope_30 : decode cX6_hope 30 = .ok (.iaload, 1) := by decide +kernel
theorem dX6_hope_31 : decode cX6_hope 31 = .ok (.i2l, 1) := by decide +kernel
theorem dX6_hope_32 : decode cX6_hope 32 = .ok (.lmul, 1) := by decide +kernel
theorem dX6_hope_33 : decode cX6_hope 33 = .ok (.ldc2_w 269, 3) := by decide +kernel
theorem dX6_hope_36 : decode cX6_hope 36 = .ok (.iload_n 2, 1) := by decide +kernel
theorem dX6_hope_37 : decode cX6_hope 37 = .ok (.invokestatic 271, 3) := by decide +kernel
theorem dX6_hope_40 : decode cX6_hope 40 = .ok (.goto 6, 3) := by decide +kernel
theorem dX6_hope_43 : decode cX6_hope 43 = .ok (.ldc2_w 263, 3) := by decide +kernel
theorem dX6_hope_46 : decode cX6_hope 46 = .ok (.lreturn, 1) := by decide +kernel
theorem dX6_prove_0 : decode cX6_prove 0 = .ok (.aload_n 0, 1) := by decide +kernel
theorem dX6_prove_1 : decode cX6_prove 1 = .ok (.iload_n 1, 1) := by decide +kernel
theorem dX6_prove_2 : decode cX6_prove 2 = .ok (.invokevirtual 191, 3) := by decide +kernel
theorem dX6_prove_5 : decode cX6_prove 5 = .ok (.ifCond .eq 15, 3) := by decide +kernel
theorem dX6_prove_8 : decode cX6_prove 8 = .ok (.iload_n 2, 1) := by decide +kernel
theorem dX6_prove_9 : decode cX6_prove 9 = .ok (.i2l, 1) := by decide +kernel
theorem dX6_prove_10 : decode cX6_prove 10 = .ok (.lconst 1, 1) := by decide +kernel
theorem dX6_prove_11 : decode cX6_prove 11 = .ok (.ldc2_w 275, 3) := by decide +kernel
theorem dX6_prove_14 : decode cX6_prove 14 = .ok (.invokestatic 70, 3) := by decide +kernel
theorem dX6_prove_17 : decode cX6_prove 17 = .ok (.ifCond .ne 5, 3) := by decide +kernel
theorem dX6_prove_20 : decode cX6_prove 20 = .ok (.iconst (-1), 1) := by decide +kernel
theorem dX6_prove_21 : decode cX6_prove 21 = .ok (.ireturn, 1) := by decide +kernel
theorem dX6_prove_22 : decode cX6_prove 22 = .ok (.aload_n 0, 1) := by decide +kernel
theorem dX6_prove_23 : decode cX6_prove 23 = .ok (.getfield 7, 3) := by decide +kernel
theorem dX6_prove_26 : decode cX6_prove 26 = .ok (.aload_n 0, 1) := by decide +kernel
theorem dX6_prove_27 : decode cX6_prove 27 = .ok (.getfield 16, 3) := by decide +kernel
theorem dX6_prove_30 : decode cX6_prove 30 = .ok (.invokestatic 158, 3) := by decide +kernel
theorem dX6_prove_33 : decode cX6_prove 33 = .ok (.iconst 0, 1) := by decide +kernel
theorem dX6_prove_34 : decode cX6_prove 34 = .ok (.istore_n 3, 1) := by decide +kernel
theorem dX6_prove_35 : decode cX6_prove 35 = .ok (.iload_n 3, 1) := by decide +kernel
theorem dX6_prove_36 : decode cX6_prove 36 = .ok (.iload_n 2, 1) := by decide +kernel
theorem dX6_prove_37 : decode cX6_prove 37 = .ok (.if_icmp .ge 66, 3) := by decide +kernel
theorem dX6_prove_40 : decode cX6_prove 40 = .ok (.aload_n 0, 1) := by decide +kernel
theorem dX6_prove_41 : decode cX6_prove 41 = .ok (.invokevirtual 203, 3) := by decide +kernel
theorem dX6_prove_44 : decode cX6_prove 44 = .ok (.aload_n 0, 1) := by decide +kernel
theorem dX6_prove_45 : decode cX6_prove 45 = .ok (.getfield 37, 3) := by decide +kernel
theorem dX6_prove_48 : decode cX6_prove 48 = .ok (.iconst 3, 1) := by decide +kernel
theorem dX6_prove_49 : decode cX6_prove 49 = .ok (.iload_n 3, 1) := by decide +kernel
theorem dX6_prove_50 : decode cX6_prove 50 = .ok (.imul, 1) := by decide +kernel
theorem dX6_prove_51 : decode cX6_prove 51 = .ok (.aload_n 0, 1) := by decide +kernel
theorem dX6_prove_52 : decode cX6_prove 52 = .ok (.iload_n 1, 1) := by decide +kernel
theorem dX6_prove_53 : decode cX6_prove 53 = .ok (.iconst 3, 1) := by decide +kernel
theorem dX6_prove_54 : decode cX6_prove 54 = .ok (.invokevirtual 182, 3) := by decide +kernel
theorem dX6_prove_57 : decode cX6_prove 57 = .ok (.iastore, 1) := by decide +kernel
theorem dX6_prove_58 : decode cX6_prove 58 = .ok (.aload_n 0, 1) := by decide +kernel
theorem dX6_prove_59 : decode cX6_prove 59 = .ok (.getfield 37, 3) := by decide +kernel
theorem dX6_prove_62 : decode cX6_prove 62 = .ok (.iconst 3, 1) := by decide +kernel
theorem dX6_prove_63 : decode cX6_prove 63 = .ok (.iload_n 3, 1) := by decide +kernel
theorem dX6_prove_64 : decode cX6_prove 64 = .ok (.imul, 1) := by decide +kernel
theorem dX6_prove_65 : decode cX6_prove 65 = .ok (.iconst 1, 1) := by decide +kernel
theorem dX6_prove_66 : decode cX6_prove 66 = .ok (.iadd, 1) := by decide +kernel
theorem dX6_prove_67 : decode cX6_prove 67 = .ok (.aload_n 0, 1) := by decide +kernel
theorem dX6_prove_68 : decode cX6_prove 68 = .ok (.getfield 7, 3) := by decide +kernel
theorem dX6_prove_71 : decode cX6_prove 71 = .ok (.bipush 8, 2) := by decide +kernel
theorem dX6_prove_73 : decode cX6_prove 73 = .ok (.aload_n 0, 1) := by decide +kernel
theorem dX6_prove_74 : decode cX6_prove 74 = .ok (.iload_n 1, 1) := by decide +kernel
theorem dX6_prove_75 : decode cX6_prove 75 = .ok (.iconst 3, 1) := by decide +kernel
theorem dX6_prove_76 : decode cX6_prove 76 = .ok (.invokevirtual 182, 3) := by decide +kernel
theorem dX6_prove_79 : decode cX6_prove 79 = .ok (.iadd, 1) := by decide +kernel
theorem dX6_prove_80 : decode cX6_prove 80 = .ok (.iaload, 1) := by decide +kernel
theorem dX6_prove_81 : decode cX6_prove 81 = .ok (.iastore, 1) := by decide +kernel
theorem dX6_prove_82 : decode cX6_prove 82 = .ok (.aload_n 0, 1) := by decide +kernel
theorem dX6_prove_83 : decode cX6_prove 83 = .ok (.getfield 37, 3) := by decide +kernel
theorem dX6_prove_86 : decode cX6_prove 86 = .ok (.iconst 3, 1) := by decide +kernel
theorem dX6_prove_87 : decode cX6_prove 87 = .ok (.iload_n 3, 1) := by decide +kernel
theorem dX6_prove_88 : decode cX6_prove 88 = .ok (.imul, 1) := by decide +kernel
theorem dX6_prove_89 : decode cX6_prove 89 = .ok (.iconst 2, 1) := by decide +kernel
theorem dX6_prove_90 : decode cX6_prove 90 = .ok (.iadd, 1) := by decide +kernel
theorem dX6_prove_91 : decode cX6_prove 91 = .ok (.aload_n 0, 1) := by decide +kernel
theorem dX6_prove_92 : decode cX6_prove 92 = .ok (.iload_n 1, 1) := by decide +kernel
theorem dX6_prove_93 : decode cX6_prove 93 = .ok (.invokevirtual 241, 3) := by decide +kernel
theorem dX6_prove_96 : decode cX6_prove 96 = .ok (.iastore, 1) := by decide +kernel
theorem dX6_prove_97 : decode cX6_prove 97 = .ok (.iinc 3 1, 3) := by decide +kernel
theorem dX6_prove_100 : decode cX6_prove 100 = .ok (.goto (-65), 3) := by decide +kernel
theorem dX6_prove_103 : decode cX6_prove 103 = .ok (.aload_n 0, 1) := by decide +kernel
theorem dX6_prove_104 : decode cX6_prove 104 = .ok (.getfield 16, 3) := by decide +kernel
theorem dX6_prove_107 : decode cX6_prove 107 = .ok (.aload_n 0, 1) := by decide +kernel
theorem dX6_prove_108 : decode cX6_prove 108 = .ok (.getfield 7, 3) := by decide +kernel
theorem dX6_prove_111 : decode cX6_prove 111 = .ok (.invokestatic 158, 3) := by decide +kernel
theorem dX6_prove_114 : decode cX6_prove 114 = .ok (.aload_n 0, 1) := by decide +kernel
theorem dX6_prove_115 : decode cX6_prove 115 = .ok (.iload_n 2, 1) := by decide +kernel
theorem dX6_prove_116 : decode cX6_prove 116 = .ok (.putfield 165, 3) := by decide +kernel
theorem dX6_prove_119 : decode cX6_prove 119 = .ok (.iload_n 2, 1) := by decide +kernel
theorem dX6_prove_120 : decode cX6_prove 120 = .ok (.ireturn, 1) := by decide +kernel
theorem dX6_isRow_0 : decode cX6_isRow 0 = .ok (.iload_n 1, 1) := by decide +kernel
theorem dX6_isRow_1 : decode cX6_isRow 1 = .ok (.i2l, 1) := by decide +kernel
theorem dX6_isRow_2 : decode cX6_isRow 2 = .ok (.lconst 0, 1) := by decide +kernel
theorem dX6_isRow_3 : decode cX6_isRow 3 = .ok (.aload_n 0, 1) := by decide +kernel
theorem dX6_isRow_4 : decode cX6_isRow 4 = .ok (.getfield 165, 3) := by decide +kernel
theorem dX6_isRow_7 : decode cX6_isRow 7 = .ok (.iconst 1, 1) := by decide +kernel
theorem dX6_isRow_8 : decode cX6_isRow 8 = .ok (.isub, 1) := by decide +kernel
theorem dX6_isRow_9 : decode cX6_isRow 9 = .ok (.i2l, 1) := by decide +kernel
theorem dX6_isRow_10 : decode cX6_isRow 10 = .ok (.invokestatic 70, 3) := by decide +kernel
theorem dX6_isRow_13 : decode cX6_isRow 13 = .ok (.ifCond .eq 19, 3) := by decide +kernel
theorem dX6_isRow_16 : decode cX6_isRow 16 = .ok (.iload_n 2, 1) := by decide +kernel
theorem dX6_isRow_17 : decode cX6_isRow 17 = .ok (.i2l, 1) := by decide +kernel
theorem dX6_isRow_18 : decode cX6_isRow 18 = .ok (.lconst 0, 1) := by decide +kernel
theorem dX6_isRow_19 : decode cX6_isRow 19 = .ok (.ldc2_w 277, 3) := by decide +kernel
theorem dX6_isRow_22 : decode cX6_isRow 22 = .ok (.invokestatic 70, 3) := by decide +kernel
theorem dX6_isRow_25 : decode cX6_isRow 25 = .ok (.ifCond .eq 7, 3) := by decide +kernel
theorem dX6_isRow_28 : decode cX6_isRow 28 = .ok (.iconst 1, 1) := by decide +kernel
theorem dX6_isRow_29 : decode cX6_isRow 29 = .ok (.goto 4, 3) := by decide +kernel
theorem dX6_isRow_32 : decode cX6_isRow 32 = .ok (.iconst 0, 1) := by decide +kernel
theorem dX6_isRow_33 : decode cX6_isRow 33 = .ok (.ireturn, 1) := by decide +kernel
theorem dX6_row_0 : decode cX6_row 0 = .ok (.aload_n 0, 1) := by decide +kernel
theorem dX6_row_1 : decode cX6_row 1 = .ok (.iload_n 1, 1) := by decide +kernel
theorem dX6_row_2 : decode cX6_row 2 = .ok (.iload_n 2, 1) := by decide +kernel
theorem dX6_row_3 : decode cX6_row 3 = .ok (.invokevirtual 279, 3) := by decide +kernel
theorem dX6_row_6 : decode cX6_row 6 = .ok (.ifCond .eq 16, 3) := by decide +kernel
theorem dX6_row_9 : decode cX6_row 9 = .ok (.aload_n 0, 1) := by decide +kernel
theorem dX6_row_10 : decode cX6_row 10 = .ok (.getfield 37, 3) := by decide +kernel
theorem dX6_row_13 : decode cX6_row 13 = .ok (.iconst 3, 1) := by decide +kernel
theorem dX6_row_14 : decode cX6_row 14 = .ok (.iload_n 1, 1) := by decide +kernel
theorem dX6_row_15 : decode cX6_row 15 = .ok (.imul, 1) := by decide +kernel
theorem dX6_row_16 : decode cX6_row 16 = .ok (.iload_n 2, 1) := by decide +kernel
theorem dX6_row_17 : decode cX6_row 17 = .ok (.iadd, 1) := by decide +kernel
theorem dX6_row_18 : decode cX6_row 18 = .ok (.iaload, 1) := by decide +kernel
theorem dX6_row_19 : decode cX6_row 19 = .ok (.goto 5, 3) := by decide +kernel
theorem dX6_row_22 : decode cX6_row 22 = .ok (.bipush (-9), 2) := by decide +kernel
theorem dX6_row_24 : decode cX6_row 24 = .ok (.ireturn, 1) := by decide +kernel
theorem dX6_alterRow_0 : decode cX6_alterRow 0 = .ok (.aload_n 0, 1) := by decide +kernel
theorem dX6_alterRow_1 : decode cX6_alterRow 1 = .ok (.iload_n 1, 1) := by decide +kernel
theorem dX6_alterRow_2 : decode cX6_alterRow 2 = .ok (.iload_n 2, 1) := by decide +kernel
theorem dX6_alterRow_3 : decode cX6_alterRow 3 = .ok (.invokevirtual 279, 3) := by decide +kernel
theorem dX6_alterRow_6 : decode cX6_alterRow 6 = .ok (.ifCond .ne 6, 3) := by decide +kernel
theorem dX6_alterRow_9 : decode cX6_alterRow 9 = .ok (.bipush (-9), 2) := by decide +kernel
theorem dX6_alterRow_11 : decode cX6_alterRow 11 = .ok (.ireturn, 1) := by decide +kernel
theorem dX6_alterRow_12 : decode cX6_alterRow 12 = .ok (.aload_n 0, 1) := by decide +kernel
theorem dX6_alterRow_13 : decode cX6_alterRow 13 = .ok (.getfield 37, 3) := by decide +kernel
theorem dX6_alterRow_16 : decode cX6_alterRow 16 = .ok (.iconst 3, 1) := by decide +kernel
theorem dX6_alterRow_17 : decode cX6_alterRow 17 = .ok (.iload_n 1, 1) := by decide +kernel
theorem dX6_alterRow_18 : decode cX6_alterRow 18 = .ok (.imul, 1) := by decide +kernel
theorem dX6_alterRow_19 : decode cX6_alterRow 19 = .ok (.iload_n 2, 1) := by decide +kernel
theorem dX6_alterRow_20 : decode cX6_alterRow 20 = .ok (.iadd, 1) := by decide +kernel
theorem dX6_alterRow_21 : decode cX6_alterRow 21 = .ok (.iaload, 1) := by decide +kernel
theorem dX6_alterRow_22 : decode cX6_alterRow 22 = .ok (.istore 4, 2) := by decide +kernel
theorem dX6_alterRow_24 : decode cX6_alterRow 24 = .ok (.aload_n 0, 1) := by decide +kernel
theorem dX6_alterRow_25 : decode cX6_alterRow 25 = .ok (.getfield 37, 3) := by decide +kernel
theorem dX6_alterRow_28 : decode cX6_alterRow 28 = .ok (.iconst 3, 1) := by decide +kernel
theorem dX6_alterRow_29 : decode cX6_alterRow 29 = .ok (.iload_n 1, 1) := by decide +kernel
theorem dX6_alterRow_30 : decode cX6_alterRow 30 = .ok (.imul, 1) := by decide +kernel
theorem dX6_alterRow_31 : decode cX6_alterRow 31 = .ok (.iload_n 2, 1) := by decide +kernel
theorem dX6_alterRow_32 : decode cX6_alterRow 32 = .ok (.iadd, 1) := by decide +kernel
theorem dX6_alterRow_33 : decode cX6_alterRow 33 = .ok (.iload_n 3, 1) := by decide +kernel
theorem dX6_alterRow_34 : decode cX6_alterRow 34 = .ok (.iastore, 1) := by decide +kernel
theorem dX6_alterRow_35 : decode cX6_alterRow 35 = .ok (.iload 4, 2) := by decide +kernel
theorem dX6_alterRow_37 : decode cX6_alterRow 37 = .ok (.ireturn, 1) := by decide +kernel
theorem dX6_judge_0 : decode cX6_judge 0 = .ok (.aload_n 0, 1) := by decide +kernel
theorem dX6_judge_1 : decode cX6_judge 1 = .ok (.iload_n 1, 1) := by decide +kernel
theorem dX6_judge_2 : decode cX6_judge 2 = .ok (.invokevirtual 191, 3) := by decide +kernel
theorem dX6_judge_5 : decode cX6_judge 5 = .ok (.ifCond .ne 5, 3) := by decide +kernel
theorem dX6_judge_8 : decode cX6_judge 8 = .ok (.iconst (-1), 1) := by decide +kernel
theorem dX6_judge_9 : decode cX6_judge 9 = .ok (.ireturn, 1) := by decide +kernel
theorem dX6_judge_10 : decode cX6_judge 10 = .ok (.aload_n 0, 1) := by decide +kernel
theorem dX6_judge_11 : decode cX6_judge 11 = .ok (.getfield 7, 3) := by decide +kernel
theorem dX6_judge_14 : decode cX6_judge 14 = .ok (.aload_n 0, 1) := by decide +kernel
theorem dX6_judge_15 : decode cX6_judge 15 = .ok (.getfield 16, 3) := by decide +kernel
theorem dX6_judge_18 : decode cX6_judge 18 = .ok (.invokestatic 158, 3) := by decide +kernel
theorem dX6_judge_21 : decode cX6_judge 21 = .ok (.iconst 0, 1) := by decide +kernel
theorem dX6_judge_22 : decode cX6_judge 22 = .ok (.istore_n 2, 1) := by decide +kernel
theorem dX6_judge_23 : decode cX6_judge 23 = .ok (.iconst 1, 1) := by decide +kernel
theorem dX6_judge_24 : decode cX6_judge 24 = .ok (.istore_n 3, 1) := by decide +kernel
theorem dX6_judge_25 : decode cX6_judge 25 = .ok (.iload_n 2, 1) := by decide +kernel
theorem dX6_judge_26 : decode cX6_judge 26 = .ok (.aload_n 0, 1) := by decide +kernel
theorem dX6_judge_27 : decode cX6_judge 27 = .ok (.getfield 165, 3) := by decide +kernel
theorem dX6_judge_30 : decode cX6_judge 30 = .ok (.if_icmp .ge 85, 3) := by decide +kernel
theorem dX6_judge_33 : decode cX6_judge 33 = .ok (.iload_n 3, 1) := by decide +kernel
theorem dX6_judge_34 : decode cX6_judge 34 = .ok (.ifCond .eq 81, 3) := by decide +kernel
theorem dX6_judge_37 : decode cX6_judge 37 = .ok (.aload_n 0, 1) := by decide +kernel
theorem dX6_judge_38 : decode cX6_judge 38 = .ok (.invokevirtual 203, 3) := by decide +kernel
theorem dX6_judge_41 : decode cX6_judge 41 = .ok (.aload_n 0, 1) := by decide +kernel
theorem dX6_judge_42 : decode cX6_judge 42 = .ok (.getfield 37, 3) := by decide +kernel
theorem dX6_judge_45 : decode cX6_judge 45 = .ok (.iconst 3, 1) := by decide +kernel
theorem dX6_judge_46 : decode cX6_judge 46 = .ok (.iload_n 2, 1) := by decide +kernel
theorem dX6_judge_47 : decode cX6_judge 47 = .ok (.imul, 1) := by decide +kernel
theorem dX6_judge_48 : decode cX6_judge 48 = .ok (.iaload, 1) := by decide +kernel
theorem dX6_judge_49 : decode cX6_judge 49 = .ok (.aload_n 0, 1) := by decide +kernel
theorem dX6_judge_50 : decode cX6_judge 50 = .ok (.iload_n 1, 1) := by decide +kernel
theorem dX6_judge_51 : decode cX6_judge 51 = .ok (.iconst 3, 1) := by decide +kernel
theorem dX6_judge_52 : decode cX6_judge 52 = .ok (.invokevirtual 182, 3) := by decide +kernel
theorem dX6_judge_55 : decode cX6_judge 55 = .ok (.if_icmp .ne 52, 3) := by decide +kernel
theorem dX6_judge_58 : decode cX6_judge 58 = .ok (.aload_n 0, 1) := by decide +kernel
theorem dX6_judge_59 : decode cX6_judge 59 = .ok (.getfield 37, 3) := by decide +kernel
theorem dX6_judge_62 : decode cX6_judge 62 = .ok (.iconst 3, 1) := by decide +kernel
theorem dX6_judge_63 : decode cX6_judge 63 = .ok (.iload_n 2, 1) := by decide +kernel
theorem dX6_judge_64 : decode cX6_judge 64 = .ok (.imul, 1) := by decide +kernel
theorem dX6_judge_65 : decode cX6_judge 65 = .ok (.iconst 1, 1) := by decide +kernel
theorem dX6_judge_66 : decode cX6_judge 66 = .ok (.iadd, 1) := by decide +kernel
theorem dX6_judge_67 : decode cX6_judge 67 = .ok (.iaload, 1) := by decide +kernel
theorem dX6_judge_68 : decode cX6_judge 68 = .ok (.aload_n 0, 1) := by decide +kernel
theorem dX6_judge_69 : decode cX6_judge 69 = .ok (.getfield 7, 3) := by decide +kernel
theorem dX6_judge_72 : decode cX6_judge 72 = .ok (.bipush 8, 2) := by decide +kernel
theorem dX6_judge_74 : decode cX6_judge 74 = .ok (.aload_n 0, 1) := by decide +kernel
theorem dX6_judge_75 : decode cX6_judge 75 = .ok (.iload_n 1, 1) := by decide +kernel
theorem dX6_judge_76 : decode cX6_judge 76 = .ok (.iconst 3, 1) := by decide +kernel
theorem dX6_judge_77 : decode cX6_judge 77 = .ok (.invokevirtual 182, 3) := by decide +kernel
theorem dX6_judge_80 : decode cX6_judge 80 = .ok (.iadd, 1) := by decide +kernel
theorem dX6_judge_81 : decode cX6_judge 81 = .ok (.iaload, 1) := by decide +kernel
theorem dX6_judge_82 : decode cX6_judge 82 = .ok (.if_icmp .ne 25, 3) := by decide +kernel
theorem dX6_judge_85 : decode cX6_judge 85 = .ok (.aload_n 0, 1) := by decide +kernel
theorem dX6_judge_86 : decode cX6_judge 86 = .ok (.getfield 37, 3) := by decide +kernel
theorem dX6_judge_89 : decode cX6_judge 89 = .ok (.iconst 3, 1) := by decide +kernel
theorem dX6_judge_90 : decode cX6_judge 90 = .ok (.iload_n 2, 1) := by decide +kernel
theorem dX6_judge_91 : decode cX6_judge 91 = .ok (.imul, 1) := by decide +kernel
theorem dX6_judge_92 : decode cX6_judge 92 = .ok (.iconst 2, 1) := by decide +kernel
theorem dX6_judge_93 : decode cX6_judge 93 = .ok (.iadd, 1) := by decide +kernel
theorem dX6_judge_94 : decode cX6_judge 94 = .ok (.iaload, 1) := by decide +kernel
theorem dX6_judge_95 : decode cX6_judge 95 = .ok (.aload_n 0, 1) := by decide +kernel
theorem dX6_judge_96 : decode cX6_judge 96 = .ok (.iload_n 1, 1) := by decide +kernel
theorem dX6_judge_97 : decode cX6_judge 97 = .ok (.invokevirtual 241, 3) := by decide +kernel
theorem dX6_judge_100 : decode cX6_judge 100 = .ok (.if_icmp .ne 7, 3) := by decide +kernel
theorem dX6_judge_103 : decode cX6_judge 103 = .ok (.iconst 1, 1) := by decide +kernel
theorem dX6_judge_104 : decode cX6_judge 104 = .ok (.goto 4, 3) := by decide +kernel
theorem dX6_judge_107 : decode cX6_judge 107 = .ok (.iconst 0, 1) := by decide +kernel
theorem dX6_judge_108 : decode cX6_judge 108 = .ok (.istore_n 3, 1) := by decide +kernel
theorem dX6_judge_109 : decode cX6_judge 109 = .ok (.iinc 2 1, 3) := by decide +kernel
theorem dX6_judge_112 : decode cX6_judge 112 = .ok (.goto (-87), 3) := by decide +kernel
theorem dX6_judge_115 : decode cX6_judge 115 = .ok (.aload_n 0, 1) := by decide +kernel
theorem dX6_judge_116 : decode cX6_judge 116 = .ok (.getfield 16, 3) := by decide +kernel
theorem dX6_judge_119 : decode cX6_judge 119 = .ok (.aload_n 0, 1) := by decide +kernel
theorem dX6_judge_120 : decode cX6_judge 120 = .ok (.getfield 7, 3) := by decide +kernel
theorem dX6_judge_123 : decode cX6_judge 123 = .ok (.invokestatic 158, 3) := by decide +kernel
theorem dX6_judge_126 : decode cX6_judge 126 = .ok (.iload_n 3, 1) := by decide +kernel
theorem dX6_judge_127 : decode cX6_judge 127 = .ok (.ifCond .eq 7, 3) := by decide +kernel
theorem dX6_judge_130 : decode cX6_judge 130 = .ok (.iconst 0, 1) := by decide +kernel
theorem dX6_judge_131 : decode cX6_judge 131 = .ok (.goto 4, 3) := by decide +kernel
theorem dX6_judge_134 : decode cX6_judge 134 = .ok (.iload_n 2, 1) := by decide +kernel
theorem dX6_judge_135 : decode cX6_judge 135 = .ok (.ireturn, 1) := by decide +kernel
theorem dX6_isSheet_0 : decode cX6_isSheet 0 = .ok (.iload_n 0, 1) := by decide +kernel
theorem dX6_isSheet_1 : decode cX6_isSheet 1 = .ok (.i2l, 1) := by decide +kernel
theorem dX6_isSheet_2 : decode cX6_isSheet 2 = .ok (.lconst 0, 1) := by decide +kernel
theorem dX6_isSheet_3 : decode cX6_isSheet 3 = .ok (.ldc2_w 168, 3) := by decide +kernel
theorem dX6_isSheet_6 : decode cX6_isSheet 6 = .ok (.invokestatic 70, 3) := by decide +kernel
theorem dX6_isSheet_9 : decode cX6_isSheet 9 = .ok (.ireturn, 1) := by decide +kernel
theorem dX6_isShelf_0 : decode cX6_isShelf 0 = .ok (.iload_n 0, 1) := by decide +kernel
theorem dX6_isShelf_1 : decode cX6_isShelf 1 = .ok (.i2l, 1) := by decide +kernel
theorem dX6_isShelf_2 : decode cX6_isShelf 2 = .ok (.lconst 0, 1) := by decide +kernel
theorem dX6_isShelf_3 : decode cX6_isShelf 3 = .ok (.ldc2_w 168, 3) := by decide +kernel
theorem dX6_isShelf_6 : decode cX6_isShelf 6 = .ok (.invokestatic 70, 3) := by decide +kernel
theorem dX6_isShelf_9 : decode cX6_isShelf 9 = .ok (.ireturn, 1) := by decide +kernel
theorem dX6_sheet_0 : decode cX6_sheet 0 = .ok (.iload_n 1, 1) := by decide +kernel
theorem dX6_sheet_1 : decode cX6_sheet 1 = .ok (.invokestatic 257, 3) := by decide +kernel
theorem dX6_sheet_4 : decode cX6_sheet 4 = .ok (.ifCond .eq 27, 3) := by decide +kernel
theorem dX6_sheet_7 : decode cX6_sheet 7 = .ok (.iload_n 2, 1) := by decide +kernel
theorem dX6_sheet_8 : decode cX6_sheet 8 = .ok (.i2l, 1) := by decide +kernel
theorem dX6_sheet_9 : decode cX6_sheet 9 = .ok (.ldc2_w 263, 3) := by decide +kernel
theorem dX6_sheet_12 : decode cX6_sheet 12 = .ok (.ldc2_w 168, 3) := by decide +kernel
theorem dX6_sheet_15 : decode cX6_sheet 15 = .ok (.invokestatic 70, 3) := by decide +kernel
theorem dX6_sheet_18 : decode cX6_sheet 18 = .ok (.ifCond .eq 13, 3) := by decide +kernel
theorem dX6_sheet_21 : decode cX6_sheet 21 = .ok (.iload_n 2, 1) := by decide +kernel
theorem dX6_sheet_22 : decode cX6_sheet 22 = .ok (.ifCond .lt 11, 3) := by decide +kernel
theorem dX6_sheet_25 : decode cX6_sheet 25 = .ok (.iload_n 3, 1) := by decide +kernel
theorem dX6_sheet_26 : decode cX6_sheet 26 = .ok (.bipush 40, 2) := by decide +kernel
theorem dX6_sheet_28 : decode cX6_sheet 28 = .ok (.if_icmp .le 5, 3) := by decide +kernel
theorem dX6_sheet_31 : decode cX6_sheet 31 = .ok (.iconst (-1), 1) := by decide +kernel
theorem dX6_sheet_32 : decode cX6_sheet 32 = .ok (.ireturn, 1) := by decide +kernel
theorem dX6_sheet_33 : decode cX6_sheet 33 = .ok (.iload_n 2, 1) := by decide +kernel
theorem dX6_sheet_34 : decode cX6_sheet 34 = .ok (.ifCond .lt 10, 3) := by decide +kernel
theorem dX6_sheet_37 : decode cX6_sheet 37 = .ok (.iload_n 3, 1) := by decide +kernel
theorem dX6_sheet_38 : decode cX6_sheet 38 = .ok (.ifCond .ge 6, 3) := by decide +kernel
theorem dX6_sheet_41 : decode cX6_sheet 41 = .ok (.bipush (-14), 2) := by decide +kernel
theorem dX6_sheet_43 : decode cX6_sheet 43 = .ok (.ireturn, 1) := by decide +kernel
theorem dX6_sheet_44 : decode cX6_sheet 44 = .ok (.aload_n 0, 1) := by decide +kernel
theorem dX6_sheet_45 : decode cX6_sheet 45 = .ok (.getfield 40, 3) := by decide +kernel
theorem dX6_sheet_48 : decode cX6_sheet 48 = .ok (.iload_n 1, 1) := by decide +kernel
theorem dX6_sheet_49 : decode cX6_sheet 49 = .ok (.iload_n 2, 1) := by decide +kernel
theorem dX6_sheet_50 : decode cX6_sheet 50 = .ok (.iastore, 1) := by decide +kernel
theorem dX6_sheet_51 : decode cX6_sheet 51 = .ok (.aload_n 0, 1) := by decide +kernel
theorem dX6_sheet_52 : decode cX6_sheet 52 = .ok (.getfield 43, 3) := by decide +kernel
theorem dX6_sheet_55 : decode cX6_sheet 55 = .ok (.iload_n 1, 1) := by decide +kernel
theorem dX6_sheet_56 : decode cX6_sheet 56 = .ok (.iload_n 2, 1) := by decide +kernel
theorem dX6_sheet_57 : decode cX6_sheet 57 = .ok (.ifCond .ge 7, 3) := by decide +kernel
theorem dX6_sheet_60 : decode cX6_sheet 60 = .ok (.iconst 0, 1) := by decide +kernel
theorem dX6_sheet_61 : decode cX6_sheet 61 = .ok (.goto 4, 3) := by decide +kernel
theorem dX6_sheet_64 : decode cX6_sheet 64 = .ok (.iload_n 3, 1) := by decide +kernel
theorem dX6_sheet_65 : decode cX6_sheet 65 = .ok (.iastore, 1) := by decide +kernel
theorem dX6_sheet_66 : decode cX6_sheet 66 = .ok (.iconst 0, 1) := by decide +kernel
theorem dX6_sheet_67 : decode cX6_sheet 67 = .ok (.istore 4, 2) := by decide +kernel
theorem dX6_sheet_69 : decode cX6_sheet 69 = .ok (.iload 4, 2) := by decide +kernel
theorem dX6_sheet_71 : decode cX6_sheet 71 = .ok (.bipush 40, 2) := by decide +kernel
theorem dX6_sheet_73 : decode cX6_sheet 73 = .ok (.if_icmp .ge 22, 3) := by decide +kernel
theorem dX6_sheet_76 : decode cX6_sheet 76 = .ok (.aload_n 0, 1) := by decide +kernel
theorem dX6_sheet_77 : decode cX6_sheet 77 = .ok (.getfield 46, 3) := by decide +kernel
theorem dX6_sheet_80 : decode cX6_sheet 80 = .ok (.bipush 40, 2) := by decide +kernel
theorem dX6_sheet_82 : decode cX6_sheet 82 = .ok (.iload_n 1, 1) := by decide +kernel
theorem dX6_sheet_83 : decode cX6_sheet 83 = .ok (.imul, 1) := by decide +kernel
theorem dX6_sheet_84 : decode cX6_sheet 84 = .ok (.iload 4, 2) := by decide +kernel
theorem dX6_sheet_86 : decode cX6_sheet 86 = .ok (.iadd, 1) := by decide +kernel
theorem dX6_sheet_87 : decode cX6_sheet 87 = .ok (.iconst 0, 1) := by decide +kernel
theorem dX6_sheet_88 : decode cX6_sheet 88 = .ok (.iastore, 1) := by decide +kernel
theorem dX6_sheet_89 : decode cX6_sheet 89 = .ok (.iinc 4 1, 3) := by decide +kernel
theorem dX6_sheet_92 : decode cX6_sheet 92 = .ok (.goto (-23), 3) := by decide +kernel
theorem dX6_sheet_95 : decode cX6_sheet 95 = .ok (.iconst 1, 1) := by decide +kernel
theorem dX6_sheet_96 : decode cX6_sheet 96 = .ok (.ireturn, 1) := by decide +kernel
theorem dX6_put_0 : decode cX6_put 0 = .ok (.iload_n 1, 1) := by decide +kernel
theorem dX6_put_1 : decode cX6_put 1 = .ok (.invokestatic 257, 3) := by decide +kernel
theorem dX6_put_4 : decode cX6_put 4 = .ok (.ifCond .ne 5, 3) := by decide +kernel
theorem dX6_put_7 : decode cX6_put 7 = .ok (.iconst (-1), 1) := by decide +kernel
theorem dX6_put_8 : decode cX6_put 8 = .ok (.ireturn, 1) := by decide +kernel
theorem dX6_put_9 : decode cX6_put 9 = .ok (.aload_n 0, 1) := by decide +kernel
theorem dX6_put_10 : decode cX6_put 10 = .ok (.getfield 40, 3) := by decide +kernel
theorem dX6_put_13 : decode cX6_put 13 = .ok (.iload_n 1, 1) := by decide +kernel
theorem dX6_put_14 : decode cX6_put 14 = .ok (.iaload, 1) := by decide +kernel
theorem dX6_put_15 : decode cX6_put 15 = .ok (.ifCond .ge 6, 3) := by decide +kernel
theorem dX6_put_18 : decode cX6_put 18 = .ok (.bipush (-11), 2) := by decide +kernel
theorem dX6_put_20 : decode cX6_put 20 = .ok (.ireturn, 1) := by decide +kernel
theorem dX6_put_21 : decode cX6_put 21 = .ok (.iload_n 2, 1) := by decide +kernel
theorem dX6_put_22 : decode cX6_put 22 = .ok (.i2l, 1) := by decide +kernel
theorem dX6_put_23 : decode cX6_put 23 = .ok (.lconst 0, 1) := by decide +kernel
theorem dX6_put_24 : decode cX6_put 24 = .ok (.aload_n 0, 1) := by decide +kernel
theorem dX6_put_25 : decode cX6_put 25 = .ok (.getfield 43, 3) := by decide +kernel
theorem dX6_put_28 : decode cX6_put 28 = .ok (.iload_n 1, 1) := by decide +kernel
theorem dX6_put_29 : decode cX6_put 29 = .ok (.iaload, 1) := by decide +kernel
theorem dX6_put_30 : decode cX6_put 30 = .ok (.iconst 1, 1) := by decide +kernel
theorem dX6_put_31 : decode cX6_put 31 = .ok (.isub, 1) := by decide +kernel
theorem dX6_put_32 : decode cX6_put 32 = .ok (.i2l, 1) := by decide +kernel
theorem dX6_put_33 : decode cX6_put 33 = .ok (.invokestatic 70, 3) := by decide +kernel
theorem dX6_put_36 : decode cX6_put 36 = .ok (.ifCond .ne 6, 3) := by decide +kernel
theorem dX6_put_39 : decode cX6_put 39 = .ok (.bipush (-12), 2) := by decide +kernel
theorem dX6_put_41 : decode cX6_put 41 = .ok (.ireturn, 1) := by decide +kernel
theorem dX6_put_42 : decode cX6_put 42 = .ok (.aload_n 0, 1) := by decide +kernel
theorem dX6_put_43 : decode cX6_put 43 = .ok (.getfield 46, 3) := by decide +kernel
theorem dX6_put_46 : decode cX6_put 46 = .ok (.bipush 40, 2) := by decide +kernel
theorem dX6_put_48 : decode cX6_put 48 = .ok (.iload_n 1, 1) := by decide +kernel
theorem dX6_put_49 : decode cX6_put 49 = .ok (.imul, 1) := by decide +kernel
theorem dX6_put_50 : decode cX6_put 50 = .ok (.iload_n 2, 1) := by decide +kernel
theorem dX6_put_51 : decode cX6_put 51 = .ok (.iadd, 1) := by decide +kernel
theorem dX6_put_52 : decode cX6_put 52 = .ok (.aload_n 0, 1) := by decide +kernel
theorem dX6_put_53 : decode cX6_put 53 = .ok (.getfield 40, 3) := by decide +kernel
theorem dX6_put_56 : decode cX6_put 56 = .ok (.iload_n 1, 1) := by decide +kernel
theorem dX6_put_57 : decode cX6_put 57 = .ok (.iaload, 1) := by decide +kernel
theorem dX6_put_58 : decode cX6_put 58 = .ok (.ifCond .ne 8, 3) := by decide +kernel
theorem dX6_put_61 : decode cX6_put 61 = .ok (.iload_n 3, 1) := by decide +kernel
theorem dX6_put_62 : decode cX6_put 62 = .ok (.i2b, 1) := by decide +kernel
theorem dX6_put_63 : decode cX6_put 63 = .ok (.goto 19, 3) := by decide +kernel
theorem dX6_put_66 : decode cX6_put 66 = .ok (.aload_n 0, 1) := by decide +kernel
theorem dX6_put_67 : decode cX6_put 67 = .ok (.getfield 40, 3) := by decide +kernel
theorem dX6_put_70 : decode cX6_put 70 = .ok (.iload_n 1, 1) := by decide +kernel
theorem dX6_put_71 : decode cX6_put 71 = .ok (.iaload, 1) := by decide +kernel
theorem dX6_put_72 : decode cX6_put 72 = .ok (.iconst 1, 1) := by decide +kernel
theorem dX6_put_73 : decode cX6_put 73 = .ok (.if_icmp .ne 8, 3) := by decide +kernel
theorem dX6_put_76 : decode cX6_put 76 = .ok (.iload_n 3, 1) := by decide +kernel
theorem dX6_put_77 : decode cX6_put 77 = .ok (.i2s, 1) := by decide +kernel
theorem dX6_put_78 : decode cX6_put 78 = .ok (.goto 4, 3) := by decide +kernel
theorem dX6_put_81 : decode cX6_put 81 = .ok (.iload_n 3, 1) := by decide +kernel
theorem dX6_put_82 : decode cX6_put 82 = .ok (.iastore, 1) := by decide +kernel
theorem dX6_put_83 : decode cX6_put 83 = .ok (.iconst 1, 1) := by decide +kernel
theorem dX6_put_84 : decode cX6_put 84 = .ok (.ireturn, 1) := by decide +kernel
theorem dX6_lacks_0 : decode cX6_lacks 0 = .ok (.aload_n 0, 1) := by decide +kernel
theorem dX6_lacks_1 : decode cX6_lacks 1 = .ok (.getfield 40, 3) := by decide +kernel
theorem dX6_lacks_4 : decode cX6_lacks 4 = .ok (.iload_n 1, 1) := by decide +kernel
theorem dX6_lacks_5 : decode cX6_lacks 5 = .ok (.iaload, 1) := by decide +kernel
theorem dX6_lacks_6 : decode cX6_lacks 6 = .ok (.ifCond .ge 8, 3) := by decide +kernel
theorem dX6_lacks_9 : decode cX6_lacks 9 = .ok (.bipush (-11), 2) := by decide +kernel
theorem dX6_lacks_11 : decode cX6_lacks 11 = .ok (.goto 19, 3) := by decide +kernel
theorem dX6_lacks_14 : decode cX6_lacks 14 = .ok (.aload_n 0, 1) := by decide +kernel
theorem dX6_lacks_15 : decode cX6_lacks 15 = .ok (.getfield 40, 3) := by decide +kernel
theorem dX6_lacks_18 : decode cX6_lacks 18 = .ok (.iload_n 1, 1) := by decide +kernel
theorem dX6_lacks_19 : decode cX6_lacks 19 = .ok (.iaload, 1) := by decide +kernel
theorem dX6_lacks_20 : decode cX6_lacks 20 = .ok (.iload_n 2, 1) := by decide +kernel
theorem dX6_lacks_21 : decode cX6_lacks 21 = .ok (.if_icmp .eq 8, 3) := by decide +kernel
theorem dX6_lacks_24 : decode cX6_lacks 24 = .ok (.bipush (-13), 2) := by decide +kernel
theorem dX6_lacks_26 : decode cX6_lacks 26 = .ok (.goto 4, 3) := by decide +kernel
theorem dX6_lacks_29 : decode cX6_lacks 29 = .ok (.iconst 0, 1) := by decide +kernel
theorem dX6_lacks_30 : decode cX6_lacks 30 = .ok (.ireturn, 1) := by decide +kernel
theorem dX6_item_0 : decode cX6_item 0 = .ok (.iload_n 1, 1) := by decide +kernel
theorem dX6_item_1 : decode cX6_item 1 = .ok (.invokestatic 257, 3) := by decide +kernel
theorem dX6_item_4 : decode cX6_item 4 = .ok (.ifCond .eq 15, 3) := by decide +kernel
theorem dX6_item_7 : decode cX6_item 7 = .ok (.iload_n 2, 1) := by decide +kernel
theorem dX6_item_8 : decode cX6_item 8 = .ok (.i2l, 1) := by decide +kernel
theorem dX6_item_9 : decode cX6_item 9 = .ok (.lconst 0, 1) := by decide +kernel
theorem dX6_item_10 : decode cX6_item 10 = .ok (.ldc2_w 168, 3) := by decide +kernel
theorem dX6_item_13 : decode cX6_item 13 = .ok (.invokestatic 70, 3) := by decide +kernel
theorem dX6_item_16 : decode cX6_item 16 = .ok (.ifCond .ne 5, 3) := by decide +kernel
theorem dX6_item_19 : decode cX6_item 19 = .ok (.iconst (-1), 1) := by decide +kernel
theorem dX6_item_20 : decode cX6_item 20 = .ok (.ireturn, 1) := by decide +kernel
theorem dX6_item_21 : decode cX6_item 21 = .ok (.aload_n 0, 1) := by decide +kernel
theorem dX6_item_22 : decode cX6_item 22 = .ok (.iload_n 1, 1) := by decide +kernel
theorem dX6_item_23 : decode cX6_item 23 = .ok (.iload_n 2, 1) := by decide +kernel
theorem dX6_item_24 : decode cX6_item 24 = .ok (.invokevirtual 282, 3) := by decide +kernel
theorem dX6_item_27 : decode cX6_item 27 = .ok (.ifCond .eq 10, 3) := by decide +kernel
theorem dX6_item_30 : decode cX6_item 30 = .ok (.aload_n 0, 1) := by decide +kernel
theorem dX6_item_31 : decode cX6_item 31 = .ok (.iload_n 1, 1) := by decide +kernel
theorem dX6_item_32 : decode cX6_item 32 = .ok (.iload_n 2, 1) := by decide +kernel
theorem dX6_item_33 : decode cX6_item 33 = .ok (.invokevirtual 282, 3) := by decide +kernel
theorem dX6_item_36 : decode cX6_item 36 = .ok (.ireturn, 1) := by decide +kernel
theorem dX6_item_37 : decode cX6_item 37 = .ok (.iload_n 3, 1) := by decide +kernel
theorem dX6_item_38 : decode cX6_item 38 = .ok (.i2l, 1) := by decide +kernel
theorem dX6_item_39 : decode cX6_item 39 = .ok (.lconst 0, 1) := by decide +kernel
theorem dX6_item_40 : decode cX6_item 40 = .ok (.aload_n 0, 1) := by decide +kernel
theorem dX6_item_41 : decode cX6_item 41 = .ok (.getfield 43, 3) := by decide +kernel
theorem dX6_item_44 : decode cX6_item 44 = .ok (.iload_n 1, 1) := by decide +kernel
theorem dX6_item_45 : decode cX6_item 45 = .ok (.iaload, 1) := by decide +kernel
theorem dX6_item_46 : decode cX6_item 46 = .ok (.iconst 1, 1) := by decide +kernel
theorem dX6_item_47 : decode cX6_item 47 = .ok (.isub, 1) := by decide +kernel
theorem dX6_item_48 : decode cX6_item 48 = .ok (.i2l, 1) := by decide +kernel
theorem dX6_item_49 : decode cX6_item 49 = .ok (.invokestatic 70, 3) := by decide +kernel
theorem dX6_item_52 : decode cX6_item 52 = .ok (.ifCond .eq 17, 3) := by decide +kernel
theorem dX6_item_55 : decode cX6_item 55 = .ok (.aload_n 0, 1) := by decide +kernel
theorem dX6_item_56 : decode cX6_item 56 = .ok (.getfield 46, 3) := by decide +kernel
theorem dX6_item_59 : decode cX6_item 59 = .ok (.bipush 40, 2) := by decide +kernel
theorem dX6_item_61 : decode cX6_item 61 = .ok (.iload_n 1, 1) := by decide +kernel
theorem dX6_item_62 : decode cX6_item 62 = .ok (.imul, 1) := by decide +kernel
theorem dX6_item_63 : decode cX6_item 63 = .ok (.iload_n 3, 1) := by decide +kernel
theorem dX6_item_64 : decode cX6_item 64 = .ok (.iadd, 1) := by decide +kernel
theorem dX6_item_65 : decode cX6_item 65 = .ok (.iaload, 1) := by decide +kernel
theorem dX6_item_66 : decode cX6_item 66 = .ok (.goto 5, 3) := by decide +kernel
theorem dX6_item_69 : decode cX6_item 69 = .ok (.bipush (-12), 2) := by decide +kernel
theorem dX6_item_71 : decode cX6_item 71 = .ok (.ireturn, 1) := by decide +kernel
theorem dX6_minds_0 : decode cX6_minds 0 = .ok (.iload_n 1, 1) := by decide +kernel
theorem dX6_minds_1 : decode cX6_minds 1 = .ok (.invokestatic 257, 3) := by decide +kernel
theorem dX6_minds_4 : decode cX6_minds 4 = .ok (.ifCond .eq 37, 3) := by decide +kernel
theorem dX6_minds_7 : decode cX6_minds 7 = .ok (.aload_n 0, 1) := by decide +kernel
theorem dX6_minds_8 : decode cX6_minds 8 = .ok (.iload_n 3, 1) := by decide +kernel
theorem dX6_minds_9 : decode cX6_minds 9 = .ok (.invokevirtual 191, 3) := by decide +kernel
theorem dX6_minds_12 : decode cX6_minds 12 = .ok (.ifCond .eq 29, 3) := by decide +kernel
theorem dX6_minds_15 : decode cX6_minds 15 = .ok (.iload 4, 2) := by decide +kernel
theorem dX6_minds_17 : decode cX6_minds 17 = .ok (.i2l, 1) := by decide +kernel
theorem dX6_minds_18 : decode cX6_minds 18 = .ok (.lconst 0, 1) := by decide +kernel
theorem dX6_minds_19 : decode cX6_minds 19 = .ok (.ldc2_w 68, 3) := by decide +kernel
theorem dX6_minds_22 : decode cX6_minds 22 = .ok (.invokestatic 70, 3) := by decide +kernel
theorem dX6_minds_25 : decode cX6_minds 25 = .ok (.ifCond .eq 16, 3) := by decide +kernel
theorem dX6_minds_28 : decode cX6_minds 28 = .ok (.iload_n 3, 1) := by decide +kernel
theorem dX6_minds_29 : decode cX6_minds 29 = .ok (.iload 4, 2) := by decide +kernel
theorem dX6_minds_31 : decode cX6_minds 31 = .ok (.iadd, 1) := by decide +kernel
theorem dX6_minds_32 : decode cX6_minds 32 = .ok (.aload_n 0, 1) := by decide +kernel
theorem dX6_minds_33 : decode cX6_minds 33 = .ok (.getfield 7, 3) := by decide +kernel
theorem dX6_minds_36 : decode cX6_minds 36 = .ok (.iconst 0, 1) := by decide +kernel
theorem dX6_minds_37 : decode cX6_minds 37 = .ok (.iaload, 1) := by decide +kernel
theorem dX6_minds_38 : decode cX6_minds 38 = .ok (.if_icmp .le 5, 3) := by decide +kernel
theorem dX6_minds_41 : decode cX6_minds 41 = .ok (.iconst (-1), 1) := by decide +kernel
theorem dX6_minds_42 : decode cX6_minds 42 = .ok (.ireturn, 1) := by decide +kernel
theorem dX6_minds_43 : decode cX6_minds 43 = .ok (.aload_n 0, 1) := by decide +kernel
theorem dX6_minds_44 : decode cX6_minds 44 = .ok (.iload_n 1, 1) := by decide +kernel
theorem dX6_minds_45 : decode cX6_minds 45 = .ok (.iconst 0, 1) := by decide +kernel
theorem dX6_minds_46 : decode cX6_minds 46 = .ok (.invokevirtual 282, 3) := by decide +kernel
theorem dX6_minds_49 : decode cX6_minds 49 = .ok (.ifCond .eq 10, 3) := by decide +kernel
theorem dX6_minds_52 : decode cX6_minds 52 = .ok (.aload_n 0, 1) := by decide +kernel
theorem dX6_minds_53 : decode cX6_minds 53 = .ok (.iload_n 1, 1) := by decide +kernel
theorem dX6_minds_54 : decode cX6_minds 54 = .ok (.iconst 0, 1) := by decide +kernel
theorem dX6_minds_55 : decode cX6_minds 55 = .ok (.invokevirtual 282, 3) := by decide +kernel
theorem dX6_minds_58 : decode cX6_minds 58 = .ok (.ireturn, 1) := by decide +kernel
theorem dX6_minds_59 : decode cX6_minds 59 = .ok (.iload_n 2, 1) := by decide +kernel
theorem dX6_minds_60 : decode cX6_minds 60 = .ok (.i2l, 1) := by decide +kernel
theorem dX6_minds_61 : decode cX6_minds 61 = .ok (.lconst 0, 1) := by decide +kernel
theorem dX6_minds_62 : decode cX6_minds 62 = .ok (.aload_n 0, 1) := by decide +kernel
theorem dX6_minds_63 : decode cX6_minds 63 = .ok (.getfield 43, 3) := by decide +kernel
theorem dX6_minds_66 : decode cX6_minds 66 = .ok (.iload_n 1, 1) := by decide +kernel
theorem dX6_minds_67 : decode cX6_minds 67 = .ok (.iaload, 1) := by decide +kernel
theorem dX6_minds_68 : decode cX6_minds 68 = .ok (.i2l, 1) := by decide +kernel
theorem dX6_minds_69 : decode cX6_minds 69 = .ok (.invokestatic 70, 3) := by decide +kernel
theorem dX6_minds_72 : decode cX6_minds 72 = .ok (.ifCond .eq 20, 3) := by decide +kernel
theorem dX6_minds_75 : decode cX6_minds 75 = .ok (.iload_n 2, 1) := by decide +kernel
theorem dX6_minds_76 : decode cX6_minds 76 = .ok (.i2l, 1) := by decide +kernel
theorem dX6_minds_77 : decode cX6_minds 77 = .ok (.iload 4, 2) := by decide +kernel
theorem dX6_minds_79 : decode cX6_minds 79 = .ok (.i2l, 1) := by decide +kernel
theorem dX6_minds_80 : decode cX6_minds 80 = .ok (.ladd, 1) := by decide +kernel
theorem dX6_minds_81 : decode cX6_minds 81 = .ok (.aload_n 0, 1) := by decide +kernel
theorem dX6_minds_82 : decode cX6_minds 82 = .ok (.getfield 43, 3) := by decide +kernel
theorem dX6_minds_85 : decode cX6_minds 85 = .ok (.iload_n 1, 1) := by decide +kernel
theorem dX6_minds_86 : decode cX6_minds 86 = .ok (.iaload, 1) := by decide +kernel
theorem dX6_minds_87 : decode cX6_minds 87 = .ok (.i2l, 1) := by decide +kernel
theorem dX6_minds_88 : decode cX6_minds 88 = .ok (.lcmp, 1) := by decide +kernel
theorem dX6_minds_89 : decode cX6_minds 89 = .ok (.ifCond .le 6, 3) := by decide +kernel
theorem dX6_minds_92 : decode cX6_minds 92 = .ok (.bipush (-12), 2) := by decide +kernel
theorem dX6_minds_94 : decode cX6_minds 94 = .ok (.ireturn, 1) := by decide +kernel
theorem dX6_minds_95 : decode cX6_minds 95 = .ok (.iconst 0, 1) := by decide +kernel
theorem dX6_minds_96 : decode cX6_minds 96 = .ok (.istore 5, 2) := by decide +kernel
theorem dX6_minds_98 : decode cX6_minds 98 = .ok (.iload 5, 2) := by decide +kernel
theorem dX6_minds_100 : decode cX6_minds 100 = .ok (.iload 4, 2) := by decide +kernel
theorem dX6_minds_102 : decode cX6_minds 102 = .ok (.if_icmp .ge 42, 3) := by decide +kernel
theorem dX6_minds_105 : decode cX6_minds 105 = .ok (.aload_n 0, 1) := by decide +kernel
theorem dX6_minds_106 : decode cX6_minds 106 = .ok (.getfield 7, 3) := by decide +kernel
theorem dX6_minds_109 : decode cX6_minds 109 = .ok (.bipush 24, 2) := by decide +kernel
theorem dX6_minds_111 : decode cX6_minds 111 = .ok (.iconst 4, 1) := by decide +kernel
theorem dX6_minds_112 : decode cX6_minds 112 = .ok (.iload_n 3, 1) := by decide +kernel
theorem dX6_minds_113 : decode cX6_minds 113 = .ok (.iload 5, 2) := by decide +kernel
theorem dX6_minds_115 : decode cX6_minds 115 = .ok (.iadd, 1) := by decide +kernel
theorem dX6_minds_116 : decode cX6_minds 116 = .ok (.imul, 1) := by decide +kernel
theorem dX6_minds_117 : decode cX6_minds 117 = .ok (.iadd, 1) := by decide +kernel
theorem dX6_minds_118 : decode cX6_minds 118 = .ok (.iconst 1, 1) := by decide +kernel
theorem dX6_minds_119 : decode cX6_minds 119 = .ok (.iadd, 1) := by decide +kernel
theorem dX6_minds_120 : decode cX6_minds 120 = .ok (.aload_n 0, 1) := by decide +kernel
theorem dX6_minds_121 : decode cX6_minds 121 = .ok (.getfield 46, 3) := by decide +kernel
theorem dX6_minds_124 : decode cX6_minds 124 = .ok (.bipush 40, 2) := by decide +kernel
theorem dX6_minds_126 : decode cX6_minds 126 = .ok (.iload_n 1, 1) := by decide +kernel
theorem dX6_minds_127 : decode cX6_minds 127 = .ok (.imul, 1) := by decide +kernel
theorem dX6_minds_128 : decode cX6_minds 128 = .ok (.iload_n 2, 1) := by decide +kernel
theorem dX6_minds_129 : decode cX6_minds 129 = .ok (.iadd, 1) := by decide +kernel
theorem dX6_minds_130 : decode cX6_minds 130 = .ok (.iload 5, 2) := by decide +kernel
theorem dX6_minds_132 : decode cX6_minds 132 = .ok (.iadd, 1) := by decide +kernel
theorem dX6_minds_133 : decode cX6_minds 133 = .ok (.iaload, 1) := by decide +kernel
theorem dX6_minds_134 : decode cX6_minds 134 = .ok (.invokestatic 285, 3) := by decide +kernel
theorem dX6_minds_137 : decode cX6_minds 137 = .ok (.iastore, 1) := by decide +kernel
theorem dX6_minds_138 : decode cX6_minds 138 = .ok (.iinc 5 1, 3) := by decide +kernel
theorem dX6_minds_141 : decode cX6_minds 141 = .ok (.goto (-43), 3) := by decide +kernel
theorem dX6_minds_144 : decode cX6_minds 144 = .ok (.iload 4, 2) := by decide +kernel
theorem dX6_minds_146 : decode cX6_minds 146 = .ok (.ireturn, 1) := by decide +kernel
theorem dX6_shelf_0 : decode cX6_shelf 0 = .ok (.iload_n 1, 1) := by decide +kernel
theorem dX6_shelf_1 : decode cX6_shelf 1 = .ok (.invokestatic 288, 3) := by decide +kernel
theorem dX6_shelf_4 : decode cX6_shelf 4 = .ok (.ifCond .eq 39, 3) := by decide +kernel
theorem dX6_shelf_7 : decode cX6_shelf 7 = .ok (.iload_n 2, 1) := by decide +kernel
theorem dX6_shelf_8 : decode cX6_shelf 8 = .ok (.i2l, 1) := by decide +kernel
theorem dX6_shelf_9 : decode cX6_shelf 9 = .ok (.lconst 0, 1) := by decide +kernel
theorem dX6_shelf_10 : decode cX6_shelf 10 = .ok (.ldc2_w 277, 3) := by decide +kernel
theorem dX6_shelf_13 : decode cX6_shelf 13 = .ok (.invokestatic 70, 3) := by decide +kernel
theorem dX6_shelf_16 : decode cX6_shelf 16 = .ok (.ifCond .eq 27, 3) := by decide +kernel
theorem dX6_shelf_19 : decode cX6_shelf 19 = .ok (.iload_n 2, 1) := by decide +kernel
theorem dX6_shelf_20 : decode cX6_shelf 20 = .ok (.ifCond .ne 11, 3) := by decide +kernel
theorem dX6_shelf_23 : decode cX6_shelf 23 = .ok (.aload_n 0, 1) := by decide +kernel
theorem dX6_shelf_24 : decode cX6_shelf 24 = .ok (.iload_n 3, 1) := by decide +kernel
theorem dX6_shelf_25 : decode cX6_shelf 25 = .ok (.invokevirtual 191, 3) := by decide +kernel
theorem dX6_shelf_28 : decode cX6_shelf 28 = .ok (.ifCond .eq 15, 3) := by decide +kernel
theorem dX6_shelf_31 : decode cX6_shelf 31 = .ok (.iload_n 2, 1) := by decide +kernel
theorem dX6_shelf_32 : decode cX6_shelf 32 = .ok (.iconst 1, 1) := by decide +kernel
theorem dX6_shelf_33 : decode cX6_shelf 33 = .ok (.if_icmp .ne 12, 3) := by decide +kernel
theorem dX6_shelf_36 : decode cX6_shelf 36 = .ok (.iload_n 3, 1) := by decide +kernel
theorem dX6_shelf_37 : decode cX6_shelf 37 = .ok (.invokestatic 257, 3) := by decide +kernel
theorem dX6_shelf_40 : decode cX6_shelf 40 = .ok (.ifCond .ne 5, 3) := by decide +kernel
theorem dX6_shelf_43 : decode cX6_shelf 43 = .ok (.iconst (-1), 1) := by decide +kernel
theorem dX6_shelf_44 : decode cX6_shelf 44 = .ok (.ireturn, 1) := by decide +kernel
theorem dX6_shelf_45 : decode cX6_shelf 45 = .ok (.iload_n 2, 1) := by decide +kernel
theorem dX6_shelf_46 : decode cX6_shelf 46 = .ok (.iconst 1, 1) := by decide +kernel
theorem dX6_shelf_47 : decode cX6_shelf 47 = .ok (.if_icmp .ne 16, 3) := by decide +kernel
theorem dX6_shelf_50 : decode cX6_shelf 50 = .ok (.aload_n 0, 1) := by decide +kernel
theorem dX6_shelf_51 : decode cX6_shelf 51 = .ok (.getfield 40, 3) := by decide +kernel
theorem dX6_shelf_54 : decode cX6_shelf 54 = .ok (.iload_n 3, 1) := by decide +kernel
theorem dX6_shelf_55 : decode cX6_shelf 55 = .ok (.iaload, 1) := by decide +kernel
theorem dX6_shelf_56 : decode cX6_shelf 56 = .ok (.ifCond .lt 7, 3) := by decide +kernel
theorem dX6_shelf_59 : decode cX6_shelf 59 = .ok (.iconst 1, 1) := by decide +kernel
theorem dX6_shelf_60 : decode cX6_shelf 60 = .ok (.goto 4, 3) := by decide +kernel
theorem dX6_shelf_63 : decode cX6_shelf 63 = .ok (.iconst 0, 1) := by decide +kernel
theorem dX6_shelf_64 : decode cX6_shelf 64 = .ok (.istore 4, 2) := by decide +kernel
theorem dX6_shelf_66 : decode cX6_shelf 66 = .ok (.aload_n 0, 1) := by decide +kernel
theorem dX6_shelf_67 : decode cX6_shelf 67 = .ok (.getfield 49, 3) := by decide +kernel
theorem dX6_shelf_70 : decode cX6_shelf 70 = .ok (.iload_n 1, 1) := by decide +kernel
theorem dX6_shelf_71 : decode cX6_shelf 71 = .ok (.iload_n 2, 1) := by decide +kernel
theorem dX6_shelf_72 : decode cX6_shelf 72 = .ok (.ifCond .ne 7, 3) := by decide +kernel
theorem dX6_shelf_75 : decode cX6_shelf 75 = .ok (.iconst 1, 1) := by decide +kernel
theorem dX6_shelf_76 : decode cX6_shelf 76 = .ok (.goto 13, 3) := by decide +kernel
theorem dX6_shelf_79 : decode cX6_shelf 79 = .ok (.iload 4, 2) := by decide +kernel
theorem dX6_shelf_81 : decode cX6_shelf 81 = .ok (.ifCond .eq 7, 3) := by decide +kernel
theorem dX6_shelf_84 : decode cX6_shelf 84 = .ok (.iconst 2, 1) := by decide +kernel
theorem dX6_shelf_85 : decode cX6_shelf 85 = .ok (.goto 4, 3) := by decide +kernel
theorem dX6_shelf_88 : decode cX6_shelf 88 = .ok (.iconst 0, 1) := by decide +kernel
theorem dX6_shelf_89 : decode cX6_shelf 89 = .ok (.iastore, 1) := by decide +kernel
theorem dX6_shelf_90 : decode cX6_shelf 90 = .ok (.aload_n 0, 1) := by decide +kernel
theorem dX6_shelf_91 : decode cX6_shelf 91 = .ok (.getfield 52, 3) := by decide +kernel
theorem dX6_shelf_94 : decode cX6_shelf 94 = .ok (.iload_n 1, 1) := by decide +kernel
theorem dX6_shelf_95 : decode cX6_shelf 95 = .ok (.iload_n 2, 1) := by decide +kernel
theorem dX6_shelf_96 : decode cX6_shelf 96 = .ok (.ifCond .ne 7, 3) := by decide +kernel
theorem dX6_shelf_99 : decode cX6_shelf 99 = .ok (.iload_n 3, 1) := by decide +kernel
theorem dX6_shelf_100 : decode cX6_shelf 100 = .ok (.goto 18, 3) := by decide +kernel
theorem dX6_shelf_103 : decode cX6_shelf 103 = .ok (.iload 4, 2) := by decide +kernel
theorem dX6_shelf_105 : decode cX6_shelf 105 = .ok (.ifCond .eq 12, 3) := by decide +kernel
theorem dX6_shelf_108 : decode cX6_shelf 108 = .ok (.aload_n 0, 1) := by decide +kernel
theorem dX6_shelf_109 : decode cX6_shelf 109 = .ok (.getfield 40, 3) := by decide +kernel
theorem dX6_shelf_112 : decode cX6_shelf 112 = .ok (.iload_n 3, 1) := by decide +kernel
theorem dX6_shelf_113 : decode cX6_shelf 113 = .ok (.iaload, 1) := by decide +kernel
theorem dX6_shelf_114 : decode cX6_shelf 114 = .ok (.goto 4, 3) := by decide +kernel
theorem dX6_shelf_117 : decode cX6_shelf 117 = .ok (.iconst 0, 1) := by decide +kernel
theorem dX6_shelf_118 : decode cX6_shelf 118 = .ok (.iastore, 1) := by decide +kernel
theorem dX6_shelf_119 : decode cX6_shelf 119 = .ok (.aload_n 0, 1) := by decide +kernel
theorem dX6_shelf_120 : decode cX6_shelf 120 = .ok (.getfield 55, 3) := by decide +kernel
theorem dX6_shelf_123 : decode cX6_shelf 123 = .ok (.iload_n 1, 1) := by decide +kernel
theorem dX6_shelf_124 : decode cX6_shelf 124 = .ok (.iload 4, 2) := by decide +kernel
theorem dX6_shelf_126 : decode cX6_shelf 126 = .ok (.ifCond .eq 12, 3) := by decide +kernel
theorem dX6_shelf_129 : decode cX6_shelf 129 = .ok (.aload_n 0, 1) := by decide +kernel
theorem dX6_shelf_130 : decode cX6_shelf 130 = .ok (.getfield 43, 3) := by decide +kernel
theorem dX6_shelf_133 : decode cX6_shelf 133 = .ok (.iload_n 3, 1) := by decide +kernel
theorem dX6_shelf_134 : decode cX6_shelf 134 = .ok (.iaload, 1) := by decide +kernel
theorem dX6_shelf_135 : decode cX6_shelf 135 = .ok (.goto 4, 3) := by decide +kernel
theorem dX6_shelf_138 : decode cX6_shelf 138 = .ok (.iconst 0, 1) := by decide +kernel
theorem dX6_shelf_139 : decode cX6_shelf 139 = .ok (.iastore, 1) := by decide +kernel
theorem dX6_shelf_140 : decode cX6_shelf 140 = .ok (.iconst 1, 1) := by decide +kernel
theorem dX6_shelf_141 : decode cX6_shelf 141 = .ok (.ireturn, 1) := by decide +kernel
theorem dX6_heldOn_0 : decode cX6_heldOn 0 = .ok (.aload_n 0, 1) := by decide +kernel
theorem dX6_heldOn_1 : decode cX6_heldOn 1 = .ok (.getfield 49, 3) := by decide +kernel
theorem dX6_heldOn_4 : decode cX6_heldOn 4 = .ok (.iload_n 1, 1) := by decide +kernel
theorem dX6_heldOn_5 : decode cX6_heldOn 5 = .ok (.iaload, 1) := by decide +kernel
theorem dX6_heldOn_6 : decode cX6_heldOn 6 = .ok (.iconst 1, 1) := by decide +kernel
theorem dX6_heldOn_7 : decode cX6_heldOn 7 = .ok (.if_icmp .ne 20, 3) := by decide +kernel
theorem dX6_heldOn_10 : decode cX6_heldOn 10 = .ok (.aload_n 0, 1) := by decide +kernel
theorem dX6_heldOn_11 : decode cX6_heldOn 11 = .ok (.aload_n 0, 1) := by decide +kernel
theorem dX6_heldOn_12 : decode cX6_heldOn 12 = .ok (.getfield 52, 3) := by decide +kernel
theorem dX6_heldOn_15 : decode cX6_heldOn 15 = .ok (.iload_n 1, 1) := by decide +kernel
theorem dX6_heldOn_16 : decode cX6_heldOn 16 = .ok (.iaload, 1) := by decide +kernel
theorem dX6_heldOn_17 : decode cX6_heldOn 17 = .ok (.invokevirtual 191, 3) := by decide +kernel
theorem dX6_heldOn_20 : decode cX6_heldOn 20 = .ok (.ifCond .ne 7, 3) := by decide +kernel
theorem dX6_heldOn_23 : decode cX6_heldOn 23 = .ok (.iconst 0, 1) := by decide +kernel
theorem dX6_heldOn_24 : decode cX6_heldOn 24 = .ok (.goto 9, 3) := by decide +kernel
theorem dX6_heldOn_27 : decode cX6_heldOn 27 = .ok (.aload_n 0, 1) := by decide +kernel
theorem dX6_heldOn_28 : decode cX6_heldOn 28 = .ok (.getfield 49, 3) := by decide +kernel
theorem dX6_heldOn_31 : decode cX6_heldOn 31 = .ok (.iload_n 1, 1) := by decide +kernel
theorem dX6_heldOn_32 : decode cX6_heldOn 32 = .ok (.iaload, 1) := by decide +kernel
theorem dX6_heldOn_33 : decode cX6_heldOn 33 = .ok (.ireturn, 1) := by decide +kernel
theorem dX6_taken_0 : decode cX6_taken 0 = .ok (.iload_n 1, 1) := by decide +kernel
theorem dX6_taken_1 : decode cX6_taken 1 = .ok (.invokestatic 288, 3) := by decide +kernel
theorem dX6_taken_4 : decode cX6_taken 4 = .ok (.ifCond .eq 29, 3) := by decide +kernel
theorem dX6_taken_7 : decode cX6_taken 7 = .ok (.iload_n 2, 1) := by decide +kernel
theorem dX6_taken_8 : decode cX6_taken 8 = .ok (.i2l, 1) := by decide +kernel
theorem dX6_taken_9 : decode cX6_taken 9 = .ok (.lconst 0, 1) := by decide +kernel
theorem dX6_taken_10 : decode cX6_taken 10 = .ok (.ldc2_w 291, 3) := by decide +kernel
theorem dX6_taken_13 : decode cX6_taken 13 = .ok (.invokestatic 70, 3) := by decide +kernel
theorem dX6_taken_16 : decode cX6_taken 16 = .ok (.ifCond .eq 17, 3) := by decide +kernel
theorem dX6_taken_19 : decode cX6_taken 19 = .ok (.iload_n 2, 1) := by decide +kernel
theorem dX6_taken_20 : decode cX6_taken 20 = .ok (.i2l, 1) := by decide +kernel
theorem dX6_taken_21 : decode cX6_taken 21 = .ok (.ldc2_w 293, 3) := by decide +kernel
theorem dX6_taken_24 : decode cX6_taken 24 = .ok (.ldc2_w 172, 3) := by decide +kernel
theorem dX6_taken_27 : decode cX6_taken 27 = .ok (.invokestatic 70, 3) := by decide +kernel
theorem dX6_taken_30 : decode cX6_taken 30 = .ok (.ifCond .eq 5, 3) := by decide +kernel
theorem dX6_taken_33 : decode cX6_taken 33 = .ok (.iconst (-1), 1) := by decide +kernel
theorem dX6_taken_34 : decode cX6_taken 34 = .ok (.ireturn, 1) := by decide +kernel
theorem dX6_taken_35 : decode cX6_taken 35 = .ok (.aload_n 0, 1) := by decide +kernel
theorem dX6_taken_36 : decode cX6_taken 36 = .ok (.iload_n 1, 1) := by decide +kernel
theorem dX6_taken_37 : decode cX6_taken 37 = .ok (.invokevirtual 295, 3) := by decide +kernel
theorem dX6_taken_40 : decode cX6_taken 40 = .ok (.istore_n 3, 1) := by decide +kernel
theorem dX6_taken_41 : decode cX6_taken 41 = .ok (.iload_n 3, 1) := by decide +kernel
theorem dX6_taken_42 : decode cX6_taken 42 = .ok (.ifCond .ne 6, 3) := by decide +kernel
theorem dX6_taken_45 : decode cX6_taken 45 = .ok (.bipush (-11), 2) := by decide +kernel
theorem dX6_taken_47 : decode cX6_taken 47 = .ok (.ireturn, 1) := by decide +kernel
theorem dX6_taken_48 : decode cX6_taken 48 = .ok (.iload_n 2, 1) := by decide +kernel
theorem dX6_taken_49 : decode cX6_taken 49 = .ok (.bipush 10, 2) := by decide +kernel
theorem dX6_taken_51 : decode cX6_taken 51 = .ok (.if_icmp .ge 38, 3) := by decide +kernel
theorem dX6_taken_54 : decode cX6_taken 54 = .ok (.iload_n 3, 1) := by decide +kernel
theorem dX6_taken_55 : decode cX6_taken 55 = .ok (.iconst 1, 1) := by decide +kernel
theorem dX6_taken_56 : decode cX6_taken 56 = .ok (.if_icmp .ne 30, 3) := by decide +kernel
theorem dX6_taken_59 : decode cX6_taken 59 = .ok (.aload_n 0, 1) := by decide +kernel
theorem dX6_taken_60 : decode cX6_taken 60 = .ok (.aload_n 0, 1) := by decide +kernel
theorem dX6_taken_61 : decode cX6_taken 61 = .ok (.getfield 52, 3) := by decide +kernel
theorem dX6_taken_64 : decode cX6_taken 64 = .ok (.iload_n 1, 1) := by decide +kernel
theorem dX6_taken_65 : decode cX6_taken 65 = .ok (.iaload, 1) := by decide +kernel
theorem dX6_taken_66 : decode cX6_taken 66 = .ok (.iconst 0, 1) := by decide +kernel
theorem dX6_taken_67 : decode cX6_taken 67 = .ok (.invokevirtual 182, 3) := by decide +kernel
theorem dX6_taken_70 : decode cX6_taken 70 = .ok (.iload_n 2, 1) := by decide +kernel
theorem dX6_taken_71 : decode cX6_taken 71 = .ok (.invokestatic 298, 3) := by decide +kernel
theorem dX6_taken_74 : decode cX6_taken 74 = .ok (.ifCond .eq 12, 3) := by decide +kernel
theorem dX6_taken_77 : decode cX6_taken 77 = .ok (.aload_n 0, 1) := by decide +kernel
theorem dX6_taken_78 : decode cX6_taken 78 = .ok (.getfield 52, 3) := by decide +kernel
theorem dX6_taken_81 : decode cX6_taken 81 = .ok (.iload_n 1, 1) := by decide +kernel
theorem dX6_taken_82 : decode cX6_taken 82 = .ok (.iaload, 1) := by decide +kernel
theorem dX6_taken_83 : decode cX6_taken 83 = .ok (.goto 5, 3) := by decide +kernel
theorem dX6_taken_86 : decode cX6_taken 86 = .ok (.bipush (-13), 2) := by decide +kernel
theorem dX6_taken_88 : decode cX6_taken 88 = .ok (.ireturn, 1) := by decide +kernel
theorem dX6_taken_89 : decode cX6_taken 89 = .ok (.iload_n 3, 1) := by decide +kernel
theorem dX6_taken_90 : decode cX6_taken 90 = .ok (.iconst 2, 1) := by decide +kernel
theorem dX6_taken_91 : decode cX6_taken 91 = .ok (.if_icmp .ne 25, 3) := by decide +kernel
theorem dX6_taken_94 : decode cX6_taken 94 = .ok (.aload_n 0, 1) := by decide +kernel
theorem dX6_taken_95 : decode cX6_taken 95 = .ok (.getfield 52, 3) := by decide +kernel
theorem dX6_taken_98 : decode cX6_taken 98 = .ok (.iload_n 1, 1) := by decide +kernel
theorem dX6_taken_99 : decode cX6_taken 99 = .ok (.iaload, 1) := by decide +kernel
theorem dX6_taken_100 : decode cX6_taken 100 = .ok (.iload_n 2, 1) := by decide +kernel
theorem dX6_taken_101 : decode cX6_taken 101 = .ok (.bipush 10, 2) := by decide +kernel
theorem dX6_taken_103 : decode cX6_taken 103 = .ok (.isub, 1) := by decide +kernel
theorem dX6_taken_104 : decode cX6_taken 104 = .ok (.if_icmp .ne 12, 3) := by decide +kernel
theorem dX6_taken_107 : decode cX6_taken 107 = .ok (.aload_n 0, 1) := by decide +kernel
theorem dX6_taken_108 : decode cX6_taken 108 = .ok (.getfield 55, 3) := by decide +kernel
theorem dX6_taken_111 : decode cX6_taken 111 = .ok (.iload_n 1, 1) := by decide +kernel
theorem dX6_taken_112 : decode cX6_taken 112 = .ok (.iaload, 1) := by decide +kernel
theorem dX6_taken_113 : decode cX6_taken 113 = .ok (.goto 5, 3) := by decide +kernel
theorem dX6_taken_116 : decode cX6_taken 116 = .ok (.bipush (-13), 2) := by decide +kernel
theorem dX6_taken_118 : decode cX6_taken 118 = .ok (.ireturn, 1) := by decide +kernel
theorem dX6_runs_0 : decode cX6_runs 0 = .ok (.aload_n 0, 1) := by decide +kernel
theorem dX6_runs_1 : decode cX6_runs 1 = .ok (.getfield 301, 3) := by decide +kernel
theorem dX6_runs_4 : decode cX6_runs 4 = .ok (.bipush 30, 2) := by decide +kernel
theorem dX6_runs_6 : decode cX6_runs 6 = .ok (.if_icmp .ge 23, 3) := by decide +kernel
theorem dX6_runs_9 : decode cX6_runs 9 = .ok (.aload_n 0, 1) := by decide +kernel
theorem dX6_runs_10 : decode cX6_runs 10 = .ok (.getfield 58, 3) := by decide +kernel
theorem dX6_runs_13 : decode cX6_runs 13 = .ok (.aload_n 0, 1) := by decide +kernel
theorem dX6_runs_14 : decode cX6_runs 14 = .ok (.getfield 301, 3) := by decide +kernel
theorem dX6_runs_17 : decode cX6_runs 17 = .ok (.iload_n 1, 1) := by decide +kernel
theorem dX6_runs_18 : decode cX6_runs 18 = .ok (.iastore, 1) := by decide +kernel
theorem dX6_runs_19 : decode cX6_runs 19 = .ok (.aload_n 0, 1) := by decide +kernel
theorem dX6_runs_20 : decode cX6_runs 20 = .ok (.dup, 1) := by decide +kernel
theorem dX6_runs_21 : decode cX6_runs 21 = .ok (.getfield 301, 3) := by decide +kernel
theorem dX6_runs_24 : decode cX6_runs 24 = .ok (.iconst 1, 1) := by decide +kernel
theorem dX6_runs_25 : decode cX6_runs 25 = .ok (.iadd, 1) := by decide +kernel
theorem dX6_runs_26 : decode cX6_runs 26 = .ok (.putfield 301, 3) := by decide +kernel
theorem dX6_runs_29 : decode cX6_runs 29 = .ok (.return_, 1) := by decide +kernel
theorem dX6_driftsPlain_0 : decode cX6_driftsPlain 0 = .ok (.aload_n 0, 1) := by decide +kernel
theorem dX6_driftsPlain_1 : decode cX6_driftsPlain 1 = .ok (.bipush 10, 2) := by decide +kernel
theorem dX6_driftsPlain_3 : decode cX6_driftsPlain 3 = .ok (.invokevirtual 304, 3) := by decide +kernel
theorem dX6_driftsPlain_6 : decode cX6_driftsPlain 6 = .ok (.iload_n 1, 1) := by decide +kernel
theorem dX6_driftsPlain_7 : decode cX6_driftsPlain 7 = .ok (.bipush 9, 2) := by decide +kernel
theorem dX6_driftsPlain_9 : decode cX6_driftsPlain 9 = .ok (.imul, 1) := by decide +kernel
theorem dX6_driftsPlain_10 : decode cX6_driftsPlain 10 = .ok (.aload_n 0, 1) := by decide +kernel
theorem dX6_driftsPlain_11 : decode cX6_driftsPlain 11 = .ok (.getfield 307, 3) := by decide +kernel
theorem dX6_driftsPlain_14 : decode cX6_driftsPlain 14 = .ok (.iadd, 1) := by decide +kernel
theorem dX6_driftsPlain_15 : decode cX6_driftsPlain 15 = .ok (.ireturn, 1) := by decide +kernel
theorem dX6_driftsOfFog_0 : decode cX6_driftsOfFog 0 = .ok (.aload_n 0, 1) := by decide +kernel
theorem dX6_driftsOfFog_1 : decode cX6_driftsOfFog 1 = .ok (.bipush 30, 2) := by decide +kernel
theorem dX6_driftsOfFog_3 : decode cX6_driftsOfFog 3 = .ok (.invokevirtual 304, 3) := by decide +kernel
theorem dX6_driftsOfFog_6 : decode cX6_driftsOfFog 6 = .ok (.iconst 0, 1) := by decide +kernel
theorem dX6_driftsOfFog_7 : decode cX6_driftsOfFog 7 = .ok (.aload_n 0, 1) := by decide +kernel
theorem dX6_driftsOfFog_8 : decode cX6_driftsOfFog 8 = .ok (.iload_n 1, 1) := by decide +kernel
theorem dX6_driftsOfFog_9 : decode cX6_driftsOfFog 9 = .ok (.invokevirtual 310, 3) := by decide +kernel
theorem dX6_driftsOfFog_12 : decode cX6_driftsOfFog 12 = .ok (.isub, 1) := by decide +kernel
theorem dX6_driftsOfFog_13 : decode cX6_driftsOfFog 13 = .ok (.ireturn, 1) := by decide +kernel
theorem dX6_drifts_0 : decode cX6_drifts 0 = .ok (.aload_n 0, 1) := by decide +kernel
theorem dX6_drifts_1 : decode cX6_drifts 1 = .ok (.getfield 313, 3) := by decide +kernel
theorem dX6_drifts_4 : decode cX6_drifts 4 = .ok (.tableswitch 66 2 4 #[28, 49, 34], 28) := by decide +kernel
theorem dX6_drifts_32 : decode cX6_drifts 32 = .ok (.aload_n 0, 1) := by decide +kernel
theorem dX6_drifts_33 : decode cX6_drifts 33 = .ok (.iload_n 1, 1) := by decide +kernel
theorem dX6_drifts_34 : decode cX6_drifts 34 = .ok (.invokevirtual 316, 3) := by decide +kernel
theorem dX6_drifts_37 : decode cX6_drifts 37 = .ok (.ireturn, 1) := by decide +kernel
theorem dX6_drifts_38 : decode cX6_drifts 38 = .ok (.aload_n 0, 1) := by decide +kernel
theorem dX6_drifts_39 : decode cX6_drifts 39 = .ok (.bipush 40, 2) := by decide +kernel
theorem dX6_drifts_41 : decode cX6_drifts 41 = .ok (.invokevirtual 304, 3) := by decide +kernel
theorem dX6_drifts_44 : decode cX6_drifts 44 = .ok (.aload_n 0, 1) := by decide +kernel
theorem dX6_drifts_45 : decode cX6_drifts 45 = .ok (.iload_n 1, 1) := by decide +kernel
theorem dX6_drifts_46 : decode cX6_drifts 46 = .ok (.invokevirtual 316, 3) := by decide +kernel
theorem dX6_drifts_49 : decode cX6_drifts 49 = .ok (.bipush 6, 2) := by decide +kernel
theorem dX6_drifts_51 : decode cX6_drifts 51 = .ok (.iadd, 1) := by decide +kernel
theorem dX6_drifts_52 : decode cX6_drifts 52 = .ok (.ireturn, 1) := by decide +kernel
theorem dX6_drifts_53 : decode cX6_drifts 53 = .ok (.aload_n 0, 1) := by decide +kernel
theorem dX6_drifts_54 : decode cX6_drifts 54 = .ok (.bipush 51, 2) := by decide +kernel
theorem dX6_drifts_56 : decode cX6_drifts 56 = .ok (.invokevirtual 304, 3) := by decide +kernel
theorem dX6_drifts_59 : decode cX6_drifts 59 = .ok (.aload_n 0, 1) := by decide +kernel
theorem dX6_drifts_60 : decode cX6_drifts 60 = .ok (.iload_n 1, 1) := by decide +kernel
theorem dX6_drifts_61 : decode cX6_drifts 61 = .ok (.invokevirtual 310, 3) := by decide +kernel
theorem dX6_drifts_64 : decode cX6_drifts 64 = .ok (.aload_n 0, 1) := by decide +kernel
theorem dX6_drifts_65 : decode cX6_drifts 65 = .ok (.getfield 307, 3) := by decide +kernel
theorem dX6_drifts_68 : decode cX6_drifts 68 = .ok (.iadd, 1) := by decide +kernel
theorem dX6_drifts_69 : decode cX6_drifts 69 = .ok (.ireturn, 1) := by decide +kernel
theorem dX6_drifts_70 : decode cX6_drifts 70 = .ok (.aload_n 0, 1) := by decide +kernel
theorem dX6_drifts_71 : decode cX6_drifts 71 = .ok (.iload_n 1, 1) := by decide +kernel
theorem dX6_drifts_72 : decode cX6_drifts 72 = .ok (.invokevirtual 310, 3) := by decide +kernel
theorem dX6_drifts_75 : decode cX6_drifts 75 = .ok (.ireturn, 1) := by decide +kernel
theorem dX6_dripsPlain_0 : decode cX6_dripsPlain 0 = .ok (.aload_n 0, 1) := by decide +kernel
theorem dX6_dripsPlain_1 : decode cX6_dripsPlain 1 = .ok (.bipush 11, 2) := by decide +kernel
theorem dX6_dripsPlain_3 : decode cX6_dripsPlain 3 = .ok (.invokevirtual 304, 3) := by decide +kernel
theorem dX6_dripsPlain_6 : decode cX6_dripsPlain 6 = .ok (.aload_n 0, 1) := by decide +kernel
theorem dX6_dripsPlain_7 : decode cX6_dripsPlain 7 = .ok (.iload_n 1, 1) := by decide +kernel
theorem dX6_dripsPlain_8 : decode cX6_dripsPlain 8 = .ok (.invokevirtual 319, 3) := by decide +kernel
theorem dX6_dripsPlain_11 : decode cX6_dripsPlain 11 = .ok (.aload_n 0, 1) := by decide +kernel
theorem dX6_dripsPlain_12 : decode cX6_dripsPlain 12 = .ok (.getfield 322, 3) := by decide +kernel
theorem dX6_dripsPlain_15 : decode cX6_dripsPlain 15 = .ok (.iconst 3, 1) := by decide +kernel
theorem dX6_dripsPlain_16 : decode cX6_dripsPlain 16 = .ok (.imul, 1) := by decide +kernel
theorem dX6_dripsPlain_17 : decode cX6_dripsPlain 17 = .ok (.isub, 1) := by decide +kernel
theorem dX6_dripsPlain_18 : decode cX6_dripsPlain 18 = .ok (.ireturn, 1) := by decide +kernel
theorem dX6_drips_0 : decode cX6_drips 0 = .ok (.aload_n 0, 1) := by decide +kernel
theorem dX6_drips_1 : decode cX6_drips 1 = .ok (.getfield 313, 3) := by decide +kernel
theorem dX6_drips_4 : decode cX6_drips 4 = .ok (.iconst 1, 1) := by decide +kernel
theorem dX6_drips_5 : decode cX6_drips 5 = .ok (.if_icmp .eq 11, 3) := by decide +kernel
theorem dX6_drips_8 : decode cX6_drips 8 = .ok (.aload_n 0, 1) := by decide +kernel
theorem dX6_drips_9 : decode cX6_drips 9 = .ok (.getfield 313, 3) := by decide +kernel
theorem dX6_drips_12 : decode cX6_drips 12 = .ok (.iconst 3, 1) := by decide +kernel
theorem dX6_drips_13 : decode cX6_drips 13 = .ok (.if_icmp .ne 17, 3) := by decide +kernel
theorem dX6_drips_16 : decode cX6_drips 16 = .ok (.aload_n 0, 1) := by decide +kernel
theorem dX6_drips_17 : decode cX6_drips 17 = .ok (.bipush 20, 2) := by decide +kernel
theorem dX6_drips_19 : decode cX6_drips 19 = .ok (.invokevirtual 304, 3) := by decide +kernel
theorem dX6_drips_22 : decode cX6_drips 22 = .ok (.aload_n 0, 1) := by decide +kernel
theorem dX6_drips_23 : decode cX6_drips 23 = .ok (.iload_n 1, 1) := by decide +kernel
theorem dX6_drips_24 : decode cX6_drips 24 = .ok (.invokevirtual 325, 3) := by decide +kernel
theorem dX6_drips_27 : decode cX6_drips 27 = .ok (.iconst 2, 1) := by decide +kernel
theorem dX6_drips_28 : decode cX6_drips 28 = .ok (.iadd, 1) := by decide +kernel
theorem dX6_drips_29 : decode cX6_drips 29 = .ok (.ireturn, 1) := by decide +kernel
theorem dX6_drips_30 : decode cX6_drips 30 = .ok (.aload_n 0, 1) := by decide +kernel
theorem dX6_drips_31 : decode cX6_drips 31 = .ok (.getfield 313, 3) := by decide +kernel
theorem dX6_drips_34 : decode cX6_drips 34 = .ok (.iconst 4, 1) := by decide +kernel
theorem dX6_drips_35 : decode cX6_drips 35 = .ok (.if_icmp .ne 26, 3) := by decide +kernel
theorem dX6_drips_38 : decode cX6_drips 38 = .ok (.aload_n 0, 1) := by decide +kernel
theorem dX6_drips_39 : decode cX6_drips 39 = .ok (.bipush 41, 2) := by decide +kernel
theorem dX6_drips_41 : decode cX6_drips 41 = .ok (.invokevirtual 304, 3) := by decide +kernel
theorem dX6_drips_44 : decode cX6_drips 44 = .ok (.aload_n 0, 1) := by decide +kernel
theorem dX6_drips_45 : decode cX6_drips 45 = .ok (.iload_n 1, 1) := by decide +kernel
theorem dX6_drips_46 : decode cX6_drips 46 = .ok (.invokevirtual 325, 3) := by decide +kernel
theorem dX6_drips_49 : decode cX6_drips 49 = .ok (.istore_n 2, 1) := by decide +kernel
theorem dX6_drips_50 : decode cX6_drips 50 = .ok (.iload_n 2, 1) := by decide +kernel
theorem dX6_drips_51 : decode cX6_drips 51 = .ok (.aload_n 0, 1) := by decide +kernel
theorem dX6_drips_52 : decode cX6_drips 52 = .ok (.aload_n 0, 1) := by decide +kernel
theorem dX6_drips_53 : decode cX6_drips 53 = .ok (.getfield 322, 3) := by decide +kernel
theorem dX6_drips_56 : decode cX6_drips 56 = .ok (.invokevirtual 319, 3) := by decide +kernel
theorem dX6_drips_59 : decode cX6_drips 59 = .ok (.ixor, 1) := by decide +kernel
theorem dX6_drips_60 : decode cX6_drips 60 = .ok (.ireturn, 1) := by decide +kernel
theorem dX6_drips_61 : decode cX6_drips 61 = .ok (.aload_n 0, 1) := by decide +kernel
theorem dX6_drips_62 : decode cX6_drips 62 = .ok (.iload_n 1, 1) := by decide +kernel
theorem dX6_drips_63 : decode cX6_drips 63 = .ok (.invokevirtual 325, 3) := by decide +kernel
theorem dX6_drips_66 : decode cX6_drips 66 = .ok (.ireturn, 1) := by decide +kernel
theorem dX6_partsPlain_0 : decode cX6_partsPlain 0 = .ok (.aload_n 0, 1) := by decide +kernel
theorem dX6_partsPlain_1 : decode cX6_partsPlain 1 = .ok (.bipush 12, 2) := by decide +kernel
theorem dX6_partsPlain_3 : decode cX6_partsPlain 3 = .ok (.invokevirtual 304, 3) := by decide +kernel
theorem dX6_partsPlain_6 : decode cX6_partsPlain 6 = .ok (.aload_n 0, 1) := by decide +kernel
theorem dX6_partsPlain_7 : decode cX6_partsPlain 7 = .ok (.aload_n 0, 1) := by decide +kernel
theorem dX6_partsPlain_8 : decode cX6_partsPlain 8 = .ok (.getfield 328, 3) := by decide +kernel
theorem dX6_partsPlain_11 : decode cX6_partsPlain 11 = .ok (.ifCond .ne 14, 3) := by decide +kernel
theorem dX6_partsPlain_14 : decode cX6_partsPlain 14 = .ok (.aload_n 0, 1) := by decide +kernel
theorem dX6_partsPlain_15 : decode cX6_partsPlain 15 = .ok (.getfield 307, 3) := by decide +kernel
theorem dX6_partsPlain_18 : decode cX6_partsPlain 18 = .ok (.aload_n 0, 1) := by decide +kernel
theorem dX6_partsPlain_19 : decode cX6_partsPlain 19 = .ok (.getfield 322, 3) := by decide +kernel
theorem dX6_partsPlain_22 : decode cX6_partsPlain 22 = .ok (.if_icmp .ne 7, 3) := by decide +kernel
theorem dX6_partsPlain_25 : decode cX6_partsPlain 25 = .ok (.iconst 1, 1) := by decide +kernel
theorem dX6_partsPlain_26 : decode cX6_partsPlain 26 = .ok (.goto 4, 3) := by decide +kernel
theorem dX6_partsPlain_29 : decode cX6_partsPlain 29 = .ok (.iconst 0, 1) := by decide +kernel
theorem dX6_partsPlain_30 : decode cX6_partsPlain 30 = .ok (.putfield 328, 3) := by decide +kernel
theorem dX6_partsPlain_33 : decode cX6_partsPlain 33 = .ok (.aload_n 0, 1) := by decide +kernel
theorem dX6_partsPlain_34 : decode cX6_partsPlain 34 = .ok (.getfield 328, 3) := by decide +kernel
theorem dX6_partsPlain_37 : decode cX6_partsPlain 37 = .ok (.ifCond .eq 7, 3) := by decide +kernel
theorem dX6_partsPlain_40 : decode cX6_partsPlain 40 = .ok (.iconst 0, 1) := by decide +kernel
theorem dX6_partsPlain_41 : decode cX6_partsPlain 41 = .ok (.goto 14, 3) := by decide +kernel
theorem dX6_partsPlain_44 : decode cX6_partsPlain 44 = .ok (.iload_n 1, 1) := by decide +kernel
theorem dX6_partsPlain_45 : decode cX6_partsPlain 45 = .ok (.aload_n 0, 1) := by decide +kernel
theorem dX6_partsPlain_46 : decode cX6_partsPlain 46 = .ok (.getfield 322, 3) := by decide +kernel
theorem dX6_partsPlain_49 : decode cX6_partsPlain 49 = .ok (.aload_n 0, 1) := by decide +kernel
theorem dX6_partsPlain_50 : decode cX6_partsPlain 50 = .ok (.getfield 307, 3) := by decide +kernel
theorem dX6_partsPlain_53 : decode cX6_partsPlain 53 = .ok (.isub, 1) := by decide +kernel
theorem dX6_partsPlain_54 : decode cX6_partsPlain 54 = .ok (.idiv, 1) := by decide +kernel
theorem dX6_partsPlain_55 : decode cX6_partsPlain 55 = .ok (.ireturn, 1) := by decide +kernel
theorem dX6_parts_0 : decode cX6_parts 0 = .ok (.aload_n 0, 1) := by decide +kernel
theorem dX6_parts_1 : decode cX6_parts 1 = .ok (.getfield 313, 3) := by decide +kernel
theorem dX6_parts_4 : decode cX6_parts 4 = .ok (.iconst 3, 1) := by decide +kernel
theorem dX6_parts_5 : decode cX6_parts 5 = .ok (.if_icmp .ne 22, 3) := by decide +kernel
theorem dX6_parts_8 : decode cX6_parts 8 = .ok (.aload_n 0, 1) := by decide +kernel
theorem dX6_parts_9 : decode cX6_parts 9 = .ok (.bipush 50, 2) := by decide +kernel
theorem dX6_parts_11 : decode cX6_parts 11 = .ok (.invokevirtual 304, 3) := by decide +kernel
theorem dX6_parts_14 : decode cX6_parts 14 = .ok (.aload_n 0, 1) := by decide +kernel
theorem dX6_parts_15 : decode cX6_parts 15 = .ok (.iload_n 1, 1) := by decide +kernel
theorem dX6_parts_16 : decode cX6_parts 16 = .ok (.aload_n 0, 1) := by decide +kernel
theorem dX6_parts_17 : decode cX6_parts 17 = .ok (.getfield 322, 3) := by decide +kernel
theorem dX6_parts_20 : decode cX6_parts 20 = .ok (.isub, 1) := by decide +kernel
theorem dX6_parts_21 : decode cX6_parts 21 = .ok (.invokevirtual 331, 3) := by decide +kernel
theorem dX6_parts_24 : decode cX6_parts 24 = .ok (.iconst 2, 1) := by decide +kernel
theorem dX6_parts_25 : decode cX6_parts 25 = .ok (.imul, 1) := by decide +kernel
theorem dX6_parts_26 : decode cX6_parts 26 = .ok (.ireturn, 1) := by decide +kernel
theorem dX6_parts_27 : decode cX6_parts 27 = .ok (.aload_n 0, 1) := by decide +kernel
theorem dX6_parts_28 : decode cX6_parts 28 = .ok (.getfield 313, 3) := by decide +kernel
theorem dX6_parts_31 : decode cX6_parts 31 = .ok (.iconst 5, 1) := by decide +kernel
theorem dX6_parts_32 : decode cX6_parts 32 = .ok (.if_icmp .ne 37, 3) := by decide +kernel
theorem dX6_parts_35 : decode cX6_parts 35 = .ok (.aload_n 0, 1) := by decide +kernel
theorem dX6_parts_36 : decode cX6_parts 36 = .ok (.bipush 61, 2) := by decide +kernel
theorem dX6_parts_38 : decode cX6_parts 38 = .ok (.invokevirtual 304, 3) := by decide +kernel
theorem dX6_parts_41 : decode cX6_parts 41 = .ok (.aload_n 0, 1) := by decide +kernel
theorem dX6_parts_42 : decode cX6_parts 42 = .ok (.iload_n 1, 1) := by decide +kernel
theorem dX6_parts_43 : decode cX6_parts 43 = .ok (.invokevirtual 331, 3) := by decide +kernel
theorem dX6_parts_46 : decode cX6_parts 46 = .ok (.istore_n 2, 1) := by decide +kernel
theorem dX6_parts_47 : decode cX6_parts 47 = .ok (.aload_n 0, 1) := by decide +kernel
theorem dX6_parts_48 : decode cX6_parts 48 = .ok (.getfield 328, 3) := by decide +kernel
theorem dX6_parts_51 : decode cX6_parts 51 = .ok (.ifCond .eq 7, 3) := by decide +kernel
theorem dX6_parts_54 : decode cX6_parts 54 = .ok (.iconst 0, 1) := by decide +kernel
theorem dX6_parts_55 : decode cX6_parts 55 = .ok (.goto 13, 3) := by decide +kernel
theorem dX6_parts_58 : decode cX6_parts 58 = .ok (.iload_n 2, 1) := by decide +kernel
theorem dX6_parts_59 : decode cX6_parts 59 = .ok (.aload_n 0, 1) := by decide +kernel
theorem dX6_parts_60 : decode cX6_parts 60 = .ok (.aload_n 0, 1) := by decide +kernel
theorem dX6_parts_61 : decode cX6_parts 61 = .ok (.getfield 307, 3) := by decide +kernel
theorem dX6_parts_64 : decode cX6_parts 64 = .ok (.invokevirtual 319, 3) := by decide +kernel
theorem dX6_parts_67 : decode cX6_parts 67 = .ok (.iadd, 1) := by decide +kernel
theorem dX6_parts_68 : decode cX6_parts 68 = .ok (.ireturn, 1) := by decide +kernel
theorem dX6_parts_69 : decode cX6_parts 69 = .ok (.aload_n 0, 1) := by decide +kernel
theorem dX6_parts_70 : decode cX6_parts 70 = .ok (.iload_n 1, 1) := by decide +kernel
theorem dX6_parts_71 : decode cX6_parts 71 = .ok (.invokevirtual 331, 3) := by decide +kernel
theorem dX6_parts_74 : decode cX6_parts 74 = .ok (.ireturn, 1) := by decide +kernel
theorem dX6_haltsPlain_0 : decode cX6_haltsPlain 0 = .ok (.aload_n 0, 1) := by decide +kernel
theorem dX6_haltsPlain_1 : decode cX6_haltsPlain 1 = .ok (.bipush 13, 2) := by decide +kernel
theorem dX6_haltsPlain_3 : decode cX6_haltsPlain 3 = .ok (.invokevirtual 304, 3) := by decide +kernel
theorem dX6_haltsPlain_6 : decode cX6_haltsPlain 6 = .ok (.aload_n 0, 1) := by decide +kernel
theorem dX6_haltsPlain_7 : decode cX6_haltsPlain 7 = .ok (.iload_n 1, 1) := by decide +kernel
theorem dX6_haltsPlain_8 : decode cX6_haltsPlain 8 = .ok (.invokevirtual 334, 3) := by decide +kernel
theorem dX6_haltsPlain_11 : decode cX6_haltsPlain 11 = .ok (.sipush 130, 3) := by decide +kernel
theorem dX6_haltsPlain_14 : decode cX6_haltsPlain 14 = .ok (.ixor, 1) := by decide +kernel
theorem dX6_haltsPlain_15 : decode cX6_haltsPlain 15 = .ok (.ireturn, 1) := by decide +kernel
theorem dX6_halts_0 : decode cX6_halts 0 = .ok (.aload_n 0, 1) := by decide +kernel
theorem dX6_halts_1 : decode cX6_halts 1 = .ok (.getfield 313, 3) := by decide +kernel
theorem dX6_halts_4 : decode cX6_halts 4 = .ok (.iconst 2, 1) := by decide +kernel
theorem dX6_halts_5 : decode cX6_halts 5 = .ok (.if_icmp .eq 11, 3) := by decide +kernel
theorem dX6_halts_8 : decode cX6_halts 8 = .ok (.aload_n 0, 1) := by decide +kernel
theorem dX6_halts_9 : decode cX6_halts 9 = .ok (.getfield 313, 3) := by decide +kernel
theorem dX6_halts_12 : decode cX6_halts 12 = .ok (.iconst 4, 1) := by decide +kernel
theorem dX6_halts_13 : decode cX6_halts 13 = .ok (.if_icmp .ne 26, 3) := by decide +kernel
theorem dX6_halts_16 : decode cX6_halts 16 = .ok (.aload_n 0, 1) := by decide +kernel
theorem dX6_halts_17 : decode cX6_halts 17 = .ok (.bipush 31, 2) := by decide +kernel
theorem dX6_halts_19 : decode cX6_halts 19 = .ok (.invokevirtual 304, 3) := by decide +kernel
theorem dX6_halts_22 : decode cX6_halts 22 = .ok (.aload_n 0, 1) := by decide +kernel
theorem dX6_halts_23 : decode cX6_halts 23 = .ok (.iload_n 1, 1) := by decide +kernel
theorem dX6_halts_24 : decode cX6_halts 24 = .ok (.invokevirtual 337, 3) := by decide +kernel
theorem dX6_halts_27 : decode cX6_halts 27 = .ok (.istore_n 2, 1) := by decide +kernel
theorem dX6_halts_28 : decode cX6_halts 28 = .ok (.iload_n 2, 1) := by decide +kernel
theorem dX6_halts_29 : decode cX6_halts 29 = .ok (.aload_n 0, 1) := by decide +kernel
theorem dX6_halts_30 : decode cX6_halts 30 = .ok (.aload_n 0, 1) := by decide +kernel
theorem dX6_halts_31 : decode cX6_halts 31 = .ok (.getfield 307, 3) := by decide +kernel
theorem dX6_halts_34 : decode cX6_halts 34 = .ok (.invokevirtual 340, 3) := by decide +kernel
theorem dX6_halts_37 : decode cX6_halts 37 = .ok (.isub, 1) := by decide +kernel
theorem dX6_halts_38 : decode cX6_halts 38 = .ok (.ireturn, 1) := by decide +kernel
theorem dX6_halts_39 : decode cX6_halts 39 = .ok (.aload_n 0, 1) := by decide +kernel
theorem dX6_halts_40 : decode cX6_halts 40 = .ok (.getfield 313, 3) := by decide +kernel
theorem dX6_halts_43 : decode cX6_halts 43 = .ok (.iconst 5, 1) := by decide +kernel
theorem dX6_halts_44 : decode cX6_halts 44 = .ok (.if_icmp .ne 17, 3) := by decide +kernel
theorem dX6_halts_47 : decode cX6_halts 47 = .ok (.aload_n 0, 1) := by decide +kernel
theorem dX6_halts_48 : decode cX6_halts 48 = .ok (.bipush 60, 2) := by decide +kernel
theorem dX6_halts_50 : decode cX6_halts 50 = .ok (.invokevirtual 304, 3) := by decide +kernel
theorem dX6_halts_53 : decode cX6_halts 53 = .ok (.aload_n 0, 1) := by decide +kernel
theorem dX6_halts_54 : decode cX6_halts 54 = .ok (.iload_n 1, 1) := by decide +kernel
theorem dX6_halts_55 : decode cX6_halts 55 = .ok (.invokevirtual 337, 3) := by decide +kernel
theorem dX6_halts_58 : decode cX6_halts 58 = .ok (.iconst 3, 1) := by decide +kernel
theorem dX6_halts_59 : decode cX6_halts 59 = .ok (.imul, 1) := by decide +kernel
theorem dX6_halts_60 : decode cX6_halts 60 = .ok (.ireturn, 1) := by decide +kernel
theorem dX6_halts_61 : decode cX6_halts 61 = .ok (.aload_n 0, 1) := by decide +kernel
theorem dX6_halts_62 : decode cX6_halts 62 = .ok (.iload_n 1, 1) := by decide +kernel
theorem dX6_halts_63 : decode cX6_halts 63 = .ok (.invokevirtual 337, 3) := by decide +kernel
theorem dX6_halts_66 : decode cX6_halts 66 = .ok (.ireturn, 1) := by decide +kernel
theorem dX6_act_0 : decode cX6_act 0 = .ok (.aload_n 0, 1) := by decide +kernel
theorem dX6_act_1 : decode cX6_act 1 = .ok (.iconst 0, 1) := by decide +kernel
theorem dX6_act_2 : decode cX6_act 2 = .ok (.putfield 301, 3) := by decide +kernel
theorem dX6_act_5 : decode cX6_act 5 = .ok (.iload_n 1, 1) := by decide +kernel
theorem dX6_act_6 : decode cX6_act 6 = .ok (.invokestatic 288, 3) := by decide +kernel
theorem dX6_act_9 : decode cX6_act 9 = .ok (.ifCond .eq 24, 3) := by decide +kernel
theorem dX6_act_12 : decode cX6_act 12 = .ok (.iload_n 2, 1) := by decide +kernel
theorem dX6_act_13 : decode cX6_act 13 = .ok (.i2l, 1) := by decide +kernel
theorem dX6_act_14 : decode cX6_act 14 = .ok (.lconst 0, 1) := by decide +kernel
theorem dX6_act_15 : decode cX6_act 15 = .ok (.ldc2_w 168, 3) := by decide +kernel
theorem dX6_act_18 : decode cX6_act 18 = .ok (.invokestatic 70, 3) := by decide +kernel
theorem dX6_act_21 : decode cX6_act 21 = .ok (.ifCond .eq 12, 3) := by decide +kernel
theorem dX6_act_24 : decode cX6_act 24 = .ok (.aload_n 0, 1) := by decide +kernel
theorem dX6_act_25 : decode cX6_act 25 = .ok (.iload_n 1, 1) := by decide +kernel
theorem dX6_act_26 : decode cX6_act 26 = .ok (.invokevirtual 295, 3) := by decide +kernel
theorem dX6_act_29 : decode cX6_act 29 = .ok (.iconst 1, 1) := by decide +kernel
theorem dX6_act_30 : decode cX6_act 30 = .ok (.if_icmp .eq 5, 3) := by decide +kernel
theorem dX6_act_33 : decode cX6_act 33 = .ok (.iconst 0, 1) := by decide +kernel
theorem dX6_act_34 : decode cX6_act 34 = .ok (.ireturn, 1) := by decide +kernel
theorem dX6_act_35 : decode cX6_act 35 = .ok (.aload_n 0, 1) := by decide +kernel
theorem dX6_act_36 : decode cX6_act 36 = .ok (.iconst 0, 1) := by decide +kernel
theorem dX6_act_37 : decode cX6_act 37 = .ok (.putfield 328, 3) := by decide +kernel
theorem dX6_act_40 : decode cX6_act 40 = .ok (.aload_n 0, 1) := by decide +kernel
theorem dX6_act_41 : decode cX6_act 41 = .ok (.aload_n 0, 1) := by decide +kernel
theorem dX6_act_42 : decode cX6_act 42 = .ok (.aload_n 0, 1) := by decide +kernel
theorem dX6_act_43 : decode cX6_act 43 = .ok (.getfield 52, 3) := by decide +kernel
theorem dX6_act_46 : decode cX6_act 46 = .ok (.iload_n 1, 1) := by decide +kernel
theorem dX6_act_47 : decode cX6_act 47 = .ok (.iaload, 1) := by decide +kernel
theorem dX6_act_48 : decode cX6_act 48 = .ok (.iconst 0, 1) := by decide +kernel
theorem dX6_act_49 : decode cX6_act 49 = .ok (.invokevirtual 182, 3) := by decide +kernel
theorem dX6_act_52 : decode cX6_act 52 = .ok (.putfield 313, 3) := by decide +kernel
theorem dX6_act_55 : decode cX6_act 55 = .ok (.aload_n 0, 1) := by decide +kernel
theorem dX6_act_56 : decode cX6_act 56 = .ok (.aload_n 0, 1) := by decide +kernel
theorem dX6_act_57 : decode cX6_act 57 = .ok (.getfield 52, 3) := by decide +kernel
theorem dX6_act_60 : decode cX6_act 60 = .ok (.iload_n 1, 1) := by decide +kernel
theorem dX6_act_61 : decode cX6_act 61 = .ok (.iaload, 1) := by decide +kernel
theorem dX6_act_62 : decode cX6_act 62 = .ok (.putfield 307, 3) := by decide +kernel
theorem dX6_act_65 : decode cX6_act 65 = .ok (.aload_n 0, 1) := by decide +kernel
theorem dX6_act_66 : decode cX6_act 66 = .ok (.aload_n 0, 1) := by decide +kernel
theorem dX6_act_67 : decode cX6_act 67 = .ok (.aload_n 0, 1) := by decide +kernel
theorem dX6_act_68 : decode cX6_act 68 = .ok (.getfield 52, 3) := by decide +kernel
theorem dX6_act_71 : decode cX6_act 71 = .ok (.iload_n 1, 1) := by decide +kernel
theorem dX6_act_72 : decode cX6_act 72 = .ok (.iaload, 1) := by decide +kernel
theorem dX6_act_73 : decode cX6_act 73 = .ok (.iconst 1, 1) := by decide +kernel
theorem dX6_act_74 : decode cX6_act 74 = .ok (.invokevirtual 182, 3) := by decide +kernel
theorem dX6_act_77 : decode cX6_act 77 = .ok (.putfield 322, 3) := by decide +kernel
theorem dX6_act_80 : decode cX6_act 80 = .ok (.iload_n 2, 1) := by decide +kernel
theorem dX6_act_81 : decode cX6_act 81 = .ok (.ifCond .ne 11, 3) := by decide +kernel
theorem dX6_act_84 : decode cX6_act 84 = .ok (.aload_n 0, 1) := by decide +kernel
theorem dX6_act_85 : decode cX6_act 85 = .ok (.iload_n 3, 1) := by decide +kernel
theorem dX6_act_86 : decode cX6_act 86 = .ok (.invokevirtual 319, 3) := by decide +kernel
theorem dX6_act_89 : decode cX6_act 89 = .ok (.goto 34, 3) := by decide +kernel
theorem dX6_act_92 : decode cX6_act 92 = .ok (.iload_n 2, 1) := by decide +kernel
theorem dX6_act_93 : decode cX6_act 93 = .ok (.iconst 1, 1) := by decide +kernel
theorem dX6_act_94 : decode cX6_act 94 = .ok (.if_icmp .ne 11, 3) := by decide +kernel
theorem dX6_act_97 : decode cX6_act 97 = .ok (.aload_n 0, 1) := by decide +kernel
theorem dX6_act_98 : decode cX6_act 98 = .ok (.iload_n 3, 1) := by decide +kernel
theorem dX6_act_99 : decode cX6_act 99 = .ok (.invokevirtual 334, 3) := by decide +kernel
theorem dX6_act_102 : decode cX6_act 102 = .ok (.goto 21, 3) := by decide +kernel
theorem dX6_act_105 : decode cX6_act 105 = .ok (.iload_n 2, 1) := by decide +kernel
theorem dX6_act_106 : decode cX6_act 106 = .ok (.iconst 2, 1) := by decide +kernel
theorem dX6_act_107 : decode cX6_act 107 = .ok (.if_icmp .ne 11, 3) := by decide +kernel
theorem dX6_act_110 : decode cX6_act 110 = .ok (.aload_n 0, 1) := by decide +kernel
theorem dX6_act_111 : decode cX6_act 111 = .ok (.iload_n 3, 1) := by decide +kernel
theorem dX6_act_112 : decode cX6_act 112 = .ok (.invokevirtual 340, 3) := by decide +kernel
theorem dX6_act_115 : decode cX6_act 115 = .ok (.goto 8, 3) := by decide +kernel
theorem dX6_act_118 : decode cX6_act 118 = .ok (.aload_n 0, 1) := by decide +kernel
theorem dX6_act_119 : decode cX6_act 119 = .ok (.iload_n 3, 1) := by decide +kernel
theorem dX6_act_120 : decode cX6_act 120 = .ok (.invokevirtual 343, 3) := by decide +kernel
theorem dX6_act_123 : decode cX6_act 123 = .ok (.istore 4, 2) := by decide +kernel
theorem dX6_act_125 : decode cX6_act 125 = .ok (.aload_n 0, 1) := by decide +kernel
theorem dX6_act_126 : decode cX6_act 126 = .ok (.getfield 328, 3) := by decide +kernel
theorem dX6_act_129 : decode cX6_act 129 = .ok (.ifCond .eq 8, 3) := by decide +kernel
theorem dX6_act_132 : decode cX6_act 132 = .ok (.bipush (-15), 2) := by decide +kernel
theorem dX6_act_134 : decode cX6_act 134 = .ok (.goto 5, 3) := by decide +kernel
theorem dX6_act_137 : decode cX6_act 137 = .ok (.iload 4, 2) := by decide +kernel
theorem dX6_act_139 : decode cX6_act 139 = .ok (.ireturn, 1) := by decide +kernel
theorem dX6_trace_0 : decode cX6_trace 0 = .ok (.iload_n 1, 1) := by decide +kernel
theorem dX6_trace_1 : decode cX6_trace 1 = .ok (.i2l, 1) := by decide +kernel
theorem dX6_trace_2 : decode cX6_trace 2 = .ok (.lconst 0, 1) := by decide +kernel
theorem dX6_trace_3 : decode cX6_trace 3 = .ok (.aload_n 0, 1) := by decide +kernel
theorem dX6_trace_4 : decode cX6_trace 4 = .ok (.getfield 301, 3) := by decide +kernel
theorem dX6_trace_7 : decode cX6_trace 7 = .ok (.iconst 1, 1) := by decide +kernel
theorem dX6_trace_8 : decode cX6_trace 8 = .ok (.isub, 1) := by decide +kernel
theorem dX6_trace_9 : decode cX6_trace 9 = .ok (.i2l, 1) := by decide +kernel
theorem dX6_trace_10 : decode cX6_trace 10 = .ok (.invokestatic 70, 3) := by decide +kernel
theorem dX6_trace_13 : decode cX6_trace 13 = .ok (.ifCond .eq 12, 3) := by decide +kernel
theorem dX6_trace_16 : decode cX6_trace 16 = .ok (.aload_n 0, 1) := by decide +kernel
theorem dX6_trace_17 : decode cX6_trace 17 = .ok (.getfield 58, 3) := by decide +kernel
theorem dX6_trace_20 : decode cX6_trace 20 = .ok (.iload_n 1, 1) := by decide +kernel
theorem dX6_trace_21 : decode cX6_trace 21 = .ok (.iaload, 1) := by decide +kernel
theorem dX6_trace_22 : decode cX6_trace 22 = .ok (.goto 5, 3) := by decide +kernel
theorem dX6_trace_25 : decode cX6_trace 25 = .ok (.bipush (-3), 2) := by decide +kernel
theorem dX6_trace_27 : decode cX6_trace 27 = .ok (.ireturn, 1) := by decide +kernel
theorem dX6_many_0 : decode cX6_many 0 = .ok (.iload_n 1, 1) := by decide +kernel
theorem dX6_many_1 : decode cX6_many 1 = .ok (.tableswitch 90 0 6 #[43, 50, 58, 66, 75, 80, 85], 43) := by decide +kernel
theorem dX6_many_44 : decode cX6_many 44 = .ok (.aload_n 0, 1) := by decide +kernel
theorem dX6_many_45 : decode cX6_many 45 = .ok (.getfield 7, 3) := by decide +kernel
theorem dX6_many_48 : decode cX6_many 48 = .ok (.iconst 0, 1) := by decide +kernel
theorem dX6_many_49 : decode cX6_many 49 = .ok (.iaload, 1) := by decide +kernel
theorem dX6_many_50 : decode cX6_many 50 = .ok (.ireturn, 1) := by decide +kernel
theorem dX6_many_51 : decode cX6_many 51 = .ok (.aload_n 0, 1) := by decide +kernel
theorem dX6_many_52 : decode cX6_many 52 = .ok (.invokevirtual 211, 3) := by decide +kernel
theorem dX6_many_55 : decode cX6_many 55 = .ok (.invokestatic 214, 3) := by decide +kernel
theorem dX6_many_58 : decode cX6_many 58 = .ok (.ireturn, 1) := by decide +kernel
theorem dX6_many_59 : decode cX6_many 59 = .ok (.aload_n 0, 1) := by decide +kernel
theorem dX6_many_60 : decode cX6_many 60 = .ok (.invokevirtual 229, 3) := by decide +kernel
theorem dX6_many_63 : decode cX6_many 63 = .ok (.invokestatic 214, 3) := by decide +kernel
theorem dX6_many_66 : decode cX6_many 66 = .ok (.ireturn, 1) := by decide +kernel
theorem dX6_many_67 : decode cX6_many 67 = .ok (.aload_n 0, 1) := by decide +kernel
theorem dX6_many_68 : decode cX6_many 68 = .ok (.iconst 1, 1) := by decide +kernel
theorem dX6_many_69 : decode cX6_many 69 = .ok (.invokevirtual 232, 3) := by decide +kernel
theorem dX6_many_72 : decode cX6_many 72 = .ok (.invokestatic 214, 3) := by decide +kernel
theorem dX6_many_75 : decode cX6_many 75 = .ok (.ireturn, 1) := by decide +kernel
theorem dX6_many_76 : decode cX6_many 76 = .ok (.aload_n 0, 1) := by decide +kernel
theorem dX6_many_77 : decode cX6_many 77 = .ok (.getfield 165, 3) := by decide +kernel
theorem dX6_many_80 : decode cX6_many 80 = .ok (.ireturn, 1) := by decide +kernel
theorem dX6_many_81 : decode cX6_many 81 = .ok (.aload_n 0, 1) := by decide +kernel
theorem dX6_many_82 : decode cX6_many 82 = .ok (.getfield 74, 3) := by decide +kernel
theorem dX6_many_85 : decode cX6_many 85 = .ok (.ireturn, 1) := by decide +kernel
theorem dX6_many_86 : decode cX6_many 86 = .ok (.aload_n 0, 1) := by decide +kernel
theorem dX6_many_87 : decode cX6_many 87 = .ok (.getfield 301, 3) := by decide +kernel
theorem dX6_many_90 : decode cX6_many 90 = .ok (.ireturn, 1) := by decide +kernel
theorem dX6_many_91 : decode cX6_many 91 = .ok (.iconst (-1), 1) := by decide +kernel
theorem dX6_many_92 : decode cX6_many 92 = .ok (.ireturn, 1) := by decide +kernel
theorem dX6_keep_0 : decode cX6_keep 0 = .ok (.iconst 0, 1) := by decide +kernel
theorem dX6_keep_1 : decode cX6_keep 1 = .ok (.istore_n 1, 1) := by decide +kernel
theorem dX6_keep_2 : decode cX6_keep 2 = .ok (.iload_n 1, 1) := by decide +kernel
theorem dX6_keep_3 : decode cX6_keep 3 = .ok (.bipush 56, 2) := by decide +kernel
theorem dX6_keep_5 : decode cX6_keep 5 = .ok (.if_icmp .ge 21, 3) := by decide +kernel
theorem dX6_keep_8 : decode cX6_keep 8 = .ok (.aload_n 0, 1) := by decide +kernel
theorem dX6_keep_9 : decode cX6_keep 9 = .ok (.getfield 13, 3) := by decide +kernel
theorem dX6_keep_12 : decode cX6_keep 12 = .ok (.iload_n 1, 1) := by decide +kernel
theorem dX6_keep_13 : decode cX6_keep 13 = .ok (.aload_n 0, 1) := by decide +kernel
theorem dX6_keep_14 : decode cX6_keep 14 = .ok (.getfield 7, 3) := by decide +kernel
theorem dX6_keep_17 : decode cX6_keep 17 = .ok (.iload_n 1, 1) := by decide +kernel
theorem dX6_keep_18 : decode cX6_keep 18 = .ok (.iaload, 1) := by decide +kernel
theorem dX6_keep_19 : decode cX6_keep 19 = .ok (.iastore, 1) := by decide +kernel
theorem dX6_keep_20 : decode cX6_keep 20 = .ok (.iinc 1 1, 3) := by decide +kernel
theorem dX6_keep_23 : decode cX6_keep 23 = .ok (.goto (-21), 3) := by decide +kernel
theorem dX6_keep_26 : decode cX6_keep 26 = .ok (.aload_n 0, 1) := by decide +kernel
theorem dX6_keep_27 : decode cX6_keep 27 = .ok (.iconst 1, 1) := by decide +kernel
theorem dX6_keep_28 : decode cX6_keep 28 = .ok (.putfield 346, 3) := by decide +kernel
theorem dX6_keep_31 : decode cX6_keep 31 = .ok (.iconst 1, 1) := by decide +kernel
theorem dX6_keep_32 : decode cX6_keep 32 = .ok (.ireturn, 1) := by decide +kernel
theorem dX6_again_0 : decode cX6_again 0 = .ok (.aload_n 0, 1) := by decide +kernel
theorem dX6_again_1 : decode cX6_again 1 = .ok (.getfield 346, 3) := by decide +kernel
theorem dX6_again_4 : decode cX6_again 4 = .ok (.ifCond .ne 6, 3) := by decide +kernel
theorem dX6_again_7 : decode cX6_again 7 = .ok (.bipush (-3), 2) := by decide +kernel
theorem dX6_again_9 : decode cX6_again 9 = .ok (.ireturn, 1) := by decide +kernel
theorem dX6_again_10 : decode cX6_again 10 = .ok (.iconst 0, 1) := by decide +kernel
theorem dX6_again_11 : decode cX6_again 11 = .ok (.istore_n 1, 1) := by decide +kernel
theorem dX6_again_12 : decode cX6_again 12 = .ok (.iload_n 1, 1) := by decide +kernel
theorem dX6_again_13 : decode cX6_again 13 = .ok (.bipush 56, 2) := by decide +kernel
theorem dX6_again_15 : decode cX6_again 15 = .ok (.if_icmp .ge 21, 3) := by decide +kernel
theorem dX6_again_18 : decode cX6_again 18 = .ok (.aload_n 0, 1) := by decide +kernel
theorem dX6_again_19 : decode cX6_again 19 = .ok (.getfield 7, 3) := by decide +kernel
theorem dX6_again_22 : decode cX6_again 22 = .ok (.iload_n 1, 1) := by decide +kernel
theorem dX6_again_23 : decode cX6_again 23 = .ok (.aload_n 0, 1) := by decide +kernel
theorem dX6_again_24 : decode cX6_again 24 = .ok (.getfield 13, 3) := by decide +kernel
theorem dX6_again_27 : decode cX6_again 27 = .ok (.iload_n 1, 1) := by decide +kernel
theorem dX6_again_28 : decode cX6_again 28 = .ok (.iaload, 1) := by decide +kernel
theorem dX6_again_29 : decode cX6_again 29 = .ok (.iastore, 1) := by decide +kernel
theorem dX6_again_30 : decode cX6_again 30 = .ok (.iinc 1 1, 3) := by decide +kernel
theorem dX6_again_33 : decode cX6_again 33 = .ok (.goto (-21), 3) := by decide +kernel
theorem dX6_again_36 : decode cX6_again 36 = .ok (.aload_n 0, 1) := by decide +kernel
theorem dX6_again_37 : decode cX6_again 37 = .ok (.getfield 7, 3) := by decide +kernel
theorem dX6_again_40 : decode cX6_again 40 = .ok (.iconst 0, 1) := by decide +kernel
theorem dX6_again_41 : decode cX6_again 41 = .ok (.iaload, 1) := by decide +kernel
theorem dX6_again_42 : decode cX6_again 42 = .ok (.ireturn, 1) := by decide +kernel
