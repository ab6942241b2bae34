theorem dX11_read_19 : decode cX11_read 19 = .ok (.aload_n 0, 1) := by decide +kernel
theorem dX11_read_20 : decode cX11_read 20 = .ok (.iconst 1, 1) := by decide +kernel
theorem dX11_read_21 : decode cX11_read 21 = .ok (.invokevirtual 104, 3) := by decide +kernel
theorem dX11_read_24 : decode cX11_read 24 = .ok (.ireturn, 1) := by decide +kernel
theorem dX11_read_25 : decode cX11_read 25 = .ok (.aload_n 0, 1) := by decide +kernel
theorem dX11_read_26 : decode cX11_read 26 = .ok (.iconst 0, 1) := by decide +kernel
theorem dX11_read_27 : decode cX11_read 27 = .ok (.iconst 0, 1) := by decide +kernel
theorem dX11_read_28 : decode cX11_read 28 = .ok (.invokevirtual 196, 3) := by decide +kernel
theorem dX11_read_31 : decode cX11_read 31 = .ok (.iconst 0, 1) := by decide +kernel
theorem dX11_read_32 : decode cX11_read 32 = .ok (.istore_n 2, 1) := by decide +kernel
theorem dX11_read_33 : decode cX11_read 33 = .ok (.iconst 0, 1) := by decide +kernel
theorem dX11_read_34 : decode cX11_read 34 = .ok (.istore_n 3, 1) := by decide +kernel
theorem dX11_read_35 : decode cX11_read 35 = .ok (.iload_n 3, 1) := by decide +kernel
theorem dX11_read_36 : decode cX11_read 36 = .ok (.aload_n 0, 1) := by decide +kernel
theorem dX11_read_37 : decode cX11_read 37 = .ok (.getfield 13, 3) := by decide +kernel
theorem dX11_read_40 : decode cX11_read 40 = .ok (.iload_n 1, 1) := by decide +kernel
theorem dX11_read_41 : decode cX11_read 41 = .ok (.iaload, 1) := by decide +kernel
theorem dX11_read_42 : decode cX11_read 42 = .ok (.if_icmp .gt 79, 3) := by decide +kernel
theorem dX11_read_45 : decode cX11_read 45 = .ok (.iload_n 3, 1) := by decide +kernel
theorem dX11_read_46 : decode cX11_read 46 = .ok (.aload_n 0, 1) := by decide +kernel
theorem dX11_read_47 : decode cX11_read 47 = .ok (.getfield 13, 3) := by decide +kernel
theorem dX11_read_50 : decode cX11_read 50 = .ok (.iload_n 1, 1) := by decide +kernel
theorem dX11_read_51 : decode cX11_read 51 = .ok (.iaload, 1) := by decide +kernel
theorem dX11_read_52 : decode cX11_read 52 = .ok (.if_icmp .ge 21, 3) := by decide +kernel
theorem dX11_read_55 : decode cX11_read 55 = .ok (.aload_n 0, 1) := by decide +kernel
theorem dX11_read_56 : decode cX11_read 56 = .ok (.aload_n 0, 1) := by decide +kernel
theorem dX11_read_57 : decode cX11_read 57 = .ok (.getfield 16, 3) := by decide +kernel
theorem dX11_read_60 : decode cX11_read 60 = .ok (.bipush 60, 2) := by decide +kernel
theorem dX11_read_62 : decode cX11_read 62 = .ok (.iload_n 1, 1) := by decide +kernel
theorem dX11_read_63 : decode cX11_read 63 = .ok (.imul, 1) := by decide +kernel
theorem dX11_read_64 : decode cX11_read 64 = .ok (.iload_n 3, 1) := by decide +kernel
theorem dX11_read_65 : decode cX11_read 65 = .ok (.iadd, 1) := by decide +kernel
theorem dX11_read_66 : decode cX11_read 66 = .ok (.iaload, 1) := by decide +kernel
theorem dX11_read_67 : decode cX11_read 67 = .ok (.invokevirtual 160, 3) := by decide +kernel
theorem dX11_read_70 : decode cX11_read 70 = .ok (.goto 4, 3) := by decide +kernel
theorem dX11_read_73 : decode cX11_read 73 = .ok (.iconst (-1), 1) := by decide +kernel
theorem dX11_read_74 : decode cX11_read 74 = .ok (.istore 4, 2) := by decide +kernel
theorem dX11_read_76 : decode cX11_read 76 = .ok (.iload 4, 2) := by decide +kernel
theorem dX11_read_78 : decode cX11_read 78 = .ok (.iconst (-1), 1) := by decide +kernel
theorem dX11_read_79 : decode cX11_read 79 = .ok (.if_icmp .eq 13, 3) := by decide +kernel
theorem dX11_read_82 : decode cX11_read 82 = .ok (.aload_n 0, 1) := by decide +kernel
theorem dX11_read_83 : decode cX11_read 83 = .ok (.iconst 0, 1) := by decide +kernel
theorem dX11_read_84 : decode cX11_read 84 = .ok (.iload 4, 2) := by decide +kernel
theorem dX11_read_86 : decode cX11_read 86 = .ok (.invokevirtual 189, 3) := by decide +kernel
theorem dX11_read_89 : decode cX11_read 89 = .ok (.goto 26, 3) := by decide +kernel
theorem dX11_read_92 : decode cX11_read 92 = .ok (.iload_n 2, 1) := by decide +kernel
theorem dX11_read_93 : decode cX11_read 93 = .ok (.aload_n 0, 1) := by decide +kernel
theorem dX11_read_94 : decode cX11_read 94 = .ok (.iconst 1, 1) := by decide +kernel
theorem dX11_read_95 : decode cX11_read 95 = .ok (.invokevirtual 307, 3) := by decide +kernel
theorem dX11_read_98 : decode cX11_read 98 = .ok (.ifCond .le 7, 3) := by decide +kernel
theorem dX11_read_101 : decode cX11_read 101 = .ok (.iconst 1, 1) := by decide +kernel
theorem dX11_read_102 : decode cX11_read 102 = .ok (.goto 4, 3) := by decide +kernel
theorem dX11_read_105 : decode cX11_read 105 = .ok (.iconst 0, 1) := by decide +kernel
theorem dX11_read_106 : decode cX11_read 106 = .ok (.iadd, 1) := by decide +kernel
theorem dX11_read_107 : decode cX11_read 107 = .ok (.istore_n 2, 1) := by decide +kernel
theorem dX11_read_108 : decode cX11_read 108 = .ok (.aload_n 0, 1) := by decide +kernel
theorem dX11_read_109 : decode cX11_read 109 = .ok (.getfield 41, 3) := by decide +kernel
theorem dX11_read_112 : decode cX11_read 112 = .ok (.iconst 0, 1) := by decide +kernel
theorem dX11_read_113 : decode cX11_read 113 = .ok (.iconst 0, 1) := by decide +kernel
theorem dX11_read_114 : decode cX11_read 114 = .ok (.iastore, 1) := by decide +kernel
theorem dX11_read_115 : decode cX11_read 115 = .ok (.iinc 3 1, 3) := by decide +kernel
theorem dX11_read_118 : decode cX11_read 118 = .ok (.goto (-83), 3) := by decide +kernel
theorem dX11_read_121 : decode cX11_read 121 = .ok (.iload_n 2, 1) := by decide +kernel
theorem dX11_read_122 : decode cX11_read 122 = .ok (.ireturn, 1) := by decide +kernel
theorem dX11_unlist_0 : decode cX11_unlist 0 = .ok (.aload_n 0, 1) := by decide +kernel
theorem dX11_unlist_1 : decode cX11_unlist 1 = .ok (.getfield 304, 3) := by decide +kernel
theorem dX11_unlist_4 : decode cX11_unlist 4 = .ok (.ifCond .ne 6, 3) := by decide +kernel
theorem dX11_unlist_7 : decode cX11_unlist 7 = .ok (.bipush (-3), 2) := by decide +kernel
theorem dX11_unlist_9 : decode cX11_unlist 9 = .ok (.ireturn, 1) := by decide +kernel
theorem dX11_unlist_10 : decode cX11_unlist 10 = .ok (.aload_n 0, 1) := by decide +kernel
theorem dX11_unlist_11 : decode cX11_unlist 11 = .ok (.dup, 1) := by decide +kernel
theorem dX11_unlist_12 : decode cX11_unlist 12 = .ok (.getfield 304, 3) := by decide +kernel
theorem dX11_unlist_15 : decode cX11_unlist 15 = .ok (.iconst 1, 1) := by decide +kernel
theorem dX11_unlist_16 : decode cX11_unlist 16 = .ok (.isub, 1) := by decide +kernel
theorem dX11_unlist_17 : decode cX11_unlist 17 = .ok (.putfield 304, 3) := by decide +kernel
theorem dX11_unlist_20 : decode cX11_unlist 20 = .ok (.aload_n 0, 1) := by decide +kernel
theorem dX11_unlist_21 : decode cX11_unlist 21 = .ok (.getfield 304, 3) := by decide +kernel
theorem dX11_unlist_24 : decode cX11_unlist 24 = .ok (.ireturn, 1) := by decide +kernel
theorem dX11_listedAt_0 : decode cX11_listedAt 0 = .ok (.iload_n 2, 1) := by decide +kernel
theorem dX11_listedAt_1 : decode cX11_listedAt 1 = .ok (.aload_n 0, 1) := by decide +kernel
theorem dX11_listedAt_2 : decode cX11_listedAt 2 = .ok (.getfield 69, 3) := by decide +kernel
theorem dX11_listedAt_5 : decode cX11_listedAt 5 = .ok (.iload_n 1, 1) := by decide +kernel
theorem dX11_listedAt_6 : decode cX11_listedAt 6 = .ok (.iaload, 1) := by decide +kernel
theorem dX11_listedAt_7 : decode cX11_listedAt 7 = .ok (.if_icmp .ge 17, 3) := by decide +kernel
theorem dX11_listedAt_10 : decode cX11_listedAt 10 = .ok (.aload_n 0, 1) := by decide +kernel
theorem dX11_listedAt_11 : decode cX11_listedAt 11 = .ok (.getfield 66, 3) := by decide +kernel
theorem dX11_listedAt_14 : decode cX11_listedAt 14 = .ok (.bipush 60, 2) := by decide +kernel
theorem dX11_listedAt_16 : decode cX11_listedAt 16 = .ok (.iload_n 1, 1) := by decide +kernel
theorem dX11_listedAt_17 : decode cX11_listedAt 17 = .ok (.imul, 1) := by decide +kernel
theorem dX11_listedAt_18 : decode cX11_listedAt 18 = .ok (.iload_n 2, 1) := by decide +kernel
theorem dX11_listedAt_19 : decode cX11_listedAt 19 = .ok (.iadd, 1) := by decide +kernel
theorem dX11_listedAt_20 : decode cX11_listedAt 20 = .ok (.iaload, 1) := by decide +kernel
theorem dX11_listedAt_21 : decode cX11_listedAt 21 = .ok (.goto 4, 3) := by decide +kernel
theorem dX11_listedAt_24 : decode cX11_listedAt 24 = .ok (.iconst (-1), 1) := by decide +kernel
theorem dX11_listedAt_25 : decode cX11_listedAt 25 = .ok (.ireturn, 1) := by decide +kernel
theorem dX11_listed_0 : decode cX11_listed 0 = .ok (.iload_n 1, 1) := by decide +kernel
theorem dX11_listed_1 : decode cX11_listed 1 = .ok (.i2l, 1) := by decide +kernel
theorem dX11_listed_2 : decode cX11_listed 2 = .ok (.lconst 0, 1) := by decide +kernel
theorem dX11_listed_3 : decode cX11_listed 3 = .ok (.aload_n 0, 1) := by decide +kernel
theorem dX11_listed_4 : decode cX11_listed 4 = .ok (.getfield 304, 3) := by decide +kernel
theorem dX11_listed_7 : decode cX11_listed 7 = .ok (.iconst 1, 1) := by decide +kernel
theorem dX11_listed_8 : decode cX11_listed 8 = .ok (.isub, 1) := by decide +kernel
theorem dX11_listed_9 : decode cX11_listed 9 = .ok (.i2l, 1) := by decide +kernel
theorem dX11_listed_10 : decode cX11_listed 10 = .ok (.invokestatic 86, 3) := by decide +kernel
theorem dX11_listed_13 : decode cX11_listed 13 = .ok (.ifCond .eq 17, 3) := by decide +kernel
theorem dX11_listed_16 : decode cX11_listed 16 = .ok (.iload_n 2, 1) := by decide +kernel
theorem dX11_listed_17 : decode cX11_listed 17 = .ok (.i2l, 1) := by decide +kernel
theorem dX11_listed_18 : decode cX11_listed 18 = .ok (.ldc2_w 250, 3) := by decide +kernel
theorem dX11_listed_21 : decode cX11_listed 21 = .ok (.ldc2_w 311, 3) := by decide +kernel
theorem dX11_listed_24 : decode cX11_listed 24 = .ok (.invokestatic 86, 3) := by decide +kernel
theorem dX11_listed_27 : decode cX11_listed 27 = .ok (.ifCond .ne 6, 3) := by decide +kernel
theorem dX11_listed_30 : decode cX11_listed 30 = .ok (.bipush (-2), 2) := by decide +kernel
theorem dX11_listed_32 : decode cX11_listed 32 = .ok (.ireturn, 1) := by decide +kernel
theorem dX11_listed_33 : decode cX11_listed 33 = .ok (.iload_n 2, 1) := by decide +kernel
theorem dX11_listed_34 : decode cX11_listed 34 = .ok (.iconst (-1), 1) := by decide +kernel
theorem dX11_listed_35 : decode cX11_listed 35 = .ok (.if_icmp .ne 12, 3) := by decide +kernel
theorem dX11_listed_38 : decode cX11_listed 38 = .ok (.aload_n 0, 1) := by decide +kernel
theorem dX11_listed_39 : decode cX11_listed 39 = .ok (.getfield 69, 3) := by decide +kernel
theorem dX11_listed_42 : decode cX11_listed 42 = .ok (.iload_n 1, 1) := by decide +kernel
theorem dX11_listed_43 : decode cX11_listed 43 = .ok (.iaload, 1) := by decide +kernel
theorem dX11_listed_44 : decode cX11_listed 44 = .ok (.goto 9, 3) := by decide +kernel
theorem dX11_listed_47 : decode cX11_listed 47 = .ok (.aload_n 0, 1) := by decide +kernel
theorem dX11_listed_48 : decode cX11_listed 48 = .ok (.iload_n 1, 1) := by decide +kernel
theorem dX11_listed_49 : decode cX11_listed 49 = .ok (.iload_n 2, 1) := by decide +kernel
theorem dX11_listed_50 : decode cX11_listed 50 = .ok (.invokevirtual 313, 3) := by decide +kernel
theorem dX11_listed_53 : decode cX11_listed 53 = .ok (.ireturn, 1) := by decide +kernel
theorem dX11_letsBy_0 : decode cX11_letsBy 0 = .ok (.iconst 0, 1) := by decide +kernel
theorem dX11_letsBy_1 : decode cX11_letsBy 1 = .ok (.istore_n 2, 1) := by decide +kernel
theorem dX11_letsBy_2 : decode cX11_letsBy 2 = .ok (.iload_n 2, 1) := by decide +kernel
theorem dX11_letsBy_3 : decode cX11_letsBy 3 = .ok (.aload_n 0, 1) := by decide +kernel
theorem dX11_letsBy_4 : decode cX11_letsBy 4 = .ok (.getfield 304, 3) := by decide +kernel
theorem dX11_letsBy_7 : decode cX11_letsBy 7 = .ok (.if_icmp .ge 74, 3) := by decide +kernel
theorem dX11_letsBy_10 : decode cX11_letsBy 10 = .ok (.aload_n 0, 1) := by decide +kernel
theorem dX11_letsBy_11 : decode cX11_letsBy 11 = .ok (.getfield 72, 3) := by decide +kernel
theorem dX11_letsBy_14 : decode cX11_letsBy 14 = .ok (.iload_n 2, 1) := by decide +kernel
theorem dX11_letsBy_15 : decode cX11_letsBy 15 = .ok (.baload, 1) := by decide +kernel
theorem dX11_letsBy_16 : decode cX11_letsBy 16 = .ok (.istore_n 3, 1) := by decide +kernel
theorem dX11_letsBy_17 : decode cX11_letsBy 17 = .ok (.iconst 0, 1) := by decide +kernel
theorem dX11_letsBy_18 : decode cX11_letsBy 18 = .ok (.istore 4, 2) := by decide +kernel
theorem dX11_letsBy_20 : decode cX11_letsBy 20 = .ok (.iload 4, 2) := by decide +kernel
theorem dX11_letsBy_22 : decode cX11_letsBy 22 = .ok (.bipush 11, 2) := by decide +kernel
theorem dX11_letsBy_24 : decode cX11_letsBy 24 = .ok (.if_icmp .ge 45, 3) := by decide +kernel
theorem dX11_letsBy_27 : decode cX11_letsBy 27 = .ok (.iload_n 3, 1) := by decide +kernel
theorem dX11_letsBy_28 : decode cX11_letsBy 28 = .ok (.ifCond .eq 41, 3) := by decide +kernel
theorem dX11_letsBy_31 : decode cX11_letsBy 31 = .ok (.iload_n 1, 1) := by decide +kernel
theorem dX11_letsBy_32 : decode cX11_letsBy 32 = .ok (.iload 4, 2) := by decide +kernel
theorem dX11_letsBy_34 : decode cX11_letsBy 34 = .ok (.ishr, 1) := by decide +kernel
theorem dX11_letsBy_35 : decode cX11_letsBy 35 = .ok (.iconst 1, 1) := by decide +kernel
theorem dX11_letsBy_36 : decode cX11_letsBy 36 = .ok (.iand, 1) := by decide +kernel
theorem dX11_letsBy_37 : decode cX11_letsBy 37 = .ok (.ifCond .eq 20, 3) := by decide +kernel
theorem dX11_letsBy_40 : decode cX11_letsBy 40 = .ok (.aload_n 0, 1) := by decide +kernel
theorem dX11_letsBy_41 : decode cX11_letsBy 41 = .ok (.getfield 75, 3) := by decide +kernel
theorem dX11_letsBy_44 : decode cX11_letsBy 44 = .ok (.iload 4, 2) := by decide +kernel
theorem dX11_letsBy_46 : decode cX11_letsBy 46 = .ok (.iaload, 1) := by decide +kernel
theorem dX11_letsBy_47 : decode cX11_letsBy 47 = .ok (.aload_n 0, 1) := by decide +kernel
theorem dX11_letsBy_48 : decode cX11_letsBy 48 = .ok (.iload_n 2, 1) := by decide +kernel
theorem dX11_letsBy_49 : decode cX11_letsBy 49 = .ok (.iload 4, 2) := by decide +kernel
theorem dX11_letsBy_51 : decode cX11_letsBy 51 = .ok (.invokevirtual 313, 3) := by decide +kernel
theorem dX11_letsBy_54 : decode cX11_letsBy 54 = .ok (.if_icmp .ne 7, 3) := by decide +kernel
theorem dX11_letsBy_57 : decode cX11_letsBy 57 = .ok (.iconst 1, 1) := by decide +kernel
theorem dX11_letsBy_58 : decode cX11_letsBy 58 = .ok (.goto 4, 3) := by decide +kernel
theorem dX11_letsBy_61 : decode cX11_letsBy 61 = .ok (.iconst 0, 1) := by decide +kernel
theorem dX11_letsBy_62 : decode cX11_letsBy 62 = .ok (.istore_n 3, 1) := by decide +kernel
theorem dX11_letsBy_63 : decode cX11_letsBy 63 = .ok (.iinc 4 1, 3) := by decide +kernel
theorem dX11_letsBy_66 : decode cX11_letsBy 66 = .ok (.goto (-46), 3) := by decide +kernel
theorem dX11_letsBy_69 : decode cX11_letsBy 69 = .ok (.iload_n 3, 1) := by decide +kernel
theorem dX11_letsBy_70 : decode cX11_letsBy 70 = .ok (.ifCond .eq 5, 3) := by decide +kernel
theorem dX11_letsBy_73 : decode cX11_letsBy 73 = .ok (.iconst 1, 1) := by decide +kernel
theorem dX11_letsBy_74 : decode cX11_letsBy 74 = .ok (.ireturn, 1) := by decide +kernel
theorem dX11_letsBy_75 : decode cX11_letsBy 75 = .ok (.iinc 2 1, 3) := by decide +kernel
theorem dX11_letsBy_78 : decode cX11_letsBy 78 = .ok (.goto (-76), 3) := by decide +kernel
theorem dX11_letsBy_81 : decode cX11_letsBy 81 = .ok (.iconst 0, 1) := by decide +kernel
theorem dX11_letsBy_82 : decode cX11_letsBy 82 = .ok (.ireturn, 1) := by decide +kernel
theorem dX11_arePlaces_0 : decode cX11_arePlaces 0 = .ok (.iload_n 0, 1) := by decide +kernel
theorem dX11_arePlaces_1 : decode cX11_arePlaces 1 = .ok (.i2l, 1) := by decide +kernel
theorem dX11_arePlaces_2 : decode cX11_arePlaces 2 = .ok (.lconst 0, 1) := by decide +kernel
theorem dX11_arePlaces_3 : decode cX11_arePlaces 3 = .ok (.ldc2_w 316, 3) := by decide +kernel
theorem dX11_arePlaces_6 : decode cX11_arePlaces 6 = .ok (.invokestatic 86, 3) := by decide +kernel
theorem dX11_arePlaces_9 : decode cX11_arePlaces 9 = .ok (.ireturn, 1) := by decide +kernel
theorem dX11_lets_0 : decode cX11_lets 0 = .ok (.iload_n 1, 1) := by decide +kernel
theorem dX11_lets_1 : decode cX11_lets 1 = .ok (.invokestatic 193, 3) := by decide +kernel
theorem dX11_lets_4 : decode cX11_lets 4 = .ok (.ifCond .eq 10, 3) := by decide +kernel
theorem dX11_lets_7 : decode cX11_lets 7 = .ok (.iload_n 2, 1) := by decide +kernel
theorem dX11_lets_8 : decode cX11_lets 8 = .ok (.invokestatic 318, 3) := by decide +kernel
theorem dX11_lets_11 : decode cX11_lets 11 = .ok (.ifCond .ne 6, 3) := by decide +kernel
theorem dX11_lets_14 : decode cX11_lets 14 = .ok (.bipush (-2), 2) := by decide +kernel
theorem dX11_lets_16 : decode cX11_lets 16 = .ok (.ireturn, 1) := by decide +kernel
theorem dX11_lets_17 : decode cX11_lets 17 = .ok (.aload_n 0, 1) := by decide +kernel
theorem dX11_lets_18 : decode cX11_lets 18 = .ok (.iconst 0, 1) := by decide +kernel
theorem dX11_lets_19 : decode cX11_lets 19 = .ok (.iload_n 1, 1) := by decide +kernel
theorem dX11_lets_20 : decode cX11_lets 20 = .ok (.invokevirtual 196, 3) := by decide +kernel
theorem dX11_lets_23 : decode cX11_lets 23 = .ok (.iconst 0, 1) := by decide +kernel
theorem dX11_lets_24 : decode cX11_lets 24 = .ok (.istore_n 3, 1) := by decide +kernel
theorem dX11_lets_25 : decode cX11_lets 25 = .ok (.iload_n 3, 1) := by decide +kernel
theorem dX11_lets_26 : decode cX11_lets 26 = .ok (.bipush 11, 2) := by decide +kernel
theorem dX11_lets_28 : decode cX11_lets 28 = .ok (.if_icmp .ge 38, 3) := by decide +kernel
theorem dX11_lets_31 : decode cX11_lets 31 = .ok (.aload_n 0, 1) := by decide +kernel
theorem dX11_lets_32 : decode cX11_lets 32 = .ok (.getfield 75, 3) := by decide +kernel
theorem dX11_lets_35 : decode cX11_lets 35 = .ok (.iload_n 3, 1) := by decide +kernel
theorem dX11_lets_36 : decode cX11_lets 36 = .ok (.iload_n 3, 1) := by decide +kernel
theorem dX11_lets_37 : decode cX11_lets 37 = .ok (.aload_n 0, 1) := by decide +kernel
theorem dX11_lets_38 : decode cX11_lets 38 = .ok (.getfield 41, 3) := by decide +kernel
theorem dX11_lets_41 : decode cX11_lets 41 = .ok (.iconst 0, 1) := by decide +kernel
theorem dX11_lets_42 : decode cX11_lets 42 = .ok (.iaload, 1) := by decide +kernel
theorem dX11_lets_43 : decode cX11_lets 43 = .ok (.if_icmp .ge 15, 3) := by decide +kernel
theorem dX11_lets_46 : decode cX11_lets 46 = .ok (.aload_n 0, 1) := by decide +kernel
theorem dX11_lets_47 : decode cX11_lets 47 = .ok (.getfield 38, 3) := by decide +kernel
theorem dX11_lets_50 : decode cX11_lets 50 = .ok (.iload_n 3, 1) := by decide +kernel
theorem dX11_lets_51 : decode cX11_lets 51 = .ok (.iaload, 1) := by decide +kernel
theorem dX11_lets_52 : decode cX11_lets 52 = .ok (.invokestatic 199, 3) := by decide +kernel
theorem dX11_lets_55 : decode cX11_lets 55 = .ok (.goto 4, 3) := by decide +kernel
theorem dX11_lets_58 : decode cX11_lets 58 = .ok (.iconst (-1), 1) := by decide +kernel
theorem dX11_lets_59 : decode cX11_lets 59 = .ok (.iastore, 1) := by decide +kernel
theorem dX11_lets_60 : decode cX11_lets 60 = .ok (.iinc 3 1, 3) := by decide +kernel
theorem dX11_lets_63 : decode cX11_lets 63 = .ok (.goto (-38), 3) := by decide +kernel
theorem dX11_lets_66 : decode cX11_lets 66 = .ok (.aload_n 0, 1) := by decide +kernel
theorem dX11_lets_67 : decode cX11_lets 67 = .ok (.iload_n 2, 1) := by decide +kernel
theorem dX11_lets_68 : decode cX11_lets 68 = .ok (.invokevirtual 321, 3) := by decide +kernel
theorem dX11_lets_71 : decode cX11_lets 71 = .ok (.ifCond .eq 7, 3) := by decide +kernel
theorem dX11_lets_74 : decode cX11_lets 74 = .ok (.iconst 1, 1) := by decide +kernel
theorem dX11_lets_75 : decode cX11_lets 75 = .ok (.goto 4, 3) := by decide +kernel
theorem dX11_lets_78 : decode cX11_lets 78 = .ok (.iconst 0, 1) := by decide +kernel
theorem dX11_lets_79 : decode cX11_lets 79 = .ok (.ireturn, 1) := by decide +kernel
theorem dX11_slipsOf_0 : decode cX11_slipsOf 0 = .ok (.iconst 0, 1) := by decide +kernel
theorem dX11_slipsOf_1 : decode cX11_slipsOf 1 = .ok (.istore_n 2, 1) := by decide +kernel
theorem dX11_slipsOf_2 : decode cX11_slipsOf 2 = .ok (.iconst 0, 1) := by decide +kernel
theorem dX11_slipsOf_3 : decode cX11_slipsOf 3 = .ok (.istore_n 3, 1) := by decide +kernel
theorem dX11_slipsOf_4 : decode cX11_slipsOf 4 = .ok (.iload_n 3, 1) := by decide +kernel
theorem dX11_slipsOf_5 : decode cX11_slipsOf 5 = .ok (.aload_n 0, 1) := by decide +kernel
theorem dX11_slipsOf_6 : decode cX11_slipsOf 6 = .ok (.getfield 304, 3) := by decide +kernel
theorem dX11_slipsOf_9 : decode cX11_slipsOf 9 = .ok (.if_icmp .ge 64, 3) := by decide +kernel
theorem dX11_slipsOf_12 : decode cX11_slipsOf 12 = .ok (.iconst 0, 1) := by decide +kernel
theorem dX11_slipsOf_13 : decode cX11_slipsOf 13 = .ok (.istore 4, 2) := by decide +kernel
theorem dX11_slipsOf_15 : decode cX11_slipsOf 15 = .ok (.iload 4, 2) := by decide +kernel
theorem dX11_slipsOf_17 : decode cX11_slipsOf 17 = .ok (.bipush 11, 2) := by decide +kernel
theorem dX11_slipsOf_19 : decode cX11_slipsOf 19 = .ok (.if_icmp .ge 23, 3) := by decide +kernel
theorem dX11_slipsOf_22 : decode cX11_slipsOf 22 = .ok (.aload_n 0, 1) := by decide +kernel
theorem dX11_slipsOf_23 : decode cX11_slipsOf 23 = .ok (.getfield 75, 3) := by decide +kernel
theorem dX11_slipsOf_26 : decode cX11_slipsOf 26 = .ok (.iload 4, 2) := by decide +kernel
theorem dX11_slipsOf_28 : decode cX11_slipsOf 28 = .ok (.aload_n 0, 1) := by decide +kernel
theorem dX11_slipsOf_29 : decode cX11_slipsOf 29 = .ok (.iload_n 3, 1) := by decide +kernel
theorem dX11_slipsOf_30 : decode cX11_slipsOf 30 = .ok (.iload 4, 2) := by decide +kernel
theorem dX11_slipsOf_32 : decode cX11_slipsOf 32 = .ok (.invokevirtual 313, 3) := by decide +kernel
theorem dX11_slipsOf_35 : decode cX11_slipsOf 35 = .ok (.iastore, 1) := by decide +kernel
theorem dX11_slipsOf_36 : decode cX11_slipsOf 36 = .ok (.iinc 4 1, 3) := by decide +kernel
theorem dX11_slipsOf_39 : decode cX11_slipsOf 39 = .ok (.goto (-24), 3) := by decide +kernel
theorem dX11_slipsOf_42 : decode cX11_slipsOf 42 = .ok (.iload_n 2, 1) := by decide +kernel
theorem dX11_slipsOf_43 : decode cX11_slipsOf 43 = .ok (.aload_n 0, 1) := by decide +kernel
theorem dX11_slipsOf_44 : decode cX11_slipsOf 44 = .ok (.getfield 72, 3) := by decide +kernel
theorem dX11_slipsOf_47 : decode cX11_slipsOf 47 = .ok (.iload_n 3, 1) := by decide +kernel
theorem dX11_slipsOf_48 : decode cX11_slipsOf 48 = .ok (.baload, 1) := by decide +kernel
theorem dX11_slipsOf_49 : decode cX11_slipsOf 49 = .ok (.ifCond .ne 15, 3) := by decide +kernel
theorem dX11_slipsOf_52 : decode cX11_slipsOf 52 = .ok (.aload_n 0, 1) := by decide +kernel
theorem dX11_slipsOf_53 : decode cX11_slipsOf 53 = .ok (.iload_n 1, 1) := by decide +kernel
theorem dX11_slipsOf_54 : decode cX11_slipsOf 54 = .ok (.invokevirtual 321, 3) := by decide +kernel
theorem dX11_slipsOf_57 : decode cX11_slipsOf 57 = .ok (.ifCond .eq 7, 3) := by decide +kernel
theorem dX11_slipsOf_60 : decode cX11_slipsOf 60 = .ok (.iconst 1, 1) := by decide +kernel
theorem dX11_slipsOf_61 : decode cX11_slipsOf 61 = .ok (.goto 4, 3) := by decide +kernel
theorem dX11_slipsOf_64 : decode cX11_slipsOf 64 = .ok (.iconst 0, 1) := by decide +kernel
theorem dX11_slipsOf_65 : decode cX11_slipsOf 65 = .ok (.iadd, 1) := by decide +kernel
theorem dX11_slipsOf_66 : decode cX11_slipsOf 66 = .ok (.istore_n 2, 1) := by decide +kernel
theorem dX11_slipsOf_67 : decode cX11_slipsOf 67 = .ok (.iinc 3 1, 3) := by decide +kernel
theorem dX11_slipsOf_70 : decode cX11_slipsOf 70 = .ok (.goto (-66), 3) := by decide +kernel
theorem dX11_slipsOf_73 : decode cX11_slipsOf 73 = .ok (.iload_n 2, 1) := by decide +kernel
theorem dX11_slipsOf_74 : decode cX11_slipsOf 74 = .ok (.ireturn, 1) := by decide +kernel
theorem dX11_slips_0 : decode cX11_slips 0 = .ok (.iload_n 1, 1) := by decide +kernel
theorem dX11_slips_1 : decode cX11_slips 1 = .ok (.invokestatic 318, 3) := by decide +kernel
theorem dX11_slips_4 : decode cX11_slips 4 = .ok (.ifCond .eq 11, 3) := by decide +kernel
theorem dX11_slips_7 : decode cX11_slips 7 = .ok (.aload_n 0, 1) := by decide +kernel
theorem dX11_slips_8 : decode cX11_slips 8 = .ok (.iload_n 1, 1) := by decide +kernel
theorem dX11_slips_9 : decode cX11_slips 9 = .ok (.invokevirtual 324, 3) := by decide +kernel
theorem dX11_slips_12 : decode cX11_slips 12 = .ok (.goto 5, 3) := by decide +kernel
theorem dX11_slips_15 : decode cX11_slips 15 = .ok (.bipush (-2), 2) := by decide +kernel
theorem dX11_slips_17 : decode cX11_slips 17 = .ok (.ireturn, 1) := by decide +kernel
theorem dX11_ones_0 : decode cX11_ones 0 = .ok (.iconst 0, 1) := by decide +kernel
theorem dX11_ones_1 : decode cX11_ones 1 = .ok (.istore_n 1, 1) := by decide +kernel
theorem dX11_ones_2 : decode cX11_ones 2 = .ok (.iload_n 0, 1) := by decide +kernel
theorem dX11_ones_3 : decode cX11_ones 3 = .ok (.istore_n 2, 1) := by decide +kernel
theorem dX11_ones_4 : decode cX11_ones 4 = .ok (.iload_n 2, 1) := by decide +kernel
theorem dX11_ones_5 : decode cX11_ones 5 = .ok (.ifCond .eq 15, 3) := by decide +kernel
theorem dX11_ones_8 : decode cX11_ones 8 = .ok (.iinc 1 1, 3) := by decide +kernel
theorem dX11_ones_11 : decode cX11_ones 11 = .ok (.iload_n 2, 1) := by decide +kernel
theorem dX11_ones_12 : decode cX11_ones 12 = .ok (.iload_n 2, 1) := by decide +kernel
theorem dX11_ones_13 : decode cX11_ones 13 = .ok (.iconst 1, 1) := by decide +kernel
theorem dX11_ones_14 : decode cX11_ones 14 = .ok (.isub, 1) := by decide +kernel
theorem dX11_ones_15 : decode cX11_ones 15 = .ok (.iand, 1) := by decide +kernel
theorem dX11_ones_16 : decode cX11_ones 16 = .ok (.istore_n 2, 1) := by decide +kernel
theorem dX11_ones_17 : decode cX11_ones 17 = .ok (.goto (-13), 3) := by decide +kernel
theorem dX11_ones_20 : decode cX11_ones 20 = .ok (.iload_n 1, 1) := by decide +kernel
theorem dX11_ones_21 : decode cX11_ones 21 = .ok (.ireturn, 1) := by decide +kernel
theorem dX11_fewestNow_0 : decode cX11_fewestNow 0 = .ok (.iconst (-1), 1) := by decide +kernel
theorem dX11_fewestNow_1 : decode cX11_fewestNow 1 = .ok (.istore_n 1, 1) := by decide +kernel
theorem dX11_fewestNow_2 : decode cX11_fewestNow 2 = .ok (.iconst 0, 1) := by decide +kernel
theorem dX11_fewestNow_3 : decode cX11_fewestNow 3 = .ok (.istore_n 2, 1) := by decide +kernel
theorem dX11_fewestNow_4 : decode cX11_fewestNow 4 = .ok (.iload_n 2, 1) := by decide +kernel
theorem dX11_fewestNow_5 : decode cX11_fewestNow 5 = .ok (.sipush 2048, 3) := by decide +kernel
theorem dX11_fewestNow_8 : decode cX11_fewestNow 8 = .ok (.if_icmp .ge 49, 3) := by decide +kernel
theorem dX11_fewestNow_11 : decode cX11_fewestNow 11 = .ok (.iload_n 1, 1) := by decide +kernel
theorem dX11_fewestNow_12 : decode cX11_fewestNow 12 = .ok (.iconst (-1), 1) := by decide +kernel
theorem dX11_fewestNow_13 : decode cX11_fewestNow 13 = .ok (.if_icmp .eq 14, 3) := by decide +kernel
theorem dX11_fewestNow_16 : decode cX11_fewestNow 16 = .ok (.iload_n 2, 1) := by decide +kernel
theorem dX11_fewestNow_17 : decode cX11_fewestNow 17 = .ok (.invokestatic 327, 3) := by decide +kernel
theorem dX11_fewestNow_20 : decode cX11_fewestNow 20 = .ok (.iload_n 1, 1) := by decide +kernel
theorem dX11_fewestNow_21 : decode cX11_fewestNow 21 = .ok (.invokestatic 327, 3) := by decide +kernel
theorem dX11_fewestNow_24 : decode cX11_fewestNow 24 = .ok (.if_icmp .ge 7, 3) := by decide +kernel
theorem dX11_fewestNow_27 : decode cX11_fewestNow 27 = .ok (.iconst 1, 1) := by decide +kernel
theorem dX11_fewestNow_28 : decode cX11_fewestNow 28 = .ok (.goto 4, 3) := by decide +kernel
theorem dX11_fewestNow_31 : decode cX11_fewestNow 31 = .ok (.iconst 0, 1) := by decide +kernel
theorem dX11_fewestNow_32 : decode cX11_fewestNow 32 = .ok (.istore_n 3, 1) := by decide +kernel
theorem dX11_fewestNow_33 : decode cX11_fewestNow 33 = .ok (.iload_n 3, 1) := by decide +kernel
theorem dX11_fewestNow_34 : decode cX11_fewestNow 34 = .ok (.ifCond .eq 15, 3) := by decide +kernel
theorem dX11_fewestNow_37 : decode cX11_fewestNow 37 = .ok (.aload_n 0, 1) := by decide +kernel
theorem dX11_fewestNow_38 : decode cX11_fewestNow 38 = .ok (.iload_n 2, 1) := by decide +kernel
theorem dX11_fewestNow_39 : decode cX11_fewestNow 39 = .ok (.invokevirtual 324, 3) := by decide +kernel
theorem dX11_fewestNow_42 : decode cX11_fewestNow 42 = .ok (.ifCond .ne 7, 3) := by decide +kernel
theorem dX11_fewestNow_45 : decode cX11_fewestNow 45 = .ok (.iload_n 2, 1) := by decide +kernel
theorem dX11_fewestNow_46 : decode cX11_fewestNow 46 = .ok (.goto 4, 3) := by decide +kernel
theorem dX11_fewestNow_49 : decode cX11_fewestNow 49 = .ok (.iload_n 1, 1) := by decide +kernel
theorem dX11_fewestNow_50 : decode cX11_fewestNow 50 = .ok (.istore_n 1, 1) := by decide +kernel
theorem dX11_fewestNow_51 : decode cX11_fewestNow 51 = .ok (.iinc 2 1, 3) := by decide +kernel
theorem dX11_fewestNow_54 : decode cX11_fewestNow 54 = .ok (.goto (-50), 3) := by decide +kernel
theorem dX11_fewestNow_57 : decode cX11_fewestNow 57 = .ok (.iload_n 1, 1) := by decide +kernel
theorem dX11_fewestNow_58 : decode cX11_fewestNow 58 = .ok (.ireturn, 1) := by decide +kernel
theorem dX11_fewest_0 : decode cX11_fewest 0 = .ok (.aload_n 0, 1) := by decide +kernel
theorem dX11_fewest_1 : decode cX11_fewest 1 = .ok (.invokevirtual 330, 3) := by decide +kernel
theorem dX11_fewest_4 : decode cX11_fewest 4 = .ok (.ireturn, 1) := by decide +kernel
theorem dX11_findFar_0 : decode cX11_findFar 0 = .ok (.iconst 0, 1) := by decide +kernel
theorem dX11_findFar_1 : decode cX11_findFar 1 = .ok (.istore 4, 2) := by decide +kernel
theorem dX11_findFar_3 : decode cX11_findFar 3 = .ok (.iload 4, 2) := by decide +kernel
theorem dX11_findFar_5 : decode cX11_findFar 5 = .ok (.bipush 64, 2) := by decide +kernel
theorem dX11_findFar_7 : decode cX11_findFar 7 = .ok (.if_icmp .ge 36, 3) := by decide +kernel
theorem dX11_findFar_10 : decode cX11_findFar 10 = .ok (.aload_n 0, 1) := by decide +kernel
theorem dX11_findFar_11 : decode cX11_findFar 11 = .ok (.getfield 78, 3) := by decide +kernel
theorem dX11_findFar_14 : decode cX11_findFar 14 = .ok (.iload 4, 2) := by decide +kernel
theorem dX11_findFar_16 : decode cX11_findFar 16 = .ok (.iload 4, 2) := by decide +kernel
theorem dX11_findFar_18 : decode cX11_findFar 18 = .ok (.bipush 8, 2) := by decide +kernel
theorem dX11_findFar_20 : decode cX11_findFar 20 = .ok (.idiv, 1) := by decide +kernel
theorem dX11_findFar_21 : decode cX11_findFar 21 = .ok (.iload 4, 2) := by decide +kernel
theorem dX11_findFar_23 : decode cX11_findFar 23 = .ok (.bipush 8, 2) := by decide +kernel
theorem dX11_findFar_25 : decode cX11_findFar 25 = .ok (.irem, 1) := by decide +kernel
theorem dX11_findFar_26 : decode cX11_findFar 26 = .ok (.if_icmp .ne 7, 3) := by decide +kernel
theorem dX11_findFar_29 : decode cX11_findFar 29 = .ok (.iconst 0, 1) := by decide +kernel
theorem dX11_findFar_30 : decode cX11_findFar 30 = .ok (.goto 6, 3) := by decide +kernel
theorem dX11_findFar_33 : decode cX11_findFar 33 = .ok (.sipush 1000, 3) := by decide +kernel
theorem dX11_findFar_36 : decode cX11_findFar 36 = .ok (.iastore, 1) := by decide +kernel
theorem dX11_findFar_37 : decode cX11_findFar 37 = .ok (.iinc 4 1, 3) := by decide +kernel
theorem dX11_findFar_40 : decode cX11_findFar 40 = .ok (.goto (-37), 3) := by decide +kernel
theorem dX11_findFar_43 : decode cX11_findFar 43 = .ok (.iconst 0, 1) := by decide +kernel
theorem dX11_findFar_44 : decode cX11_findFar 44 = .ok (.istore 4, 2) := by decide +kernel
theorem dX11_findFar_46 : decode cX11_findFar 46 = .ok (.iload 4, 2) := by decide +kernel
theorem dX11_findFar_48 : decode cX11_findFar 48 = .ok (.iconst 2, 1) := by decide +kernel
theorem dX11_findFar_49 : decode cX11_findFar 49 = .ok (.aload_n 0, 1) := by decide +kernel
theorem dX11_findFar_50 : decode cX11_findFar 50 = .ok (.getfield 128, 3) := by decide +kernel
theorem dX11_findFar_53 : decode cX11_findFar 53 = .ok (.imul, 1) := by decide +kernel
theorem dX11_findFar_54 : decode cX11_findFar 54 = .ok (.if_icmp .ge 44, 3) := by decide +kernel
theorem dX11_findFar_57 : decode cX11_findFar 57 = .ok (.aload_n 0, 1) := by decide +kernel
theorem dX11_findFar_58 : decode cX11_findFar 58 = .ok (.iload 4, 2) := by decide +kernel
theorem dX11_findFar_60 : decode cX11_findFar 60 = .ok (.iconst 2, 1) := by decide +kernel
theorem dX11_findFar_61 : decode cX11_findFar 61 = .ok (.idiv, 1) := by decide +kernel
theorem dX11_findFar_62 : decode cX11_findFar 62 = .ok (.invokevirtual 172, 3) := by decide +kernel
theorem dX11_findFar_65 : decode cX11_findFar 65 = .ok (.ifCond .ne 27, 3) := by decide +kernel
theorem dX11_findFar_68 : decode cX11_findFar 68 = .ok (.iload 4, 2) := by decide +kernel
theorem dX11_findFar_70 : decode cX11_findFar 70 = .ok (.iconst 2, 1) := by decide +kernel
theorem dX11_findFar_71 : decode cX11_findFar 71 = .ok (.idiv, 1) := by decide +kernel
theorem dX11_findFar_72 : decode cX11_findFar 72 = .ok (.iload_n 1, 1) := by decide +kernel
theorem dX11_findFar_73 : decode cX11_findFar 73 = .ok (.if_icmp .eq 19, 3) := by decide +kernel
theorem dX11_findFar_76 : decode cX11_findFar 76 = .ok (.aload_n 0, 1) := by decide +kernel
theorem dX11_findFar_77 : decode cX11_findFar 77 = .ok (.aload_n 0, 1) := by decide +kernel
theorem dX11_findFar_78 : decode cX11_findFar 78 = .ok (.iload 4, 2) := by decide +kernel
theorem dX11_findFar_80 : decode cX11_findFar 80 = .ok (.invokevirtual 166, 3) := by decide +kernel
theorem dX11_findFar_83 : decode cX11_findFar 83 = .ok (.aload_n 0, 1) := by decide +kernel
theorem dX11_findFar_84 : decode cX11_findFar 84 = .ok (.iload 4, 2) := by decide +kernel
theorem dX11_findFar_86 : decode cX11_findFar 86 = .ok (.invokevirtual 202, 3) := by decide +kernel
theorem dX11_findFar_89 : decode cX11_findFar 89 = .ok (.invokevirtual 333, 3) := by decide +kernel
theorem dX11_findFar_92 : decode cX11_findFar 92 = .ok (.iinc 4 1, 3) := by decide +kernel
theorem dX11_findFar_95 : decode cX11_findFar 95 = .ok (.goto (-49), 3) := by decide +kernel
theorem dX11_findFar_98 : decode cX11_findFar 98 = .ok (.iload_n 2, 1) := by decide +kernel
theorem dX11_findFar_99 : decode cX11_findFar 99 = .ok (.ifCond .lt 15, 3) := by decide +kernel
theorem dX11_findFar_102 : decode cX11_findFar 102 = .ok (.aload_n 0, 1) := by decide +kernel
theorem dX11_findFar_103 : decode cX11_findFar 103 = .ok (.iload_n 2, 1) := by decide +kernel
theorem dX11_findFar_104 : decode cX11_findFar 104 = .ok (.iload_n 3, 1) := by decide +kernel
theorem dX11_findFar_105 : decode cX11_findFar 105 = .ok (.invokevirtual 333, 3) := by decide +kernel
theorem dX11_findFar_108 : decode cX11_findFar 108 = .ok (.aload_n 0, 1) := by decide +kernel
theorem dX11_findFar_109 : decode cX11_findFar 109 = .ok (.iload_n 3, 1) := by decide +kernel
theorem dX11_findFar_110 : decode cX11_findFar 110 = .ok (.iload_n 2, 1) := by decide +kernel
theorem dX11_findFar_111 : decode cX11_findFar 111 = .ok (.invokevirtual 333, 3) := by decide +kernel
theorem dX11_findFar_114 : decode cX11_findFar 114 = .ok (.iconst 0, 1) := by decide +kernel
theorem dX11_findFar_115 : decode cX11_findFar 115 = .ok (.istore 4, 2) := by decide +kernel
theorem dX11_findFar_117 : decode cX11_findFar 117 = .ok (.iload 4, 2) := by decide +kernel
theorem dX11_findFar_119 : decode cX11_findFar 119 = .ok (.bipush 8, 2) := by decide +kernel
theorem dX11_findFar_121 : decode cX11_findFar 121 = .ok (.if_icmp .ge 91, 3) := by decide +kernel
theorem dX11_findFar_124 : decode cX11_findFar 124 = .ok (.iconst 0, 1) := by decide +kernel
theorem dX11_findFar_125 : decode cX11_findFar 125 = .ok (.istore 5, 2) := by decide +kernel
theorem dX11_findFar_127 : decode cX11_findFar 127 = .ok (.iload 5, 2) := by decide +kernel
theorem dX11_findFar_129 : decode cX11_findFar 129 = .ok (.bipush 64, 2) := by decide +kernel
theorem dX11_findFar_131 : decode cX11_findFar 131 = .ok (.if_icmp .ge 75, 3) := by decide +kernel
theorem dX11_findFar_134 : decode cX11_findFar 134 = .ok (.aload_n 0, 1) := by decide +kernel
theorem dX11_findFar_135 : decode cX11_findFar 135 = .ok (.getfield 78, 3) := by decide +kernel
theorem dX11_findFar_138 : decode cX11_findFar 138 = .ok (.bipush 8, 2) := by decide +kernel
theorem dX11_findFar_140 : decode cX11_findFar 140 = .ok (.iload 5, 2) := by decide +kernel
theorem dX11_findFar_142 : decode cX11_findFar 142 = .ok (.bipush 8, 2) := by decide +kernel
theorem dX11_findFar_144 : decode cX11_findFar 144 = .ok (.idiv, 1) := by decide +kernel
theorem dX11_findFar_145 : decode cX11_findFar 145 = .ok (.imul, 1) := by decide +kernel
theorem dX11_findFar_146 : decode cX11_findFar 146 = .ok (.iload 4, 2) := by decide +kernel
theorem dX11_findFar_148 : decode cX11_findFar 148 = .ok (.iadd, 1) := by decide +kernel
theorem dX11_findFar_149 : decode cX11_findFar 149 = .ok (.iaload, 1) := by decide +kernel
theorem dX11_findFar_150 : decode cX11_findFar 150 = .ok (.aload_n 0, 1) := by decide +kernel
theorem dX11_findFar_151 : decode cX11_findFar 151 = .ok (.getfield 78, 3) := by decide +kernel
theorem dX11_findFar_154 : decode cX11_findFar 154 = .ok (.bipush 8, 2) := by decide +kernel
theorem dX11_findFar_156 : decode cX11_findFar 156 = .ok (.iload 4, 2) := by decide +kernel
theorem dX11_findFar_158 : decode cX11_findFar 158 = .ok (.imul, 1) := by decide +kernel
theorem dX11_findFar_159 : decode cX11_findFar 159 = .ok (.iload 5, 2) := by decide +kernel
theorem dX11_findFar_161 : decode cX11_findFar 161 = .ok (.bipush 8, 2) := by decide +kernel
theorem dX11_findFar_163 : decode cX11_findFar 163 = .ok (.irem, 1) := by decide +kernel
theorem dX11_findFar_164 : decode cX11_findFar 164 = .ok (.iadd, 1) := by decide +kernel
theorem dX11_findFar_165 : decode cX11_findFar 165 = .ok (.iaload, 1) := by decide +kernel
theorem dX11_findFar_166 : decode cX11_findFar 166 = .ok (.iadd, 1) := by decide +kernel
theorem dX11_findFar_167 : decode cX11_findFar 167 = .ok (.istore 6, 2) := by decide +kernel
theorem dX11_findFar_169 : decode cX11_findFar 169 = .ok (.aload_n 0, 1) := by decide +kernel
theorem dX11_findFar_170 : decode cX11_findFar 170 = .ok (.getfield 78, 3) := by decide +kernel
theorem dX11_findFar_173 : decode cX11_findFar 173 = .ok (.iload 5, 2) := by decide +kernel
theorem dX11_findFar_175 : decode cX11_findFar 175 = .ok (.iload 6, 2) := by decide +kernel
theorem dX11_findFar_177 : decode cX11_findFar 177 = .ok (.aload_n 0, 1) := by decide +kernel
theorem dX11_findFar_178 : decode cX11_findFar 178 = .ok (.getfield 78, 3) := by decide +kernel
theorem dX11_findFar_181 : decode cX11_findFar 181 = .ok (.iload 5, 2) := by decide +kernel
theorem dX11_findFar_183 : decode cX11_findFar 183 = .ok (.iaload, 1) := by decide +kernel
theorem dX11_findFar_184 : decode cX11_findFar 184 = .ok (.if_icmp .ge 8, 3) := by decide +kernel
theorem dX11_findFar_187 : decode cX11_findFar 187 = .ok (.iload 6, 2) := by decide +kernel
theorem dX11_findFar_189 : decode cX11_findFar 189 = .ok (.goto 10, 3) := by decide +kernel
theorem dX11_findFar_192 : decode cX11_findFar 192 = .ok (.aload_n 0, 1) := by decide +kernel
theorem dX11_findFar_193 : decode cX11_findFar 193 = .ok (.getfield 78, 3) := by decide +kernel
theorem dX11_findFar_196 : decode cX11_findFar 196 = .ok (.iload 5, 2) := by decide +kernel
theorem dX11_findFar_198 : decode cX11_findFar 198 = .ok (.iaload, 1) := by decide +kernel
theorem dX11_findFar_199 : decode cX11_findFar 199 = .ok (.iastore, 1) := by decide +kernel
theorem dX11_findFar_200 : decode cX11_findFar 200 = .ok (.iinc 5 1, 3) := by decide +kernel
theorem dX11_findFar_203 : decode cX11_findFar 203 = .ok (.goto (-76), 3) := by decide +kernel
theorem dX11_findFar_206 : decode cX11_findFar 206 = .ok (.iinc 4 1, 3) := by decide +kernel
theorem dX11_findFar_209 : decode cX11_findFar 209 = .ok (.goto (-92), 3) := by decide +kernel
theorem dX11_findFar_212 : decode cX11_findFar 212 = .ok (.return_, 1) := by decide +kernel
theorem dX11_joins_0 : decode cX11_joins 0 = .ok (.aload_n 0, 1) := by decide +kernel
theorem dX11_joins_1 : decode cX11_joins 1 = .ok (.getfield 78, 3) := by decide +kernel
theorem dX11_joins_4 : decode cX11_joins 4 = .ok (.bipush 8, 2) := by decide +kernel
theorem dX11_joins_6 : decode cX11_joins 6 = .ok (.iload_n 1, 1) := by decide +kernel
theorem dX11_joins_7 : decode cX11_joins 7 = .ok (.imul, 1) := by decide +kernel
theorem dX11_joins_8 : decode cX11_joins 8 = .ok (.iload_n 2, 1) := by decide +kernel
theorem dX11_joins_9 : decode cX11_joins 9 = .ok (.iadd, 1) := by decide +kernel
theorem dX11_joins_10 : decode cX11_joins 10 = .ok (.iload_n 1, 1) := by decide +kernel
theorem dX11_joins_11 : decode cX11_joins 11 = .ok (.iload_n 2, 1) := by decide +kernel
theorem dX11_joins_12 : decode cX11_joins 12 = .ok (.if_icmp .ne 7, 3) := by decide +kernel
theorem dX11_joins_15 : decode cX11_joins 15 = .ok (.iconst 0, 1) := by decide +kernel
theorem dX11_joins_16 : decode cX11_joins 16 = .ok (.goto 4, 3) := by decide +kernel
theorem dX11_joins_19 : decode cX11_joins 19 = .ok (.iconst 1, 1) := by decide +kernel
theorem dX11_joins_20 : decode cX11_joins 20 = .ok (.iastore, 1) := by decide +kernel
theorem dX11_joins_21 : decode cX11_joins 21 = .ok (.return_, 1) := by decide +kernel
theorem dX11_farOf_0 : decode cX11_farOf 0 = .ok (.aload_n 0, 1) := by decide +kernel
theorem dX11_farOf_1 : decode cX11_farOf 1 = .ok (.invokevirtual 157, 3) := by decide +kernel
theorem dX11_farOf_4 : decode cX11_farOf 4 = .ok (.pop, 1) := by decide +kernel
theorem dX11_farOf_5 : decode cX11_farOf 5 = .ok (.aload_n 0, 1) := by decide +kernel
theorem dX11_farOf_6 : decode cX11_farOf 6 = .ok (.iconst (-1), 1) := by decide +kernel
theorem dX11_farOf_7 : decode cX11_farOf 7 = .ok (.iconst (-1), 1) := by decide +kernel
theorem dX11_farOf_8 : decode cX11_farOf 8 = .ok (.iconst (-1), 1) := by decide +kernel
theorem dX11_farOf_9 : decode cX11_farOf 9 = .ok (.invokevirtual 336, 3) := by decide +kernel
theorem dX11_farOf_12 : decode cX11_farOf 12 = .ok (.aload_n 0, 1) := by decide +kernel
theorem dX11_farOf_13 : decode cX11_farOf 13 = .ok (.getfield 78, 3) := by decide +kernel
theorem dX11_farOf_16 : decode cX11_farOf 16 = .ok (.bipush 8, 2) := by decide +kernel
theorem dX11_farOf_18 : decode cX11_farOf 18 = .ok (.iload_n 1, 1) := by decide +kernel
theorem dX11_farOf_19 : decode cX11_farOf 19 = .ok (.imul, 1) := by decide +kernel
theorem dX11_farOf_20 : decode cX11_farOf 20 = .ok (.iload_n 2, 1) := by decide +kernel
theorem dX11_farOf_21 : decode cX11_farOf 21 = .ok (.iadd, 1) := by decide +kernel
theorem dX11_farOf_22 : decode cX11_farOf 22 = .ok (.iaload, 1) := by decide +kernel
theorem dX11_farOf_23 : decode cX11_farOf 23 = .ok (.istore_n 3, 1) := by decide +kernel
theorem dX11_farOf_24 : decode cX11_farOf 24 = .ok (.iload_n 3, 1) := by decide +kernel
theorem dX11_farOf_25 : decode cX11_farOf 25 = .ok (.sipush 1000, 3) := by decide +kernel
theorem dX11_farOf_28 : decode cX11_farOf 28 = .ok (.if_icmp .ge 7, 3) := by decide +kernel
theorem dX11_farOf_31 : decode cX11_farOf 31 = .ok (.iload_n 3, 1) := by decide +kernel
theorem dX11_farOf_32 : decode cX11_farOf 32 = .ok (.goto 4, 3) := by decide +kernel
theorem dX11_farOf_35 : decode cX11_farOf 35 = .ok (.iconst (-1), 1) := by decide +kernel
theorem dX11_farOf_36 : decode cX11_farOf 36 = .ok (.ireturn, 1) := by decide +kernel
theorem dX11_far_0 : decode cX11_far 0 = .ok (.iload_n 1, 1) := by decide +kernel
theorem dX11_far_1 : decode cX11_far 1 = .ok (.invokestatic 148, 3) := by decide +kernel
theorem dX11_far_4 : decode cX11_far 4 = .ok (.ifCond .eq 19, 3) := by decide +kernel
theorem dX11_far_7 : decode cX11_far 7 = .ok (.iload_n 2, 1) := by decide +kernel
theorem dX11_far_8 : decode cX11_far 8 = .ok (.invokestatic 148, 3) := by decide +kernel
theorem dX11_far_11 : decode cX11_far 11 = .ok (.ifCond .eq 12, 3) := by decide +kernel
theorem dX11_far_14 : decode cX11_far 14 = .ok (.aload_n 0, 1) := by decide +kernel
theorem dX11_far_15 : decode cX11_far 15 = .ok (.iload_n 1, 1) := by decide +kernel
theorem dX11_far_16 : decode cX11_far 16 = .ok (.iload_n 2, 1) := by decide +kernel
theorem dX11_far_17 : decode cX11_far 17 = .ok (.invokevirtual 340, 3) := by decide +kernel
theorem dX11_far_20 : decode cX11_far 20 = .ok (.goto 5, 3) := by decide +kernel
theorem dX11_far_23 : decode cX11_far 23 = .ok (.bipush (-2), 2) := by decide +kernel
theorem dX11_far_25 : decode cX11_far 25 = .ok (.ireturn, 1) := by decide +kernel
theorem dX11_changed_0 : decode cX11_changed 0 = .ok (.aload_n 0, 1) := by decide +kernel
theorem dX11_changed_1 : decode cX11_changed 1 = .ok (.iconst (-1), 1) := by decide +kernel
theorem dX11_changed_2 : decode cX11_changed 2 = .ok (.iconst (-1), 1) := by decide +kernel
theorem dX11_changed_3 : decode cX11_changed 3 = .ok (.iconst (-1), 1) := by decide +kernel
theorem dX11_changed_4 : decode cX11_changed 4 = .ok (.invokevirtual 336, 3) := by decide +kernel
theorem dX11_changed_7 : decode cX11_changed 7 = .ok (.iconst 0, 1) := by decide +kernel
theorem dX11_changed_8 : decode cX11_changed 8 = .ok (.istore 5, 2) := by decide +kernel
theorem dX11_changed_10 : decode cX11_changed 10 = .ok (.iload 5, 2) := by decide +kernel
theorem dX11_changed_12 : decode cX11_changed 12 = .ok (.bipush 64, 2) := by decide +kernel
theorem dX11_changed_14 : decode cX11_changed 14 = .ok (.if_icmp .ge 23, 3) := by decide +kernel
theorem dX11_changed_17 : decode cX11_changed 17 = .ok (.aload_n 0, 1) := by decide +kernel
theorem dX11_changed_18 : decode cX11_changed 18 = .ok (.getfield 81, 3) := by decide +kernel
theorem dX11_changed_21 : decode cX11_changed 21 = .ok (.iload 5, 2) := by decide +kernel
theorem dX11_changed_23 : decode cX11_changed 23 = .ok (.aload_n 0, 1) := by decide +kernel
theorem dX11_changed_24 : decode cX11_changed 24 = .ok (.getfield 78, 3) := by decide +kernel
theorem dX11_changed_27 : decode cX11_changed 27 = .ok (.iload 5, 2) := by decide +kernel
theorem dX11_changed_29 : decode cX11_changed 29 = .ok (.iaload, 1) := by decide +kernel
theorem dX11_changed_30 : decode cX11_changed 30 = .ok (.iastore, 1) := by decide +kernel
theorem dX11_changed_31 : decode cX11_changed 31 = .ok (.iinc 5 1, 3) := by decide +kernel
theorem dX11_changed_34 : decode cX11_changed 34 = .ok (.goto (-24), 3) := by decide +kernel
theorem dX11_changed_37 : decode cX11_changed 37 = .ok (.aload_n 0, 1) := by decide +kernel
theorem dX11_changed_38 : decode cX11_changed 38 = .ok (.iload_n 1, 1) := by decide +kernel
theorem dX11_changed_39 : decode cX11_changed 39 = .ok (.iload_n 2, 1) := by decide +kernel
theorem dX11_changed_40 : decode cX11_changed 40 = .ok (.iload_n 3, 1) := by decide +kernel
theorem dX11_changed_41 : decode cX11_changed 41 = .ok (.invokevirtual 336, 3) := by decide +kernel
theorem dX11_changed_44 : decode cX11_changed 44 = .ok (.iconst 0, 1) := by decide +kernel
theorem dX11_changed_45 : decode cX11_changed 45 = .ok (.istore 5, 2) := by decide +kernel
theorem dX11_changed_47 : decode cX11_changed 47 = .ok (.iconst 0, 1) := by decide +kernel
theorem dX11_changed_48 : decode cX11_changed 48 = .ok (.istore 6, 2) := by decide +kernel
theorem dX11_changed_50 : decode cX11_changed 50 = .ok (.iconst 0, 1) := by decide +kernel
theorem dX11_changed_51 : decode cX11_changed 51 = .ok (.istore 7, 2) := by decide +kernel
theorem dX11_changed_53 : decode cX11_changed 53 = .ok (.iload 7, 2) := by decide +kernel
theorem dX11_changed_55 : decode cX11_changed 55 = .ok (.bipush 64, 2) := by decide +kernel
theorem dX11_changed_57 : decode cX11_changed 57 = .ok (.if_icmp .ge 160, 3) := by decide +kernel
theorem dX11_changed_60 : decode cX11_changed 60 = .ok (.iload 7, 2) := by decide +kernel
theorem dX11_changed_62 : decode cX11_changed 62 = .ok (.bipush 8, 2) := by decide +kernel
theorem dX11_changed_64 : decode cX11_changed 64 = .ok (.idiv, 1) := by decide +kernel
theorem dX11_changed_65 : decode cX11_changed 65 = .ok (.iload 7, 2) := by decide +kernel
theorem dX11_changed_67 : decode cX11_changed 67 = .ok (.bipush 8, 2) := by decide +kernel
theorem dX11_changed_69 : decode cX11_changed 69 = .ok (.irem, 1) := by decide +kernel
theorem dX11_changed_70 : decode cX11_changed 70 = .ok (.if_icmp .ge 24, 3) := by decide +kernel
theorem dX11_changed_73 : decode cX11_changed 73 = .ok (.aload_n 0, 1) := by decide +kernel
theorem dX11_changed_74 : decode cX11_changed 74 = .ok (.getfield 78, 3) := by decide +kernel
theorem dX11_changed_77 : decode cX11_changed 77 = .ok (.iload 7, 2) := by decide +kernel
theorem dX11_changed_79 : decode cX11_changed 79 = .ok (.iaload, 1) := by decide +kernel
theorem dX11_changed_80 : decode cX11_changed 80 = .ok (.aload_n 0, 1) := by decide +kernel
theorem dX11_changed_81 : decode cX11_changed 81 = .ok (.getfield 81, 3) := by decide +kernel
theorem dX11_changed_84 : decode cX11_changed 84 = .ok (.iload 7, 2) := by decide +kernel
theorem dX11_changed_86 : decode cX11_changed 86 = .ok (.iaload, 1) := by decide +kernel
theorem dX11_changed_87 : decode cX11_changed 87 = .ok (.if_icmp .eq 7, 3) := by decide +kernel
theorem dX11_changed_90 : decode cX11_changed 90 = .ok (.iconst 1, 1) := by decide +kernel
theorem dX11_changed_91 : decode cX11_changed 91 = .ok (.goto 4, 3) := by decide +kernel
theorem dX11_changed_94 : decode cX11_changed 94 = .ok (.iconst 0, 1) := by decide +kernel
theorem dX11_changed_95 : decode cX11_changed 95 = .ok (.istore 8, 2) := by decide +kernel
theorem dX11_changed_97 : decode cX11_changed 97 = .ok (.aload_n 0, 1) := by decide +kernel
theorem dX11_changed_98 : decode cX11_changed 98 = .ok (.getfield 78, 3) := by decide +kernel
theorem dX11_changed_101 : decode cX11_changed 101 = .ok (.iload 7, 2) := by decide +kernel
theorem dX11_changed_103 : decode cX11_changed 103 = .ok (.iaload, 1) := by decide +kernel
theorem dX11_changed_104 : decode cX11_changed 104 = .ok (.aload_n 0, 1) := by decide +kernel
theorem dX11_changed_105 : decode cX11_changed 105 = .ok (.getfield 81, 3) := by decide +kernel
theorem dX11_changed_108 : decode cX11_changed 108 = .ok (.iload 7, 2) := by decide +kernel
theorem dX11_changed_110 : decode cX11_changed 110 = .ok (.iaload, 1) := by decide +kernel
theorem dX11_changed_111 : decode cX11_changed 111 = .ok (.if_icmp .le 21, 3) := by decide +kernel
theorem dX11_changed_114 : decode cX11_changed 114 = .ok (.aload_n 0, 1) := by decide +kernel
theorem dX11_changed_115 : decode cX11_changed 115 = .ok (.getfield 78, 3) := by decide +kernel
theorem dX11_changed_118 : decode cX11_changed 118 = .ok (.iload 7, 2) := by decide +kernel
theorem dX11_changed_120 : decode cX11_changed 120 = .ok (.iaload, 1) := by decide +kernel
theorem dX11_changed_121 : decode cX11_changed 121 = .ok (.aload_n 0, 1) := by decide +kernel
theorem dX11_changed_122 : decode cX11_changed 122 = .ok (.getfield 81, 3) := by decide +kernel
theorem dX11_changed_125 : decode cX11_changed 125 = .ok (.iload 7, 2) := by decide +kernel
theorem dX11_changed_127 : decode cX11_changed 127 = .ok (.iaload, 1) := by decide +kernel
theorem dX11_changed_128 : decode cX11_changed 128 = .ok (.isub, 1) := by decide +kernel
theorem dX11_changed_129 : decode cX11_changed 129 = .ok (.goto 18, 3) := by decide +kernel
theorem dX11_changed_132 : decode cX11_changed 132 = .ok (.aload_n 0, 1) := by decide +kernel
theorem dX11_changed_133 : decode cX11_changed 133 = .ok (.getfield 81, 3) := by decide +kernel
theorem dX11_changed_136 : decode cX11_changed 136 = .ok (.iload 7, 2) := by decide +kernel
theorem dX11_changed_138 : decode cX11_changed 138 = .ok (.iaload, 1) := by decide +kernel
theorem dX11_changed_139 : decode cX11_changed 139 = .ok (.aload_n 0, 1) := by decide +kernel
theorem dX11_changed_140 : decode cX11_changed 140 = .ok (.getfield 78, 3) := by decide +kernel
theorem dX11_changed_143 : decode cX11_changed 143 = .ok (.iload 7, 2) := by decide +kernel
theorem dX11_changed_145 : decode cX11_changed 145 = .ok (.iaload, 1) := by decide +kernel
theorem dX11_changed_146 : decode cX11_changed 146 = .ok (.isub, 1) := by decide +kernel
theorem dX11_changed_147 : decode cX11_changed 147 = .ok (.istore 9, 2) := by decide +kernel
theorem dX11_changed_149 : decode cX11_changed 149 = .ok (.iload 5, 2) := by decide +kernel
theorem dX11_changed_151 : decode cX11_changed 151 = .ok (.iload 8, 2) := by decide +kernel
theorem dX11_changed_153 : decode cX11_changed 153 = .ok (.ifCond .eq 7, 3) := by decide +kernel
theorem dX11_changed_156 : decode cX11_changed 156 = .ok (.iconst 1, 1) := by decide +kernel
theorem dX11_changed_157 : decode cX11_changed 157 = .ok (.goto 4, 3) := by decide +kernel
theorem dX11_changed_160 : decode cX11_changed 160 = .ok (.iconst 0, 1) := by decide +kernel
theorem dX11_changed_161 : decode cX11_changed 161 = .ok (.iadd, 1) := by decide +kernel
theorem dX11_changed_162 : decode cX11_changed 162 = .ok (.istore 5, 2) := by decide +kernel
theorem dX11_changed_164 : decode cX11_changed 164 = .ok (.iload 8, 2) := by decide +kernel
theorem dX11_changed_166 : decode cX11_changed 166 = .ok (.ifCond .eq 41, 3) := by decide +kernel
theorem dX11_changed_169 : decode cX11_changed 169 = .ok (.aload_n 0, 1) := by decide +kernel
theorem dX11_changed_170 : decode cX11_changed 170 = .ok (.getfield 78, 3) := by decide +kernel
theorem dX11_changed_173 : decode cX11_changed 173 = .ok (.iload 7, 2) := by decide +kernel
theorem dX11_changed_175 : decode cX11_changed 175 = .ok (.iaload, 1) := by decide +kernel
theorem dX11_changed_176 : decode cX11_changed 176 = .ok (.sipush 1000, 3) := by decide +kernel
theorem dX11_changed_179 : decode cX11_changed 179 = .ok (.if_icmp .ge 28, 3) := by decide +kernel
theorem dX11_changed_182 : decode cX11_changed 182 = .ok (.aload_n 0, 1) := by decide +kernel
theorem dX11_changed_183 : decode cX11_changed 183 = .ok (.getfield 81, 3) := by decide +kernel
theorem dX11_changed_186 : decode cX11_changed 186 = .ok (.iload 7, 2) := by decide +kernel
theorem dX11_changed_188 : decode cX11_changed 188 = .ok (.iaload, 1) := by decide +kernel
theorem dX11_changed_189 : decode cX11_changed 189 = .ok (.sipush 1000, 3) := by decide +kernel
theorem dX11_changed_192 : decode cX11_changed 192 = .ok (.if_icmp .ge 15, 3) := by decide +kernel
theorem dX11_changed_195 : decode cX11_changed 195 = .ok (.iload 9, 2) := by decide +kernel
theorem dX11_changed_197 : decode cX11_changed 197 = .ok (.iload 6, 2) := by decide +kernel
theorem dX11_changed_199 : decode cX11_changed 199 = .ok (.if_icmp .le 8, 3) := by decide +kernel
theorem dX11_changed_202 : decode cX11_changed 202 = .ok (.iload 9, 2) := by decide +kernel
theorem dX11_changed_204 : decode cX11_changed 204 = .ok (.goto 5, 3) := by decide +kernel
theorem dX11_changed_207 : decode cX11_changed 207 = .ok (.iload 6, 2) := by decide +kernel
theorem dX11_changed_209 : decode cX11_changed 209 = .ok (.istore 6, 2) := by decide +kernel
theorem dX11_changed_211 : decode cX11_changed 211 = .ok (.iinc 7 1, 3) := by decide +kernel
theorem dX11_changed_214 : decode cX11_changed 214 = .ok (.goto (-161), 3) := by decide +kernel
theorem dX11_changed_217 : decode cX11_changed 217 = .ok (.iload 4, 2) := by decide +kernel
theorem dX11_changed_219 : decode cX11_changed 219 = .ok (.ifCond .ne 8, 3) := by decide +kernel
theorem dX11_changed_222 : decode cX11_changed 222 = .ok (.iload 5, 2) := by decide +kernel
theorem dX11_changed_224 : decode cX11_changed 224 = .ok (.goto 5, 3) := by decide +kernel
theorem dX11_changed_227 : decode cX11_changed 227 = .ok (.iload 6, 2) := by decide +kernel
theorem dX11_changed_229 : decode cX11_changed 229 = .ok (.ireturn, 1) := by decide +kernel
theorem dX11_without_0 : decode cX11_without 0 = .ok (.aload_n 0, 1) := by decide +kernel
theorem dX11_without_1 : decode cX11_without 1 = .ok (.invokevirtual 157, 3) := by decide +kernel
theorem dX11_without_4 : decode cX11_without 4 = .ok (.pop, 1) := by decide +kernel
theorem dX11_without_5 : decode cX11_without 5 = .ok (.iload_n 1, 1) := by decide +kernel
theorem dX11_without_6 : decode cX11_without 6 = .ok (.i2l, 1) := by decide +kernel
theorem dX11_without_7 : decode cX11_without 7 = .ok (.lconst 0, 1) := by decide +kernel
theorem dX11_without_8 : decode cX11_without 8 = .ok (.aload_n 0, 1) := by decide +kernel
theorem dX11_without_9 : decode cX11_without 9 = .ok (.getfield 128, 3) := by decide +kernel
theorem dX11_without_12 : decode cX11_without 12 = .ok (.iconst 1, 1) := by decide +kernel
theorem dX11_without_13 : decode cX11_without 13 = .ok (.isub, 1) := by decide +kernel
theorem dX11_without_14 : decode cX11_without 14 = .ok (.i2l, 1) := by decide +kernel
theorem dX11_without_15 : decode cX11_without 15 = .ok (.invokestatic 86, 3) := by decide +kernel
theorem dX11_without_18 : decode cX11_without 18 = .ok (.ifCond .eq 21, 3) := by decide +kernel
theorem dX11_without_21 : decode cX11_without 21 = .ok (.iload_n 2, 1) := by decide +kernel
theorem dX11_without_22 : decode cX11_without 22 = .ok (.invokestatic 256, 3) := by decide +kernel
theorem dX11_without_25 : decode cX11_without 25 = .ok (.ifCond .eq 14, 3) := by decide +kernel
theorem dX11_without_28 : decode cX11_without 28 = .ok (.aload_n 0, 1) := by decide +kernel
theorem dX11_without_29 : decode cX11_without 29 = .ok (.iload_n 1, 1) := by decide +kernel
theorem dX11_without_30 : decode cX11_without 30 = .ok (.iconst (-1), 1) := by decide +kernel
theorem dX11_without_31 : decode cX11_without 31 = .ok (.iconst (-1), 1) := by decide +kernel
theorem dX11_without_32 : decode cX11_without 32 = .ok (.iload_n 2, 1) := by decide +kernel
theorem dX11_without_33 : decode cX11_without 33 = .ok (.invokevirtual 343, 3) := by decide +kernel
theorem dX11_without_36 : decode cX11_without 36 = .ok (.goto 5, 3) := by decide +kernel
theorem dX11_without_39 : decode cX11_without 39 = .ok (.bipush (-2), 2) := by decide +kernel
theorem dX11_without_41 : decode cX11_without 41 = .ok (.ireturn, 1) := by decide +kernel
theorem dX11_with_0 : decode cX11_with 0 = .ok (.aload_n 0, 1) := by decide +kernel
theorem dX11_with_1 : decode cX11_with 1 = .ok (.invokevirtual 157, 3) := by decide +kernel
theorem dX11_with_4 : decode cX11_with 4 = .ok (.pop, 1) := by decide +kernel
theorem dX11_with_5 : decode cX11_with 5 = .ok (.iload_n 1, 1) := by decide +kernel
theorem dX11_with_6 : decode cX11_with 6 = .ok (.invokestatic 148, 3) := by decide +kernel
theorem dX11_with_9 : decode cX11_with 9 = .ok (.ifCond .eq 28, 3) := by decide +kernel
theorem dX11_with_12 : decode cX11_with 12 = .ok (.iload_n 2, 1) := by decide +kernel
theorem dX11_with_13 : decode cX11_with 13 = .ok (.invokestatic 148, 3) := by decide +kernel
theorem dX11_with_16 : decode cX11_with 16 = .ok (.ifCond .eq 21, 3) := by decide +kernel
theorem dX11_with_19 : decode cX11_with 19 = .ok (.iload_n 3, 1) := by decide +kernel
theorem dX11_with_20 : decode cX11_with 20 = .ok (.invokestatic 256, 3) := by decide +kernel
theorem dX11_with_23 : decode cX11_with 23 = .ok (.ifCond .eq 14, 3) := by decide +kernel
theorem dX11_with_26 : decode cX11_with 26 = .ok (.aload_n 0, 1) := by decide +kernel
theorem dX11_with_27 : decode cX11_with 27 = .ok (.iconst (-1), 1) := by decide +kernel
theorem dX11_with_28 : decode cX11_with 28 = .ok (.iload_n 1, 1) := by decide +kernel
theorem dX11_with_29 : decode cX11_with 29 = .ok (.iload_n 2, 1) := by decide +kernel
theorem dX11_with_30 : decode cX11_with 30 = .ok (.iload_n 3, 1) := by decide +kernel
theorem dX11_with_31 : decode cX11_with 31 = .ok (.invokevirtual 343, 3) := by decide +kernel
theorem dX11_with_34 : decode cX11_with 34 = .ok (.goto 5, 3) := by decide +kernel
theorem dX11_with_37 : decode cX11_with 37 = .ok (.bipush (-2), 2) := by decide +kernel
theorem dX11_with_39 : decode cX11_with 39 = .ok (.ireturn, 1) := by decide +kernel
theorem dX11_write_0 : decode cX11_write 0 = .ok (.iload_n 1, 1) := by decide +kernel
theorem dX11_write_1 : decode cX11_write 1 = .ok (.invokestatic 193, 3) := by decide +kernel
theorem dX11_write_4 : decode cX11_write 4 = .ok (.ifCond .eq 10, 3) := by decide +kernel
theorem dX11_write_7 : decode cX11_write 7 = .ok (.iload_n 2, 1) := by decide +kernel
theorem dX11_write_8 : decode cX11_write 8 = .ok (.invokestatic 98, 3) := by decide +kernel
theorem dX11_write_11 : decode cX11_write 11 = .ok (.ifCond .ne 6, 3) := by decide +kernel
theorem dX11_write_14 : decode cX11_write 14 = .ok (.bipush (-2), 2) := by decide +kernel
theorem dX11_write_16 : decode cX11_write 16 = .ok (.ireturn, 1) := by decide +kernel
theorem dX11_write_17 : decode cX11_write 17 = .ok (.aload_n 0, 1) := by decide +kernel
theorem dX11_write_18 : decode cX11_write 18 = .ok (.getfield 7, 3) := by decide +kernel
theorem dX11_write_21 : decode cX11_write 21 = .ok (.iload_n 2, 1) := by decide +kernel
theorem dX11_write_22 : decode cX11_write 22 = .ok (.iaload, 1) := by decide +kernel
theorem dX11_write_23 : decode cX11_write 23 = .ok (.ifCond .ge 9, 3) := by decide +kernel
theorem dX11_write_26 : decode cX11_write 26 = .ok (.aload_n 0, 1) := by decide +kernel
theorem dX11_write_27 : decode cX11_write 27 = .ok (.iconst 1, 1) := by decide +kernel
theorem dX11_write_28 : decode cX11_write 28 = .ok (.invokevirtual 104, 3) := by decide +kernel
theorem dX11_write_31 : decode cX11_write 31 = .ok (.ireturn, 1) := by decide +kernel
theorem dX11_write_32 : decode cX11_write 32 = .ok (.aload_n 0, 1) := by decide +kernel
theorem dX11_write_33 : decode cX11_write 33 = .ok (.iconst 0, 1) := by decide +kernel
theorem dX11_write_34 : decode cX11_write 34 = .ok (.iload_n 1, 1) := by decide +kernel
theorem dX11_write_35 : decode cX11_write 35 = .ok (.invokevirtual 196, 3) := by decide +kernel
theorem dX11_write_38 : decode cX11_write 38 = .ok (.aload_n 0, 1) := by decide +kernel
theorem dX11_write_39 : decode cX11_write 39 = .ok (.getfield 13, 3) := by decide +kernel
theorem dX11_write_42 : decode cX11_write 42 = .ok (.iload_n 2, 1) := by decide +kernel
theorem dX11_write_43 : decode cX11_write 43 = .ok (.iaload, 1) := by decide +kernel
theorem dX11_write_44 : decode cX11_write 44 = .ok (.aload_n 0, 1) := by decide +kernel
theorem dX11_write_45 : decode cX11_write 45 = .ok (.getfield 41, 3) := by decide +kernel
theorem dX11_write_48 : decode cX11_write 48 = .ok (.iconst 0, 1) := by decide +kernel
theorem dX11_write_49 : decode cX11_write 49 = .ok (.iaload, 1) := by decide +kernel
theorem dX11_write_50 : decode cX11_write 50 = .ok (.if_icmp .ge 12, 3) := by decide +kernel
theorem dX11_write_53 : decode cX11_write 53 = .ok (.aload_n 0, 1) := by decide +kernel
theorem dX11_write_54 : decode cX11_write 54 = .ok (.getfield 13, 3) := by decide +kernel
theorem dX11_write_57 : decode cX11_write 57 = .ok (.iload_n 2, 1) := by decide +kernel
theorem dX11_write_58 : decode cX11_write 58 = .ok (.iaload, 1) := by decide +kernel
theorem dX11_write_59 : decode cX11_write 59 = .ok (.goto 9, 3) := by decide +kernel
theorem dX11_write_62 : decode cX11_write 62 = .ok (.aload_n 0, 1) := by decide +kernel
theorem dX11_write_63 : decode cX11_write 63 = .ok (.getfield 41, 3) := by decide +kernel
theorem dX11_write_66 : decode cX11_write 66 = .ok (.iconst 0, 1) := by decide +kernel
theorem dX11_write_67 : decode cX11_write 67 = .ok (.iaload, 1) := by decide +kernel
theorem dX11_write_68 : decode cX11_write 68 = .ok (.istore_n 3, 1) := by decide +kernel
theorem dX11_write_69 : decode cX11_write 69 = .ok (.iconst 0, 1) := by decide +kernel
theorem dX11_write_70 : decode cX11_write 70 = .ok (.istore 4, 2) := by decide +kernel
theorem dX11_write_72 : decode cX11_write 72 = .ok (.iload 4, 2) := by decide +kernel
theorem dX11_write_74 : decode cX11_write 74 = .ok (.iload_n 3, 1) := by decide +kernel
theorem dX11_write_75 : decode cX11_write 75 = .ok (.if_icmp .ge 40, 3) := by decide +kernel
theorem dX11_write_78 : decode cX11_write 78 = .ok (.aload_n 0, 1) := by decide +kernel
theorem dX11_write_79 : decode cX11_write 79 = .ok (.getfield 16, 3) := by decide +kernel
theorem dX11_write_82 : decode cX11_write 82 = .ok (.bipush 60, 2) := by decide +kernel
theorem dX11_write_84 : decode cX11_write 84 = .ok (.iload_n 2, 1) := by decide +kernel
theorem dX11_write_85 : decode cX11_write 85 = .ok (.imul, 1) := by decide +kernel
theorem dX11_write_86 : decode cX11_write 86 = .ok (.iload 4, 2) := by decide +kernel
theorem dX11_write_88 : decode cX11_write 88 = .ok (.iadd, 1) := by decide +kernel
theorem dX11_write_89 : decode cX11_write 89 = .ok (.aload_n 0, 1) := by decide +kernel
theorem dX11_write_90 : decode cX11_write 90 = .ok (.getfield 7, 3) := by decide +kernel
theorem dX11_write_93 : decode cX11_write 93 = .ok (.iload_n 2, 1) := by decide +kernel
theorem dX11_write_94 : decode cX11_write 94 = .ok (.iaload, 1) := by decide +kernel
theorem dX11_write_95 : decode cX11_write 95 = .ok (.aload_n 0, 1) := by decide +kernel
theorem dX11_write_96 : decode cX11_write 96 = .ok (.getfield 38, 3) := by decide +kernel
theorem dX11_write_99 : decode cX11_write 99 = .ok (.iload 4, 2) := by decide +kernel
theorem dX11_write_101 : decode cX11_write 101 = .ok (.iaload, 1) := by decide +kernel
theorem dX11_write_102 : decode cX11_write 102 = .ok (.invokestatic 199, 3) := by decide +kernel
theorem dX11_write_105 : decode cX11_write 105 = .ok (.invokestatic 112, 3) := by decide +kernel
theorem dX11_write_108 : decode cX11_write 108 = .ok (.iastore, 1) := by decide +kernel
theorem dX11_write_109 : decode cX11_write 109 = .ok (.iinc 4 1, 3) := by decide +kernel
theorem dX11_write_112 : decode cX11_write 112 = .ok (.goto (-40), 3) := by decide +kernel
theorem dX11_write_115 : decode cX11_write 115 = .ok (.iload_n 3, 1) := by decide +kernel
theorem dX11_write_116 : decode cX11_write 116 = .ok (.ireturn, 1) := by decide +kernel
theorem dX11_count_0 : decode cX11_count 0 = .ok (.iconst 0, 1) := by decide +kernel
theorem dX11_count_1 : decode cX11_count 1 = .ok (.istore_n 2, 1) := by decide +kernel
theorem dX11_count_2 : decode cX11_count 2 = .ok (.aload_n 0, 1) := by decide +kernel
theorem dX11_count_3 : decode cX11_count 3 = .ok (.invokevirtual 157, 3) := by decide +kernel
theorem dX11_count_6 : decode cX11_count 6 = .ok (.pop, 1) := by decide +kernel
theorem dX11_count_7 : decode cX11_count 7 = .ok (.iload_n 1, 1) := by decide +kernel
theorem dX11_count_8 : decode cX11_count 8 = .ok (.tableswitch 146 0 8 #[52, 57, 92, 92, 92, 92, 101, 106, 141], 52) := by decide +kernel
theorem dX11_count_60 : decode cX11_count 60 = .ok (.aload_n 0, 1) := by decide +kernel
theorem dX11_count_61 : decode cX11_count 61 = .ok (.getfield 128, 3) := by decide +kernel
theorem dX11_count_64 : decode cX11_count 64 = .ok (.ireturn, 1) := by decide +kernel
theorem dX11_count_65 : decode cX11_count 65 = .ok (.iconst 0, 1) := by decide +kernel
theorem dX11_count_66 : decode cX11_count 66 = .ok (.istore_n 3, 1) := by decide +kernel
theorem dX11_count_67 : decode cX11_count 67 = .ok (.iload_n 3, 1) := by decide +kernel
theorem dX11_count_68 : decode cX11_count 68 = .ok (.aload_n 0, 1) := by decide +kernel
theorem dX11_count_69 : decode cX11_count 69 = .ok (.getfield 128, 3) := by decide +kernel
theorem dX11_count_72 : decode cX11_count 72 = .ok (.if_icmp .ge 26, 3) := by decide +kernel
theorem dX11_count_75 : decode cX11_count 75 = .ok (.iload_n 2, 1) := by decide +kernel
theorem dX11_count_76 : decode cX11_count 76 = .ok (.aload_n 0, 1) := by decide +kernel
theorem dX11_count_77 : decode cX11_count 77 = .ok (.getfield 34, 3) := by decide +kernel
theorem dX11_count_80 : decode cX11_count 80 = .ok (.iload_n 3, 1) := by decide +kernel
theorem dX11_count_81 : decode cX11_count 81 = .ok (.baload, 1) := by decide +kernel
theorem dX11_count_82 : decode cX11_count 82 = .ok (.ifCond .eq 7, 3) := by decide +kernel
theorem dX11_count_85 : decode cX11_count 85 = .ok (.iconst 1, 1) := by decide +kernel
theorem dX11_count_86 : decode cX11_count 86 = .ok (.goto 4, 3) := by decide +kernel
theorem dX11_count_89 : decode cX11_count 89 = .ok (.iconst 0, 1) := by decide +kernel
theorem dX11_count_90 : decode cX11_count 90 = .ok (.iadd, 1) := by decide +kernel
theorem dX11_count_91 : decode cX11_count 91 = .ok (.istore_n 2, 1) := by decide +kernel
theorem dX11_count_92 : decode cX11_count 92 = .ok (.iinc 3 1, 3) := by decide +kernel
theorem dX11_count_95 : decode cX11_count 95 = .ok (.goto (-28), 3) := by decide +kernel
theorem dX11_count_98 : decode cX11_count 98 = .ok (.iload_n 2, 1) := by decide +kernel
theorem dX11_count_99 : decode cX11_count 99 = .ok (.ireturn, 1) := by decide +kernel
theorem dX11_count_100 : decode cX11_count 100 = .ok (.aload_n 0, 1) := by decide +kernel
theorem dX11_count_101 : decode cX11_count 101 = .ok (.getfield 25, 3) := by decide +kernel
theorem dX11_count_104 : decode cX11_count 104 = .ok (.iload_n 1, 1) := by decide +kernel
theorem dX11_count_105 : decode cX11_count 105 = .ok (.iconst 2, 1) := by decide +kernel
theorem dX11_count_106 : decode cX11_count 106 = .ok (.isub, 1) := by decide +kernel
theorem dX11_count_107 : decode cX11_count 107 = .ok (.iaload, 1) := by decide +kernel
theorem dX11_count_108 : decode cX11_count 108 = .ok (.ireturn, 1) := by decide +kernel
theorem dX11_count_109 : decode cX11_count 109 = .ok (.aload_n 0, 1) := by decide +kernel
theorem dX11_count_110 : decode cX11_count 110 = .ok (.getfield 304, 3) := by decide +kernel
theorem dX11_count_113 : decode cX11_count 113 = .ok (.ireturn, 1) := by decide +kernel
theorem dX11_count_114 : decode cX11_count 114 = .ok (.iconst 0, 1) := by decide +kernel
theorem dX11_count_115 : decode cX11_count 115 = .ok (.istore_n 3, 1) := by decide +kernel
theorem dX11_count_116 : decode cX11_count 116 = .ok (.iload_n 3, 1) := by decide +kernel
theorem dX11_count_117 : decode cX11_count 117 = .ok (.aload_n 0, 1) := by decide +kernel
theorem dX11_count_118 : decode cX11_count 118 = .ok (.getfield 304, 3) := by decide +kernel
theorem dX11_count_121 : decode cX11_count 121 = .ok (.if_icmp .ge 26, 3) := by decide +kernel
theorem dX11_count_124 : decode cX11_count 124 = .ok (.iload_n 2, 1) := by decide +kernel
theorem dX11_count_125 : decode cX11_count 125 = .ok (.aload_n 0, 1) := by decide +kernel
theorem dX11_count_126 : decode cX11_count 126 = .ok (.getfield 72, 3) := by decide +kernel
theorem dX11_count_129 : decode cX11_count 129 = .ok (.iload_n 3, 1) := by decide +kernel
theorem dX11_count_130 : decode cX11_count 130 = .ok (.baload, 1) := by decide +kernel
theorem dX11_count_131 : decode cX11_count 131 = .ok (.ifCond .eq 7, 3) := by decide +kernel
theorem dX11_count_134 : decode cX11_count 134 = .ok (.iconst 1, 1) := by decide +kernel
theorem dX11_count_135 : decode cX11_count 135 = .ok (.goto 4, 3) := by decide +kernel
theorem dX11_count_138 : decode cX11_count 138 = .ok (.iconst 0, 1) := by decide +kernel
theorem dX11_count_139 : decode cX11_count 139 = .ok (.iadd, 1) := by decide +kernel
theorem dX11_count_140 : decode cX11_count 140 = .ok (.istore_n 2, 1) := by decide +kernel
theorem dX11_count_141 : decode cX11_count 141 = .ok (.iinc 3 1, 3) := by decide +kernel
theorem dX11_count_144 : decode cX11_count 144 = .ok (.goto (-28), 3) := by decide +kernel
theorem dX11_count_147 : decode cX11_count 147 = .ok (.iload_n 2, 1) := by decide +kernel
theorem dX11_count_148 : decode cX11_count 148 = .ok (.ireturn, 1) := by decide +kernel
theorem dX11_count_149 : decode cX11_count 149 = .ok (.aload_n 0, 1) := by decide +kernel
theorem dX11_count_150 : decode cX11_count 150 = .ok (.getfield 92, 3) := by decide +kernel
theorem dX11_count_153 : decode cX11_count 153 = .ok (.ireturn, 1) := by decide +kernel
theorem dX11_count_154 : decode cX11_count 154 = .ok (.bipush (-2), 2) := by decide +kernel
theorem dX11_count_156 : decode cX11_count 156 = .ok (.ireturn, 1) := by decide +kernel
theorem dX11_digest_0 : decode cX11_digest 0 = .ok (.ldc2_w 346, 3) := by decide +kernel
theorem dX11_digest_3 : decode cX11_digest 3 = .ok (.lstore_n 1, 1) := by decide +kernel
theorem dX11_digest_4 : decode cX11_digest 4 = .ok (.iconst 0, 1) := by decide +kernel
theorem dX11_digest_5 : decode cX11_digest 5 = .ok (.istore_n 3, 1) := by decide +kernel
theorem dX11_digest_6 : decode cX11_digest 6 = .ok (.iload_n 3, 1) := by decide +kernel
theorem dX11_digest_7 : decode cX11_digest 7 = .ok (.bipush 8, 2) := by decide +kernel
theorem dX11_digest_9 : decode cX11_digest 9 = .ok (.if_icmp .ge 22, 3) := by decide +kernel
theorem dX11_digest_12 : decode cX11_digest 12 = .ok (.ldc2_w 348, 3) := by decide +kernel
theorem dX11_digest_15 : decode cX11_digest 15 = .ok (.lload_n 1, 1) := by decide +kernel
theorem dX11_digest_16 : decode cX11_digest 16 = .ok (.lmul, 1) := by decide +kernel
theorem dX11_digest_17 : decode cX11_digest 17 = .ok (.aload_n 0, 1) := by decide +kernel
theorem dX11_digest_18 : decode cX11_digest 18 = .ok (.iload_n 3, 1) := by decide +kernel
theorem dX11_digest_19 : decode cX11_digest 19 = .ok (.invokevirtual 350, 3) := by decide +kernel
theorem dX11_digest_22 : decode cX11_digest 22 = .ok (.i2l, 1) := by decide +kernel
theorem dX11_digest_23 : decode cX11_digest 23 = .ok (.ladd, 1) := by decide +kernel
theorem dX11_digest_24 : decode cX11_digest 24 = .ok (.lstore_n 1, 1) := by decide +kernel
theorem dX11_digest_25 : decode cX11_digest 25 = .ok (.iinc 3 1, 3) := by decide +kernel
theorem dX11_digest_28 : decode cX11_digest 28 = .ok (.goto (-22), 3) := by decide +kernel
theorem dX11_digest_31 : decode cX11_digest 31 = .ok (.iconst 0, 1) := by decide +kernel
theorem dX11_digest_32 : decode cX11_digest 32 = .ok (.istore_n 3, 1) := by decide +kernel
theorem dX11_digest_33 : decode cX11_digest 33 = .ok (.iload_n 3, 1) := by decide +kernel
theorem dX11_digest_34 : decode cX11_digest 34 = .ok (.iconst 4, 1) := by decide +kernel
theorem dX11_digest_35 : decode cX11_digest 35 = .ok (.if_icmp .ge 22, 3) := by decide +kernel
theorem dX11_digest_38 : decode cX11_digest 38 = .ok (.ldc2_w 348, 3) := by decide +kernel
theorem dX11_digest_41 : decode cX11_digest 41 = .ok (.lload_n 1, 1) := by decide +kernel
theorem dX11_digest_42 : decode cX11_digest 42 = .ok (.lmul, 1) := by decide +kernel
theorem dX11_digest_43 : decode cX11_digest 43 = .ok (.aload_n 0, 1) := by decide +kernel
theorem dX11_digest_44 : decode cX11_digest 44 = .ok (.iload_n 3, 1) := by decide +kernel
theorem dX11_digest_45 : decode cX11_digest 45 = .ok (.invokevirtual 163, 3) := by decide +kernel
theorem dX11_digest_48 : decode cX11_digest 48 = .ok (.i2l, 1) := by decide +kernel
theorem dX11_digest_49 : decode cX11_digest 49 = .ok (.ladd, 1) := by decide +kernel
theorem dX11_digest_50 : decode cX11_digest 50 = .ok (.lstore_n 1, 1) := by decide +kernel
theorem dX11_digest_51 : decode cX11_digest 51 = .ok (.iinc 3 1, 3) := by decide +kernel
theorem dX11_digest_54 : decode cX11_digest 54 = .ok (.goto (-21), 3) := by decide +kernel
theorem dX11_digest_57 : decode cX11_digest 57 = .ok (.ldc2_w 348, 3) := by decide +kernel
theorem dX11_digest_60 : decode cX11_digest 60 = .ok (.lload_n 1, 1) := by decide +kernel
theorem dX11_digest_61 : decode cX11_digest 61 = .ok (.lmul, 1) := by decide +kernel
theorem dX11_digest_62 : decode cX11_digest 62 = .ok (.aload_n 0, 1) := by decide +kernel
theorem dX11_digest_63 : decode cX11_digest 63 = .ok (.getfield 131, 3) := by decide +kernel
theorem dX11_digest_66 : decode cX11_digest 66 = .ok (.i2l, 1) := by decide +kernel
theorem dX11_digest_67 : decode cX11_digest 67 = .ok (.ladd, 1) := by decide +kernel
theorem dX11_digest_68 : decode cX11_digest 68 = .ok (.lstore_n 1, 1) := by decide +kernel
theorem dX11_digest_69 : decode cX11_digest 69 = .ok (.iconst 0, 1) := by decide +kernel
theorem dX11_digest_70 : decode cX11_digest 70 = .ok (.istore_n 3, 1) := by decide +kernel
theorem dX11_digest_71 : decode cX11_digest 71 = .ok (.iload_n 3, 1) := by decide +kernel
theorem dX11_digest_72 : decode cX11_digest 72 = .ok (.aload_n 0, 1) := by decide +kernel
theorem dX11_digest_73 : decode cX11_digest 73 = .ok (.getfield 128, 3) := by decide +kernel
theorem dX11_digest_76 : decode cX11_digest 76 = .ok (.if_icmp .ge 112, 3) := by decide +kernel
theorem dX11_digest_79 : decode cX11_digest 79 = .ok (.ldc2_w 348, 3) := by decide +kernel
theorem dX11_digest_82 : decode cX11_digest 82 = .ok (.lload_n 1, 1) := by decide +kernel
theorem dX11_digest_83 : decode cX11_digest 83 = .ok (.lmul, 1) := by decide +kernel
theorem dX11_digest_84 : decode cX11_digest 84 = .ok (.aload_n 0, 1) := by decide +kernel
theorem dX11_digest_85 : decode cX11_digest 85 = .ok (.getfield 28, 3) := by decide +kernel
theorem dX11_digest_88 : decode cX11_digest 88 = .ok (.iload_n 3, 1) := by decide +kernel
theorem dX11_digest_89 : decode cX11_digest 89 = .ok (.iaload, 1) := by decide +kernel
theorem dX11_digest_90 : decode cX11_digest 90 = .ok (.i2l, 1) := by decide +kernel
theorem dX11_digest_91 : decode cX11_digest 91 = .ok (.ladd, 1) := by decide +kernel
theorem dX11_digest_92 : decode cX11_digest 92 = .ok (.lstore_n 1, 1) := by decide +kernel
theorem dX11_digest_93 : decode cX11_digest 93 = .ok (.ldc2_w 348, 3) := by decide +kernel
theorem dX11_digest_96 : decode cX11_digest 96 = .ok (.lload_n 1, 1) := by decide +kernel
theorem dX11_digest_97 : decode cX11_digest 97 = .ok (.lmul, 1) := by decide +kernel
theorem dX11_digest_98 : decode cX11_digest 98 = .ok (.aload_n 0, 1) := by decide +kernel
theorem dX11_digest_99 : decode cX11_digest 99 = .ok (.getfield 31, 3) := by decide +kernel
theorem dX11_digest_102 : decode cX11_digest 102 = .ok (.iload_n 3, 1) := by decide +kernel
theorem dX11_digest_103 : decode cX11_digest 103 = .ok (.iaload, 1) := by decide +kernel
theorem dX11_digest_104 : decode cX11_digest 104 = .ok (.i2l, 1) := by decide +kernel
theorem dX11_digest_105 : decode cX11_digest 105 = .ok (.ladd, 1) := by decide +kernel
theorem dX11_digest_106 : decode cX11_digest 106 = .ok (.lstore_n 1, 1) := by decide +kernel
theorem dX11_digest_107 : decode cX11_digest 107 = .ok (.ldc2_w 348, 3) := by decide +kernel
theorem dX11_digest_110 : decode cX11_digest 110 = .ok (.lload_n 1, 1) := by decide +kernel
theorem dX11_digest_111 : decode cX11_digest 111 = .ok (.lmul, 1) := by decide +kernel
theorem dX11_digest_112 : decode cX11_digest 112 = .ok (.aload_n 0, 1) := by decide +kernel
theorem dX11_digest_113 : decode cX11_digest 113 = .ok (.getfield 34, 3) := by decide +kernel
theorem dX11_digest_116 : decode cX11_digest 116 = .ok (.iload_n 3, 1) := by decide +kernel
theorem dX11_digest_117 : decode cX11_digest 117 = .ok (.baload, 1) := by decide +kernel
theorem dX11_digest_118 : decode cX11_digest 118 = .ok (.ifCond .eq 7, 3) := by decide +kernel
theorem dX11_digest_121 : decode cX11_digest 121 = .ok (.iconst 1, 1) := by decide +kernel
theorem dX11_digest_122 : decode cX11_digest 122 = .ok (.goto 4, 3) := by decide +kernel
theorem dX11_digest_125 : decode cX11_digest 125 = .ok (.iconst 0, 1) := by decide +kernel
theorem dX11_digest_126 : decode cX11_digest 126 = .ok (.i2l, 1) := by decide +kernel
theorem dX11_digest_127 : decode cX11_digest 127 = .ok (.ladd, 1) := by decide +kernel
theorem dX11_digest_128 : decode cX11_digest 128 = .ok (.lstore_n 1, 1) := by decide +kernel
theorem dX11_digest_129 : decode cX11_digest 129 = .ok (.ldc2_w 348, 3) := by decide +kernel
theorem dX11_digest_132 : decode cX11_digest 132 = .ok (.lload_n 1, 1) := by decide +kernel
theorem dX11_digest_133 : decode cX11_digest 133 = .ok (.lmul, 1) := by decide +kernel
theorem dX11_digest_134 : decode cX11_digest 134 = .ok (.aload_n 0, 1) := by decide +kernel
theorem dX11_digest_135 : decode cX11_digest 135 = .ok (.iload_n 3, 1) := by decide +kernel
theorem dX11_digest_136 : decode cX11_digest 136 = .ok (.invokevirtual 172, 3) := by decide +kernel
theorem dX11_digest_139 : decode cX11_digest 139 = .ok (.ifCond .eq 7, 3) := by decide +kernel
theorem dX11_digest_142 : decode cX11_digest 142 = .ok (.iconst 1, 1) := by decide +kernel
theorem dX11_digest_143 : decode cX11_digest 143 = .ok (.goto 4, 3) := by decide +kernel
theorem dX11_digest_146 : decode cX11_digest 146 = .ok (.iconst 0, 1) := by decide +kernel
theorem dX11_digest_147 : decode cX11_digest 147 = .ok (.i2l, 1) := by decide +kernel
theorem dX11_digest_148 : decode cX11_digest 148 = .ok (.ladd, 1) := by decide +kernel
theorem dX11_digest_149 : decode cX11_digest 149 = .ok (.lstore_n 1, 1) := by decide +kernel
theorem dX11_digest_150 : decode cX11_digest 150 = .ok (.ldc2_w 348, 3) := by decide +kernel
theorem dX11_digest_153 : decode cX11_digest 153 = .ok (.lload_n 1, 1) := by decide +kernel
theorem dX11_digest_154 : decode cX11_digest 154 = .ok (.lmul, 1) := by decide +kernel
theorem dX11_digest_155 : decode cX11_digest 155 = .ok (.aload_n 0, 1) := by decide +kernel
theorem dX11_digest_156 : decode cX11_digest 156 = .ok (.iload_n 3, 1) := by decide +kernel
theorem dX11_digest_157 : decode cX11_digest 157 = .ok (.iconst (-1), 1) := by decide +kernel
theorem dX11_digest_158 : decode cX11_digest 158 = .ok (.iconst (-1), 1) := by decide +kernel
theorem dX11_digest_159 : decode cX11_digest 159 = .ok (.iconst 0, 1) := by decide +kernel
theorem dX11_digest_160 : decode cX11_digest 160 = .ok (.invokevirtual 343, 3) := by decide +kernel
theorem dX11_digest_163 : decode cX11_digest 163 = .ok (.i2l, 1) := by decide +kernel
theorem dX11_digest_164 : decode cX11_digest 164 = .ok (.ladd, 1) := by decide +kernel
theorem dX11_digest_165 : decode cX11_digest 165 = .ok (.lstore_n 1, 1) := by decide +kernel
theorem dX11_digest_166 : decode cX11_digest 166 = .ok (.ldc2_w 348, 3) := by decide +kernel
theorem dX11_digest_169 : decode cX11_digest 169 = .ok (.lload_n 1, 1) := by decide +kernel
theorem dX11_digest_170 : decode cX11_digest 170 = .ok (.lmul, 1) := by decide +kernel
theorem dX11_digest_171 : decode cX11_digest 171 = .ok (.aload_n 0, 1) := by decide +kernel
theorem dX11_digest_172 : decode cX11_digest 172 = .ok (.iload_n 3, 1) := by decide +kernel
theorem dX11_digest_173 : decode cX11_digest 173 = .ok (.iconst (-1), 1) := by decide +kernel
theorem dX11_digest_174 : decode cX11_digest 174 = .ok (.iconst (-1), 1) := by decide +kernel
theorem dX11_digest_175 : decode cX11_digest 175 = .ok (.iconst 1, 1) := by decide +kernel
theorem dX11_digest_176 : decode cX11_digest 176 = .ok (.invokevirtual 343, 3) := by decide +kernel
theorem dX11_digest_179 : decode cX11_digest 179 = .ok (.i2l, 1) := by decide +kernel
theorem dX11_digest_180 : decode cX11_digest 180 = .ok (.ladd, 1) := by decide +kernel
theorem dX11_digest_181 : decode cX11_digest 181 = .ok (.lstore_n 1, 1) := by decide +kernel
theorem dX11_digest_182 : decode cX11_digest 182 = .ok (.iinc 3 1, 3) := by decide +kernel
theorem dX11_digest_185 : decode cX11_digest 185 = .ok (.goto (-114), 3) := by decide +kernel
theorem dX11_digest_188 : decode cX11_digest 188 = .ok (.iconst 1, 1) := by decide +kernel
theorem dX11_digest_189 : decode cX11_digest 189 = .ok (.istore_n 3, 1) := by decide +kernel
theorem dX11_digest_190 : decode cX11_digest 190 = .ok (.iload_n 3, 1) := by decide +kernel
theorem dX11_digest_191 : decode cX11_digest 191 = .ok (.iconst 4, 1) := by decide +kernel
theorem dX11_digest_192 : decode cX11_digest 192 = .ok (.if_icmp .ge 188, 3) := by decide +kernel
theorem dX11_digest_195 : decode cX11_digest 195 = .ok (.aload_n 0, 1) := by decide +kernel
theorem dX11_digest_196 : decode cX11_digest 196 = .ok (.iconst 0, 1) := by decide +kernel
theorem dX11_digest_197 : decode cX11_digest 197 = .ok (.iload_n 3, 1) := by decide +kernel
theorem dX11_digest_198 : decode cX11_digest 198 = .ok (.invokevirtual 196, 3) := by decide +kernel
theorem dX11_digest_201 : decode cX11_digest 201 = .ok (.ldc2_w 348, 3) := by decide +kernel
theorem dX11_digest_204 : decode cX11_digest 204 = .ok (.lload_n 1, 1) := by decide +kernel
theorem dX11_digest_205 : decode cX11_digest 205 = .ok (.lmul, 1) := by decide +kernel
theorem dX11_digest_206 : decode cX11_digest 206 = .ok (.aload_n 0, 1) := by decide +kernel
theorem dX11_digest_207 : decode cX11_digest 207 = .ok (.getfield 41, 3) := by decide +kernel
theorem dX11_digest_210 : decode cX11_digest 210 = .ok (.iconst 0, 1) := by decide +kernel
theorem dX11_digest_211 : decode cX11_digest 211 = .ok (.iaload, 1) := by decide +kernel
theorem dX11_digest_212 : decode cX11_digest 212 = .ok (.i2l, 1) := by decide +kernel
theorem dX11_digest_213 : decode cX11_digest 213 = .ok (.ladd, 1) := by decide +kernel
theorem dX11_digest_214 : decode cX11_digest 214 = .ok (.lstore_n 1, 1) := by decide +kernel
theorem dX11_digest_215 : decode cX11_digest 215 = .ok (.iconst 0, 1) := by decide +kernel
theorem dX11_digest_216 : decode cX11_digest 216 = .ok (.istore 4, 2) := by decide +kernel
theorem dX11_digest_218 : decode cX11_digest 218 = .ok (.iload 4, 2) := by decide +kernel
theorem dX11_digest_220 : decode cX11_digest 220 = .ok (.aload_n 0, 1) := by decide +kernel
theorem dX11_digest_221 : decode cX11_digest 221 = .ok (.getfield 41, 3) := by decide +kernel
theorem dX11_digest_224 : decode cX11_digest 224 = .ok (.iconst 0, 1) := by decide +kernel
theorem dX11_digest_225 : decode cX11_digest 225 = .ok (.iaload, 1) := by decide +kernel
theorem dX11_digest_226 : decode cX11_digest 226 = .ok (.if_icmp .ge 27, 3) := by decide +kernel
theorem dX11_digest_229 : decode cX11_digest 229 = .ok (.ldc2_w 348, 3) := by decide +kernel
theorem dX11_digest_232 : decode cX11_digest 232 = .ok (.lload_n 1, 1) := by decide +kernel
theorem dX11_digest_233 : decode cX11_digest 233 = .ok (.lmul, 1) := by decide +kernel
theorem dX11_digest_234 : decode cX11_digest 234 = .ok (.aload_n 0, 1) := by decide +kernel
theorem dX11_digest_235 : decode cX11_digest 235 = .ok (.getfield 38, 3) := by decide +kernel
theorem dX11_digest_238 : decode cX11_digest 238 = .ok (.iload 4, 2) := by decide +kernel
theorem dX11_digest_240 : decode cX11_digest 240 = .ok (.iaload, 1) := by decide +kernel
theorem dX11_digest_241 : decode cX11_digest 241 = .ok (.invokestatic 199, 3) := by decide +kernel
theorem dX11_digest_244 : decode cX11_digest 244 = .ok (.i2l, 1) := by decide +kernel
theorem dX11_digest_245 : decode cX11_digest 245 = .ok (.ladd, 1) := by decide +kernel
theorem dX11_digest_246 : decode cX11_digest 246 = .ok (.lstore_n 1, 1) := by decide +kernel
theorem dX11_digest_247 : decode cX11_digest 247 = .ok (.iinc 4 1, 3) := by decide +kernel
theorem dX11_digest_250 : decode cX11_digest 250 = .ok (.goto (-32), 3) := by decide +kernel
theorem dX11_digest_253 : decode cX11_digest 253 = .ok (.iconst 0, 1) := by decide +kernel
theorem dX11_digest_254 : decode cX11_digest 254 = .ok (.istore 4, 2) := by decide +kernel
theorem dX11_digest_256 : decode cX11_digest 256 = .ok (.iload 4, 2) := by decide +kernel
theorem dX11_digest_258 : decode cX11_digest 258 = .ok (.iconst 5, 1) := by decide +kernel
theorem dX11_digest_259 : decode cX11_digest 259 = .ok (.if_icmp .ge 26, 3) := by decide +kernel
theorem dX11_digest_262 : decode cX11_digest 262 = .ok (.ldc2_w 348, 3) := by decide +kernel
theorem dX11_digest_265 : decode cX11_digest 265 = .ok (.lload_n 1, 1) := by decide +kernel
theorem dX11_digest_266 : decode cX11_digest 266 = .ok (.lmul, 1) := by decide +kernel
theorem dX11_digest_267 : decode cX11_digest 267 = .ok (.aload_n 0, 1) := by decide +kernel
theorem dX11_digest_268 : decode cX11_digest 268 = .ok (.iload_n 3, 1) := by decide +kernel
theorem dX11_digest_269 : decode cX11_digest 269 = .ok (.iconst 0, 1) := by decide +kernel
theorem dX11_digest_270 : decode cX11_digest 270 = .ok (.iconst 0, 1) := by decide +kernel
theorem dX11_digest_271 : decode cX11_digest 271 = .ok (.iload 4, 2) := by decide +kernel
theorem dX11_digest_273 : decode cX11_digest 273 = .ok (.invokevirtual 210, 3) := by decide +kernel
theorem dX11_digest_276 : decode cX11_digest 276 = .ok (.i2l, 1) := by decide +kernel
theorem dX11_digest_277 : decode cX11_digest 277 = .ok (.ladd, 1) := by decide +kernel
theorem dX11_digest_278 : decode cX11_digest 278 = .ok (.lstore_n 1, 1) := by decide +kernel
theorem dX11_digest_279 : decode cX11_digest 279 = .ok (.iinc 4 1, 3) := by decide +kernel
theorem dX11_digest_282 : decode cX11_digest 282 = .ok (.goto (-26), 3) := by decide +kernel
theorem dX11_digest_285 : decode cX11_digest 285 = .ok (.aload_n 0, 1) := by decide +kernel
theorem dX11_digest_286 : decode cX11_digest 286 = .ok (.iload_n 3, 1) := by decide +kernel
theorem dX11_digest_287 : decode cX11_digest 287 = .ok (.iconst 0, 1) := by decide +kernel
theorem dX11_digest_288 : decode cX11_digest 288 = .ok (.iconst 0, 1) := by decide +kernel
theorem dX11_digest_289 : decode cX11_digest 289 = .ok (.iconst 1, 1) := by decide +kernel
theorem dX11_digest_290 : decode cX11_digest 290 = .ok (.invokevirtual 210, 3) := by decide +kernel
theorem dX11_digest_293 : decode cX11_digest 293 = .ok (.istore 4, 2) := by decide +kernel
theorem dX11_digest_295 : decode cX11_digest 295 = .ok (.ldc2_w 348, 3) := by decide +kernel
theorem dX11_digest_298 : decode cX11_digest 298 = .ok (.lload_n 1, 1) := by decide +kernel
theorem dX11_digest_299 : decode cX11_digest 299 = .ok (.lmul, 1) := by decide +kernel
theorem dX11_digest_300 : decode cX11_digest 300 = .ok (.aload_n 0, 1) := by decide +kernel
theorem dX11_digest_301 : decode cX11_digest 301 = .ok (.iload_n 3, 1) := by decide +kernel
theorem dX11_digest_302 : decode cX11_digest 302 = .ok (.iconst 0, 1) := by decide +kernel
theorem dX11_digest_303 : decode cX11_digest 303 = .ok (.invokevirtual 283, 3) := by decide +kernel
theorem dX11_digest_306 : decode cX11_digest 306 = .ok (.i2l, 1) := by decide +kernel
theorem dX11_digest_307 : decode cX11_digest 307 = .ok (.ladd, 1) := by decide +kernel
theorem dX11_digest_308 : decode cX11_digest 308 = .ok (.lstore_n 1, 1) := by decide +kernel
theorem dX11_digest_309 : decode cX11_digest 309 = .ok (.ldc2_w 348, 3) := by decide +kernel
theorem dX11_digest_312 : decode cX11_digest 312 = .ok (.lload_n 1, 1) := by decide +kernel
theorem dX11_digest_313 : decode cX11_digest 313 = .ok (.lmul, 1) := by decide +kernel
theorem dX11_digest_314 : decode cX11_digest 314 = .ok (.aload_n 0, 1) := by decide +kernel
theorem dX11_digest_315 : decode cX11_digest 315 = .ok (.iload_n 3, 1) := by decide +kernel
theorem dX11_digest_316 : decode cX11_digest 316 = .ok (.iconst 1, 1) := by decide +kernel
theorem dX11_digest_317 : decode cX11_digest 317 = .ok (.invokevirtual 283, 3) := by decide +kernel
theorem dX11_digest_320 : decode cX11_digest 320 = .ok (.i2l, 1) := by decide +kernel
theorem dX11_digest_321 : decode cX11_digest 321 = .ok (.ladd, 1) := by decide +kernel
theorem dX11_digest_322 : decode cX11_digest 322 = .ok (.lstore_n 1, 1) := by decide +kernel
theorem dX11_digest_323 : decode cX11_digest 323 = .ok (.ldc2_w 348, 3) := by decide +kernel
theorem dX11_digest_326 : decode cX11_digest 326 = .ok (.lload_n 1, 1) := by decide +kernel
theorem dX11_digest_327 : decode cX11_digest 327 = .ok (.lmul, 1) := by decide +kernel
theorem dX11_digest_328 : decode cX11_digest 328 = .ok (.aload_n 0, 1) := by decide +kernel
theorem dX11_digest_329 : decode cX11_digest 329 = .ok (.iconst 0, 1) := by decide +kernel
theorem dX11_digest_330 : decode cX11_digest 330 = .ok (.iconst 0, 1) := by decide +kernel
theorem dX11_digest_331 : decode cX11_digest 331 = .ok (.iload 4, 2) := by decide +kernel
theorem dX11_digest_333 : decode cX11_digest 333 = .ok (.iload_n 3, 1) := by decide +kernel
theorem dX11_digest_334 : decode cX11_digest 334 = .ok (.iconst 0, 1) := by decide +kernel
theorem dX11_digest_335 : decode cX11_digest 335 = .ok (.invokevirtual 259, 3) := by decide +kernel
theorem dX11_digest_338 : decode cX11_digest 338 = .ok (.ladd, 1) := by decide +kernel
theorem dX11_digest_339 : decode cX11_digest 339 = .ok (.lstore_n 1, 1) := by decide +kernel
theorem dX11_digest_340 : decode cX11_digest 340 = .ok (.ldc2_w 348, 3) := by decide +kernel
theorem dX11_digest_343 : decode cX11_digest 343 = .ok (.lload_n 1, 1) := by decide +kernel
theorem dX11_digest_344 : decode cX11_digest 344 = .ok (.lmul, 1) := by decide +kernel
theorem dX11_digest_345 : decode cX11_digest 345 = .ok (.aload_n 0, 1) := by decide +kernel
theorem dX11_digest_346 : decode cX11_digest 346 = .ok (.iconst 0, 1) := by decide +kernel
theorem dX11_digest_347 : decode cX11_digest 347 = .ok (.iconst 0, 1) := by decide +kernel
theorem dX11_digest_348 : decode cX11_digest 348 = .ok (.iload 4, 2) := by decide +kernel
theorem dX11_digest_350 : decode cX11_digest 350 = .ok (.iload_n 3, 1) := by decide +kernel
theorem dX11_digest_351 : decode cX11_digest 351 = .ok (.iconst 1, 1) := by decide +kernel
theorem dX11_digest_352 : decode cX11_digest 352 = .ok (.invokevirtual 259, 3) := by decide +kernel
theorem dX11_digest_355 : decode cX11_digest 355 = .ok (.ladd, 1) := by decide +kernel
theorem dX11_digest_356 : decode cX11_digest 356 = .ok (.lstore_n 1, 1) := by decide +kernel
theorem dX11_digest_357 : decode cX11_digest 357 = .ok (.ldc2_w 348, 3) := by decide +kernel
theorem dX11_digest_360 : decode cX11_digest 360 = .ok (.lload_n 1, 1) := by decide +kernel
theorem dX11_digest_361 : decode cX11_digest 361 = .ok (.lmul, 1) := by decide +kernel
theorem dX11_digest_362 : decode cX11_digest 362 = .ok (.aload_n 0, 1) := by decide +kernel
theorem dX11_digest_363 : decode cX11_digest 363 = .ok (.iconst 0, 1) := by decide +kernel
theorem dX11_digest_364 : decode cX11_digest 364 = .ok (.iload_n 3, 1) := by decide +kernel
theorem dX11_digest_365 : decode cX11_digest 365 = .ok (.iload 4, 2) := by decide +kernel
theorem dX11_digest_367 : decode cX11_digest 367 = .ok (.bipush 6, 2) := by decide +kernel
theorem dX11_digest_369 : decode cX11_digest 369 = .ok (.invokevirtual 300, 3) := by decide +kernel
theorem dX11_digest_372 : decode cX11_digest 372 = .ok (.ladd, 1) := by decide +kernel
theorem dX11_digest_373 : decode cX11_digest 373 = .ok (.lstore_n 1, 1) := by decide +kernel
theorem dX11_digest_374 : decode cX11_digest 374 = .ok (.iinc 3 1, 3) := by decide +kernel
theorem dX11_digest_377 : decode cX11_digest 377 = .ok (.goto (-187), 3) := by decide +kernel
theorem dX11_digest_380 : decode cX11_digest 380 = .ok (.ldc2_w 348, 3) := by decide +kernel
theorem dX11_digest_383 : decode cX11_digest 383 = .ok (.lload_n 1, 1) := by decide +kernel
theorem dX11_digest_384 : decode cX11_digest 384 = .ok (.lmul, 1) := by decide +kernel
theorem dX11_digest_385 : decode cX11_digest 385 = .ok (.aload_n 0, 1) := by decide +kernel
theorem dX11_digest_386 : decode cX11_digest 386 = .ok (.iconst 1, 1) := by decide +kernel
theorem dX11_digest_387 : decode cX11_digest 387 = .ok (.iconst 2, 1) := by decide +kernel
theorem dX11_digest_388 : decode cX11_digest 388 = .ok (.invokevirtual 217, 3) := by decide +kernel
theorem dX11_digest_391 : decode cX11_digest 391 = .ok (.i2l, 1) := by decide +kernel
theorem dX11_digest_392 : decode cX11_digest 392 = .ok (.ladd, 1) := by decide +kernel
theorem dX11_digest_393 : decode cX11_digest 393 = .ok (.lstore_n 1, 1) := by decide +kernel
theorem dX11_digest_394 : decode cX11_digest 394 = .ok (.iconst 0, 1) := by decide +kernel
theorem dX11_digest_395 : decode cX11_digest 395 = .ok (.istore_n 3, 1) := by decide +kernel
theorem dX11_digest_396 : decode cX11_digest 396 = .ok (.iload_n 3, 1) := by decide +kernel
theorem dX11_digest_397 : decode cX11_digest 397 = .ok (.bipush 8, 2) := by decide +kernel
theorem dX11_digest_399 : decode cX11_digest 399 = .ok (.if_icmp .ge 70, 3) := by decide +kernel
theorem dX11_digest_402 : decode cX11_digest 402 = .ok (.ldc2_w 348, 3) := by decide +kernel
theorem dX11_digest_405 : decode cX11_digest 405 = .ok (.lload_n 1, 1) := by decide +kernel
theorem dX11_digest_406 : decode cX11_digest 406 = .ok (.lmul, 1) := by decide +kernel
theorem dX11_digest_407 : decode cX11_digest 407 = .ok (.aload_n 0, 1) := by decide +kernel
theorem dX11_digest_408 : decode cX11_digest 408 = .ok (.iload_n 3, 1) := by decide +kernel
theorem dX11_digest_409 : decode cX11_digest 409 = .ok (.invokevirtual 280, 3) := by decide +kernel
theorem dX11_digest_412 : decode cX11_digest 412 = .ok (.i2l, 1) := by decide +kernel
theorem dX11_digest_413 : decode cX11_digest 413 = .ok (.ladd, 1) := by decide +kernel
theorem dX11_digest_414 : decode cX11_digest 414 = .ok (.lstore_n 1, 1) := by decide +kernel
theorem dX11_digest_415 : decode cX11_digest 415 = .ok (.ldc2_w 348, 3) := by decide +kernel
theorem dX11_digest_418 : decode cX11_digest 418 = .ok (.lload_n 1, 1) := by decide +kernel
theorem dX11_digest_419 : decode cX11_digest 419 = .ok (.lmul, 1) := by decide +kernel
theorem dX11_digest_420 : decode cX11_digest 420 = .ok (.aload_n 0, 1) := by decide +kernel
theorem dX11_digest_421 : decode cX11_digest 421 = .ok (.iconst 0, 1) := by decide +kernel
theorem dX11_digest_422 : decode cX11_digest 422 = .ok (.iload_n 3, 1) := by decide +kernel
theorem dX11_digest_423 : decode cX11_digest 423 = .ok (.invokevirtual 340, 3) := by decide +kernel
theorem dX11_digest_426 : decode cX11_digest 426 = .ok (.i2l, 1) := by decide +kernel
theorem dX11_digest_427 : decode cX11_digest 427 = .ok (.ladd, 1) := by decide +kernel
theorem dX11_digest_428 : decode cX11_digest 428 = .ok (.lstore_n 1, 1) := by decide +kernel
theorem dX11_digest_429 : decode cX11_digest 429 = .ok (.ldc2_w 348, 3) := by decide +kernel
theorem dX11_digest_432 : decode cX11_digest 432 = .ok (.lload_n 1, 1) := by decide +kernel
theorem dX11_digest_433 : decode cX11_digest 433 = .ok (.lmul, 1) := by decide +kernel
theorem dX11_digest_434 : decode cX11_digest 434 = .ok (.aload_n 0, 1) := by decide +kernel
theorem dX11_digest_435 : decode cX11_digest 435 = .ok (.iconst 0, 1) := by decide +kernel
theorem dX11_digest_436 : decode cX11_digest 436 = .ok (.iconst 1, 1) := by decide +kernel
theorem dX11_digest_437 : decode cX11_digest 437 = .ok (.iload_n 3, 1) := by decide +kernel
theorem dX11_digest_438 : decode cX11_digest 438 = .ok (.ishl, 1) := by decide +kernel
theorem dX11_digest_439 : decode cX11_digest 439 = .ok (.iconst 0, 1) := by decide +kernel
theorem dX11_digest_440 : decode cX11_digest 440 = .ok (.invokevirtual 277, 3) := by decide +kernel
theorem dX11_digest_443 : decode cX11_digest 443 = .ok (.i2l, 1) := by decide +kernel
theorem dX11_digest_444 : decode cX11_digest 444 = .ok (.ladd, 1) := by decide +kernel
theorem dX11_digest_445 : decode cX11_digest 445 = .ok (.lstore_n 1, 1) := by decide +kernel
theorem dX11_digest_446 : decode cX11_digest 446 = .ok (.ldc2_w 348, 3) := by decide +kernel
theorem dX11_digest_449 : decode cX11_digest 449 = .ok (.lload_n 1, 1) := by decide +kernel
theorem dX11_digest_450 : decode cX11_digest 450 = .ok (.lmul, 1) := by decide +kernel
theorem dX11_digest_451 : decode cX11_digest 451 = .ok (.aload_n 0, 1) := by decide +kernel
theorem dX11_digest_452 : decode cX11_digest 452 = .ok (.iconst 0, 1) := by decide +kernel
theorem dX11_digest_453 : decode cX11_digest 453 = .ok (.iconst 1, 1) := by decide +kernel
theorem dX11_digest_454 : decode cX11_digest 454 = .ok (.iload_n 3, 1) := by decide +kernel
theorem dX11_digest_455 : decode cX11_digest 455 = .ok (.ishl, 1) := by decide +kernel
theorem dX11_digest_456 : decode cX11_digest 456 = .ok (.iconst 1, 1) := by decide +kernel
theorem dX11_digest_457 : decode cX11_digest 457 = .ok (.invokevirtual 277, 3) := by decide +kernel
theorem dX11_digest_460 : decode cX11_digest 460 = .ok (.i2l, 1) := by decide +kernel
theorem dX11_digest_461 : decode cX11_digest 461 = .ok (.ladd, 1) := by decide +kernel
theorem dX11_digest_462 : decode cX11_digest 462 = .ok (.lstore_n 1, 1) := by decide +kernel
theorem dX11_digest_463 : decode cX11_digest 463 = .ok (.iinc 3 1, 3) := by decide +kernel
theorem dX11_digest_466 : decode cX11_digest 466 = .ok (.goto (-70), 3) := by decide +kernel
theorem dX11_digest_469 : decode cX11_digest 469 = .ok (.ldc2_w 348, 3) := by decide +kernel
theorem dX11_digest_472 : decode cX11_digest 472 = .ok (.lload_n 1, 1) := by decide +kernel
theorem dX11_digest_473 : decode cX11_digest 473 = .ok (.lmul, 1) := by decide +kernel
theorem dX11_digest_474 : decode cX11_digest 474 = .ok (.aload_n 0, 1) := by decide +kernel
theorem dX11_digest_475 : decode cX11_digest 475 = .ok (.bipush 7, 2) := by decide +kernel
theorem dX11_digest_477 : decode cX11_digest 477 = .ok (.invokevirtual 324, 3) := by decide +kernel
theorem dX11_digest_480 : decode cX11_digest 480 = .ok (.i2l, 1) := by decide +kernel
theorem dX11_digest_481 : decode cX11_digest 481 = .ok (.ladd, 1) := by decide +kernel
theorem dX11_digest_482 : decode cX11_digest 482 = .ok (.lstore_n 1, 1) := by decide +kernel
theorem dX11_digest_483 : decode cX11_digest 483 = .ok (.ldc2_w 348, 3) := by decide +kernel
theorem dX11_digest_486 : decode cX11_digest 486 = .ok (.lload_n 1, 1) := by decide +kernel
theorem dX11_digest_487 : decode cX11_digest 487 = .ok (.lmul, 1) := by decide +kernel
theorem dX11_digest_488 : decode cX11_digest 488 = .ok (.aload_n 0, 1) := by decide +kernel
theorem dX11_digest_489 : decode cX11_digest 489 = .ok (.invokevirtual 330, 3) := by decide +kernel
theorem dX11_digest_492 : decode cX11_digest 492 = .ok (.i2l, 1) := by decide +kernel
theorem dX11_digest_493 : decode cX11_digest 493 = .ok (.ladd, 1) := by decide +kernel
theorem dX11_digest_494 : decode cX11_digest 494 = .ok (.lreturn, 1) := by decide +kernel
theorem dJ6_bitCount_0f7a4_0 : decode cJ6_bitCount_0f7a4 0 = .ok (.iload_n 0, 1) := by decide +kernel
theorem dJ6_bitCount_0f7a4_1 : decode cJ6_bitCount_0f7a4 1 = .ok (.iload_n 0, 1) := by decide +kernel
theorem dJ6_bitCount_0f7a4_2 : decode cJ6_bitCount_0f7a4 2 = .ok (.iconst 1, 1) := by decide +kernel
theorem dJ6_bitCount_0f7a4_3 : decode cJ6_bitCount_0f7a4 3 = .ok (.iushr, 1) := by decide +kernel
theorem dJ6_bitCount_0f7a4_4 : decode cJ6_bitCount_0f7a4 4 = .ok (.ldc_w 265, 3) := by decide +kernel
theorem dJ6_bitCount_0f7a4_7 : decode cJ6_bitCount_0f7a4 7 = .ok (.iand, 1) := by decide +kernel
theorem dJ6_bitCount_0f7a4_8 : decode cJ6_bitCount_0f7a4 8 = .ok (.isub, 1) := by decide +kernel
theorem dJ6_bitCount_0f7a4_9 : decode cJ6_bitCount_0f7a4 9 = .ok (.istore_n 0, 1) := by decide +kernel
theorem dJ6_bitCount_0f7a4_10 : decode cJ6_bitCount_0f7a4 10 = .ok (.iload_n 0, 1) := by decide +kernel
theorem dJ6_bitCount_0f7a4_11 : decode cJ6_bitCount_0f7a4 11 = .ok (.ldc_w 266, 3) := by decide +kernel
theorem dJ6_bitCount_0f7a4_14 : decode cJ6_bitCount_0f7a4 14 = .ok (.iand, 1) := by decide +kernel
theorem dJ6_bitCount_0f7a4_15 : decode cJ6_bitCount_0f7a4 15 = .ok (.iload_n 0, 1) := by decide +kernel
theorem dJ6_bitCount_0f7a4_16 : decode cJ6_bitCount_0f7a4 16 = .ok (.iconst 2, 1) := by decide +kernel
theorem dJ6_bitCount_0f7a4_17 : decode cJ6_bitCount_0f7a4 17 = .ok (.iushr, 1) := by decide +kernel
theorem dJ6_bitCount_0f7a4_18 : decode cJ6_bitCount_0f7a4 18 = .ok (.ldc_w 266, 3) := by decide +kernel
theorem dJ6_bitCount_0f7a4_21 : decode cJ6_bitCount_0f7a4 21 = .ok (.iand, 1) := by decide +kernel
theorem dJ6_bitCount_0f7a4_22 : decode cJ6_bitCount_0f7a4 22 = .ok (.iadd, 1) := by decide +kernel
theorem dJ6_bitCount_0f7a4_23 : decode cJ6_bitCount_0f7a4 23 = .ok (.istore_n 0, 1) := by decide +kernel
theorem dJ6_bitCount_0f7a4_24 : decode cJ6_bitCount_0f7a4 24 = .ok (.iload_n 0, 1) := by decide +kernel
theorem dJ6_bitCount_0f7a4_25 : decode cJ6_bitCount_0f7a4 25 = .ok (.iload_n 0, 1) := by decide +kernel
theorem dJ6_bitCount_0f7a4_26 : decode cJ6_bitCount_0f7a4 26 = .ok (.iconst 4, 1) := by decide +kernel
theorem dJ6_bitCount_0f7a4_27 : decode cJ6_bitCount_0f7a4 27 = .ok (.iushr, 1) := by decide +kernel
theorem dJ6_bitCount_0f7a4_28 : decode cJ6_bitCount_0f7a4 28 = .ok (.iadd, 1) := by decide +kernel
theorem dJ6_bitCount_0f7a4_29 : decode cJ6_bitCount_0f7a4 29 = .ok (.ldc_w 267, 3) := by decide +kernel
theorem dJ6_bitCount_0f7a4_32 : decode cJ6_bitCount_0f7a4 32 = .ok (.iand, 1) := by decide +kernel
theorem dJ6_bitCount_0f7a4_33 : decode cJ6_bitCount_0f7a4 33 = .ok (.istore_n 0, 1) := by decide +kernel
theorem dJ6_bitCount_0f7a4_34 : decode cJ6_bitCount_0f7a4 34 = .ok (.iload_n 0, 1) := by decide +kernel
theorem dJ6_bitCount_0f7a4_35 : decode cJ6_bitCount_0f7a4 35 = .ok (.iload_n 0, 1) := by decide +kernel
theorem dJ6_bitCount_0f7a4_36 : decode cJ6_bitCount_0f7a4 36 = .ok (.bipush 8, 2) := by decide +kernel
theorem dJ6_bitCount_0f7a4_38 : decode cJ6_bitCount_0f7a4 38 = .ok (.iushr, 1) := by decide +kernel
theorem dJ6_bitCount_0f7a4_39 : decode cJ6_bitCount_0f7a4 39 = .ok (.iadd, 1) := by decide +kernel
theorem dJ6_bitCount_0f7a4_40 : decode cJ6_bitCount_0f7a4 40 = .ok (.istore_n 0, 1) := by decide +kernel
theorem dJ6_bitCount_0f7a4_41 : decode cJ6_bitCount_0f7a4 41 = .ok (.iload_n 0, 1) := by decide +kernel
theorem dJ6_bitCount_0f7a4_42 : decode cJ6_bitCount_0f7a4 42 = .ok (.iload_n 0, 1) := by decide +kernel
theorem dJ6_bitCount_0f7a4_43 : decode cJ6_bitCount_0f7a4 43 = .ok (.bipush 16, 2) := by decide +kernel
theorem dJ6_bitCount_0f7a4_45 : decode cJ6_bitCount_0f7a4 45 = .ok (.iushr, 1) := by decide +kernel
theorem dJ6_bitCount_0f7a4_46 : decode cJ6_bitCount_0f7a4 46 = .ok (.iadd, 1) := by decide +kernel
theorem dJ6_bitCount_0f7a4_47 : decode cJ6_bitCount_0f7a4 47 = .ok (.istore_n 0, 1) := by decide +kernel
theorem dJ6_bitCount_0f7a4_48 : decode cJ6_bitCount_0f7a4 48 = .ok (.iload_n 0, 1) := by decide +kernel
theorem dJ6_bitCount_0f7a4_49 : decode cJ6_bitCount_0f7a4 49 = .ok (.bipush 63, 2) := by decide +kernel
theorem dJ6_bitCount_0f7a4_51 : decode cJ6_bitCount_0f7a4 51 = .ok (.iand, 1) := by decide +kernel
theorem dJ6_bitCount_0f7a4_52 : decode cJ6_bitCount_0f7a4 52 = .ok (.ireturn, 1) := by decide +kernel
theorem dJ9_abs_0f7a4_0 : decode cJ9_abs_0f7a4 0 = .ok (.iload_n 0, 1) := by decide +kernel
theorem dJ9_abs_0f7a4_1 : decode cJ9_abs_0f7a4 1 = .ok (.ifCond .ge 8, 3) := by decide +kernel
theorem dJ9_abs_0f7a4_4 : decode cJ9_abs_0f7a4 4 = .ok (.iload_n 0, 1) := by decide +kernel
theorem dJ9_abs_0f7a4_5 : decode cJ9_abs_0f7a4 5 = .ok (.ineg, 1) := by decide +kernel
theorem dJ9_abs_0f7a4_6 : decode cJ9_abs_0f7a4 6 = .ok (.goto 4, 3) := by decide +kernel
theorem dJ9_abs_0f7a4_9 : decode cJ9_abs_0f7a4 9 = .ok (.iload_n 0, 1) := by decide +kernel
theorem dJ9_abs_0f7a4_10 : decode cJ9_abs_0f7a4 10 = .ok (.ireturn, 1) := by decide +kernel
theorem dJ9_max_7cf53_0 : decode cJ9_max_7cf53 0 = .ok (.iload_n 0, 1) := by decide +kernel
theorem dJ9_max_7cf53_1 : decode cJ9_max_7cf53 1 = .ok (.iload_n 1, 1) := by decide +kernel
theorem dJ9_max_7cf53_2 : decode cJ9_max_7cf53 2 = .ok (.if_icmp .lt 7, 3) := by decide +kernel
theorem dJ9_max_7cf53_5 : decode cJ9_max_7cf53 5 = .ok (.iload_n 0, 1) := by decide +kernel
theorem dJ9_max_7cf53_6 : decode cJ9_max_7cf53 6 = .ok (.goto 4, 3) := by decide +kernel
theorem dJ9_max_7cf53_9 : decode cJ9_max_7cf53 9 = .ok (.iload_n 1, 1) := by decide +kernel
theorem dJ9_max_7cf53_10 : decode cJ9_max_7cf53 10 = .ok (.ireturn, 1) := by decide +kernel
theorem dJ9_min_7cf53_0 : decode cJ9_min_7cf53 0 = .ok (.iload_n 0, 1) := by decide +kernel
theorem dJ9_min_7cf53_1 : decode cJ9_min_7cf53 1 = .ok (.iload_n 1, 1) := by decide +kernel
theorem dJ9_min_7cf53_2 : decode cJ9_min_7cf53 2 = .ok (.if_icmp .gt 7, 3) := by decide +kernel
theorem dJ9_min_7cf53_5 : decode cJ9_min_7cf53 5 = .ok (.iload_n 0, 1) := by decide +kernel
theorem dJ9_min_7cf53_6 : decode cJ9_min_7cf53 6 = .ok (.goto 4, 3) := by decide +kernel
theorem dJ9_min_7cf53_9 : decode cJ9_min_7cf53 9 = .ok (.iload_n 1, 1) := by decide +kernel
theorem dJ9_min_7cf53_10 : decode cJ9_min_7cf53 10 = .ok (.ireturn, 1) := by decide +kernel
theorem dJ7_fill_d0a16_0 : decode cJ7_fill_d0a16 0 = .ok (.iconst 0, 1) := by decide +kernel
theorem dJ7_fill_d0a16_1 : decode cJ7_fill_d0a16 1 = .ok (.istore_n 3, 1) := by decide +kernel
theorem dJ7_fill_d0a16_2 : decode cJ7_fill_d0a16 2 = .ok (.aload_n 0, 1) := by decide +kernel
theorem dJ7_fill_d0a16_3 : decode cJ7_fill_d0a16 3 = .ok (.arraylength, 1) := by decide +kernel
theorem dJ7_fill_d0a16_4 : decode cJ7_fill_d0a16 4 = .ok (.istore 4, 2) := by decide +kernel
theorem dJ7_fill_d0a16_6 : decode cJ7_fill_d0a16 6 = .ok (.iload_n 3, 1) := by decide +kernel
theorem dJ7_fill_d0a16_7 : decode cJ7_fill_d0a16 7 = .ok (.iload 4, 2) := by decide +kernel
theorem dJ7_fill_d0a16_9 : decode cJ7_fill_d0a16 9 = .ok (.if_icmp .ge 13, 3) := by decide +kernel
theorem dJ7_fill_d0a16_12 : decode cJ7_fill_d0a16 12 = .ok (.aload_n 0, 1) := by decide +kernel
theorem dJ7_fill_d0a16_13 : decode cJ7_fill_d0a16 13 = .ok (.iload_n 3, 1) := by decide +kernel
theorem dJ7_fill_d0a16_14 : decode cJ7_fill_d0a16 14 = .ok (.lload_n 1, 1) := by decide +kernel
theorem dJ7_fill_d0a16_15 : decode cJ7_fill_d0a16 15 = .ok (.lastore, 1) := by decide +kernel
theorem dJ7_fill_d0a16_16 : decode cJ7_fill_d0a16 16 = .ok (.iinc 3 1, 3) := by decide +kernel
theorem dJ7_fill_d0a16_19 : decode cJ7_fill_d0a16 19 = .ok (.goto (-13), 3) := by decide +kernel
theorem dJ7_fill_d0a16_22 : decode cJ7_fill_d0a16 22 = .ok (.return_, 1) := by decide +kernel
theorem dJ7_fill_53178_0 : decode cJ7_fill_53178 0 = .ok (.iconst 0, 1) := by decide +kernel
theorem dJ7_fill_53178_1 : decode cJ7_fill_53178 1 = .ok (.istore_n 2, 1) := by decide +kernel
theorem dJ7_fill_53178_2 : decode cJ7_fill_53178 2 = .ok (.aload_n 0, 1) := by decide +kernel
theorem dJ7_fill_53178_3 : decode cJ7_fill_53178 3 = .ok (.arraylength, 1) := by decide +kernel
theorem dJ7_fill_53178_4 : decode cJ7_fill_53178 4 = .ok (.istore_n 3, 1) := by decide +kernel
theorem dJ7_fill_53178_5 : decode cJ7_fill_53178 5 = .ok (.iload_n 2, 1) := by decide +kernel
theorem dJ7_fill_53178_6 : decode cJ7_fill_53178 6 = .ok (.iload_n 3, 1) := by decide +kernel
theorem dJ7_fill_53178_7 : decode cJ7_fill_53178 7 = .ok (.if_icmp .ge 13, 3) := by decide +kernel
theorem dJ7_fill_53178_10 : decode cJ7_fill_53178 10 = .ok (.aload_n 0, 1) := by decide +kernel
theorem dJ7_fill_53178_11 : decode cJ7_fill_53178 11 = .ok (.iload_n 2, 1) := by decide +kernel
theorem dJ7_fill_53178_12 : decode cJ7_fill_53178 12 = .ok (.iload_n 1, 1) := by decide +kernel
theorem dJ7_fill_53178_13 : decode cJ7_fill_53178 13 = .ok (.iastore, 1) := by decide +kernel
theorem dJ7_fill_53178_14 : decode cJ7_fill_53178 14 = .ok (.iinc 2 1, 3) := by decide +kernel
theorem dJ7_fill_53178_17 : decode cJ7_fill_53178 17 = .ok (.goto (-12), 3) := by decide +kernel
theorem dJ7_fill_53178_20 : decode cJ7_fill_53178 20 = .ok (.return_, 1) := by decide +kernel
theorem dL_law_0 : decode cL_law 0 = .ok (.new 7, 3) := by decide +kernel
theorem dL_law_3 : decode cL_law 3 = .ok (.dup, 1) := by decide +kernel
theorem dL_law_4 : decode cL_law 4 = .ok (.invokespecial 9, 3) := by decide +kernel
theorem dL_law_7 : decode cL_law 7 = .ok (.astore_n 1, 1) := by decide +kernel
theorem dL_law_8 : decode cL_law 8 = .ok (.new 10, 3) := by decide +kernel
theorem dL_law_11 : decode cL_law 11 = .ok (.dup, 1) := by decide +kernel
theorem dL_law_12 : decode cL_law 12 = .ok (.invokespecial 12, 3) := by decide +kernel
theorem dL_law_15 : decode cL_law 15 = .ok (.astore_n 2, 1) := by decide +kernel
theorem dL_law_16 : decode cL_law 16 = .ok (.iconst 0, 1) := by decide +kernel
theorem dL_law_17 : decode cL_law 17 = .ok (.istore_n 3, 1) := by decide +kernel
theorem dL_law_18 : decode cL_law 18 = .ok (.iload_n 3, 1) := by decide +kernel
theorem dL_law_19 : decode cL_law 19 = .ok (.aload_n 0, 1) := by decide +kernel
theorem dL_law_20 : decode cL_law 20 = .ok (.arraylength, 1) := by decide +kernel
theorem dL_law_21 : decode cL_law 21 = .ok (.bipush 6, 2) := by decide +kernel
theorem dL_law_23 : decode cL_law 23 = .ok (.isub, 1) := by decide +kernel
theorem dL_law_24 : decode cL_law 24 = .ok (.if_icmp .gt 1284, 3) := by decide +kernel
theorem dL_law_27 : decode cL_law 27 = .ok (.aload_n 0, 1) := by decide +kernel
theorem dL_law_28 : decode cL_law 28 = .ok (.iload_n 3, 1) := by decide +kernel
theorem dL_law_29 : decode cL_law 29 = .ok (.iaload, 1) := by decide +kernel
theorem dL_law_30 : decode cL_law 30 = .ok (.bipush 63, 2) := by decide +kernel
theorem dL_law_32 : decode cL_law 32 = .ok (.iand, 1) := by decide +kernel
theorem dL_law_33 : decode cL_law 33 = .ok (.tableswitch 1269 0 32 #[147, 180, 203, 226, 259, 272, 295, 328, 381, 414, 478, 541, 584, 607, 640, 694, 727, 750, 763, 796, 829, 852, 865, 898, 931, 974, 1017, 1040, 1093, 1136, 1199, 1232, 1255], 147) := by decide +kernel
theorem dL_law_180 : decode cL_law 180 = .ok (.aload_n 1, 1) := by decide +kernel
theorem dL_law_181 : decode cL_law 181 = .ok (.aload_n 0, 1) := by decide +kernel
theorem dL_law_182 : decode cL_law 182 = .ok (.iload_n 3, 1) := by decide +kernel
theorem dL_law_183 : decode cL_law 183 = .ok (.iconst 1, 1) := by decide +kernel
theorem dL_law_184 : decode cL_law 184 = .ok (.iadd, 1) := by decide +kernel
theorem dL_law_185 : decode cL_law 185 = .ok (.iaload, 1) := by decide +kernel
theorem dL_law_186 : decode cL_law 186 = .ok (.aload_n 0, 1) := by decide +kernel
theorem dL_law_187 : decode cL_law 187 = .ok (.iload_n 3, 1) := by decide +kernel
theorem dL_law_188 : decode cL_law 188 = .ok (.iconst 2, 1) := by decide +kernel
theorem dL_law_189 : decode cL_law 189 = .ok (.iadd, 1) := by decide +kernel
theorem dL_law_190 : decode cL_law 190 = .ok (.iaload, 1) := by decide +kernel
theorem dL_law_191 : decode cL_law 191 = .ok (.invokevirtual 13, 3) := by decide +kernel
theorem dL_law_194 : decode cL_law 194 = .ok (.aload_n 2, 1) := by decide +kernel
theorem dL_law_195 : decode cL_law 195 = .ok (.aload_n 0, 1) := by decide +kernel
theorem dL_law_196 : decode cL_law 196 = .ok (.iload_n 3, 1) := by decide +kernel
theorem dL_law_197 : decode cL_law 197 = .ok (.iconst 1, 1) := by decide +kernel
theorem dL_law_198 : decode cL_law 198 = .ok (.iadd, 1) := by decide +kernel
theorem dL_law_199 : decode cL_law 199 = .ok (.iaload, 1) := by decide +kernel
theorem dL_law_200 : decode cL_law 200 = .ok (.aload_n 0, 1) := by decide +kernel
theorem dL_law_201 : decode cL_law 201 = .ok (.iload_n 3, 1) := by decide +kernel
theorem dL_law_202 : decode cL_law 202 = .ok (.iconst 2, 1) := by decide +kernel
theorem dL_law_203 : decode cL_law 203 = .ok (.iadd, 1) := by decide +kernel
theorem dL_law_204 : decode cL_law 204 = .ok (.iaload, 1) := by decide +kernel
theorem dL_law_205 : decode cL_law 205 = .ok (.invokevirtual 17, 3) := by decide +kernel
theorem dL_law_208 : decode cL_law 208 = .ok (.if_icmp .eq 1094, 3) := by decide +kernel
theorem dL_law_211 : decode cL_law 211 = .ok (.iconst 0, 1) := by decide +kernel
theorem dL_law_212 : decode cL_law 212 = .ok (.ireturn, 1) := by decide +kernel
theorem dL_law_213 : decode cL_law 213 = .ok (.aload_n 1, 1) := by decide +kernel
theorem dL_law_214 : decode cL_law 214 = .ok (.aload_n 0, 1) := by decide +kernel
theorem dL_law_215 : decode cL_law 215 = .ok (.iload_n 3, 1) := by decide +kernel
theorem dL_law_216 : decode cL_law 216 = .ok (.iconst 1, 1) := by decide +kernel
theorem dL_law_217 : decode cL_law 217 = .ok (.iadd, 1) := by decide +kernel
theorem dL_law_218 : decode cL_law 218 = .ok (.iaload, 1) := by decide +kernel
theorem dL_law_219 : decode cL_law 219 = .ok (.invokevirtual 18, 3) := by decide +kernel
theorem dL_law_222 : decode cL_law 222 = .ok (.aload_n 2, 1) := by decide +kernel
theorem dL_law_223 : decode cL_law 223 = .ok (.aload_n 0, 1) := by decide +kernel
theorem dL_law_224 : decode cL_law 224 = .ok (.iload_n 3, 1) := by decide +kernel
theorem dL_law_225 : decode cL_law 225 = .ok (.iconst 1, 1) := by decide +kernel
theorem dL_law_226 : decode cL_law 226 = .ok (.iadd, 1) := by decide +kernel
theorem dL_law_227 : decode cL_law 227 = .ok (.iaload, 1) := by decide +kernel
theorem dL_law_228 : decode cL_law 228 = .ok (.invokevirtual 22, 3) := by decide +kernel
theorem dL_law_231 : decode cL_law 231 = .ok (.if_icmp .eq 1071, 3) := by decide +kernel
theorem dL_law_234 : decode cL_law 234 = .ok (.iconst 0, 1) := by decide +kernel
theorem dL_law_235 : decode cL_law 235 = .ok (.ireturn, 1) := by decide +kernel
theorem dL_law_236 : decode cL_law 236 = .ok (.aload_n 1, 1) := by decide +kernel
theorem dL_law_237 : decode cL_law 237 = .ok (.aload_n 0, 1) := by decide +kernel
theorem dL_law_238 : decode cL_law 238 = .ok (.iload_n 3, 1) := by decide +kernel
theorem dL_law_239 : decode cL_law 239 = .ok (.iconst 1, 1) := by decide +kernel
theorem dL_law_240 : decode cL_law 240 = .ok (.iadd, 1) := by decide +kernel
theorem dL_law_241 : decode cL_law 241 = .ok (.iaload, 1) := by decide +kernel
theorem dL_law_242 : decode cL_law 242 = .ok (.invokevirtual 23, 3) := by decide +kernel
theorem dL_law_245 : decode cL_law 245 = .ok (.aload_n 2, 1) := by decide +kernel
theorem dL_law_246 : decode cL_law 246 = .ok (.aload_n 0, 1) := by decide +kernel
theorem dL_law_247 : decode cL_law 247 = .ok (.iload_n 3, 1) := by decide +kernel
theorem dL_law_248 : decode cL_law 248 = .ok (.iconst 1, 1) := by decide +kernel
theorem dL_law_249 : decode cL_law 249 = .ok (.iadd, 1) := by decide +kernel
theorem dL_law_250 : decode cL_law 250 = .ok (.iaload, 1) := by decide +kernel
theorem dL_law_251 : decode cL_law 251 = .ok (.invokevirtual 26, 3) := by decide +kernel
theorem dL_law_254 : decode cL_law 254 = .ok (.if_icmp .eq 1048, 3) := by decide +kernel
theorem dL_law_257 : decode cL_law 257 = .ok (.iconst 0, 1) := by decide +kernel
theorem dL_law_258 : decode cL_law 258 = .ok (.ireturn, 1) := by decide +kernel
theorem dL_law_259 : decode cL_law 259 = .ok (.aload_n 1, 1) := by decide +kernel
theorem dL_law_260 : decode cL_law 260 = .ok (.aload_n 0, 1) := by decide +kernel
theorem dL_law_261 : decode cL_law 261 = .ok (.iload_n 3, 1) := by decide +kernel
theorem dL_law_262 : decode cL_law 262 = .ok (.iconst 1, 1) := by decide +kernel
theorem dL_law_263 : decode cL_law 263 = .ok (.iadd, 1) := by decide +kernel
theorem dL_law_264 : decode cL_law 264 = .ok (.iaload, 1) := by decide +kernel
theorem dL_law_265 : decode cL_law 265 = .ok (.aload_n 0, 1) := by decide +kernel
theorem dL_law_266 : decode cL_law 266 = .ok (.iload_n 3, 1) := by decide +kernel
theorem dL_law_267 : decode cL_law 267 = .ok (.iconst 2, 1) := by decide +kernel
theorem dL_law_268 : decode cL_law 268 = .ok (.iadd, 1) := by decide +kernel
theorem dL_law_269 : decode cL_law 269 = .ok (.iaload, 1) := by decide +kernel
theorem dL_law_270 : decode cL_law 270 = .ok (.invokevirtual 27, 3) := by decide +kernel
theorem dL_law_273 : decode cL_law 273 = .ok (.aload_n 2, 1) := by decide +kernel
theorem dL_law_274 : decode cL_law 274 = .ok (.aload_n 0, 1) := by decide +kernel
theorem dL_law_275 : decode cL_law 275 = .ok (.iload_n 3, 1) := by decide +kernel
theorem dL_law_276 : decode cL_law 276 = .ok (.iconst 1, 1) := by decide +kernel
theorem dL_law_277 : decode cL_law 277 = .ok (.iadd, 1) := by decide +kernel
theorem dL_law_278 : decode cL_law 278 = .ok (.iaload, 1) := by decide +kernel
theorem dL_law_279 : decode cL_law 279 = .ok (.aload_n 0, 1) := by decide +kernel
theorem dL_law_280 : decode cL_law 280 = .ok (.iload_n 3, 1) := by decide +kernel
theorem dL_law_281 : decode cL_law 281 = .ok (.iconst 2, 1) := by decide +kernel
theorem dL_law_282 : decode cL_law 282 = .ok (.iadd, 1) := by decide +kernel
theorem dL_law_283 : decode cL_law 283 = .ok (.iaload, 1) := by decide +kernel
theorem dL_law_284 : decode cL_law 284 = .ok (.invokevirtual 30, 3) := by decide +kernel
theorem dL_law_287 : decode cL_law 287 = .ok (.if_icmp .eq 1015, 3) := by decide +kernel
theorem dL_law_290 : decode cL_law 290 = .ok (.iconst 0, 1) := by decide +kernel
theorem dL_law_291 : decode cL_law 291 = .ok (.ireturn, 1) := by decide +kernel
theorem dL_law_292 : decode cL_law 292 = .ok (.aload_n 1, 1) := by decide +kernel
theorem dL_law_293 : decode cL_law 293 = .ok (.invokevirtual 31, 3) := by decide +kernel
theorem dL_law_296 : decode cL_law 296 = .ok (.aload_n 2, 1) := by decide +kernel
theorem dL_law_297 : decode cL_law 297 = .ok (.invokevirtual 35, 3) := by decide +kernel
theorem dL_law_300 : decode cL_law 300 = .ok (.if_icmp .eq 1002, 3) := by decide +kernel
theorem dL_law_303 : decode cL_law 303 = .ok (.iconst 0, 1) := by decide +kernel
theorem dL_law_304 : decode cL_law 304 = .ok (.ireturn, 1) := by decide +kernel
theorem dL_law_305 : decode cL_law 305 = .ok (.aload_n 1, 1) := by decide +kernel
theorem dL_law_306 : decode cL_law 306 = .ok (.aload_n 0, 1) := by decide +kernel
theorem dL_law_307 : decode cL_law 307 = .ok (.iload_n 3, 1) := by decide +kernel
theorem dL_law_308 : decode cL_law 308 = .ok (.iconst 1, 1) := by decide +kernel
theorem dL_law_309 : decode cL_law 309 = .ok (.iadd, 1) := by decide +kernel
theorem dL_law_310 : decode cL_law 310 = .ok (.iaload, 1) := by decide +kernel
theorem dL_law_311 : decode cL_law 311 = .ok (.invokevirtual 36, 3) := by decide +kernel
theorem dL_law_314 : decode cL_law 314 = .ok (.aload_n 2, 1) := by decide +kernel
theorem dL_law_315 : decode cL_law 315 = .ok (.aload_n 0, 1) := by decide +kernel
theorem dL_law_316 : decode cL_law 316 = .ok (.iload_n 3, 1) := by decide +kernel
theorem dL_law_317 : decode cL_law 317 = .ok (.iconst 1, 1) := by decide +kernel
theorem dL_law_318 : decode cL_law 318 = .ok (.iadd, 1) := by decide +kernel
theorem dL_law_319 : decode cL_law 319 = .ok (.iaload, 1) := by decide +kernel
theorem dL_law_320 : decode cL_law 320 = .ok (.invokevirtual 39, 3) := by decide +kernel
theorem dL_law_323 : decode cL_law 323 = .ok (.if_icmp .eq 979, 3) := by decide +kernel
theorem dL_law_326 : decode cL_law 326 = .ok (.iconst 0, 1) := by decide +kernel
theorem dL_law_327 : decode cL_law 327 = .ok (.ireturn, 1) := by decide +kernel
theorem dL_law_328 : decode cL_law 328 = .ok (.aload_n 1, 1) := by decide +kernel
theorem dL_law_329 : decode cL_law 329 = .ok (.aload_n 0, 1) := by decide +kernel
theorem dL_law_330 : decode cL_law 330 = .ok (.iload_n 3, 1) := by decide +kernel
theorem dL_law_331 : decode cL_law 331 = .ok (.iconst 1, 1) := by decide +kernel
theorem dL_law_332 : decode cL_law 332 = .ok (.iadd, 1) := by decide +kernel
theorem dL_law_333 : decode cL_law 333 = .ok (.iaload, 1) := by decide +kernel
theorem dL_law_334 : decode cL_law 334 = .ok (.aload_n 0, 1) := by decide +kernel
theorem dL_law_335 : decode cL_law 335 = .ok (.iload_n 3, 1) := by decide +kernel
theorem dL_law_336 : decode cL_law 336 = .ok (.iconst 2, 1) := by decide +kernel
theorem dL_law_337 : decode cL_law 337 = .ok (.iadd, 1) := by decide +kernel
theorem dL_law_338 : decode cL_law 338 = .ok (.iaload, 1) := by decide +kernel
theorem dL_law_339 : decode cL_law 339 = .ok (.invokevirtual 40, 3) := by decide +kernel
theorem dL_law_342 : decode cL_law 342 = .ok (.aload_n 2, 1) := by decide +kernel
theorem dL_law_343 : decode cL_law 343 = .ok (.aload_n 0, 1) := by decide +kernel
theorem dL_law_344 : decode cL_law 344 = .ok (.iload_n 3, 1) := by decide +kernel
theorem dL_law_345 : decode cL_law 345 = .ok (.iconst 1, 1) := by decide +kernel
theorem dL_law_346 : decode cL_law 346 = .ok (.iadd, 1) := by decide +kernel
theorem dL_law_347 : decode cL_law 347 = .ok (.iaload, 1) := by decide +kernel
theorem dL_law_348 : decode cL_law 348 = .ok (.aload_n 0, 1) := by decide +kernel
theorem dL_law_349 : decode cL_law 349 = .ok (.iload_n 3, 1) := by decide +kernel
theorem dL_law_350 : decode cL_law 350 = .ok (.iconst 2, 1) := by decide +kernel
theorem dL_law_351 : decode cL_law 351 = .ok (.iadd, 1) := by decide +kernel
theorem dL_law_352 : decode cL_law 352 = .ok (.iaload, 1) := by decide +kernel
theorem dL_law_353 : decode cL_law 353 = .ok (.invokevirtual 43, 3) := by decide +kernel
theorem dL_law_356 : decode cL_law 356 = .ok (.if_icmp .eq 946, 3) := by decide +kernel
theorem dL_law_359 : decode cL_law 359 = .ok (.iconst 0, 1) := by decide +kernel
theorem dL_law_360 : decode cL_law 360 = .ok (.ireturn, 1) := by decide +kernel
theorem dL_law_361 : decode cL_law 361 = .ok (.aload_n 1, 1) := by decide +kernel
theorem dL_law_362 : decode cL_law 362 = .ok (.aload_n 0, 1) := by decide +kernel
theorem dL_law_363 : decode cL_law 363 = .ok (.iload_n 3, 1) := by decide +kernel
theorem dL_law_364 : decode cL_law 364 = .ok (.iconst 1, 1) := by decide +kernel
theorem dL_law_365 : decode cL_law 365 = .ok (.iadd, 1) := by decide +kernel
theorem dL_law_366 : decode cL_law 366 = .ok (.iaload, 1) := by decide +kernel
theorem dL_law_367 : decode cL_law 367 = .ok (.aload_n 0, 1) := by decide +kernel
theorem dL_law_368 : decode cL_law 368 = .ok (.iload_n 3, 1) := by decide +kernel
theorem dL_law_369 : decode cL_law 369 = .ok (.iconst 2, 1) := by decide +kernel
theorem dL_law_370 : decode cL_law 370 = .ok (.iadd, 1) := by decide +kernel
theorem dL_law_371 : decode cL_law 371 = .ok (.iaload, 1) := by decide +kernel
theorem dL_law_372 : decode cL_law 372 = .ok (.aload_n 0, 1) := by decide +kernel
theorem dL_law_373 : decode cL_law 373 = .ok (.iload_n 3, 1) := by decide +kernel
theorem dL_law_374 : decode cL_law 374 = .ok (.iconst 3, 1) := by decide +kernel
theorem dL_law_375 : decode cL_law 375 = .ok (.iadd, 1) := by decide +kernel
theorem dL_law_376 : decode cL_law 376 = .ok (.iaload, 1) := by decide +kernel
theorem dL_law_377 : decode cL_law 377 = .ok (.aload_n 0, 1) := by decide +kernel
theorem dL_law_378 : decode cL_law 378 = .ok (.iload_n 3, 1) := by decide +kernel
theorem dL_law_379 : decode cL_law 379 = .ok (.iconst 4, 1) := by decide +kernel
theorem dL_law_380 : decode cL_law 380 = .ok (.iadd, 1) := by decide +kernel
theorem dL_law_381 : decode cL_law 381 = .ok (.iaload, 1) := by decide +kernel
theorem dL_law_382 : decode cL_law 382 = .ok (.invokevirtual 44, 3) := by decide +kernel
theorem dL_law_385 : decode cL_law 385 = .ok (.aload_n 2, 1) := by decide +kernel
theorem dL_law_386 : decode cL_law 386 = .ok (.aload_n 0, 1) := by decide +kernel
theorem dL_law_387 : decode cL_law 387 = .ok (.iload_n 3, 1) := by decide +kernel
theorem dL_law_388 : decode cL_law 388 = .ok (.iconst 1, 1) := by decide +kernel
theorem dL_law_389 : decode cL_law 389 = .ok (.iadd, 1) := by decide +kernel
theorem dL_law_390 : decode cL_law 390 = .ok (.iaload, 1) := by decide +kernel
theorem dL_law_391 : decode cL_law 391 = .ok (.aload_n 0, 1) := by decide +kernel
theorem dL_law_392 : decode cL_law 392 = .ok (.iload_n 3, 1) := by decide +kernel
theorem dL_law_393 : decode cL_law 393 = .ok (.iconst 2, 1) := by decide +kernel
theorem dL_law_394 : decode cL_law 394 = .ok (.iadd, 1) := by decide +kernel
theorem dL_law_395 : decode cL_law 395 = .ok (.iaload, 1) := by decide +kernel
theorem dL_law_396 : decode cL_law 396 = .ok (.aload_n 0, 1) := by decide +kernel
theorem dL_law_397 : decode cL_law 397 = .ok (.iload_n 3, 1) := by decide +kernel
theorem dL_law_398 : decode cL_law 398 = .ok (.iconst 3, 1) := by decide +kernel
theorem dL_law_399 : decode cL_law 399 = .ok (.iadd, 1) := by decide +kernel
theorem dL_law_400 : decode cL_law 400 = .ok (.iaload, 1) := by decide +kernel
theorem dL_law_401 : decode cL_law 401 = .ok (.aload_n 0, 1) := by decide +kernel
theorem dL_law_402 : decode cL_law 402 = .ok (.iload_n 3, 1) := by decide +kernel
theorem dL_law_403 : decode cL_law 403 = .ok (.iconst 4, 1) := by decide +kernel
theorem dL_law_404 : decode cL_law 404 = .ok (.iadd, 1) := by decide +kernel
theorem dL_law_405 : decode cL_law 405 = .ok (.iaload, 1) := by decide +kernel
theorem dL_law_406 : decode cL_law 406 = .ok (.invokevirtual 48, 3) := by decide +kernel
theorem dL_law_409 : decode cL_law 409 = .ok (.if_icmp .eq 893, 3) := by decide +kernel
theorem dL_law_412 : decode cL_law 412 = .ok (.iconst 0, 1) := by decide +kernel
theorem dL_law_413 : decode cL_law 413 = .ok (.ireturn, 1) := by decide +kernel
theorem dL_law_414 : decode cL_law 414 = .ok (.aload_n 1, 1) := by decide +kernel
theorem dL_law_415 : decode cL_law 415 = .ok (.aload_n 0, 1) := by decide +kernel
theorem dL_law_416 : decode cL_law 416 = .ok (.iload_n 3, 1) := by decide +kernel
theorem dL_law_417 : decode cL_law 417 = .ok (.iconst 1, 1) := by decide +kernel
theorem dL_law_418 : decode cL_law 418 = .ok (.iadd, 1) := by decide +kernel
theorem dL_law_419 : decode cL_law 419 = .ok (.iaload, 1) := by decide +kernel
theorem dL_law_420 : decode cL_law 420 = .ok (.aload_n 0, 1) := by decide +kernel
theorem dL_law_421 : decode cL_law 421 = .ok (.iload_n 3, 1) := by decide +kernel
theorem dL_law_422 : decode cL_law 422 = .ok (.iconst 2, 1) := by decide +kernel
theorem dL_law_423 : decode cL_law 423 = .ok (.iadd, 1) := by decide +kernel
theorem dL_law_424 : decode cL_law 424 = .ok (.iaload, 1) := by decide +kernel
theorem dL_law_425 : decode cL_law 425 = .ok (.invokevirtual 49, 3) := by decide +kernel
theorem dL_law_428 : decode cL_law 428 = .ok (.aload_n 2, 1) := by decide +kernel
theorem dL_law_429 : decode cL_law 429 = .ok (.aload_n 0, 1) := by decide +kernel
theorem dL_law_430 : decode cL_law 430 = .ok (.iload_n 3, 1) := by decide +kernel
theorem dL_law_431 : decode cL_law 431 = .ok (.iconst 1, 1) := by decide +kernel
theorem dL_law_432 : decode cL_law 432 = .ok (.iadd, 1) := by decide +kernel
theorem dL_law_433 : decode cL_law 433 = .ok (.iaload, 1) := by decide +kernel
theorem dL_law_434 : decode cL_law 434 = .ok (.aload_n 0, 1) := by decide +kernel
theorem dL_law_435 : decode cL_law 435 = .ok (.iload_n 3, 1) := by decide +kernel
theorem dL_law_436 : decode cL_law 436 = .ok (.iconst 2, 1) := by decide +kernel
theorem dL_law_437 : decode cL_law 437 = .ok (.iadd, 1) := by decide +kernel
theorem dL_law_438 : decode cL_law 438 = .ok (.iaload, 1) := by decide +kernel
theorem dL_law_439 : decode cL_law 439 = .ok (.invokevirtual 52, 3) := by decide +kernel
theorem dL_law_442 : decode cL_law 442 = .ok (.if_icmp .eq 860, 3) := by decide +kernel
theorem dL_law_445 : decode cL_law 445 = .ok (.iconst 0, 1) := by decide +kernel
theorem dL_law_446 : decode cL_law 446 = .ok (.ireturn, 1) := by decide +kernel
theorem dL_law_447 : decode cL_law 447 = .ok (.aload_n 1, 1) := by decide +kernel
theorem dL_law_448 : decode cL_law 448 = .ok (.aload_n 0, 1) := by decide +kernel
theorem dL_law_449 : decode cL_law 449 = .ok (.iload_n 3, 1) := by decide +kernel
theorem dL_law_450 : decode cL_law 450 = .ok (.iconst 1, 1) := by decide +kernel
theorem dL_law_451 : decode cL_law 451 = .ok (.iadd, 1) := by decide +kernel
theorem dL_law_452 : decode cL_law 452 = .ok (.iaload, 1) := by decide +kernel
theorem dL_law_453 : decode cL_law 453 = .ok (.aload_n 0, 1) := by decide +kernel
theorem dL_law_454 : decode cL_law 454 = .ok (.iload_n 3, 1) := by decide +kernel
theorem dL_law_455 : decode cL_law 455 = .ok (.iconst 2, 1) := by decide +kernel
theorem dL_law_456 : decode cL_law 456 = .ok (.iadd, 1) := by decide +kernel
theorem dL_law_457 : decode cL_law 457 = .ok (.iaload, 1) := by decide +kernel
theorem dL_law_458 : decode cL_law 458 = .ok (.aload_n 0, 1) := by decide +kernel
theorem dL_law_459 : decode cL_law 459 = .ok (.iload_n 3, 1) := by decide +kernel
theorem dL_law_460 : decode cL_law 460 = .ok (.iconst 3, 1) := by decide +kernel
theorem dL_law_461 : decode cL_law 461 = .ok (.iadd, 1) := by decide +kernel
theorem dL_law_462 : decode cL_law 462 = .ok (.iaload, 1) := by decide +kernel
theorem dL_law_463 : decode cL_law 463 = .ok (.aload_n 0, 1) := by decide +kernel
theorem dL_law_464 : decode cL_law 464 = .ok (.iload_n 3, 1) := by decide +kernel
theorem dL_law_465 : decode cL_law 465 = .ok (.iconst 4, 1) := by decide +kernel
theorem dL_law_466 : decode cL_law 466 = .ok (.iadd, 1) := by decide +kernel
theorem dL_law_467 : decode cL_law 467 = .ok (.iaload, 1) := by decide +kernel
theorem dL_law_468 : decode cL_law 468 = .ok (.aload_n 0, 1) := by decide +kernel
theorem dL_law_469 : decode cL_law 469 = .ok (.iload_n 3, 1) := by decide +kernel
theorem dL_law_470 : decode cL_law 470 = .ok (.iconst 5, 1) := by decide +kernel
theorem dL_law_471 : decode cL_law 471 = .ok (.iadd, 1) := by decide +kernel
theorem dL_law_472 : decode cL_law 472 = .ok (.iaload, 1) := by decide +kernel
theorem dL_law_473 : decode cL_law 473 = .ok (.invokevirtual 53, 3) := by decide +kernel
theorem dL_law_476 : decode cL_law 476 = .ok (.aload_n 2, 1) := by decide +kernel
theorem dL_law_477 : decode cL_law 477 = .ok (.aload_n 0, 1) := by decide +kernel
theorem dL_law_478 : decode cL_law 478 = .ok (.iload_n 3, 1) := by decide +kernel
theorem dL_law_479 : decode cL_law 479 = .ok (.iconst 1, 1) := by decide +kernel
theorem dL_law_480 : decode cL_law 480 = .ok (.iadd, 1) := by decide +kernel
theorem dL_law_481 : decode cL_law 481 = .ok (.iaload, 1) := by decide +kernel
theorem dL_law_482 : decode cL_law 482 = .ok (.aload_n 0, 1) := by decide +kernel
theorem dL_law_483 : decode cL_law 483 = .ok (.iload_n 3, 1) := by decide +kernel
theorem dL_law_484 : decode cL_law 484 = .ok (.iconst 2, 1) := by decide +kernel
theorem dL_law_485 : decode cL_law 485 = .ok (.iadd, 1) := by decide +kernel
theorem dL_law_486 : decode cL_law 486 = .ok (.iaload, 1) := by decide +kernel
theorem dL_law_487 : decode cL_law 487 = .ok (.aload_n 0, 1) := by decide +kernel
theorem dL_law_488 : decode cL_law 488 = .ok (.iload_n 3, 1) := by decide +kernel
theorem dL_law_489 : decode cL_law 489 = .ok (.iconst 3, 1) := by decide +kernel
theorem dL_law_490 : decode cL_law 490 = .ok (.iadd, 1) := by decide +kernel
theorem dL_law_491 : decode cL_law 491 = .ok (.iaload, 1) := by decide +kernel
theorem dL_law_492 : decode cL_law 492 = .ok (.aload_n 0, 1) := by decide +kernel
theorem dL_law_493 : decode cL_law 493 = .ok (.iload_n 3, 1) := by decide +kernel
theorem dL_law_494 : decode cL_law 494 = .ok (.iconst 4, 1) := by decide +kernel
theorem dL_law_495 : decode cL_law 495 = .ok (.iadd, 1) := by decide +kernel
theorem dL_law_496 : decode cL_law 496 = .ok (.iaload, 1) := by decide +kernel
theorem dL_law_497 : decode cL_law 497 = .ok (.aload_n 0, 1) := by decide +kernel
theorem dL_law_498 : decode cL_law 498 = .ok (.iload_n 3, 1) := by decide +kernel
theorem dL_law_499 : decode cL_law 499 = .ok (.iconst 5, 1) := by decide +kernel
theorem dL_law_500 : decode cL_law 500 = .ok (.iadd, 1) := by decide +kernel
theorem dL_law_501 : decode cL_law 501 = .ok (.iaload, 1) := by decide +kernel
theorem dL_law_502 : decode cL_law 502 = .ok (.invokevirtual 57, 3) := by decide +kernel
theorem dL_law_505 : decode cL_law 505 = .ok (.lcmp, 1) := by decide +kernel
theorem dL_law_506 : decode cL_law 506 = .ok (.ifCond .eq 796, 3) := by decide +kernel
theorem dL_law_509 : decode cL_law 509 = .ok (.iconst 0, 1) := by decide +kernel
theorem dL_law_510 : decode cL_law 510 = .ok (.ireturn, 1) := by decide +kernel
theorem dL_law_511 : decode cL_law 511 = .ok (.aload_n 1, 1) := by decide +kernel
theorem dL_law_512 : decode cL_law 512 = .ok (.aload_n 0, 1) := by decide +kernel
theorem dL_law_513 : decode cL_law 513 = .ok (.iload_n 3, 1) := by decide +kernel
theorem dL_law_514 : decode cL_law 514 = .ok (.iconst 1, 1) := by decide +kernel
theorem dL_law_515 : decode cL_law 515 = .ok (.iadd, 1) := by decide +kernel
theorem dL_law_516 : decode cL_law 516 = .ok (.iaload, 1) := by decide +kernel
theorem dL_law_517 : decode cL_law 517 = .ok (.aload_n 0, 1) := by decide +kernel
theorem dL_law_518 : decode cL_law 518 = .ok (.iload_n 3, 1) := by decide +kernel
theorem dL_law_519 : decode cL_law 519 = .ok (.iconst 2, 1) := by decide +kernel
theorem dL_law_520 : decode cL_law 520 = .ok (.iadd, 1) := by decide +kernel
theorem dL_law_521 : decode cL_law 521 = .ok (.iaload, 1) := by decide +kernel
theorem dL_law_522 : decode cL_law 522 = .ok (.aload_n 0, 1) := by decide +kernel
theorem dL_law_523 : decode cL_law 523 = .ok (.iload_n 3, 1) := by decide +kernel
theorem dL_law_524 : decode cL_law 524 = .ok (.iconst 3, 1) := by decide +kernel
theorem dL_law_525 : decode cL_law 525 = .ok (.iadd, 1) := by decide +kernel
theorem dL_law_526 : decode cL_law 526 = .ok (.iaload, 1) := by decide +kernel
theorem dL_law_527 : decode cL_law 527 = .ok (.aload_n 0, 1) := by decide +kernel
theorem dL_law_528 : decode cL_law 528 = .ok (.iload_n 3, 1) := by decide +kernel
theorem dL_law_529 : decode cL_law 529 = .ok (.iconst 4, 1) := by decide +kernel
theorem dL_law_530 : decode cL_law 530 = .ok (.iadd, 1) := by decide +kernel
theorem dL_law_531 : decode cL_law 531 = .ok (.iaload, 1) := by decide +kernel
theorem dL_law_532 : decode cL_law 532 = .ok (.aload_n 0, 1) := by decide +kernel
theorem dL_law_533 : decode cL_law 533 = .ok (.iload_n 3, 1) := by decide +kernel
theorem dL_law_534 : decode cL_law 534 = .ok (.iconst 5, 1) := by decide +kernel
theorem dL_law_535 : decode cL_law 535 = .ok (.iadd, 1) := by decide +kernel
theorem dL_law_536 : decode cL_law 536 = .ok (.iaload, 1) := by decide +kernel
theorem dL_law_537 : decode cL_law 537 = .ok (.invokevirtual 58, 3) := by decide +kernel
theorem dL_law_540 : decode cL_law 540 = .ok (.aload_n 2, 1) := by decide +kernel
theorem dL_law_541 : decode cL_law 541 = .ok (.aload_n 0, 1) := by decide +kernel
theorem dL_law_542 : decode cL_law 542 = .ok (.iload_n 3, 1) := by decide +kernel
theorem dL_law_543 : decode cL_law 543 = .ok (.iconst 1, 1) := by decide +kernel
theorem dL_law_544 : decode cL_law 544 = .ok (.iadd, 1) := by decide +kernel
theorem dL_law_545 : decode cL_law 545 = .ok (.iaload, 1) := by decide +kernel
theorem dL_law_546 : decode cL_law 546 = .ok (.aload_n 0, 1) := by decide +kernel
theorem dL_law_547 : decode cL_law 547 = .ok (.iload_n 3, 1) := by decide +kernel
theorem dL_law_548 : decode cL_law 548 = .ok (.iconst 2, 1) := by decide +kernel
theorem dL_law_549 : decode cL_law 549 = .ok (.iadd, 1) := by decide +kernel
theorem dL_law_550 : decode cL_law 550 = .ok (.iaload, 1) := by decide +kernel
theorem dL_law_551 : decode cL_law 551 = .ok (.aload_n 0, 1) := by decide +kernel
theorem dL_law_552 : decode cL_law 552 = .ok (.iload_n 3, 1) := by decide +kernel
theorem dL_law_553 : decode cL_law 553 = .ok (.iconst 3, 1) := by decide +kernel
theorem dL_law_554 : decode cL_law 554 = .ok (.iadd, 1) := by decide +kernel
theorem dL_law_555 : decode cL_law 555 = .ok (.iaload, 1) := by decide +kernel
theorem dL_law_556 : decode cL_law 556 = .ok (.aload_n 0, 1) := by decide +kernel
theorem dL_law_557 : decode cL_law 557 = .ok (.iload_n 3, 1) := by decide +kernel
theorem dL_law_558 : decode cL_law 558 = .ok (.iconst 4, 1) := by decide +kernel
theorem dL_law_559 : decode cL_law 559 = .ok (.iadd, 1) := by decide +kernel
theorem dL_law_560 : decode cL_law 560 = .ok (.iaload, 1) := by decide +kernel
theorem dL_law_561 : decode cL_law 561 = .ok (.aload_n 0, 1) := by decide +kernel
theorem dL_law_562 : decode cL_law 562 = .ok (.iload_n 3, 1) := by decide +kernel
theorem dL_law_563 : decode cL_law 563 = .ok (.iconst 5, 1) := by decide +kernel
theorem dL_law_564 : decode cL_law 564 = .ok (.iadd, 1) := by decide +kernel
theorem dL_law_565 : decode cL_law 565 = .ok (.iaload, 1) := by decide +kernel
theorem dL_law_566 : decode cL_law 566 = .ok (.invokevirtual 62, 3) := by decide +kernel
theorem dL_law_569 : decode cL_law 569 = .ok (.if_icmp .eq 733, 3) := by decide +kernel
theorem dL_law_572 : decode cL_law 572 = .ok (.iconst 0, 1) := by decide +kernel
theorem dL_law_573 : decode cL_law 573 = .ok (.ireturn, 1) := by decide +kernel
theorem dL_law_574 : decode cL_law 574 = .ok (.aload_n 1, 1) := by decide +kernel
theorem dL_law_575 : decode cL_law 575 = .ok (.aload_n 0, 1) := by decide +kernel
theorem dL_law_576 : decode cL_law 576 = .ok (.iload_n 3, 1) := by decide +kernel
theorem dL_law_577 : decode cL_law 577 = .ok (.iconst 1, 1) := by decide +kernel
theorem dL_law_578 : decode cL_law 578 = .ok (.iadd, 1) := by decide +kernel
theorem dL_law_579 : decode cL_law 579 = .ok (.iaload, 1) := by decide +kernel
theorem dL_law_580 : decode cL_law 580 = .ok (.aload_n 0, 1) := by decide +kernel
theorem dL_law_581 : decode cL_law 581 = .ok (.iload_n 3, 1) := by decide +kernel
theorem dL_law_582 : decode cL_law 582 = .ok (.iconst 2, 1) := by decide +kernel
theorem dL_law_583 : decode cL_law 583 = .ok (.iadd, 1) := by decide +kernel
theorem dL_law_584 : decode cL_law 584 = .ok (.iaload, 1) := by decide +kernel
theorem dL_law_585 : decode cL_law 585 = .ok (.aload_n 0, 1) := by decide +kernel
theorem dL_law_586 : decode cL_law 586 = .ok (.iload_n 3, 1) := by decide +kernel
theorem dL_law_587 : decode cL_law 587 = .ok (.iconst 3, 1) := by decide +kernel
theorem dL_law_588 : decode cL_law 588 = .ok (.iadd, 1) := by decide +kernel
theorem dL_law_589 : decode cL_law 589 = .ok (.iaload, 1) := by decide +kernel
theorem dL_law_590 : decode cL_law 590 = .ok (.invokevirtual 63, 3) := by decide +kernel
theorem dL_law_593 : decode cL_law 593 = .ok (.aload_n 2, 1) := by decide +kernel
theorem dL_law_594 : decode cL_law 594 = .ok (.aload_n 0, 1) := by decide +kernel
theorem dL_law_595 : decode cL_law 595 = .ok (.iload_n 3, 1) := by decide +kernel
theorem dL_law_596 : decode cL_law 596 = .ok (.iconst 1, 1) := by decide +kernel
theorem dL_law_597 : decode cL_law 597 = .ok (.iadd, 1) := by decide +kernel
theorem dL_law_598 : decode cL_law 598 = .ok (.iaload, 1) := by decide +kernel
theorem dL_law_599 : decode cL_law 599 = .ok (.aload_n 0, 1) := by decide +kernel
theorem dL_law_600 : decode cL_law 600 = .ok (.iload_n 3, 1) := by decide +kernel
theorem dL_law_601 : decode cL_law 601 = .ok (.iconst 2, 1) := by decide +kernel
theorem dL_law_602 : decode cL_law 602 = .ok (.iadd, 1) := by decide +kernel
theorem dL_law_603 : decode cL_law 603 = .ok (.iaload, 1) := by decide +kernel
theorem dL_law_604 : decode cL_law 604 = .ok (.aload_n 0, 1) := by decide +kernel
theorem dL_law_605 : decode cL_law 605 = .ok (.iload_n 3, 1) := by decide +kernel
theorem dL_law_606 : decode cL_law 606 = .ok (.iconst 3, 1) := by decide +kernel
theorem dL_law_607 : decode cL_law 607 = .ok (.iadd, 1) := by decide +kernel
theorem dL_law_608 : decode cL_law 608 = .ok (.iaload, 1) := by decide +kernel
theorem dL_law_609 : decode cL_law 609 = .ok (.invokevirtual 67, 3) := by decide +kernel
theorem dL_law_612 : decode cL_law 612 = .ok (.if_icmp .eq 690, 3) := by decide +kernel
theorem dL_law_615 : decode cL_law 615 = .ok (.iconst 0, 1) := by decide +kernel
theorem dL_law_616 : decode cL_law 616 = .ok (.ireturn, 1) := by decide +kernel
theorem dL_law_617 : decode cL_law 617 = .ok (.aload_n 1, 1) := by decide +kernel
theorem dL_law_618 : decode cL_law 618 = .ok (.aload_n 0, 1) := by decide +kernel
theorem dL_law_619 : decode cL_law 619 = .ok (.iload_n 3, 1) := by decide +kernel
theorem dL_law_620 : decode cL_law 620 = .ok (.iconst 1, 1) := by decide +kernel
theorem dL_law_621 : decode cL_law 621 = .ok (.iadd, 1) := by decide +kernel
theorem dL_law_622 : decode cL_law 622 = .ok (.iaload, 1) := by decide +kernel
theorem dL_law_623 : decode cL_law 623 = .ok (.invokevirtual 68, 3) := by decide +kernel
theorem dL_law_626 : decode cL_law 626 = .ok (.aload_n 2, 1) := by decide +kernel
theorem dL_law_627 : decode cL_law 627 = .ok (.aload_n 0, 1) := by decide +kernel
theorem dL_law_628 : decode cL_law 628 = .ok (.iload_n 3, 1) := by decide +kernel
theorem dL_law_629 : decode cL_law 629 = .ok (.iconst 1, 1) := by decide +kernel
theorem dL_law_630 : decode cL_law 630 = .ok (.iadd, 1) := by decide +kernel
theorem dL_law_631 : decode cL_law 631 = .ok (.iaload, 1) := by decide +kernel
theorem dL_law_632 : decode cL_law 632 = .ok (.invokevirtual 71, 3) := by decide +kernel
theorem dL_law_635 : decode cL_law 635 = .ok (.if_icmp .eq 667, 3) := by decide +kernel
theorem dL_law_638 : decode cL_law 638 = .ok (.iconst 0, 1) := by decide +kernel
theorem dL_law_639 : decode cL_law 639 = .ok (.ireturn, 1) := by decide +kernel
theorem dL_law_640 : decode cL_law 640 = .ok (.aload_n 1, 1) := by decide +kernel
theorem dL_law_641 : decode cL_law 641 = .ok (.aload_n 0, 1) := by decide +kernel
theorem dL_law_642 : decode cL_law 642 = .ok (.iload_n 3, 1) := by decide +kernel
theorem dL_law_643 : decode cL_law 643 = .ok (.iconst 1, 1) := by decide +kernel
theorem dL_law_644 : decode cL_law 644 = .ok (.iadd, 1) := by decide +kernel
theorem dL_law_645 : decode cL_law 645 = .ok (.iaload, 1) := by decide +kernel
theorem dL_law_646 : decode cL_law 646 = .ok (.aload_n 0, 1) := by decide +kernel
theorem dL_law_647 : decode cL_law 647 = .ok (.iload_n 3, 1) := by decide +kernel
theorem dL_law_648 : decode cL_law 648 = .ok (.iconst 2, 1) := by decide +kernel
theorem dL_law_649 : decode cL_law 649 = .ok (.iadd, 1) := by decide +kernel
theorem dL_law_650 : decode cL_law 650 = .ok (.iaload, 1) := by decide +kernel
theorem dL_law_651 : decode cL_law 651 = .ok (.invokevirtual 72, 3) := by decide +kernel
theorem dL_law_654 : decode cL_law 654 = .ok (.aload_n 2, 1) := by decide +kernel
theorem dL_law_655 : decode cL_law 655 = .ok (.aload_n 0, 1) := by decide +kernel
theorem dL_law_656 : decode cL_law 656 = .ok (.iload_n 3, 1) := by decide +kernel
theorem dL_law_657 : decode cL_law 657 = .ok (.iconst 1, 1) := by decide +kernel
theorem dL_law_658 : decode cL_law 658 = .ok (.iadd, 1) := by decide +kernel
theorem dL_law_659 : decode cL_law 659 = .ok (.iaload, 1) := by decide +kernel
theorem dL_law_660 : decode cL_law 660 = .ok (.aload_n 0, 1) := by decide +kernel
theorem dL_law_661 : decode cL_law 661 = .ok (.iload_n 3, 1) := by decide +kernel
theorem dL_law_662 : decode cL_law 662 = .ok (.iconst 2, 1) := by decide +kernel
theorem dL_law_663 : decode cL_law 663 = .ok (.iadd, 1) := by decide +kernel
theorem dL_law_664 : decode cL_law 664 = .ok (.iaload, 1) := by decide +kernel
theorem dL_law_665 : decode cL_law 665 = .ok (.invokevirtual 75, 3) := by decide +kernel
theorem dL_law_668 : decode cL_law 668 = .ok (.if_icmp .eq 634, 3) := by decide +kernel
theorem dL_law_671 : decode cL_law 671 = .ok (.iconst 0, 1) := by decide +kernel
theorem dL_law_672 : decode cL_law 672 = .ok (.ireturn, 1) := by decide +kernel
theorem dL_law_673 : decode cL_law 673 = .ok (.aload_n 1, 1) := by decide +kernel
theorem dL_law_674 : decode cL_law 674 = .ok (.aload_n 0, 1) := by decide +kernel
theorem dL_law_675 : decode cL_law 675 = .ok (.iload_n 3, 1) := by decide +kernel
theorem dL_law_676 : decode cL_law 676 = .ok (.iconst 1, 1) := by decide +kernel
theorem dL_law_677 : decode cL_law 677 = .ok (.iadd, 1) := by decide +kernel
theorem dL_law_678 : decode cL_law 678 = .ok (.iaload, 1) := by decide +kernel
theorem dL_law_679 : decode cL_law 679 = .ok (.aload_n 0, 1) := by decide +kernel
theorem dL_law_680 : decode cL_law 680 = .ok (.iload_n 3, 1) := by decide +kernel
theorem dL_law_681 : decode cL_law 681 = .ok (.iconst 2, 1) := by decide +kernel
theorem dL_law_682 : decode cL_law 682 = .ok (.iadd, 1) := by decide +kernel
theorem dL_law_683 : decode cL_law 683 = .ok (.iaload, 1) := by decide +kernel
theorem dL_law_684 : decode cL_law 684 = .ok (.aload_n 0, 1) := by decide +kernel
theorem dL_law_685 : decode cL_law 685 = .ok (.iload_n 3, 1) := by decide +kernel
theorem dL_law_686 : decode cL_law 686 = .ok (.iconst 3, 1) := by decide +kernel
theorem dL_law_687 : decode cL_law 687 = .ok (.iadd, 1) := by decide +kernel
theorem dL_law_688 : decode cL_law 688 = .ok (.iaload, 1) := by decide +kernel
theorem dL_law_689 : decode cL_law 689 = .ok (.aload_n 0, 1) := by decide +kernel
theorem dL_law_690 : decode cL_law 690 = .ok (.iload_n 3, 1) := by decide +kernel
theorem dL_law_691 : decode cL_law 691 = .ok (.iconst 4, 1) := by decide +kernel
theorem dL_law_692 : decode cL_law 692 = .ok (.iadd, 1) := by decide +kernel
theorem dL_law_693 : decode cL_law 693 = .ok (.iaload, 1) := by decide +kernel
theorem dL_law_694 : decode cL_law 694 = .ok (.invokevirtual 76, 3) := by decide +kernel
theorem dL_law_697 : decode cL_law 697 = .ok (.aload_n 2, 1) := by decide +kernel
theorem dL_law_698 : decode cL_law 698 = .ok (.aload_n 0, 1) := by decide +kernel
theorem dL_law_699 : decode cL_law 699 = .ok (.iload_n 3, 1) := by decide +kernel
theorem dL_law_700 : decode cL_law 700 = .ok (.iconst 1, 1) := by decide +kernel
theorem dL_law_701 : decode cL_law 701 = .ok (.iadd, 1) := by decide +kernel
theorem dL_law_702 : decode cL_law 702 = .ok (.iaload, 1) := by decide +kernel
theorem dL_law_703 : decode cL_law 703 = .ok (.aload_n 0, 1) := by decide +kernel
theorem dL_law_704 : decode cL_law 704 = .ok (.iload_n 3, 1) := by decide +kernel
theorem dL_law_705 : decode cL_law 705 = .ok (.iconst 2, 1) := by decide +kernel
theorem dL_law_706 : decode cL_law 706 = .ok (.iadd, 1) := by decide +kernel
theorem dL_law_707 : decode cL_law 707 = .ok (.iaload, 1) := by decide +kernel
theorem dL_law_708 : decode cL_law 708 = .ok (.aload_n 0, 1) := by decide +kernel
theorem dL_law_709 : decode cL_law 709 = .ok (.iload_n 3, 1) := by decide +kernel
theorem dL_law_710 : decode cL_law 710 = .ok (.iconst 3, 1) := by decide +kernel
theorem dL_law_711 : decode cL_law 711 = .ok (.iadd, 1) := by decide +kernel
theorem dL_law_712 : decode cL_law 712 = .ok (.iaload, 1) := by decide +kernel
theorem dL_law_713 : decode cL_law 713 = .ok (.aload_n 0, 1) := by decide +kernel
theorem dL_law_714 : decode cL_law 714 = .ok (.iload_n 3, 1) := by decide +kernel
theorem dL_law_715 : decode cL_law 715 = .ok (.iconst 4, 1) := by decide +kernel
theorem dL_law_716 : decode cL_law 716 = .ok (.iadd, 1) := by decide +kernel
theorem dL_law_717 : decode cL_law 717 = .ok (.iaload, 1) := by decide +kernel
theorem dL_law_718 : decode cL_law 718 = .ok (.invokevirtual 80, 3) := by decide +kernel
theorem dL_law_721 : decode cL_law 721 = .ok (.lcmp, 1) := by decide +kernel
theorem dL_law_722 : decode cL_law 722 = .ok (.ifCond .eq 580, 3) := by decide +kernel
theorem dL_law_725 : decode cL_law 725 = .ok (.iconst 0, 1) := by decide +kernel
theorem dL_law_726 : decode cL_law 726 = .ok (.ireturn, 1) := by decide +kernel
theorem dL_law_727 : decode cL_law 727 = .ok (.aload_n 1, 1) := by decide +kernel
theorem dL_law_728 : decode cL_law 728 = .ok (.aload_n 0, 1) := by decide +kernel
theorem dL_law_729 : decode cL_law 729 = .ok (.iload_n 3, 1) := by decide +kernel
theorem dL_law_730 : decode cL_law 730 = .ok (.iconst 1, 1) := by decide +kernel
theorem dL_law_731 : decode cL_law 731 = .ok (.iadd, 1) := by decide +kernel
theorem dL_law_732 : decode cL_law 732 = .ok (.iaload, 1) := by decide +kernel
theorem dL_law_733 : decode cL_law 733 = .ok (.aload_n 0, 1) := by decide +kernel
theorem dL_law_734 : decode cL_law 734 = .ok (.iload_n 3, 1) := by decide +kernel
theorem dL_law_735 : decode cL_law 735 = .ok (.iconst 2, 1) := by decide +kernel
theorem dL_law_736 : decode cL_law 736 = .ok (.iadd, 1) := by decide +kernel
theorem dL_law_737 : decode cL_law 737 = .ok (.iaload, 1) := by decide +kernel
theorem dL_law_738 : decode cL_law 738 = .ok (.invokevirtual 81, 3) := by decide +kernel
theorem dL_law_741 : decode cL_law 741 = .ok (.aload_n 2, 1) := by decide +kernel
theorem dL_law_742 : decode cL_law 742 = .ok (.aload_n 0, 1) := by decide +kernel
theorem dL_law_743 : decode cL_law 743 = .ok (.iload_n 3, 1) := by decide +kernel
theorem dL_law_744 : decode cL_law 744 = .ok (.iconst 1, 1) := by decide +kernel
theorem dL_law_745 : decode cL_law 745 = .ok (.iadd, 1) := by decide +kernel
theorem dL_law_746 : decode cL_law 746 = .ok (.iaload, 1) := by decide +kernel
theorem dL_law_747 : decode cL_law 747 = .ok (.aload_n 0, 1) := by decide +kernel
theorem dL_law_748 : decode cL_law 748 = .ok (.iload_n 3, 1) := by decide +kernel
theorem dL_law_749 : decode cL_law 749 = .ok (.iconst 2, 1) := by decide +kernel
theorem dL_law_750 : decode cL_law 750 = .ok (.iadd, 1) := by decide +kernel
theorem dL_law_751 : decode cL_law 751 = .ok (.iaload, 1) := by decide +kernel
theorem dL_law_752 : decode cL_law 752 = .ok (.invokevirtual 84, 3) := by decide +kernel
theorem dL_law_755 : decode cL_law 755 = .ok (.if_icmp .eq 547, 3) := by decide +kernel
theorem dL_law_758 : decode cL_law 758 = .ok (.iconst 0, 1) := by decide +kernel
theorem dL_law_759 : decode cL_law 759 = .ok (.ireturn, 1) := by decide +kernel
theorem dL_law_760 : decode cL_law 760 = .ok (.aload_n 1, 1) := by decide +kernel
theorem dL_law_761 : decode cL_law 761 = .ok (.aload_n 0, 1) := by decide +kernel
theorem dL_law_762 : decode cL_law 762 = .ok (.iload_n 3, 1) := by decide +kernel
theorem dL_law_763 : decode cL_law 763 = .ok (.iconst 1, 1) := by decide +kernel
theorem dL_law_764 : decode cL_law 764 = .ok (.iadd, 1) := by decide +kernel
theorem dL_law_765 : decode cL_law 765 = .ok (.iaload, 1) := by decide +kernel
theorem dL_law_766 : decode cL_law 766 = .ok (.invokevirtual 85, 3) := by decide +kernel
theorem dL_law_769 : decode cL_law 769 = .ok (.aload_n 2, 1) := by decide +kernel
theorem dL_law_770 : decode cL_law 770 = .ok (.aload_n 0, 1) := by decide +kernel
theorem dL_law_771 : decode cL_law 771 = .ok (.iload_n 3, 1) := by decide +kernel
theorem dL_law_772 : decode cL_law 772 = .ok (.iconst 1, 1) := by decide +kernel
theorem dL_law_773 : decode cL_law 773 = .ok (.iadd, 1) := by decide +kernel
theorem dL_law_774 : decode cL_law 774 = .ok (.iaload, 1) := by decide +kernel
theorem dL_law_775 : decode cL_law 775 = .ok (.invokevirtual 88, 3) := by decide +kernel
theorem dL_law_778 : decode cL_law 778 = .ok (.if_icmp .eq 524, 3) := by decide +kernel
theorem dL_law_781 : decode cL_law 781 = .ok (.iconst 0, 1) := by decide +kernel
theorem dL_law_782 : decode cL_law 782 = .ok (.ireturn, 1) := by decide +kernel
theorem dL_law_783 : decode cL_law 783 = .ok (.aload_n 1, 1) := by decide +kernel
theorem dL_law_784 : decode cL_law 784 = .ok (.invokevirtual 89, 3) := by decide +kernel
theorem dL_law_787 : decode cL_law 787 = .ok (.aload_n 2, 1) := by decide +kernel
theorem dL_law_788 : decode cL_law 788 = .ok (.invokevirtual 92, 3) := by decide +kernel
theorem dL_law_791 : decode cL_law 791 = .ok (.if_icmp .eq 511, 3) := by decide +kernel
theorem dL_law_794 : decode cL_law 794 = .ok (.iconst 0, 1) := by decide +kernel
theorem dL_law_795 : decode cL_law 795 = .ok (.ireturn, 1) := by decide +kernel
theorem dL_law_796 : decode cL_law 796 = .ok (.aload_n 1, 1) := by decide +kernel
theorem dL_law_797 : decode cL_law 797 = .ok (.aload_n 0, 1) := by decide +kernel
theorem dL_law_798 : decode cL_law 798 = .ok (.iload_n 3, 1) := by decide +kernel
theorem dL_law_799 : decode cL_law 799 = .ok (.iconst 1, 1) := by decide +kernel
theorem dL_law_800 : decode cL_law 800 = .ok (.iadd, 1) := by decide +kernel
theorem dL_law_801 : decode cL_law 801 = .ok (.iaload, 1) := by decide +kernel
theorem dL_law_802 : decode cL_law 802 = .ok (.aload_n 0, 1) := by decide +kernel
theorem dL_law_803 : decode cL_law 803 = .ok (.iload_n 3, 1) := by decide +kernel
theorem dL_law_804 : decode cL_law 804 = .ok (.iconst 2, 1) := by decide +kernel
theorem dL_law_805 : decode cL_law 805 = .ok (.iadd, 1) := by decide +kernel
theorem dL_law_806 : decode cL_law 806 = .ok (.iaload, 1) := by decide +kernel
theorem dL_law_807 : decode cL_law 807 = .ok (.invokevirtual 93, 3) := by decide +kernel
theorem dL_law_810 : decode cL_law 810 = .ok (.aload_n 2, 1) := by decide +kernel
theorem dL_law_811 : decode cL_law 811 = .ok (.aload_n 0, 1) := by decide +kernel
theorem dL_law_812 : decode cL_law 812 = .ok (.iload_n 3, 1) := by decide +kernel
theorem dL_law_813 : decode cL_law 813 = .ok (.iconst 1, 1) := by decide +kernel
theorem dL_law_814 : decode cL_law 814 = .ok (.iadd, 1) := by decide +kernel
theorem dL_law_815 : decode cL_law 815 = .ok (.iaload, 1) := by decide +kernel
theorem dL_law_816 : decode cL_law 816 = .ok (.aload_n 0, 1) := by decide +kernel
theorem dL_law_817 : decode cL_law 817 = .ok (.iload_n 3, 1) := by decide +kernel
theorem dL_law_818 : decode cL_law 818 = .ok (.iconst 2, 1) := by decide +kernel
theorem dL_law_819 : decode cL_law 819 = .ok (.iadd, 1) := by decide +kernel
theorem dL_law_820 : decode cL_law 820 = .ok (.iaload, 1) := by decide +kernel
theorem dL_law_821 : decode cL_law 821 = .ok (.invokevirtual 96, 3) := by decide +kernel
theorem dL_law_824 : decode cL_law 824 = .ok (.if_icmp .eq 478, 3) := by decide +kernel
theorem dL_law_827 : decode cL_law 827 = .ok (.iconst 0, 1) := by decide +kernel
theorem dL_law_828 : decode cL_law 828 = .ok (.ireturn, 1) := by decide +kernel
theorem dL_law_829 : decode cL_law 829 = .ok (.aload_n 1, 1) := by decide +kernel
theorem dL_law_830 : decode cL_law 830 = .ok (.aload_n 0, 1) := by decide +kernel
theorem dL_law_831 : decode cL_law 831 = .ok (.iload_n 3, 1) := by decide +kernel
theorem dL_law_832 : decode cL_law 832 = .ok (.iconst 1, 1) := by decide +kernel
theorem dL_law_833 : decode cL_law 833 = .ok (.iadd, 1) := by decide +kernel
theorem dL_law_834 : decode cL_law 834 = .ok (.iaload, 1) := by decide +kernel
theorem dL_law_835 : decode cL_law 835 = .ok (.aload_n 0, 1) := by decide +kernel
theorem dL_law_836 : decode cL_law 836 = .ok (.iload_n 3, 1) := by decide +kernel
theorem dL_law_837 : decode cL_law 837 = .ok (.iconst 2, 1) := by decide +kernel
theorem dL_law_838 : decode cL_law 838 = .ok (.iadd, 1) := by decide +kernel
theorem dL_law_839 : decode cL_law 839 = .ok (.iaload, 1) := by decide +kernel
theorem dL_law_840 : decode cL_law 840 = .ok (.invokevirtual 97, 3) := by decide +kernel
theorem dL_law_843 : decode cL_law 843 = .ok (.aload_n 2, 1) := by decide +kernel
theorem dL_law_844 : decode cL_law 844 = .ok (.aload_n 0, 1) := by decide +kernel
theorem dL_law_845 : decode cL_law 845 = .ok (.iload_n 3, 1) := by decide +kernel
theorem dL_law_846 : decode cL_law 846 = .ok (.iconst 1, 1) := by decide +kernel
theorem dL_law_847 : decode cL_law 847 = .ok (.iadd, 1) := by decide +kernel
theorem dL_law_848 : decode cL_law 848 = .ok (.iaload, 1) := by decide +kernel
theorem dL_law_849 : decode cL_law 849 = .ok (.aload_n 0, 1) := by decide +kernel
theorem dL_law_850 : decode cL_law 850 = .ok (.iload_n 3, 1) := by decide +kernel
theorem dL_law_851 : decode cL_law 851 = .ok (.iconst 2, 1) := by decide +kernel
theorem dL_law_852 : decode cL_law 852 = .ok (.iadd, 1) := by decide +kernel
theorem dL_law_853 : decode cL_law 853 = .ok (.iaload, 1) := by decide +kernel
theorem dL_law_854 : decode cL_law 854 = .ok (.invokevirtual 100, 3) := by decide +kernel
theorem dL_law_857 : decode cL_law 857 = .ok (.if_icmp .eq 445, 3) := by decide +kernel
theorem dL_law_860 : decode cL_law 860 = .ok (.iconst 0, 1) := by decide +kernel
theorem dL_law_861 : decode cL_law 861 = .ok (.ireturn, 1) := by decide +kernel
theorem dL_law_862 : decode cL_law 862 = .ok (.aload_n 1, 1) := by decide +kernel
theorem dL_law_863 : decode cL_law 863 = .ok (.aload_n 0, 1) := by decide +kernel
theorem dL_law_864 : decode cL_law 864 = .ok (.iload_n 3, 1) := by decide +kernel
theorem dL_law_865 : decode cL_law 865 = .ok (.iconst 1, 1) := by decide +kernel
theorem dL_law_866 : decode cL_law 866 = .ok (.iadd, 1) := by decide +kernel
theorem dL_law_867 : decode cL_law 867 = .ok (.iaload, 1) := by decide +kernel
theorem dL_law_868 : decode cL_law 868 = .ok (.invokevirtual 101, 3) := by decide +kernel
theorem dL_law_871 : decode cL_law 871 = .ok (.aload_n 2, 1) := by decide +kernel
theorem dL_law_872 : decode cL_law 872 = .ok (.aload_n 0, 1) := by decide +kernel
theorem dL_law_873 : decode cL_law 873 = .ok (.iload_n 3, 1) := by decide +kernel
theorem dL_law_874 : decode cL_law 874 = .ok (.iconst 1, 1) := by decide +kernel
theorem dL_law_875 : decode cL_law 875 = .ok (.iadd, 1) := by decide +kernel
theorem dL_law_876 : decode cL_law 876 = .ok (.iaload, 1) := by decide +kernel
theorem dL_law_877 : decode cL_law 877 = .ok (.invokevirtual 104, 3) := by decide +kernel
theorem dL_law_880 : decode cL_law 880 = .ok (.if_icmp .eq 422, 3) := by decide +kernel
theorem dL_law_883 : decode cL_law 883 = .ok (.iconst 0, 1) := by decide +kernel
theorem dL_law_884 : decode cL_law 884 = .ok (.ireturn, 1) := by decide +kernel
theorem dL_law_885 : decode cL_law 885 = .ok (.aload_n 1, 1) := by decide +kernel
theorem dL_law_886 : decode cL_law 886 = .ok (.invokevirtual 105, 3) := by decide +kernel
theorem dL_law_889 : decode cL_law 889 = .ok (.aload_n 2, 1) := by decide +kernel
theorem dL_law_890 : decode cL_law 890 = .ok (.invokevirtual 108, 3) := by decide +kernel
theorem dL_law_893 : decode cL_law 893 = .ok (.if_icmp .eq 409, 3) := by decide +kernel
theorem dL_law_896 : decode cL_law 896 = .ok (.iconst 0, 1) := by decide +kernel
theorem dL_law_897 : decode cL_law 897 = .ok (.ireturn, 1) := by decide +kernel
theorem dL_law_898 : decode cL_law 898 = .ok (.aload_n 1, 1) := by decide +kernel
theorem dL_law_899 : decode cL_law 899 = .ok (.aload_n 0, 1) := by decide +kernel
theorem dL_law_900 : decode cL_law 900 = .ok (.iload_n 3, 1) := by decide +kernel
theorem dL_law_901 : decode cL_law 901 = .ok (.iconst 1, 1) := by decide +kernel
theorem dL_law_902 : decode cL_law 902 = .ok (.iadd, 1) := by decide +kernel
theorem dL_law_903 : decode cL_law 903 = .ok (.iaload, 1) := by decide +kernel
theorem dL_law_904 : decode cL_law 904 = .ok (.aload_n 0, 1) := by decide +kernel
theorem dL_law_905 : decode cL_law 905 = .ok (.iload_n 3, 1) := by decide +kernel
theorem dL_law_906 : decode cL_law 906 = .ok (.iconst 2, 1) := by decide +kernel
theorem dL_law_907 : decode cL_law 907 = .ok (.iadd, 1) := by decide +kernel
theorem dL_law_908 : decode cL_law 908 = .ok (.iaload, 1) := by decide +kernel
theorem dL_law_909 : decode cL_law 909 = .ok (.invokevirtual 109, 3) := by decide +kernel
theorem dL_law_912 : decode cL_law 912 = .ok (.aload_n 2, 1) := by decide +kernel
theorem dL_law_913 : decode cL_law 913 = .ok (.aload_n 0, 1) := by decide +kernel
theorem dL_law_914 : decode cL_law 914 = .ok (.iload_n 3, 1) := by decide +kernel
theorem dL_law_915 : decode cL_law 915 = .ok (.iconst 1, 1) := by decide +kernel
theorem dL_law_916 : decode cL_law 916 = .ok (.iadd, 1) := by decide +kernel
theorem dL_law_917 : decode cL_law 917 = .ok (.iaload, 1) := by decide +kernel
theorem dL_law_918 : decode cL_law 918 = .ok (.aload_n 0, 1) := by decide +kernel
theorem dL_law_919 : decode cL_law 919 = .ok (.iload_n 3, 1) := by decide +kernel
theorem dL_law_920 : decode cL_law 920 = .ok (.iconst 2, 1) := by decide +kernel
theorem dL_law_921 : decode cL_law 921 = .ok (.iadd, 1) := by decide +kernel
theorem dL_law_922 : decode cL_law 922 = .ok (.iaload, 1) := by decide +kernel
theorem dL_law_923 : decode cL_law 923 = .ok (.invokevirtual 112, 3) := by decide +kernel
theorem dL_law_926 : decode cL_law 926 = .ok (.if_icmp .eq 376, 3) := by decide +kernel
theorem dL_law_929 : decode cL_law 929 = .ok (.iconst 0, 1) := by decide +kernel
theorem dL_law_930 : decode cL_law 930 = .ok (.ireturn, 1) := by decide +kernel
theorem dL_law_931 : decode cL_law 931 = .ok (.aload_n 1, 1) := by decide +kernel
theorem dL_law_932 : decode cL_law 932 = .ok (.aload_n 0, 1) := by decide +kernel
theorem dL_law_933 : decode cL_law 933 = .ok (.iload_n 3, 1) := by decide +kernel
theorem dL_law_934 : decode cL_law 934 = .ok (.iconst 1, 1) := by decide +kernel
theorem dL_law_935 : decode cL_law 935 = .ok (.iadd, 1) := by decide +kernel
theorem dL_law_936 : decode cL_law 936 = .ok (.iaload, 1) := by decide +kernel
theorem dL_law_937 : decode cL_law 937 = .ok (.aload_n 0, 1) := by decide +kernel
theorem dL_law_938 : decode cL_law 938 = .ok (.iload_n 3, 1) := by decide +kernel
theorem dL_law_939 : decode cL_law 939 = .ok (.iconst 2, 1) := by decide +kernel
theorem dL_law_940 : decode cL_law 940 = .ok (.iadd, 1) := by decide +kernel
theorem dL_law_941 : decode cL_law 941 = .ok (.iaload, 1) := by decide +kernel
theorem dL_law_942 : decode cL_law 942 = .ok (.invokevirtual 113, 3) := by decide +kernel
theorem dL_law_945 : decode cL_law 945 = .ok (.aload_n 2, 1) := by decide +kernel
theorem dL_law_946 : decode cL_law 946 = .ok (.aload_n 0, 1) := by decide +kernel
theorem dL_law_947 : decode cL_law 947 = .ok (.iload_n 3, 1) := by decide +kernel
theorem dL_law_948 : decode cL_law 948 = .ok (.iconst 1, 1) := by decide +kernel
theorem dL_law_949 : decode cL_law 949 = .ok (.iadd, 1) := by decide +kernel
theorem dL_law_950 : decode cL_law 950 = .ok (.iaload, 1) := by decide +kernel
theorem dL_law_951 : decode cL_law 951 = .ok (.aload_n 0, 1) := by decide +kernel
theorem dL_law_952 : decode cL_law 952 = .ok (.iload_n 3, 1) := by decide +kernel
theorem dL_law_953 : decode cL_law 953 = .ok (.iconst 2, 1) := by decide +kernel
theorem dL_law_954 : decode cL_law 954 = .ok (.iadd, 1) := by decide +kernel
theorem dL_law_955 : decode cL_law 955 = .ok (.iaload, 1) := by decide +kernel
theorem dL_law_956 : decode cL_law 956 = .ok (.invokevirtual 116, 3) := by decide +kernel
theorem dL_law_959 : decode cL_law 959 = .ok (.if_icmp .eq 343, 3) := by decide +kernel
theorem dL_law_962 : decode cL_law 962 = .ok (.iconst 0, 1) := by decide +kernel
theorem dL_law_963 : decode cL_law 963 = .ok (.ireturn, 1) := by decide +kernel
theorem dL_law_964 : decode cL_law 964 = .ok (.aload_n 1, 1) := by decide +kernel
theorem dL_law_965 : decode cL_law 965 = .ok (.aload_n 0, 1) := by decide +kernel
theorem dL_law_966 : decode cL_law 966 = .ok (.iload_n 3, 1) := by decide +kernel
theorem dL_law_967 : decode cL_law 967 = .ok (.iconst 1, 1) := by decide +kernel
theorem dL_law_968 : decode cL_law 968 = .ok (.iadd, 1) := by decide +kernel
theorem dL_law_969 : decode cL_law 969 = .ok (.iaload, 1) := by decide +kernel
theorem dL_law_970 : decode cL_law 970 = .ok (.aload_n 0, 1) := by decide +kernel
theorem dL_law_971 : decode cL_law 971 = .ok (.iload_n 3, 1) := by decide +kernel
theorem dL_law_972 : decode cL_law 972 = .ok (.iconst 2, 1) := by decide +kernel
theorem dL_law_973 : decode cL_law 973 = .ok (.iadd, 1) := by decide +kernel
theorem dL_law_974 : decode cL_law 974 = .ok (.iaload, 1) := by decide +kernel
theorem dL_law_975 : decode cL_law 975 = .ok (.aload_n 0, 1) := by decide +kernel
theorem dL_law_976 : decode cL_law 976 = .ok (.iload_n 3, 1) := by decide +kernel
theorem dL_law_977 : decode cL_law 977 = .ok (.iconst 3, 1) := by decide +kernel
theorem dL_law_978 : decode cL_law 978 = .ok (.iadd, 1) := by decide +kernel
theorem dL_law_979 : decode cL_law 979 = .ok (.iaload, 1) := by decide +kernel
theorem dL_law_980 : decode cL_law 980 = .ok (.invokevirtual 117, 3) := by decide +kernel
theorem dL_law_983 : decode cL_law 983 = .ok (.aload_n 2, 1) := by decide +kernel
theorem dL_law_984 : decode cL_law 984 = .ok (.aload_n 0, 1) := by decide +kernel
theorem dL_law_985 : decode cL_law 985 = .ok (.iload_n 3, 1) := by decide +kernel
theorem dL_law_986 : decode cL_law 986 = .ok (.iconst 1, 1) := by decide +kernel
theorem dL_law_987 : decode cL_law 987 = .ok (.iadd, 1) := by decide +kernel
theorem dL_law_988 : decode cL_law 988 = .ok (.iaload, 1) := by decide +kernel
theorem dL_law_989 : decode cL_law 989 = .ok (.aload_n 0, 1) := by decide +kernel
theorem dL_law_990 : decode cL_law 990 = .ok (.iload_n 3, 1) := by decide +kernel
theorem dL_law_991 : decode cL_law 991 = .ok (.iconst 2, 1) := by decide +kernel
theorem dL_law_992 : decode cL_law 992 = .ok (.iadd, 1) := by decide +kernel
theorem dL_law_993 : decode cL_law 993 = .ok (.iaload, 1) := by decide +kernel
theorem dL_law_994 : decode cL_law 994 = .ok (.aload_n 0, 1) := by decide +kernel
theorem dL_law_995 : decode cL_law 995 = .ok (.iload_n 3, 1) := by decide +kernel
theorem dL_law_996 : decode cL_law 996 = .ok (.iconst 3, 1) := by decide +kernel
theorem dL_law_997 : decode cL_law 997 = .ok (.iadd, 1) := by decide +kernel
theorem dL_law_998 : decode cL_law 998 = .ok (.iaload, 1) := by decide +kernel
theorem dL_law_999 : decode cL_law 999 = .ok (.invokevirtual 120, 3) := by decide +kernel
theorem dL_law_1002 : decode cL_law 1002 = .ok (.if_icmp .eq 300, 3) := by decide +kernel
theorem dL_law_1005 : decode cL_law 1005 = .ok (.iconst 0, 1) := by decide +kernel
theorem dL_law_1006 : decode cL_law 1006 = .ok (.ireturn, 1) := by decide +kernel
theorem dL_law_1007 : decode cL_law 1007 = .ok (.aload_n 1, 1) := by decide +kernel
theorem dL_law_1008 : decode cL_law 1008 = .ok (.aload_n 0, 1) := by decide +kernel
theorem dL_law_1009 : decode cL_law 1009 = .ok (.iload_n 3, 1) := by decide +kernel
theorem dL_law_1010 : decode cL_law 1010 = .ok (.iconst 1, 1) := by decide +kernel
theorem dL_law_1011 : decode cL_law 1011 = .ok (.iadd, 1) := by decide +kernel
theorem dL_law_1012 : decode cL_law 1012 = .ok (.iaload, 1) := by decide +kernel
theorem dL_law_1013 : decode cL_law 1013 = .ok (.aload_n 0, 1) := by decide +kernel
theorem dL_law_1014 : decode cL_law 1014 = .ok (.iload_n 3, 1) := by decide +kernel
theorem dL_law_1015 : decode cL_law 1015 = .ok (.iconst 2, 1) := by decide +kernel
theorem dL_law_1016 : decode cL_law 1016 = .ok (.iadd, 1) := by decide +kernel
theorem dL_law_1017 : decode cL_law 1017 = .ok (.iaload, 1) := by decide +kernel
theorem dL_law_1018 : decode cL_law 1018 = .ok (.aload_n 0, 1) := by decide +kernel
theorem dL_law_1019 : decode cL_law 1019 = .ok (.iload_n 3, 1) := by decide +kernel
theorem dL_law_1020 : decode cL_law 1020 = .ok (.iconst 3, 1) := by decide +kernel
theorem dL_law_1021 : decode cL_law 1021 = .ok (.iadd, 1) := by decide +kernel
theorem dL_law_1022 : decode cL_law 1022 = .ok (.iaload, 1) := by decide +kernel
theorem dL_law_1023 : decode cL_law 1023 = .ok (.invokevirtual 121, 3) := by decide +kernel
theorem dL_law_1026 : decode cL_law 1026 = .ok (.aload_n 2, 1) := by decide +kernel
theorem dL_law_1027 : decode cL_law 1027 = .ok (.aload_n 0, 1) := by decide +kernel
theorem dL_law_1028 : decode cL_law 1028 = .ok (.iload_n 3, 1) := by decide +kernel
theorem dL_law_1029 : decode cL_law 1029 = .ok (.iconst 1, 1) := by decide +kernel
theorem dL_law_1030 : decode cL_law 1030 = .ok (.iadd, 1) := by decide +kernel
theorem dL_law_1031 : decode cL_law 1031 = .ok (.iaload, 1) := by decide +kernel
theorem dL_law_1032 : decode cL_law 1032 = .ok (.aload_n 0, 1) := by decide +kernel
theorem dL_law_1033 : decode cL_law 1033 = .ok (.iload_n 3, 1) := by decide +kernel
theorem dL_law_1034 : decode cL_law 1034 = .ok (.iconst 2, 1) := by decide +kernel
theorem dL_law_1035 : decode cL_law 1035 = .ok (.iadd, 1) := by decide +kernel
theorem dL_law_1036 : decode cL_law 1036 = .ok (.iaload, 1) := by decide +kernel
theorem dL_law_1037 : decode cL_law 1037 = .ok (.aload_n 0, 1) := by decide +kernel
theorem dL_law_1038 : decode cL_law 1038 = .ok (.iload_n 3, 1) := by decide +kernel
theorem dL_law_1039 : decode cL_law 1039 = .ok (.iconst 3, 1) := by decide +kernel
theorem dL_law_1040 : decode cL_law 1040 = .ok (.iadd, 1) := by decide +kernel
theorem dL_law_1041 : decode cL_law 1041 = .ok (.iaload, 1) := by decide +kernel
theorem dL_law_1042 : decode cL_law 1042 = .ok (.invokevirtual 124, 3) := by decide +kernel
theorem dL_law_1045 : decode cL_law 1045 = .ok (.if_icmp .eq 257, 3) := by decide +kernel
theorem dL_law_1048 : decode cL_law 1048 = .ok (.iconst 0, 1) := by decide +kernel
theorem dL_law_1049 : decode cL_law 1049 = .ok (.ireturn, 1) := by decide +kernel
theorem dL_law_1050 : decode cL_law 1050 = .ok (.aload_n 1, 1) := by decide +kernel
theorem dL_law_1051 : decode cL_law 1051 = .ok (.aload_n 0, 1) := by decide +kernel
theorem dL_law_1052 : decode cL_law 1052 = .ok (.iload_n 3, 1) := by decide +kernel
theorem dL_law_1053 : decode cL_law 1053 = .ok (.iconst 1, 1) := by decide +kernel
theorem dL_law_1054 : decode cL_law 1054 = .ok (.iadd, 1) := by decide +kernel
theorem dL_law_1055 : decode cL_law 1055 = .ok (.iaload, 1) := by decide +kernel
theorem dL_law_1056 : decode cL_law 1056 = .ok (.invokevirtual 125, 3) := by decide +kernel
theorem dL_law_1059 : decode cL_law 1059 = .ok (.aload_n 2, 1) := by decide +kernel
theorem dL_law_1060 : decode cL_law 1060 = .ok (.aload_n 0, 1) := by decide +kernel
theorem dL_law_1061 : decode cL_law 1061 = .ok (.iload_n 3, 1) := by decide +kernel
theorem dL_law_1062 : decode cL_law 1062 = .ok (.iconst 1, 1) := by decide +kernel
theorem dL_law_1063 : decode cL_law 1063 = .ok (.iadd, 1) := by decide +kernel
theorem dL_law_1064 : decode cL_law 1064 = .ok (.iaload, 1) := by decide +kernel
theorem dL_law_1065 : decode cL_law 1065 = .ok (.invokevirtual 128, 3) := by decide +kernel
theorem dL_law_1068 : decode cL_law 1068 = .ok (.if_icmp .eq 234, 3) := by decide +kernel
theorem dL_law_1071 : decode cL_law 1071 = .ok (.iconst 0, 1) := by decide +kernel
theorem dL_law_1072 : decode cL_law 1072 = .ok (.ireturn, 1) := by decide +kernel
theorem dL_law_1073 : decode cL_law 1073 = .ok (.aload_n 1, 1) := by decide +kernel
theorem dL_law_1074 : decode cL_law 1074 = .ok (.aload_n 0, 1) := by decide +kernel
theorem dL_law_1075 : decode cL_law 1075 = .ok (.iload_n 3, 1) := by decide +kernel
theorem dL_law_1076 : decode cL_law 1076 = .ok (.iconst 1, 1) := by decide +kernel
theorem dL_law_1077 : decode cL_law 1077 = .ok (.iadd, 1) := by decide +kernel
theorem dL_law_1078 : decode cL_law 1078 = .ok (.iaload, 1) := by decide +kernel
theorem dL_law_1079 : decode cL_law 1079 = .ok (.aload_n 0, 1) := by decide +kernel
theorem dL_law_1080 : decode cL_law 1080 = .ok (.iload_n 3, 1) := by decide +kernel
theorem dL_law_1081 : decode cL_law 1081 = .ok (.iconst 2, 1) := by decide +kernel
theorem dL_law_1082 : decode cL_law 1082 = .ok (.iadd, 1) := by decide +kernel
theorem dL_law_1083 : decode cL_law 1083 = .ok (.iaload, 1) := by decide +kernel
theorem dL_law_1084 : decode cL_law 1084 = .ok (.aload_n 0, 1) := by decide +kernel
theorem dL_law_1085 : decode cL_law 1085 = .ok (.iload_n 3, 1) := by decide +kernel
theorem dL_law_1086 : decode cL_law 1086 = .ok (.iconst 3, 1) := by decide +kernel
theorem dL_law_1087 : decode cL_law 1087 = .ok (.iadd, 1) := by decide +kernel
theorem dL_law_1088 : decode cL_law 1088 = .ok (.iaload, 1) := by decide +kernel
theorem dL_law_1089 : decode cL_law 1089 = .ok (.aload_n 0, 1) := by decide +kernel
theorem dL_law_1090 : decode cL_law 1090 = .ok (.iload_n 3, 1) := by decide +kernel
theorem dL_law_1091 : decode cL_law 1091 = .ok (.iconst 4, 1) := by decide +kernel
theorem dL_law_1092 : decode cL_law 1092 = .ok (.iadd, 1) := by decide +kernel
theorem dL_law_1093 : decode cL_law 1093 = .ok (.iaload, 1) := by decide +kernel
theorem dL_law_1094 : decode cL_law 1094 = .ok (.invokevirtual 129, 3) := by decide +kernel
theorem dL_law_1097 : decode cL_law 1097 = .ok (.aload_n 2, 1) := by decide +kernel
theorem dL_law_1098 : decode cL_law 1098 = .ok (.aload_n 0, 1) := by decide +kernel
theorem dL_law_1099 : decode cL_law 1099 = .ok (.iload_n 3, 1) := by decide +kernel
theorem dL_law_1100 : decode cL_law 1100 = .ok (.iconst 1, 1) := by decide +kernel
theorem dL_law_1101 : decode cL_law 1101 = .ok (.iadd, 1) := by decide +kernel
theorem dL_law_1102 : decode cL_law 1102 = .ok (.iaload, 1) := by decide +kernel
theorem dL_law_1103 : decode cL_law 1103 = .ok (.aload_n 0, 1) := by decide +kernel
theorem dL_law_1104 : decode cL_law 1104 = .ok (.iload_n 3, 1) := by decide +kernel
theorem dL_law_1105 : decode cL_law 1105 = .ok (.iconst 2, 1) := by decide +kernel
theorem dL_law_1106 : decode cL_law 1106 = .ok (.iadd, 1) := by decide +kernel
theorem dL_law_1107 : decode cL_law 1107 = .ok (.iaload, 1) := by decide +kernel
theorem dL_law_1108 : decode cL_law 1108 = .ok (.aload_n 0, 1) := by decide +kernel
theorem dL_law_1109 : decode cL_law 1109 = .ok (.iload_n 3, 1) := by decide +kernel
theorem dL_law_1110 : decode cL_law 1110 = .ok (.iconst 3, 1) := by decide +kernel
theorem dL_law_1111 : decode cL_law 1111 = .ok (.iadd, 1) := by decide +kernel
theorem dL_law_1112 : decode cL_law 1112 = .ok (.iaload, 1) := by decide +kernel
theorem dL_law_1113 : decode cL_law 1113 = .ok (.aload_n 0, 1) := by decide +kernel
theorem dL_law_1114 : decode cL_law 1114 = .ok (.iload_n 3, 1) := by decide +kernel
theorem dL_law_1115 : decode cL_law 1115 = .ok (.iconst 4, 1) := by decide +kernel
theorem dL_law_1116 : decode cL_law 1116 = .ok (.iadd, 1) := by decide +kernel
theorem dL_law_1117 : decode cL_law 1117 = .ok (.iaload, 1) := by decide +kernel
theorem dL_law_1118 : decode cL_law 1118 = .ok (.invokevirtual 132, 3) := by decide +kernel
theorem dL_law_1121 : decode cL_law 1121 = .ok (.if_icmp .eq 181, 3) := by decide +kernel
theorem dL_law_1124 : decode cL_law 1124 = .ok (.iconst 0, 1) := by decide +kernel
theorem dL_law_1125 : decode cL_law 1125 = .ok (.ireturn, 1) := by decide +kernel
theorem dL_law_1126 : decode cL_law 1126 = .ok (.aload_n 1, 1) := by decide +kernel
theorem dL_law_1127 : decode cL_law 1127 = .ok (.aload_n 0, 1) := by decide +kernel
theorem dL_law_1128 : decode cL_law 1128 = .ok (.iload_n 3, 1) := by decide +kernel
theorem dL_law_1129 : decode cL_law 1129 = .ok (.iconst 1, 1) := by decide +kernel
theorem dL_law_1130 : decode cL_law 1130 = .ok (.iadd, 1) := by decide +kernel
theorem dL_law_1131 : decode cL_law 1131 = .ok (.iaload, 1) := by decide +kernel
theorem dL_law_1132 : decode cL_law 1132 = .ok (.aload_n 0, 1) := by decide +kernel
theorem dL_law_1133 : decode cL_law 1133 = .ok (.iload_n 3, 1) := by decide +kernel
theorem dL_law_1134 : decode cL_law 1134 = .ok (.iconst 2, 1) := by decide +kernel
theorem dL_law_1135 : decode cL_law 1135 = .ok (.iadd, 1) := by decide +kernel
theorem dL_law_1136 : decode cL_law 1136 = .ok (.iaload, 1) := by decide +kernel
theorem dL_law_1137 : decode cL_law 1137 = .ok (.aload_n 0, 1) := by decide +kernel
theorem dL_law_1138 : decode cL_law 1138 = .ok (.iload_n 3, 1) := by decide +kernel
theorem dL_law_1139 : decode cL_law 1139 = .ok (.iconst 3, 1) := by decide +kernel
theorem dL_law_1140 : decode cL_law 1140 = .ok (.iadd, 1) := by decide +kernel
theorem dL_law_1141 : decode cL_law 1141 = .ok (.iaload, 1) := by decide +kernel
theorem dL_law_1142 : decode cL_law 1142 = .ok (.invokevirtual 133, 3) := by decide +kernel
theorem dL_law_1145 : decode cL_law 1145 = .ok (.aload_n 2, 1) := by decide +kernel
theorem dL_law_1146 : decode cL_law 1146 = .ok (.aload_n 0, 1) := by decide +kernel
theorem dL_law_1147 : decode cL_law 1147 = .ok (.iload_n 3, 1) := by decide +kernel
theorem dL_law_1148 : decode cL_law 1148 = .ok (.iconst 1, 1) := by decide +kernel
theorem dL_law_1149 : decode cL_law 1149 = .ok (.iadd, 1) := by decide +kernel
theorem dL_law_1150 : decode cL_law 1150 = .ok (.iaload, 1) := by decide +kernel
theorem dL_law_1151 : decode cL_law 1151 = .ok (.aload_n 0, 1) := by decide +kernel
theorem dL_law_1152 : decode cL_law 1152 = .ok (.iload_n 3, 1) := by decide +kernel
theorem dL_law_1153 : decode cL_law 1153 = .ok (.iconst 2, 1) := by decide +kernel
theorem dL_law_1154 : decode cL_law 1154 = .ok (.iadd, 1) := by decide +kernel
theorem dL_law_1155 : decode cL_law 1155 = .ok (.iaload, 1) := by decide +kernel
theorem dL_law_1156 : decode cL_law 1156 = .ok (.aload_n 0, 1) := by decide +kernel
theorem dL_law_1157 : decode cL_law 1157 = .ok (.iload_n 3, 1) := by decide +kernel
theorem dL_law_1158 : decode cL_law 1158 = .ok (.iconst 3, 1) := by decide +kernel
theorem dL_law_1159 : decode cL_law 1159 = .ok (.iadd, 1) := by decide +kernel
theorem dL_law_1160 : decode cL_law 1160 = .ok (.iaload, 1) := by decide +kernel
theorem dL_law_1161 : decode cL_law 1161 = .ok (.invokevirtual 136, 3) := by decide +kernel
theorem dL_law_1164 : decode cL_law 1164 = .ok (.if_icmp .eq 138, 3) := by decide +kernel
theorem dL_law_1167 : decode cL_law 1167 = .ok (.iconst 0, 1) := by decide +kernel
theorem dL_law_1168 : decode cL_law 1168 = .ok (.ireturn, 1) := by decide +kernel
theorem dL_law_1169 : decode cL_law 1169 = .ok (.aload_n 1, 1) := by decide +kernel
theorem dL_law_1170 : decode cL_law 1170 = .ok (.aload_n 0, 1) := by decide +kernel
theorem dL_law_1171 : decode cL_law 1171 = .ok (.iload_n 3, 1) := by decide +kernel
theorem dL_law_1172 : decode cL_law 1172 = .ok (.iconst 1, 1) := by decide +kernel
theorem dL_law_1173 : decode cL_law 1173 = .ok (.iadd, 1) := by decide +kernel
theorem dL_law_1174 : decode cL_law 1174 = .ok (.iaload, 1) := by decide +kernel
theorem dL_law_1175 : decode cL_law 1175 = .ok (.aload_n 0, 1) := by decide +kernel
theorem dL_law_1176 : decode cL_law 1176 = .ok (.iload_n 3, 1) := by decide +kernel
theorem dL_law_1177 : decode cL_law 1177 = .ok (.iconst 2, 1) := by decide +kernel
theorem dL_law_1178 : decode cL_law 1178 = .ok (.iadd, 1) := by decide +kernel
theorem dL_law_1179 : decode cL_law 1179 = .ok (.iaload, 1) := by decide +kernel
theorem dL_law_1180 : decode cL_law 1180 = .ok (.aload_n 0, 1) := by decide +kernel
theorem dL_law_1181 : decode cL_law 1181 = .ok (.iload_n 3, 1) := by decide +kernel
theorem dL_law_1182 : decode cL_law 1182 = .ok (.iconst 3, 1) := by decide +kernel
theorem dL_law_1183 : decode cL_law 1183 = .ok (.iadd, 1) := by decide +kernel
theorem dL_law_1184 : decode cL_law 1184 = .ok (.iaload, 1) := by decide +kernel
theorem dL_law_1185 : decode cL_law 1185 = .ok (.aload_n 0, 1) := by decide +kernel
theorem dL_law_1186 : decode cL_law 1186 = .ok (.iload_n 3, 1) := by decide +kernel
theorem dL_law_1187 : decode cL_law 1187 = .ok (.iconst 4, 1) := by decide +kernel
theorem dL_law_1188 : decode cL_law 1188 = .ok (.iadd, 1) := by decide +kernel
theorem dL_law_1189 : decode cL_law 1189 = .ok (.iaload, 1) := by decide +kernel
theorem dL_law_1190 : decode cL_law 1190 = .ok (.aload_n 0, 1) := by decide +kernel
theorem dL_law_1191 : decode cL_law 1191 = .ok (.iload_n 3, 1) := by decide +kernel
theorem dL_law_1192 : decode cL_law 1192 = .ok (.iconst 5, 1) := by decide +kernel
theorem dL_law_1193 : decode cL_law 1193 = .ok (.iadd, 1) := by decide +kernel
theorem dL_law_1194 : decode cL_law 1194 = .ok (.iaload, 1) := by decide +kernel
theorem dL_law_1195 : decode cL_law 1195 = .ok (.invokevirtual 137, 3) := by decide +kernel
theorem dL_law_1198 : decode cL_law 1198 = .ok (.aload_n 2, 1) := by decide +kernel
theorem dL_law_1199 : decode cL_law 1199 = .ok (.aload_n 0, 1) := by decide +kernel
theorem dL_law_1200 : decode cL_law 1200 = .ok (.iload_n 3, 1) := by decide +kernel
theorem dL_law_1201 : decode cL_law 1201 = .ok (.iconst 1, 1) := by decide +kernel
theorem dL_law_1202 : decode cL_law 1202 = .ok (.iadd, 1) := by decide +kernel
theorem dL_law_1203 : decode cL_law 1203 = .ok (.iaload, 1) := by decide +kernel
theorem dL_law_1204 : decode cL_law 1204 = .ok (.aload_n 0, 1) := by decide +kernel
theorem dL_law_1205 : decode cL_law 1205 = .ok (.iload_n 3, 1) := by decide +kernel
theorem dL_law_1206 : decode cL_law 1206 = .ok (.iconst 2, 1) := by decide +kernel
theorem dL_law_1207 : decode cL_law 1207 = .ok (.iadd, 1) := by decide +kernel
theorem dL_law_1208 : decode cL_law 1208 = .ok (.iaload, 1) := by decide +kernel
theorem dL_law_1209 : decode cL_law 1209 = .ok (.aload_n 0, 1) := by decide +kernel
theorem dL_law_1210 : decode cL_law 1210 = .ok (.iload_n 3, 1) := by decide +kernel
theorem dL_law_1211 : decode cL_law 1211 = .ok (.iconst 3, 1) := by decide +kernel
theorem dL_law_1212 : decode cL_law 1212 = .ok (.iadd, 1) := by decide +kernel
theorem dL_law_1213 : decode cL_law 1213 = .ok (.iaload, 1) := by decide +kernel
theorem dL_law_1214 : decode cL_law 1214 = .ok (.aload_n 0, 1) := by decide +kernel
theorem dL_law_1215 : decode cL_law 1215 = .ok (.iload_n 3, 1) := by decide +kernel
theorem dL_law_1216 : decode cL_law 1216 = .ok (.iconst 4, 1) := by decide +kernel
theorem dL_law_1217 : decode cL_law 1217 = .ok (.iadd, 1) := by decide +kernel
theorem dL_law_1218 : decode cL_law 1218 = .ok (.iaload, 1) := by decide +kernel
theorem dL_law_1219 : decode cL_law 1219 = .ok (.aload_n 0, 1) := by decide +kernel
theorem dL_law_1220 : decode cL_law 1220 = .ok (.iload_n 3, 1) := by decide +kernel
theorem dL_law_1221 : decode cL_law 1221 = .ok (.iconst 5, 1) := by decide +kernel
theorem dL_law_1222 : decode cL_law 1222 = .ok (.iadd, 1) := by decide +kernel
theorem dL_law_1223 : decode cL_law 1223 = .ok (.iaload, 1) := by decide +kernel
theorem dL_law_1224 : decode cL_law 1224 = .ok (.invokevirtual 140, 3) := by decide +kernel
theorem dL_law_1227 : decode cL_law 1227 = .ok (.if_icmp .eq 75, 3) := by decide +kernel
theorem dL_law_1230 : decode cL_law 1230 = .ok (.iconst 0, 1) := by decide +kernel
theorem dL_law_1231 : decode cL_law 1231 = .ok (.ireturn, 1) := by decide +kernel
theorem dL_law_1232 : decode cL_law 1232 = .ok (.aload_n 1, 1) := by decide +kernel
theorem dL_law_1233 : decode cL_law 1233 = .ok (.aload_n 0, 1) := by decide +kernel
theorem dL_law_1234 : decode cL_law 1234 = .ok (.iload_n 3, 1) := by decide +kernel
theorem dL_law_1235 : decode cL_law 1235 = .ok (.iconst 1, 1) := by decide +kernel
theorem dL_law_1236 : decode cL_law 1236 = .ok (.iadd, 1) := by decide +kernel
theorem dL_law_1237 : decode cL_law 1237 = .ok (.iaload, 1) := by decide +kernel
theorem dL_law_1238 : decode cL_law 1238 = .ok (.aload_n 0, 1) := by decide +kernel
theorem dL_law_1239 : decode cL_law 1239 = .ok (.iload_n 3, 1) := by decide +kernel
theorem dL_law_1240 : decode cL_law 1240 = .ok (.iconst 2, 1) := by decide +kernel
theorem dL_law_1241 : decode cL_law 1241 = .ok (.iadd, 1) := by decide +kernel
theorem dL_law_1242 : decode cL_law 1242 = .ok (.iaload, 1) := by decide +kernel
theorem dL_law_1243 : decode cL_law 1243 = .ok (.invokevirtual 141, 3) := by decide +kernel
theorem dL_law_1246 : decode cL_law 1246 = .ok (.aload_n 2, 1) := by decide +kernel
theorem dL_law_1247 : decode cL_law 1247 = .ok (.aload_n 0, 1) := by decide +kernel
theorem dL_law_1248 : decode cL_law 1248 = .ok (.iload_n 3, 1) := by decide +kernel
theorem dL_law_1249 : decode cL_law 1249 = .ok (.iconst 1, 1) := by decide +kernel
theorem dL_law_1250 : decode cL_law 1250 = .ok (.iadd, 1) := by decide +kernel
theorem dL_law_1251 : decode cL_law 1251 = .ok (.iaload, 1) := by decide +kernel
theorem dL_law_1252 : decode cL_law 1252 = .ok (.aload_n 0, 1) := by decide +kernel
theorem dL_law_1253 : decode cL_law 1253 = .ok (.iload_n 3, 1) := by decide +kernel
theorem dL_law_1254 : decode cL_law 1254 = .ok (.iconst 2, 1) := by decide +kernel
theorem dL_law_1255 : decode cL_law 1255 = .ok (.iadd, 1) := by decide +kernel
theorem dL_law_1256 : decode cL_law 1256 = .ok (.iaload, 1) := by decide +kernel
theorem dL_law_1257 : decode cL_law 1257 = .ok (.invokevirtual 144, 3) := by decide +kernel
theorem dL_law_1260 : decode cL_law 1260 = .ok (.if_icmp .eq 42, 3) := by decide +kernel
theorem dL_law_1263 : decode cL_law 1263 = .ok (.iconst 0, 1) := by decide +kernel
theorem dL_law_1264 : decode cL_law 1264 = .ok (.ireturn, 1) := by decide +kernel
theorem dL_law_1265 : decode cL_law 1265 = .ok (.aload_n 1, 1) := by decide +kernel
theorem dL_law_1266 : decode cL_law 1266 = .ok (.aload_n 0, 1) := by decide +kernel
theorem dL_law_1267 : decode cL_law 1267 = .ok (.iload_n 3, 1) := by decide +kernel
theorem dL_law_1268 : decode cL_law 1268 = .ok (.iconst 1, 1) := by decide +kernel
theorem dL_law_1269 : decode cL_law 1269 = .ok (.iadd, 1) := by decide +kernel
theorem dL_law_1270 : decode cL_law 1270 = .ok (.iaload, 1) := by decide +kernel
theorem dL_law_1271 : decode cL_law 1271 = .ok (.invokevirtual 145, 3) := by decide +kernel
theorem dL_law_1274 : decode cL_law 1274 = .ok (.aload_n 2, 1) := by decide +kernel
theorem dL_law_1275 : decode cL_law 1275 = .ok (.aload_n 0, 1) := by decide +kernel
theorem dL_law_1276 : decode cL_law 1276 = .ok (.iload_n 3, 1) := by decide +kernel
theorem dL_law_1277 : decode cL_law 1277 = .ok (.iconst 1, 1) := by decide +kernel
theorem dL_law_1278 : decode cL_law 1278 = .ok (.iadd, 1) := by decide +kernel
theorem dL_law_1279 : decode cL_law 1279 = .ok (.iaload, 1) := by decide +kernel
theorem dL_law_1280 : decode cL_law 1280 = .ok (.invokevirtual 148, 3) := by decide +kernel
theorem dL_law_1283 : decode cL_law 1283 = .ok (.if_icmp .eq 19, 3) := by decide +kernel
theorem dL_law_1286 : decode cL_law 1286 = .ok (.iconst 0, 1) := by decide +kernel
theorem dL_law_1287 : decode cL_law 1287 = .ok (.ireturn, 1) := by decide +kernel
theorem dL_law_1288 : decode cL_law 1288 = .ok (.aload_n 1, 1) := by decide +kernel
theorem dL_law_1289 : decode cL_law 1289 = .ok (.invokevirtual 149, 3) := by decide +kernel
theorem dL_law_1292 : decode cL_law 1292 = .ok (.aload_n 2, 1) := by decide +kernel
theorem dL_law_1293 : decode cL_law 1293 = .ok (.invokevirtual 153, 3) := by decide +kernel
theorem dL_law_1296 : decode cL_law 1296 = .ok (.lcmp, 1) := by decide +kernel
theorem dL_law_1297 : decode cL_law 1297 = .ok (.ifCond .eq 5, 3) := by decide +kernel
theorem dL_law_1300 : decode cL_law 1300 = .ok (.iconst 0, 1) := by decide +kernel
theorem dL_law_1301 : decode cL_law 1301 = .ok (.ireturn, 1) := by decide +kernel
theorem dL_law_1302 : decode cL_law 1302 = .ok (.iinc 3 6, 3) := by decide +kernel
theorem dL_law_1305 : decode cL_law 1305 = .ok (.goto (-1287), 3) := by decide +kernel
theorem dL_law_1308 : decode cL_law 1308 = .ok (.iconst 1, 1) := by decide +kernel
theorem dL_law_1309 : decode cL_law 1309 = .ok (.ireturn, 1) := by decide +kernel
