theorem dX9_init_4 : decode cX9_init 4 = .ok (.aload_n 0, 1) := by decide +kernel
theorem dX9_init_5 : decode cX9_init 5 = .ok (.new 9, 3) := by decide +kernel
theorem dX9_init_8 : decode cX9_init 8 = .ok (.dup, 1) := by decide +kernel
theorem dX9_init_9 : decode cX9_init 9 = .ok (.invokespecial 11, 3) := by decide +kernel
theorem dX9_init_12 : decode cX9_init 12 = .ok (.putfield 12, 3) := by decide +kernel
theorem dX9_init_15 : decode cX9_init 15 = .ok (.aload_n 0, 1) := by decide +kernel
theorem dX9_init_16 : decode cX9_init 16 = .ok (.bipush 8, 2) := by decide +kernel
theorem dX9_init_18 : decode cX9_init 18 = .ok (.newarray .int, 2) := by decide +kernel
theorem dX9_init_20 : decode cX9_init 20 = .ok (.putfield 18, 3) := by decide +kernel
theorem dX9_init_23 : decode cX9_init 23 = .ok (.aload_n 0, 1) := by decide +kernel
theorem dX9_init_24 : decode cX9_init 24 = .ok (.bipush 18, 2) := by decide +kernel
theorem dX9_init_26 : decode cX9_init 26 = .ok (.bipush 104, 2) := by decide +kernel
theorem dX9_init_28 : decode cX9_init 28 = .ok (.multianewarray 22 2, 4) := by decide +kernel
theorem dX9_init_32 : decode cX9_init 32 = .ok (.putfield 24, 3) := by decide +kernel
theorem dX9_init_35 : decode cX9_init 35 = .ok (.aload_n 0, 1) := by decide +kernel
theorem dX9_init_36 : decode cX9_init 36 = .ok (.bipush 104, 2) := by decide +kernel
theorem dX9_init_38 : decode cX9_init 38 = .ok (.newarray .long, 2) := by decide +kernel
theorem dX9_init_40 : decode cX9_init 40 = .ok (.putfield 27, 3) := by decide +kernel
theorem dX9_init_43 : decode cX9_init 43 = .ok (.aload_n 0, 1) := by decide +kernel
theorem dX9_init_44 : decode cX9_init 44 = .ok (.bipush 104, 2) := by decide +kernel
theorem dX9_init_46 : decode cX9_init 46 = .ok (.newarray .long, 2) := by decide +kernel
theorem dX9_init_48 : decode cX9_init 48 = .ok (.putfield 31, 3) := by decide +kernel
theorem dX9_init_51 : decode cX9_init 51 = .ok (.aload_n 0, 1) := by decide +kernel
theorem dX9_init_52 : decode cX9_init 52 = .ok (.bipush 13, 2) := by decide +kernel
theorem dX9_init_54 : decode cX9_init 54 = .ok (.newarray .long, 2) := by decide +kernel
theorem dX9_init_56 : decode cX9_init 56 = .ok (.putfield 34, 3) := by decide +kernel
theorem dX9_init_59 : decode cX9_init 59 = .ok (.aload_n 0, 1) := by decide +kernel
theorem dX9_init_60 : decode cX9_init 60 = .ok (.aload_n 1, 1) := by decide +kernel
theorem dX9_init_61 : decode cX9_init 61 = .ok (.putfield 37, 3) := by decide +kernel
theorem dX9_init_64 : decode cX9_init 64 = .ok (.return_, 1) := by decide +kernel
theorem dX9_number_0 : decode cX9_number 0 = .ok (.aload_n 2, 1) := by decide +kernel
theorem dX9_number_1 : decode cX9_number 1 = .ok (.invokevirtual 41, 3) := by decide +kernel
theorem dX9_number_4 : decode cX9_number 4 = .ok (.iload 4, 2) := by decide +kernel
theorem dX9_number_6 : decode cX9_number 6 = .ok (.if_icmp .gt 24, 3) := by decide +kernel
theorem dX9_number_9 : decode cX9_number 9 = .ok (.iload 4, 2) := by decide +kernel
theorem dX9_number_11 : decode cX9_number 11 = .ok (.bipush 13, 2) := by decide +kernel
theorem dX9_number_13 : decode cX9_number 13 = .ok (.if_icmp .ge 17, 3) := by decide +kernel
theorem dX9_number_16 : decode cX9_number 16 = .ok (.iload_n 1, 1) := by decide +kernel
theorem dX9_number_17 : decode cX9_number 17 = .ok (.invokestatic 47, 3) := by decide +kernel
theorem dX9_number_20 : decode cX9_number 20 = .ok (.ifCond .eq 10, 3) := by decide +kernel
theorem dX9_number_23 : decode cX9_number 23 = .ok (.iload_n 3, 1) := by decide +kernel
theorem dX9_number_24 : decode cX9_number 24 = .ok (.invokestatic 47, 3) := by decide +kernel
theorem dX9_number_27 : decode cX9_number 27 = .ok (.ifCond .ne 5, 3) := by decide +kernel
theorem dX9_number_30 : decode cX9_number 30 = .ok (.lconst 0, 1) := by decide +kernel
theorem dX9_number_31 : decode cX9_number 31 = .ok (.lreturn, 1) := by decide +kernel
theorem dX9_number_32 : decode cX9_number 32 = .ok (.aload_n 0, 1) := by decide +kernel
theorem dX9_number_33 : decode cX9_number 33 = .ok (.invokevirtual 51, 3) := by decide +kernel
theorem dX9_number_36 : decode cX9_number 36 = .ok (.aload_n 0, 1) := by decide +kernel
theorem dX9_number_37 : decode cX9_number 37 = .ok (.iload 4, 2) := by decide +kernel
theorem dX9_number_39 : decode cX9_number 39 = .ok (.invokevirtual 54, 3) := by decide +kernel
theorem dX9_number_42 : decode cX9_number 42 = .ok (.aload_n 0, 1) := by decide +kernel
theorem dX9_number_43 : decode cX9_number 43 = .ok (.getfield 34, 3) := by decide +kernel
theorem dX9_number_46 : decode cX9_number 46 = .ok (.lconst 0, 1) := by decide +kernel
theorem dX9_number_47 : decode cX9_number 47 = .ok (.invokestatic 58, 3) := by decide +kernel
theorem dX9_number_50 : decode cX9_number 50 = .ok (.aload_n 0, 1) := by decide +kernel
theorem dX9_number_51 : decode cX9_number 51 = .ok (.getfield 34, 3) := by decide +kernel
theorem dX9_number_54 : decode cX9_number 54 = .ok (.iconst 0, 1) := by decide +kernel
theorem dX9_number_55 : decode cX9_number 55 = .ok (.lconst 1, 1) := by decide +kernel
theorem dX9_number_56 : decode cX9_number 56 = .ok (.lastore, 1) := by decide +kernel
theorem dX9_number_57 : decode cX9_number 57 = .ok (.aload_n 0, 1) := by decide +kernel
theorem dX9_number_58 : decode cX9_number 58 = .ok (.iload_n 1, 1) := by decide +kernel
theorem dX9_number_59 : decode cX9_number 59 = .ok (.iconst (-1), 1) := by decide +kernel
theorem dX9_number_60 : decode cX9_number 60 = .ok (.iload 4, 2) := by decide +kernel
theorem dX9_number_62 : decode cX9_number 62 = .ok (.invokevirtual 64, 3) := by decide +kernel
theorem dX9_number_65 : decode cX9_number 65 = .ok (.iconst 0, 1) := by decide +kernel
theorem dX9_number_66 : decode cX9_number 66 = .ok (.istore 5, 2) := by decide +kernel
theorem dX9_number_68 : decode cX9_number 68 = .ok (.iload 5, 2) := by decide +kernel
theorem dX9_number_70 : decode cX9_number 70 = .ok (.aload_n 2, 1) := by decide +kernel
theorem dX9_number_71 : decode cX9_number 71 = .ok (.invokevirtual 41, 3) := by decide +kernel
theorem dX9_number_74 : decode cX9_number 74 = .ok (.if_icmp .ge 56, 3) := by decide +kernel
theorem dX9_number_77 : decode cX9_number 77 = .ok (.aload_n 2, 1) := by decide +kernel
theorem dX9_number_78 : decode cX9_number 78 = .ok (.iload 5, 2) := by decide +kernel
theorem dX9_number_80 : decode cX9_number 80 = .ok (.invokevirtual 68, 3) := by decide +kernel
theorem dX9_number_83 : decode cX9_number 83 = .ok (.istore 6, 2) := by decide +kernel
theorem dX9_number_85 : decode cX9_number 85 = .ok (.aload_n 0, 1) := by decide +kernel
theorem dX9_number_86 : decode cX9_number 86 = .ok (.getfield 37, 3) := by decide +kernel
theorem dX9_number_89 : decode cX9_number 89 = .ok (.iload 6, 2) := by decide +kernel
theorem dX9_number_91 : decode cX9_number 91 = .ok (.invokevirtual 72, 3) := by decide +kernel
theorem dX9_number_94 : decode cX9_number 94 = .ok (.ifCond .ne 5, 3) := by decide +kernel
theorem dX9_number_97 : decode cX9_number 97 = .ok (.lconst 0, 1) := by decide +kernel
theorem dX9_number_98 : decode cX9_number 98 = .ok (.lreturn, 1) := by decide +kernel
theorem dX9_number_99 : decode cX9_number 99 = .ok (.aload_n 0, 1) := by decide +kernel
theorem dX9_number_100 : decode cX9_number 100 = .ok (.iload 6, 2) := by decide +kernel
theorem dX9_number_102 : decode cX9_number 102 = .ok (.iload 4, 2) := by decide +kernel
theorem dX9_number_104 : decode cX9_number 104 = .ok (.invokevirtual 77, 3) := by decide +kernel
theorem dX9_number_107 : decode cX9_number 107 = .ok (.aload_n 0, 1) := by decide +kernel
theorem dX9_number_108 : decode cX9_number 108 = .ok (.aload_n 0, 1) := by decide +kernel
theorem dX9_number_109 : decode cX9_number 109 = .ok (.getfield 37, 3) := by decide +kernel
theorem dX9_number_112 : decode cX9_number 112 = .ok (.iload 6, 2) := by decide +kernel
theorem dX9_number_114 : decode cX9_number 114 = .ok (.invokevirtual 81, 3) := by decide +kernel
theorem dX9_number_117 : decode cX9_number 117 = .ok (.iload 6, 2) := by decide +kernel
theorem dX9_number_119 : decode cX9_number 119 = .ok (.iload 4, 2) := by decide +kernel
theorem dX9_number_121 : decode cX9_number 121 = .ok (.invokevirtual 64, 3) := by decide +kernel
theorem dX9_number_124 : decode cX9_number 124 = .ok (.iinc 5 1, 3) := by decide +kernel
theorem dX9_number_127 : decode cX9_number 127 = .ok (.goto (-59), 3) := by decide +kernel
theorem dX9_number_130 : decode cX9_number 130 = .ok (.aload_n 0, 1) := by decide +kernel
theorem dX9_number_131 : decode cX9_number 131 = .ok (.getfield 31, 3) := by decide +kernel
theorem dX9_number_134 : decode cX9_number 134 = .ok (.iload 4, 2) := by decide +kernel
theorem dX9_number_136 : decode cX9_number 136 = .ok (.bipush 8, 2) := by decide +kernel
theorem dX9_number_138 : decode cX9_number 138 = .ok (.imul, 1) := by decide +kernel
theorem dX9_number_139 : decode cX9_number 139 = .ok (.iload_n 3, 1) := by decide +kernel
theorem dX9_number_140 : decode cX9_number 140 = .ok (.iadd, 1) := by decide +kernel
theorem dX9_number_141 : decode cX9_number 141 = .ok (.laload, 1) := by decide +kernel
theorem dX9_number_142 : decode cX9_number 142 = .ok (.lreturn, 1) := by decide +kernel
theorem dX9_joinTowns_0 : decode cX9_joinTowns 0 = .ok (.aload_n 0, 1) := by decide +kernel
theorem dX9_joinTowns_1 : decode cX9_joinTowns 1 = .ok (.getfield 12, 3) := by decide +kernel
theorem dX9_joinTowns_4 : decode cX9_joinTowns 4 = .ok (.aload_n 0, 1) := by decide +kernel
theorem dX9_joinTowns_5 : decode cX9_joinTowns 5 = .ok (.getfield 37, 3) := by decide +kernel
theorem dX9_joinTowns_8 : decode cX9_joinTowns 8 = .ok (.aload_n 0, 1) := by decide +kernel
theorem dX9_joinTowns_9 : decode cX9_joinTowns 9 = .ok (.getfield 37, 3) := by decide +kernel
theorem dX9_joinTowns_12 : decode cX9_joinTowns 12 = .ok (.invokevirtual 84, 3) := by decide +kernel
theorem dX9_joinTowns_15 : decode cX9_joinTowns 15 = .ok (.invokevirtual 87, 3) := by decide +kernel
theorem dX9_joinTowns_18 : decode cX9_joinTowns 18 = .ok (.iconst 0, 1) := by decide +kernel
theorem dX9_joinTowns_19 : decode cX9_joinTowns 19 = .ok (.istore_n 1, 1) := by decide +kernel
theorem dX9_joinTowns_20 : decode cX9_joinTowns 20 = .ok (.iload_n 1, 1) := by decide +kernel
theorem dX9_joinTowns_21 : decode cX9_joinTowns 21 = .ok (.bipush 8, 2) := by decide +kernel
theorem dX9_joinTowns_23 : decode cX9_joinTowns 23 = .ok (.if_icmp .ge 23, 3) := by decide +kernel
theorem dX9_joinTowns_26 : decode cX9_joinTowns 26 = .ok (.aload_n 0, 1) := by decide +kernel
theorem dX9_joinTowns_27 : decode cX9_joinTowns 27 = .ok (.getfield 18, 3) := by decide +kernel
theorem dX9_joinTowns_30 : decode cX9_joinTowns 30 = .ok (.iload_n 1, 1) := by decide +kernel
theorem dX9_joinTowns_31 : decode cX9_joinTowns 31 = .ok (.aload_n 0, 1) := by decide +kernel
theorem dX9_joinTowns_32 : decode cX9_joinTowns 32 = .ok (.getfield 12, 3) := by decide +kernel
theorem dX9_joinTowns_35 : decode cX9_joinTowns 35 = .ok (.iload_n 1, 1) := by decide +kernel
theorem dX9_joinTowns_36 : decode cX9_joinTowns 36 = .ok (.invokevirtual 91, 3) := by decide +kernel
theorem dX9_joinTowns_39 : decode cX9_joinTowns 39 = .ok (.iastore, 1) := by decide +kernel
theorem dX9_joinTowns_40 : decode cX9_joinTowns 40 = .ok (.iinc 1 1, 3) := by decide +kernel
theorem dX9_joinTowns_43 : decode cX9_joinTowns 43 = .ok (.goto (-23), 3) := by decide +kernel
theorem dX9_joinTowns_46 : decode cX9_joinTowns 46 = .ok (.return_, 1) := by decide +kernel
theorem dX9_stampForGood_0 : decode cX9_stampForGood 0 = .ok (.aload_n 0, 1) := by decide +kernel
theorem dX9_stampForGood_1 : decode cX9_stampForGood 1 = .ok (.getfield 37, 3) := by decide +kernel
theorem dX9_stampForGood_4 : decode cX9_stampForGood 4 = .ok (.iload_n 1, 1) := by decide +kernel
theorem dX9_stampForGood_5 : decode cX9_stampForGood 5 = .ok (.invokevirtual 94, 3) := by decide +kernel
theorem dX9_stampForGood_8 : decode cX9_stampForGood 8 = .ok (.istore_n 3, 1) := by decide +kernel
theorem dX9_stampForGood_9 : decode cX9_stampForGood 9 = .ok (.aload_n 0, 1) := by decide +kernel
theorem dX9_stampForGood_10 : decode cX9_stampForGood 10 = .ok (.getfield 34, 3) := by decide +kernel
theorem dX9_stampForGood_13 : decode cX9_stampForGood 13 = .ok (.iconst 0, 1) := by decide +kernel
theorem dX9_stampForGood_14 : decode cX9_stampForGood 14 = .ok (.lconst 0, 1) := by decide +kernel
theorem dX9_stampForGood_15 : decode cX9_stampForGood 15 = .ok (.lastore, 1) := by decide +kernel
theorem dX9_stampForGood_16 : decode cX9_stampForGood 16 = .ok (.iconst 1, 1) := by decide +kernel
theorem dX9_stampForGood_17 : decode cX9_stampForGood 17 = .ok (.istore 4, 2) := by decide +kernel
theorem dX9_stampForGood_19 : decode cX9_stampForGood 19 = .ok (.iload 4, 2) := by decide +kernel
theorem dX9_stampForGood_21 : decode cX9_stampForGood 21 = .ok (.iload_n 2, 1) := by decide +kernel
theorem dX9_stampForGood_22 : decode cX9_stampForGood 22 = .ok (.if_icmp .gt 30, 3) := by decide +kernel
theorem dX9_stampForGood_25 : decode cX9_stampForGood 25 = .ok (.aload_n 0, 1) := by decide +kernel
theorem dX9_stampForGood_26 : decode cX9_stampForGood 26 = .ok (.getfield 34, 3) := by decide +kernel
theorem dX9_stampForGood_29 : decode cX9_stampForGood 29 = .ok (.iload 4, 2) := by decide +kernel
theorem dX9_stampForGood_31 : decode cX9_stampForGood 31 = .ok (.aload_n 0, 1) := by decide +kernel
theorem dX9_stampForGood_32 : decode cX9_stampForGood 32 = .ok (.getfield 31, 3) := by decide +kernel
theorem dX9_stampForGood_35 : decode cX9_stampForGood 35 = .ok (.iload 4, 2) := by decide +kernel
theorem dX9_stampForGood_37 : decode cX9_stampForGood 37 = .ok (.iconst 1, 1) := by decide +kernel
theorem dX9_stampForGood_38 : decode cX9_stampForGood 38 = .ok (.isub, 1) := by decide +kernel
theorem dX9_stampForGood_39 : decode cX9_stampForGood 39 = .ok (.bipush 8, 2) := by decide +kernel
theorem dX9_stampForGood_41 : decode cX9_stampForGood 41 = .ok (.imul, 1) := by decide +kernel
theorem dX9_stampForGood_42 : decode cX9_stampForGood 42 = .ok (.iload_n 3, 1) := by decide +kernel
theorem dX9_stampForGood_43 : decode cX9_stampForGood 43 = .ok (.iadd, 1) := by decide +kernel
theorem dX9_stampForGood_44 : decode cX9_stampForGood 44 = .ok (.laload, 1) := by decide +kernel
theorem dX9_stampForGood_45 : decode cX9_stampForGood 45 = .ok (.lastore, 1) := by decide +kernel
theorem dX9_stampForGood_46 : decode cX9_stampForGood 46 = .ok (.iinc 4 1, 3) := by decide +kernel
theorem dX9_stampForGood_49 : decode cX9_stampForGood 49 = .ok (.goto (-30), 3) := by decide +kernel
theorem dX9_stampForGood_52 : decode cX9_stampForGood 52 = .ok (.return_, 1) := by decide +kernel
theorem dX9_countFrom_0 : decode cX9_countFrom 0 = .ok (.aload_n 0, 1) := by decide +kernel
theorem dX9_countFrom_1 : decode cX9_countFrom 1 = .ok (.getfield 31, 3) := by decide +kernel
theorem dX9_countFrom_4 : decode cX9_countFrom 4 = .ok (.lconst 0, 1) := by decide +kernel
theorem dX9_countFrom_5 : decode cX9_countFrom 5 = .ok (.invokestatic 58, 3) := by decide +kernel
theorem dX9_countFrom_8 : decode cX9_countFrom 8 = .ok (.iconst 0, 1) := by decide +kernel
theorem dX9_countFrom_9 : decode cX9_countFrom 9 = .ok (.istore 4, 2) := by decide +kernel
theorem dX9_countFrom_11 : decode cX9_countFrom 11 = .ok (.iload 4, 2) := by decide +kernel
theorem dX9_countFrom_13 : decode cX9_countFrom 13 = .ok (.iload_n 3, 1) := by decide +kernel
theorem dX9_countFrom_14 : decode cX9_countFrom 14 = .ok (.if_icmp .gt 40, 3) := by decide +kernel
theorem dX9_countFrom_17 : decode cX9_countFrom 17 = .ok (.aload_n 0, 1) := by decide +kernel
theorem dX9_countFrom_18 : decode cX9_countFrom 18 = .ok (.getfield 31, 3) := by decide +kernel
theorem dX9_countFrom_21 : decode cX9_countFrom 21 = .ok (.iload 4, 2) := by decide +kernel
theorem dX9_countFrom_23 : decode cX9_countFrom 23 = .ok (.bipush 8, 2) := by decide +kernel
theorem dX9_countFrom_25 : decode cX9_countFrom 25 = .ok (.imul, 1) := by decide +kernel
theorem dX9_countFrom_26 : decode cX9_countFrom 26 = .ok (.iload_n 1, 1) := by decide +kernel
theorem dX9_countFrom_27 : decode cX9_countFrom 27 = .ok (.iadd, 1) := by decide +kernel
theorem dX9_countFrom_28 : decode cX9_countFrom 28 = .ok (.aload_n 0, 1) := by decide +kernel
theorem dX9_countFrom_29 : decode cX9_countFrom 29 = .ok (.getfield 34, 3) := by decide +kernel
theorem dX9_countFrom_32 : decode cX9_countFrom 32 = .ok (.iload 4, 2) := by decide +kernel
theorem dX9_countFrom_34 : decode cX9_countFrom 34 = .ok (.laload, 1) := by decide +kernel
theorem dX9_countFrom_35 : decode cX9_countFrom 35 = .ok (.lastore, 1) := by decide +kernel
theorem dX9_countFrom_36 : decode cX9_countFrom 36 = .ok (.aload_n 0, 1) := by decide +kernel
theorem dX9_countFrom_37 : decode cX9_countFrom 37 = .ok (.aload_n 0, 1) := by decide +kernel
theorem dX9_countFrom_38 : decode cX9_countFrom 38 = .ok (.getfield 31, 3) := by decide +kernel
theorem dX9_countFrom_41 : decode cX9_countFrom 41 = .ok (.iload_n 1, 1) := by decide +kernel
theorem dX9_countFrom_42 : decode cX9_countFrom 42 = .ok (.iload_n 2, 1) := by decide +kernel
theorem dX9_countFrom_43 : decode cX9_countFrom 43 = .ok (.iload 4, 2) := by decide +kernel
theorem dX9_countFrom_45 : decode cX9_countFrom 45 = .ok (.invokevirtual 97, 3) := by decide +kernel
theorem dX9_countFrom_48 : decode cX9_countFrom 48 = .ok (.iinc 4 1, 3) := by decide +kernel
theorem dX9_countFrom_51 : decode cX9_countFrom 51 = .ok (.goto (-40), 3) := by decide +kernel
theorem dX9_countFrom_54 : decode cX9_countFrom 54 = .ok (.return_, 1) := by decide +kernel
theorem dX9_countRounds_0 : decode cX9_countRounds 0 = .ok (.aload_n 0, 1) := by decide +kernel
theorem dX9_countRounds_1 : decode cX9_countRounds 1 = .ok (.getfield 27, 3) := by decide +kernel
theorem dX9_countRounds_4 : decode cX9_countRounds 4 = .ok (.lconst 0, 1) := by decide +kernel
theorem dX9_countRounds_5 : decode cX9_countRounds 5 = .ok (.invokestatic 58, 3) := by decide +kernel
theorem dX9_countRounds_8 : decode cX9_countRounds 8 = .ok (.iconst 0, 1) := by decide +kernel
theorem dX9_countRounds_9 : decode cX9_countRounds 9 = .ok (.istore_n 2, 1) := by decide +kernel
theorem dX9_countRounds_10 : decode cX9_countRounds 10 = .ok (.iload_n 2, 1) := by decide +kernel
theorem dX9_countRounds_11 : decode cX9_countRounds 11 = .ok (.aload_n 0, 1) := by decide +kernel
theorem dX9_countRounds_12 : decode cX9_countRounds 12 = .ok (.getfield 37, 3) := by decide +kernel
theorem dX9_countRounds_15 : decode cX9_countRounds 15 = .ok (.invokevirtual 101, 3) := by decide +kernel
theorem dX9_countRounds_18 : decode cX9_countRounds 18 = .ok (.if_icmp .ge 35, 3) := by decide +kernel
theorem dX9_countRounds_21 : decode cX9_countRounds 21 = .ok (.aload_n 0, 1) := by decide +kernel
theorem dX9_countRounds_22 : decode cX9_countRounds 22 = .ok (.getfield 24, 3) := by decide +kernel
theorem dX9_countRounds_25 : decode cX9_countRounds 25 = .ok (.iload_n 2, 1) := by decide +kernel
theorem dX9_countRounds_26 : decode cX9_countRounds 26 = .ok (.aaload, 1) := by decide +kernel
theorem dX9_countRounds_27 : decode cX9_countRounds 27 = .ok (.lconst 0, 1) := by decide +kernel
theorem dX9_countRounds_28 : decode cX9_countRounds 28 = .ok (.invokestatic 58, 3) := by decide +kernel
theorem dX9_countRounds_31 : decode cX9_countRounds 31 = .ok (.aload_n 0, 1) := by decide +kernel
theorem dX9_countRounds_32 : decode cX9_countRounds 32 = .ok (.getfield 24, 3) := by decide +kernel
theorem dX9_countRounds_35 : decode cX9_countRounds 35 = .ok (.iload_n 2, 1) := by decide +kernel
theorem dX9_countRounds_36 : decode cX9_countRounds 36 = .ok (.aaload, 1) := by decide +kernel
theorem dX9_countRounds_37 : decode cX9_countRounds 37 = .ok (.aload_n 0, 1) := by decide +kernel
theorem dX9_countRounds_38 : decode cX9_countRounds 38 = .ok (.getfield 37, 3) := by decide +kernel
theorem dX9_countRounds_41 : decode cX9_countRounds 41 = .ok (.iload_n 2, 1) := by decide +kernel
theorem dX9_countRounds_42 : decode cX9_countRounds 42 = .ok (.invokevirtual 81, 3) := by decide +kernel
theorem dX9_countRounds_45 : decode cX9_countRounds 45 = .ok (.lconst 1, 1) := by decide +kernel
theorem dX9_countRounds_46 : decode cX9_countRounds 46 = .ok (.lastore, 1) := by decide +kernel
theorem dX9_countRounds_47 : decode cX9_countRounds 47 = .ok (.iinc 2 1, 3) := by decide +kernel
theorem dX9_countRounds_50 : decode cX9_countRounds 50 = .ok (.goto (-40), 3) := by decide +kernel
theorem dX9_countRounds_53 : decode cX9_countRounds 53 = .ok (.iconst 0, 1) := by decide +kernel
theorem dX9_countRounds_54 : decode cX9_countRounds 54 = .ok (.istore_n 2, 1) := by decide +kernel
theorem dX9_countRounds_55 : decode cX9_countRounds 55 = .ok (.iload_n 2, 1) := by decide +kernel
theorem dX9_countRounds_56 : decode cX9_countRounds 56 = .ok (.iconst 2, 1) := by decide +kernel
theorem dX9_countRounds_57 : decode cX9_countRounds 57 = .ok (.iadd, 1) := by decide +kernel
theorem dX9_countRounds_58 : decode cX9_countRounds 58 = .ok (.iload_n 1, 1) := by decide +kernel
theorem dX9_countRounds_59 : decode cX9_countRounds 59 = .ok (.if_icmp .gt 111, 3) := by decide +kernel
theorem dX9_countRounds_62 : decode cX9_countRounds 62 = .ok (.iconst 0, 1) := by decide +kernel
theorem dX9_countRounds_63 : decode cX9_countRounds 63 = .ok (.istore_n 3, 1) := by decide +kernel
theorem dX9_countRounds_64 : decode cX9_countRounds 64 = .ok (.iload_n 3, 1) := by decide +kernel
theorem dX9_countRounds_65 : decode cX9_countRounds 65 = .ok (.aload_n 0, 1) := by decide +kernel
theorem dX9_countRounds_66 : decode cX9_countRounds 66 = .ok (.getfield 37, 3) := by decide +kernel
theorem dX9_countRounds_69 : decode cX9_countRounds 69 = .ok (.invokevirtual 101, 3) := by decide +kernel
theorem dX9_countRounds_72 : decode cX9_countRounds 72 = .ok (.if_icmp .ge 92, 3) := by decide +kernel
theorem dX9_countRounds_75 : decode cX9_countRounds 75 = .ok (.aload_n 0, 1) := by decide +kernel
theorem dX9_countRounds_76 : decode cX9_countRounds 76 = .ok (.getfield 37, 3) := by decide +kernel
theorem dX9_countRounds_79 : decode cX9_countRounds 79 = .ok (.iload_n 3, 1) := by decide +kernel
theorem dX9_countRounds_80 : decode cX9_countRounds 80 = .ok (.invokevirtual 72, 3) := by decide +kernel
theorem dX9_countRounds_83 : decode cX9_countRounds 83 = .ok (.ifCond .eq 75, 3) := by decide +kernel
theorem dX9_countRounds_86 : decode cX9_countRounds 86 = .ok (.aload_n 0, 1) := by decide +kernel
theorem dX9_countRounds_87 : decode cX9_countRounds 87 = .ok (.getfield 37, 3) := by decide +kernel
theorem dX9_countRounds_90 : decode cX9_countRounds 90 = .ok (.iload_n 3, 1) := by decide +kernel
theorem dX9_countRounds_91 : decode cX9_countRounds 91 = .ok (.invokevirtual 104, 3) := by decide +kernel
theorem dX9_countRounds_94 : decode cX9_countRounds 94 = .ok (.ifCond .eq 64, 3) := by decide +kernel
theorem dX9_countRounds_97 : decode cX9_countRounds 97 = .ok (.aload_n 0, 1) := by decide +kernel
theorem dX9_countRounds_98 : decode cX9_countRounds 98 = .ok (.getfield 37, 3) := by decide +kernel
theorem dX9_countRounds_101 : decode cX9_countRounds 101 = .ok (.iload_n 3, 1) := by decide +kernel
theorem dX9_countRounds_102 : decode cX9_countRounds 102 = .ok (.invokevirtual 81, 3) := by decide +kernel
theorem dX9_countRounds_105 : decode cX9_countRounds 105 = .ok (.istore 4, 2) := by decide +kernel
theorem dX9_countRounds_107 : decode cX9_countRounds 107 = .ok (.aload_n 0, 1) := by decide +kernel
theorem dX9_countRounds_108 : decode cX9_countRounds 108 = .ok (.aload_n 0, 1) := by decide +kernel
theorem dX9_countRounds_109 : decode cX9_countRounds 109 = .ok (.getfield 24, 3) := by decide +kernel
theorem dX9_countRounds_112 : decode cX9_countRounds 112 = .ok (.iload_n 3, 1) := by decide +kernel
theorem dX9_countRounds_113 : decode cX9_countRounds 113 = .ok (.aaload, 1) := by decide +kernel
theorem dX9_countRounds_114 : decode cX9_countRounds 114 = .ok (.iload 4, 2) := by decide +kernel
theorem dX9_countRounds_116 : decode cX9_countRounds 116 = .ok (.iload_n 3, 1) := by decide +kernel
theorem dX9_countRounds_117 : decode cX9_countRounds 117 = .ok (.iload_n 2, 1) := by decide +kernel
theorem dX9_countRounds_118 : decode cX9_countRounds 118 = .ok (.invokevirtual 97, 3) := by decide +kernel
theorem dX9_countRounds_121 : decode cX9_countRounds 121 = .ok (.aload_n 0, 1) := by decide +kernel
theorem dX9_countRounds_122 : decode cX9_countRounds 122 = .ok (.getfield 27, 3) := by decide +kernel
theorem dX9_countRounds_125 : decode cX9_countRounds 125 = .ok (.iload_n 2, 1) := by decide +kernel
theorem dX9_countRounds_126 : decode cX9_countRounds 126 = .ok (.iconst 2, 1) := by decide +kernel
theorem dX9_countRounds_127 : decode cX9_countRounds 127 = .ok (.iadd, 1) := by decide +kernel
theorem dX9_countRounds_128 : decode cX9_countRounds 128 = .ok (.bipush 8, 2) := by decide +kernel
theorem dX9_countRounds_130 : decode cX9_countRounds 130 = .ok (.imul, 1) := by decide +kernel
theorem dX9_countRounds_131 : decode cX9_countRounds 131 = .ok (.aload_n 0, 1) := by decide +kernel
theorem dX9_countRounds_132 : decode cX9_countRounds 132 = .ok (.getfield 37, 3) := by decide +kernel
theorem dX9_countRounds_135 : decode cX9_countRounds 135 = .ok (.iload_n 3, 1) := by decide +kernel
theorem dX9_countRounds_136 : decode cX9_countRounds 136 = .ok (.invokevirtual 94, 3) := by decide +kernel
theorem dX9_countRounds_139 : decode cX9_countRounds 139 = .ok (.iadd, 1) := by decide +kernel
theorem dX9_countRounds_140 : decode cX9_countRounds 140 = .ok (.dup2, 1) := by decide +kernel
theorem dX9_countRounds_141 : decode cX9_countRounds 141 = .ok (.laload, 1) := by decide +kernel
theorem dX9_countRounds_142 : decode cX9_countRounds 142 = .ok (.aload_n 0, 1) := by decide +kernel
theorem dX9_countRounds_143 : decode cX9_countRounds 143 = .ok (.getfield 24, 3) := by decide +kernel
theorem dX9_countRounds_146 : decode cX9_countRounds 146 = .ok (.iload_n 3, 1) := by decide +kernel
theorem dX9_countRounds_147 : decode cX9_countRounds 147 = .ok (.aaload, 1) := by decide +kernel
theorem dX9_countRounds_148 : decode cX9_countRounds 148 = .ok (.iload_n 2, 1) := by decide +kernel
theorem dX9_countRounds_149 : decode cX9_countRounds 149 = .ok (.bipush 8, 2) := by decide +kernel
theorem dX9_countRounds_151 : decode cX9_countRounds 151 = .ok (.imul, 1) := by decide +kernel
theorem dX9_countRounds_152 : decode cX9_countRounds 152 = .ok (.iload 4, 2) := by decide +kernel
theorem dX9_countRounds_154 : decode cX9_countRounds 154 = .ok (.iadd, 1) := by decide +kernel
theorem dX9_countRounds_155 : decode cX9_countRounds 155 = .ok (.laload, 1) := by decide +kernel
theorem dX9_countRounds_156 : decode cX9_countRounds 156 = .ok (.ladd, 1) := by decide +kernel
theorem dX9_countRounds_157 : decode cX9_countRounds 157 = .ok (.lastore, 1) := by decide +kernel
theorem dX9_countRounds_158 : decode cX9_countRounds 158 = .ok (.iinc 3 1, 3) := by decide +kernel
theorem dX9_countRounds_161 : decode cX9_countRounds 161 = .ok (.goto (-97), 3) := by decide +kernel
theorem dX9_countRounds_164 : decode cX9_countRounds 164 = .ok (.iinc 2 1, 3) := by decide +kernel
theorem dX9_countRounds_167 : decode cX9_countRounds 167 = .ok (.goto (-112), 3) := by decide +kernel
theorem dX9_countRounds_170 : decode cX9_countRounds 170 = .ok (.return_, 1) := by decide +kernel
theorem dX9_lengthen_0 : decode cX9_lengthen 0 = .ok (.iload 4, 2) := by decide +kernel
theorem dX9_lengthen_2 : decode cX9_lengthen 2 = .ok (.ifCond .le 10, 3) := by decide +kernel
theorem dX9_lengthen_5 : decode cX9_lengthen 5 = .ok (.aload_n 0, 1) := by decide +kernel
theorem dX9_lengthen_6 : decode cX9_lengthen 6 = .ok (.aload_n 1, 1) := by decide +kernel
theorem dX9_lengthen_7 : decode cX9_lengthen 7 = .ok (.iload 4, 2) := by decide +kernel
theorem dX9_lengthen_9 : decode cX9_lengthen 9 = .ok (.invokevirtual 107, 3) := by decide +kernel
theorem dX9_lengthen_12 : decode cX9_lengthen 12 = .ok (.iconst 0, 1) := by decide +kernel
theorem dX9_lengthen_13 : decode cX9_lengthen 13 = .ok (.istore 5, 2) := by decide +kernel
theorem dX9_lengthen_15 : decode cX9_lengthen 15 = .ok (.iload 5, 2) := by decide +kernel
theorem dX9_lengthen_17 : decode cX9_lengthen 17 = .ok (.bipush 8, 2) := by decide +kernel
theorem dX9_lengthen_19 : decode cX9_lengthen 19 = .ok (.if_icmp .ge 47, 3) := by decide +kernel
theorem dX9_lengthen_22 : decode cX9_lengthen 22 = .ok (.aload_n 0, 1) := by decide +kernel
theorem dX9_lengthen_23 : decode cX9_lengthen 23 = .ok (.getfield 18, 3) := by decide +kernel
theorem dX9_lengthen_26 : decode cX9_lengthen 26 = .ok (.iload_n 2, 1) := by decide +kernel
theorem dX9_lengthen_27 : decode cX9_lengthen 27 = .ok (.iaload, 1) := by decide +kernel
theorem dX9_lengthen_28 : decode cX9_lengthen 28 = .ok (.iload 5, 2) := by decide +kernel
theorem dX9_lengthen_30 : decode cX9_lengthen 30 = .ok (.ishr, 1) := by decide +kernel
theorem dX9_lengthen_31 : decode cX9_lengthen 31 = .ok (.iconst 1, 1) := by decide +kernel
theorem dX9_lengthen_32 : decode cX9_lengthen 32 = .ok (.iand, 1) := by decide +kernel
theorem dX9_lengthen_33 : decode cX9_lengthen 33 = .ok (.iconst 1, 1) := by decide +kernel
theorem dX9_lengthen_34 : decode cX9_lengthen 34 = .ok (.if_icmp .ne 26, 3) := by decide +kernel
theorem dX9_lengthen_37 : decode cX9_lengthen 37 = .ok (.aload_n 1, 1) := by decide +kernel
theorem dX9_lengthen_38 : decode cX9_lengthen 38 = .ok (.iload 4, 2) := by decide +kernel
theorem dX9_lengthen_40 : decode cX9_lengthen 40 = .ok (.bipush 8, 2) := by decide +kernel
theorem dX9_lengthen_42 : decode cX9_lengthen 42 = .ok (.imul, 1) := by decide +kernel
theorem dX9_lengthen_43 : decode cX9_lengthen 43 = .ok (.iload 5, 2) := by decide +kernel
theorem dX9_lengthen_45 : decode cX9_lengthen 45 = .ok (.iadd, 1) := by decide +kernel
theorem dX9_lengthen_46 : decode cX9_lengthen 46 = .ok (.dup2, 1) := by decide +kernel
theorem dX9_lengthen_47 : decode cX9_lengthen 47 = .ok (.laload, 1) := by decide +kernel
theorem dX9_lengthen_48 : decode cX9_lengthen 48 = .ok (.aload_n 0, 1) := by decide +kernel
theorem dX9_lengthen_49 : decode cX9_lengthen 49 = .ok (.aload_n 1, 1) := by decide +kernel
theorem dX9_lengthen_50 : decode cX9_lengthen 50 = .ok (.iload_n 3, 1) := by decide +kernel
theorem dX9_lengthen_51 : decode cX9_lengthen 51 = .ok (.iload 4, 2) := by decide +kernel
theorem dX9_lengthen_53 : decode cX9_lengthen 53 = .ok (.iload 5, 2) := by decide +kernel
theorem dX9_lengthen_55 : decode cX9_lengthen 55 = .ok (.invokevirtual 111, 3) := by decide +kernel
theorem dX9_lengthen_58 : decode cX9_lengthen 58 = .ok (.ladd, 1) := by decide +kernel
theorem dX9_lengthen_59 : decode cX9_lengthen 59 = .ok (.lastore, 1) := by decide +kernel
theorem dX9_lengthen_60 : decode cX9_lengthen 60 = .ok (.iinc 5 1, 3) := by decide +kernel
theorem dX9_lengthen_63 : decode cX9_lengthen 63 = .ok (.goto (-48), 3) := by decide +kernel
theorem dX9_lengthen_66 : decode cX9_lengthen 66 = .ok (.return_, 1) := by decide +kernel
theorem dX9_goOnByLanes_0 : decode cX9_goOnByLanes 0 = .ok (.aload_n 0, 1) := by decide +kernel
theorem dX9_goOnByLanes_1 : decode cX9_goOnByLanes 1 = .ok (.getfield 37, 3) := by decide +kernel
theorem dX9_goOnByLanes_4 : decode cX9_goOnByLanes 4 = .ok (.invokevirtual 84, 3) := by decide +kernel
theorem dX9_goOnByLanes_7 : decode cX9_goOnByLanes 7 = .ok (.istore_n 3, 1) := by decide +kernel
theorem dX9_goOnByLanes_8 : decode cX9_goOnByLanes 8 = .ok (.iload_n 2, 1) := by decide +kernel
theorem dX9_goOnByLanes_9 : decode cX9_goOnByLanes 9 = .ok (.bipush 8, 2) := by decide +kernel
theorem dX9_goOnByLanes_11 : decode cX9_goOnByLanes 11 = .ok (.imul, 1) := by decide +kernel
theorem dX9_goOnByLanes_12 : decode cX9_goOnByLanes 12 = .ok (.istore 4, 2) := by decide +kernel
theorem dX9_goOnByLanes_14 : decode cX9_goOnByLanes 14 = .ok (.iload 4, 2) := by decide +kernel
theorem dX9_goOnByLanes_16 : decode cX9_goOnByLanes 16 = .ok (.bipush 8, 2) := by decide +kernel
theorem dX9_goOnByLanes_18 : decode cX9_goOnByLanes 18 = .ok (.isub, 1) := by decide +kernel
theorem dX9_goOnByLanes_19 : decode cX9_goOnByLanes 19 = .ok (.istore 5, 2) := by decide +kernel
theorem dX9_goOnByLanes_21 : decode cX9_goOnByLanes 21 = .ok (.iconst 0, 1) := by decide +kernel
theorem dX9_goOnByLanes_22 : decode cX9_goOnByLanes 22 = .ok (.istore 6, 2) := by decide +kernel
theorem dX9_goOnByLanes_24 : decode cX9_goOnByLanes 24 = .ok (.iload 6, 2) := by decide +kernel
theorem dX9_goOnByLanes_26 : decode cX9_goOnByLanes 26 = .ok (.aload_n 0, 1) := by decide +kernel
theorem dX9_goOnByLanes_27 : decode cX9_goOnByLanes 27 = .ok (.getfield 37, 3) := by decide +kernel
theorem dX9_goOnByLanes_30 : decode cX9_goOnByLanes 30 = .ok (.invokevirtual 115, 3) := by decide +kernel
theorem dX9_goOnByLanes_33 : decode cX9_goOnByLanes 33 = .ok (.if_icmp .ge 83, 3) := by decide +kernel
theorem dX9_goOnByLanes_36 : decode cX9_goOnByLanes 36 = .ok (.iload_n 3, 1) := by decide +kernel
theorem dX9_goOnByLanes_37 : decode cX9_goOnByLanes 37 = .ok (.ifCond .eq 79, 3) := by decide +kernel
theorem dX9_goOnByLanes_40 : decode cX9_goOnByLanes 40 = .ok (.iload_n 3, 1) := by decide +kernel
theorem dX9_goOnByLanes_41 : decode cX9_goOnByLanes 41 = .ok (.iload 6, 2) := by decide +kernel
theorem dX9_goOnByLanes_43 : decode cX9_goOnByLanes 43 = .ok (.ishr, 1) := by decide +kernel
theorem dX9_goOnByLanes_44 : decode cX9_goOnByLanes 44 = .ok (.iconst 1, 1) := by decide +kernel
theorem dX9_goOnByLanes_45 : decode cX9_goOnByLanes 45 = .ok (.iand, 1) := by decide +kernel
theorem dX9_goOnByLanes_46 : decode cX9_goOnByLanes 46 = .ok (.iconst 1, 1) := by decide +kernel
theorem dX9_goOnByLanes_47 : decode cX9_goOnByLanes 47 = .ok (.if_icmp .ne 63, 3) := by decide +kernel
theorem dX9_goOnByLanes_50 : decode cX9_goOnByLanes 50 = .ok (.aload_n 0, 1) := by decide +kernel
theorem dX9_goOnByLanes_51 : decode cX9_goOnByLanes 51 = .ok (.getfield 37, 3) := by decide +kernel
theorem dX9_goOnByLanes_54 : decode cX9_goOnByLanes 54 = .ok (.iconst 2, 1) := by decide +kernel
theorem dX9_goOnByLanes_55 : decode cX9_goOnByLanes 55 = .ok (.iload 6, 2) := by decide +kernel
theorem dX9_goOnByLanes_57 : decode cX9_goOnByLanes 57 = .ok (.imul, 1) := by decide +kernel
theorem dX9_goOnByLanes_58 : decode cX9_goOnByLanes 58 = .ok (.invokevirtual 94, 3) := by decide +kernel
theorem dX9_goOnByLanes_61 : decode cX9_goOnByLanes 61 = .ok (.istore 7, 2) := by decide +kernel
theorem dX9_goOnByLanes_63 : decode cX9_goOnByLanes 63 = .ok (.aload_n 0, 1) := by decide +kernel
theorem dX9_goOnByLanes_64 : decode cX9_goOnByLanes 64 = .ok (.getfield 37, 3) := by decide +kernel
theorem dX9_goOnByLanes_67 : decode cX9_goOnByLanes 67 = .ok (.iconst 2, 1) := by decide +kernel
theorem dX9_goOnByLanes_68 : decode cX9_goOnByLanes 68 = .ok (.iload 6, 2) := by decide +kernel
theorem dX9_goOnByLanes_70 : decode cX9_goOnByLanes 70 = .ok (.imul, 1) := by decide +kernel
theorem dX9_goOnByLanes_71 : decode cX9_goOnByLanes 71 = .ok (.invokevirtual 81, 3) := by decide +kernel
theorem dX9_goOnByLanes_74 : decode cX9_goOnByLanes 74 = .ok (.istore 8, 2) := by decide +kernel
theorem dX9_goOnByLanes_76 : decode cX9_goOnByLanes 76 = .ok (.aload_n 1, 1) := by decide +kernel
theorem dX9_goOnByLanes_77 : decode cX9_goOnByLanes 77 = .ok (.iload 4, 2) := by decide +kernel
theorem dX9_goOnByLanes_79 : decode cX9_goOnByLanes 79 = .ok (.iload 8, 2) := by decide +kernel
theorem dX9_goOnByLanes_81 : decode cX9_goOnByLanes 81 = .ok (.iadd, 1) := by decide +kernel
theorem dX9_goOnByLanes_82 : decode cX9_goOnByLanes 82 = .ok (.dup2, 1) := by decide +kernel
theorem dX9_goOnByLanes_83 : decode cX9_goOnByLanes 83 = .ok (.laload, 1) := by decide +kernel
theorem dX9_goOnByLanes_84 : decode cX9_goOnByLanes 84 = .ok (.aload_n 1, 1) := by decide +kernel
theorem dX9_goOnByLanes_85 : decode cX9_goOnByLanes 85 = .ok (.iload 5, 2) := by decide +kernel
theorem dX9_goOnByLanes_87 : decode cX9_goOnByLanes 87 = .ok (.iload 7, 2) := by decide +kernel
theorem dX9_goOnByLanes_89 : decode cX9_goOnByLanes 89 = .ok (.iadd, 1) := by decide +kernel
theorem dX9_goOnByLanes_90 : decode cX9_goOnByLanes 90 = .ok (.laload, 1) := by decide +kernel
theorem dX9_goOnByLanes_91 : decode cX9_goOnByLanes 91 = .ok (.ladd, 1) := by decide +kernel
theorem dX9_goOnByLanes_92 : decode cX9_goOnByLanes 92 = .ok (.lastore, 1) := by decide +kernel
theorem dX9_goOnByLanes_93 : decode cX9_goOnByLanes 93 = .ok (.aload_n 1, 1) := by decide +kernel
theorem dX9_goOnByLanes_94 : decode cX9_goOnByLanes 94 = .ok (.iload 4, 2) := by decide +kernel
theorem dX9_goOnByLanes_96 : decode cX9_goOnByLanes 96 = .ok (.iload 7, 2) := by decide +kernel
theorem dX9_goOnByLanes_98 : decode cX9_goOnByLanes 98 = .ok (.iadd, 1) := by decide +kernel
theorem dX9_goOnByLanes_99 : decode cX9_goOnByLanes 99 = .ok (.dup2, 1) := by decide +kernel
theorem dX9_goOnByLanes_100 : decode cX9_goOnByLanes 100 = .ok (.laload, 1) := by decide +kernel
theorem dX9_goOnByLanes_101 : decode cX9_goOnByLanes 101 = .ok (.aload_n 1, 1) := by decide +kernel
theorem dX9_goOnByLanes_102 : decode cX9_goOnByLanes 102 = .ok (.iload 5, 2) := by decide +kernel
theorem dX9_goOnByLanes_104 : decode cX9_goOnByLanes 104 = .ok (.iload 8, 2) := by decide +kernel
theorem dX9_goOnByLanes_106 : decode cX9_goOnByLanes 106 = .ok (.iadd, 1) := by decide +kernel
theorem dX9_goOnByLanes_107 : decode cX9_goOnByLanes 107 = .ok (.laload, 1) := by decide +kernel
theorem dX9_goOnByLanes_108 : decode cX9_goOnByLanes 108 = .ok (.ladd, 1) := by decide +kernel
theorem dX9_goOnByLanes_109 : decode cX9_goOnByLanes 109 = .ok (.lastore, 1) := by decide +kernel
theorem dX9_goOnByLanes_110 : decode cX9_goOnByLanes 110 = .ok (.iinc 6 1, 3) := by decide +kernel
theorem dX9_goOnByLanes_113 : decode cX9_goOnByLanes 113 = .ok (.goto (-89), 3) := by decide +kernel
theorem dX9_goOnByLanes_116 : decode cX9_goOnByLanes 116 = .ok (.return_, 1) := by decide +kernel
theorem dX9_behindRounds_0 : decode cX9_behindRounds 0 = .ok (.iload_n 2, 1) := by decide +kernel
theorem dX9_behindRounds_1 : decode cX9_behindRounds 1 = .ok (.iconst (-1), 1) := by decide +kernel
theorem dX9_behindRounds_2 : decode cX9_behindRounds 2 = .ok (.if_icmp .eq 20, 3) := by decide +kernel
theorem dX9_behindRounds_5 : decode cX9_behindRounds 5 = .ok (.aload_n 0, 1) := by decide +kernel
theorem dX9_behindRounds_6 : decode cX9_behindRounds 6 = .ok (.getfield 37, 3) := by decide +kernel
theorem dX9_behindRounds_9 : decode cX9_behindRounds 9 = .ok (.iload_n 2, 1) := by decide +kernel
theorem dX9_behindRounds_10 : decode cX9_behindRounds 10 = .ok (.invokevirtual 81, 3) := by decide +kernel
theorem dX9_behindRounds_13 : decode cX9_behindRounds 13 = .ok (.iload 4, 2) := by decide +kernel
theorem dX9_behindRounds_15 : decode cX9_behindRounds 15 = .ok (.if_icmp .ne 7, 3) := by decide +kernel
theorem dX9_behindRounds_18 : decode cX9_behindRounds 18 = .ok (.iconst 1, 1) := by decide +kernel
theorem dX9_behindRounds_19 : decode cX9_behindRounds 19 = .ok (.goto 4, 3) := by decide +kernel
theorem dX9_behindRounds_22 : decode cX9_behindRounds 22 = .ok (.iconst 0, 1) := by decide +kernel
theorem dX9_behindRounds_23 : decode cX9_behindRounds 23 = .ok (.istore 5, 2) := by decide +kernel
theorem dX9_behindRounds_25 : decode cX9_behindRounds 25 = .ok (.iload 5, 2) := by decide +kernel
theorem dX9_behindRounds_27 : decode cX9_behindRounds 27 = .ok (.ifCond .eq 14, 3) := by decide +kernel
theorem dX9_behindRounds_30 : decode cX9_behindRounds 30 = .ok (.aload_n 0, 1) := by decide +kernel
theorem dX9_behindRounds_31 : decode cX9_behindRounds 31 = .ok (.getfield 37, 3) := by decide +kernel
theorem dX9_behindRounds_34 : decode cX9_behindRounds 34 = .ok (.iload_n 2, 1) := by decide +kernel
theorem dX9_behindRounds_35 : decode cX9_behindRounds 35 = .ok (.invokevirtual 94, 3) := by decide +kernel
theorem dX9_behindRounds_38 : decode cX9_behindRounds 38 = .ok (.goto 4, 3) := by decide +kernel
theorem dX9_behindRounds_41 : decode cX9_behindRounds 41 = .ok (.iconst (-1), 1) := by decide +kernel
theorem dX9_behindRounds_42 : decode cX9_behindRounds 42 = .ok (.istore 6, 2) := by decide +kernel
theorem dX9_behindRounds_44 : decode cX9_behindRounds 44 = .ok (.lconst 0, 1) := by decide +kernel
theorem dX9_behindRounds_45 : decode cX9_behindRounds 45 = .ok (.lstore 7, 2) := by decide +kernel
theorem dX9_behindRounds_47 : decode cX9_behindRounds 47 = .ok (.iconst 2, 1) := by decide +kernel
theorem dX9_behindRounds_48 : decode cX9_behindRounds 48 = .ok (.istore 9, 2) := by decide +kernel
theorem dX9_behindRounds_50 : decode cX9_behindRounds 50 = .ok (.iload 9, 2) := by decide +kernel
theorem dX9_behindRounds_52 : decode cX9_behindRounds 52 = .ok (.iload_n 3, 1) := by decide +kernel
theorem dX9_behindRounds_53 : decode cX9_behindRounds 53 = .ok (.if_icmp .gt 84, 3) := by decide +kernel
theorem dX9_behindRounds_56 : decode cX9_behindRounds 56 = .ok (.aload_n 1, 1) := by decide +kernel
theorem dX9_behindRounds_57 : decode cX9_behindRounds 57 = .ok (.iload_n 3, 1) := by decide +kernel
theorem dX9_behindRounds_58 : decode cX9_behindRounds 58 = .ok (.iload 9, 2) := by decide +kernel
theorem dX9_behindRounds_60 : decode cX9_behindRounds 60 = .ok (.isub, 1) := by decide +kernel
theorem dX9_behindRounds_61 : decode cX9_behindRounds 61 = .ok (.bipush 8, 2) := by decide +kernel
theorem dX9_behindRounds_63 : decode cX9_behindRounds 63 = .ok (.imul, 1) := by decide +kernel
theorem dX9_behindRounds_64 : decode cX9_behindRounds 64 = .ok (.iload 4, 2) := by decide +kernel
theorem dX9_behindRounds_66 : decode cX9_behindRounds 66 = .ok (.iadd, 1) := by decide +kernel
theorem dX9_behindRounds_67 : decode cX9_behindRounds 67 = .ok (.laload, 1) := by decide +kernel
theorem dX9_behindRounds_68 : decode cX9_behindRounds 68 = .ok (.lstore 10, 2) := by decide +kernel
theorem dX9_behindRounds_70 : decode cX9_behindRounds 70 = .ok (.lload 10, 2) := by decide +kernel
theorem dX9_behindRounds_72 : decode cX9_behindRounds 72 = .ok (.lconst 0, 1) := by decide +kernel
theorem dX9_behindRounds_73 : decode cX9_behindRounds 73 = .ok (.lcmp, 1) := by decide +kernel
theorem dX9_behindRounds_74 : decode cX9_behindRounds 74 = .ok (.ifCond .eq 57, 3) := by decide +kernel
theorem dX9_behindRounds_77 : decode cX9_behindRounds 77 = .ok (.iload 5, 2) := by decide +kernel
theorem dX9_behindRounds_79 : decode cX9_behindRounds 79 = .ok (.ifCond .eq 25, 3) := by decide +kernel
theorem dX9_behindRounds_82 : decode cX9_behindRounds 82 = .ok (.aload_n 0, 1) := by decide +kernel
theorem dX9_behindRounds_83 : decode cX9_behindRounds 83 = .ok (.getfield 24, 3) := by decide +kernel
theorem dX9_behindRounds_86 : decode cX9_behindRounds 86 = .ok (.iload_n 2, 1) := by decide +kernel
theorem dX9_behindRounds_87 : decode cX9_behindRounds 87 = .ok (.iconst 1, 1) := by decide +kernel
theorem dX9_behindRounds_88 : decode cX9_behindRounds 88 = .ok (.ixor, 1) := by decide +kernel
theorem dX9_behindRounds_89 : decode cX9_behindRounds 89 = .ok (.aaload, 1) := by decide +kernel
theorem dX9_behindRounds_90 : decode cX9_behindRounds 90 = .ok (.iload 9, 2) := by decide +kernel
theorem dX9_behindRounds_92 : decode cX9_behindRounds 92 = .ok (.iconst 2, 1) := by decide +kernel
theorem dX9_behindRounds_93 : decode cX9_behindRounds 93 = .ok (.isub, 1) := by decide +kernel
theorem dX9_behindRounds_94 : decode cX9_behindRounds 94 = .ok (.bipush 8, 2) := by decide +kernel
theorem dX9_behindRounds_96 : decode cX9_behindRounds 96 = .ok (.imul, 1) := by decide +kernel
theorem dX9_behindRounds_97 : decode cX9_behindRounds 97 = .ok (.iload 6, 2) := by decide +kernel
theorem dX9_behindRounds_99 : decode cX9_behindRounds 99 = .ok (.iadd, 1) := by decide +kernel
theorem dX9_behindRounds_100 : decode cX9_behindRounds 100 = .ok (.laload, 1) := by decide +kernel
theorem dX9_behindRounds_101 : decode cX9_behindRounds 101 = .ok (.goto 4, 3) := by decide +kernel
theorem dX9_behindRounds_104 : decode cX9_behindRounds 104 = .ok (.lconst 0, 1) := by decide +kernel
theorem dX9_behindRounds_105 : decode cX9_behindRounds 105 = .ok (.lstore 12, 2) := by decide +kernel
theorem dX9_behindRounds_107 : decode cX9_behindRounds 107 = .ok (.lload 7, 2) := by decide +kernel
theorem dX9_behindRounds_109 : decode cX9_behindRounds 109 = .ok (.lload 10, 2) := by decide +kernel
theorem dX9_behindRounds_111 : decode cX9_behindRounds 111 = .ok (.aload_n 0, 1) := by decide +kernel
theorem dX9_behindRounds_112 : decode cX9_behindRounds 112 = .ok (.getfield 27, 3) := by decide +kernel
theorem dX9_behindRounds_115 : decode cX9_behindRounds 115 = .ok (.iload 9, 2) := by decide +kernel
theorem dX9_behindRounds_117 : decode cX9_behindRounds 117 = .ok (.bipush 8, 2) := by decide +kernel
theorem dX9_behindRounds_119 : decode cX9_behindRounds 119 = .ok (.imul, 1) := by decide +kernel
theorem dX9_behindRounds_120 : decode cX9_behindRounds 120 = .ok (.iload 4, 2) := by decide +kernel
theorem dX9_behindRounds_122 : decode cX9_behindRounds 122 = .ok (.iadd, 1) := by decide +kernel
theorem dX9_behindRounds_123 : decode cX9_behindRounds 123 = .ok (.laload, 1) := by decide +kernel
theorem dX9_behindRounds_124 : decode cX9_behindRounds 124 = .ok (.lload 12, 2) := by decide +kernel
theorem dX9_behindRounds_126 : decode cX9_behindRounds 126 = .ok (.lsub, 1) := by decide +kernel
theorem dX9_behindRounds_127 : decode cX9_behindRounds 127 = .ok (.lmul, 1) := by decide +kernel
theorem dX9_behindRounds_128 : decode cX9_behindRounds 128 = .ok (.ladd, 1) := by decide +kernel
theorem dX9_behindRounds_129 : decode cX9_behindRounds 129 = .ok (.lstore 7, 2) := by decide +kernel
theorem dX9_behindRounds_131 : decode cX9_behindRounds 131 = .ok (.iinc 9 1, 3) := by decide +kernel
theorem dX9_behindRounds_134 : decode cX9_behindRounds 134 = .ok (.goto (-84), 3) := by decide +kernel
theorem dX9_behindRounds_137 : decode cX9_behindRounds 137 = .ok (.lload 7, 2) := by decide +kernel
theorem dX9_behindRounds_139 : decode cX9_behindRounds 139 = .ok (.lreturn, 1) := by decide +kernel
theorem dX10_init_0 : decode cX10_init 0 = .ok (.aload_n 0, 1) := by decide +kernel
theorem dX10_init_1 : decode cX10_init 1 = .ok (.invokespecial 3, 3) := by decide +kernel
theorem dX10_init_4 : decode cX10_init 4 = .ok (.aload_n 0, 1) := by decide +kernel
theorem dX10_init_5 : decode cX10_init 5 = .ok (.new 9, 3) := by decide +kernel
theorem dX10_init_8 : decode cX10_init 8 = .ok (.dup, 1) := by decide +kernel
theorem dX10_init_9 : decode cX10_init 9 = .ok (.invokespecial 11, 3) := by decide +kernel
theorem dX10_init_12 : decode cX10_init 12 = .ok (.putfield 12, 3) := by decide +kernel
theorem dX10_init_15 : decode cX10_init 15 = .ok (.aload_n 0, 1) := by decide +kernel
theorem dX10_init_16 : decode cX10_init 16 = .ok (.iconst 4, 1) := by decide +kernel
theorem dX10_init_17 : decode cX10_init 17 = .ok (.anewarray 16, 3) := by decide +kernel
theorem dX10_init_20 : decode cX10_init 20 = .ok (.putfield 18, 3) := by decide +kernel
theorem dX10_init_23 : decode cX10_init 23 = .ok (.aload_n 0, 1) := by decide +kernel
theorem dX10_init_24 : decode cX10_init 24 = .ok (.new 22, 3) := by decide +kernel
theorem dX10_init_27 : decode cX10_init 27 = .ok (.dup, 1) := by decide +kernel
theorem dX10_init_28 : decode cX10_init 28 = .ok (.invokespecial 24, 3) := by decide +kernel
theorem dX10_init_31 : decode cX10_init 31 = .ok (.putfield 25, 3) := by decide +kernel
theorem dX10_init_34 : decode cX10_init 34 = .ok (.aload_n 0, 1) := by decide +kernel
theorem dX10_init_35 : decode cX10_init 35 = .ok (.new 22, 3) := by decide +kernel
theorem dX10_init_38 : decode cX10_init 38 = .ok (.dup, 1) := by decide +kernel
theorem dX10_init_39 : decode cX10_init 39 = .ok (.invokespecial 24, 3) := by decide +kernel
theorem dX10_init_42 : decode cX10_init 42 = .ok (.putfield 29, 3) := by decide +kernel
theorem dX10_init_45 : decode cX10_init 45 = .ok (.aload_n 0, 1) := by decide +kernel
theorem dX10_init_46 : decode cX10_init 46 = .ok (.new 32, 3) := by decide +kernel
theorem dX10_init_49 : decode cX10_init 49 = .ok (.dup, 1) := by decide +kernel
theorem dX10_init_50 : decode cX10_init 50 = .ok (.aload_n 0, 1) := by decide +kernel
theorem dX10_init_51 : decode cX10_init 51 = .ok (.getfield 12, 3) := by decide +kernel
theorem dX10_init_54 : decode cX10_init 54 = .ok (.invokespecial 34, 3) := by decide +kernel
theorem dX10_init_57 : decode cX10_init 57 = .ok (.putfield 37, 3) := by decide +kernel
theorem dX10_init_60 : decode cX10_init 60 = .ok (.aload_n 0, 1) := by decide +kernel
theorem dX10_init_61 : decode cX10_init 61 = .ok (.new 41, 3) := by decide +kernel
theorem dX10_init_64 : decode cX10_init 64 = .ok (.dup, 1) := by decide +kernel
theorem dX10_init_65 : decode cX10_init 65 = .ok (.aload_n 0, 1) := by decide +kernel
theorem dX10_init_66 : decode cX10_init 66 = .ok (.getfield 12, 3) := by decide +kernel
theorem dX10_init_69 : decode cX10_init 69 = .ok (.invokespecial 43, 3) := by decide +kernel
theorem dX10_init_72 : decode cX10_init 72 = .ok (.putfield 44, 3) := by decide +kernel
theorem dX10_init_75 : decode cX10_init 75 = .ok (.aload_n 0, 1) := by decide +kernel
theorem dX10_init_76 : decode cX10_init 76 = .ok (.new 48, 3) := by decide +kernel
theorem dX10_init_79 : decode cX10_init 79 = .ok (.dup, 1) := by decide +kernel
theorem dX10_init_80 : decode cX10_init 80 = .ok (.aload_n 0, 1) := by decide +kernel
theorem dX10_init_81 : decode cX10_init 81 = .ok (.getfield 12, 3) := by decide +kernel
theorem dX10_init_84 : decode cX10_init 84 = .ok (.invokespecial 50, 3) := by decide +kernel
theorem dX10_init_87 : decode cX10_init 87 = .ok (.putfield 51, 3) := by decide +kernel
theorem dX10_init_90 : decode cX10_init 90 = .ok (.aload_n 0, 1) := by decide +kernel
theorem dX10_init_91 : decode cX10_init 91 = .ok (.new 55, 3) := by decide +kernel
theorem dX10_init_94 : decode cX10_init 94 = .ok (.dup, 1) := by decide +kernel
theorem dX10_init_95 : decode cX10_init 95 = .ok (.aload_n 0, 1) := by decide +kernel
theorem dX10_init_96 : decode cX10_init 96 = .ok (.getfield 12, 3) := by decide +kernel
theorem dX10_init_99 : decode cX10_init 99 = .ok (.invokespecial 57, 3) := by decide +kernel
theorem dX10_init_102 : decode cX10_init 102 = .ok (.putfield 58, 3) := by decide +kernel
theorem dX10_init_105 : decode cX10_init 105 = .ok (.aload_n 0, 1) := by decide +kernel
theorem dX10_init_106 : decode cX10_init 106 = .ok (.new 62, 3) := by decide +kernel
theorem dX10_init_109 : decode cX10_init 109 = .ok (.dup, 1) := by decide +kernel
theorem dX10_init_110 : decode cX10_init 110 = .ok (.invokespecial 64, 3) := by decide +kernel
theorem dX10_init_113 : decode cX10_init 113 = .ok (.putfield 65, 3) := by decide +kernel
theorem dX10_init_116 : decode cX10_init 116 = .ok (.aload_n 0, 1) := by decide +kernel
theorem dX10_init_117 : decode cX10_init 117 = .ok (.new 69, 3) := by decide +kernel
theorem dX10_init_120 : decode cX10_init 120 = .ok (.dup, 1) := by decide +kernel
theorem dX10_init_121 : decode cX10_init 121 = .ok (.invokespecial 71, 3) := by decide +kernel
theorem dX10_init_124 : decode cX10_init 124 = .ok (.putfield 72, 3) := by decide +kernel
theorem dX10_init_127 : decode cX10_init 127 = .ok (.aload_n 0, 1) := by decide +kernel
theorem dX10_init_128 : decode cX10_init 128 = .ok (.new 69, 3) := by decide +kernel
theorem dX10_init_131 : decode cX10_init 131 = .ok (.dup, 1) := by decide +kernel
theorem dX10_init_132 : decode cX10_init 132 = .ok (.invokespecial 71, 3) := by decide +kernel
theorem dX10_init_135 : decode cX10_init 135 = .ok (.putfield 76, 3) := by decide +kernel
theorem dX10_init_138 : decode cX10_init 138 = .ok (.aload_n 0, 1) := by decide +kernel
theorem dX10_init_139 : decode cX10_init 139 = .ok (.new 79, 3) := by decide +kernel
theorem dX10_init_142 : decode cX10_init 142 = .ok (.dup, 1) := by decide +kernel
theorem dX10_init_143 : decode cX10_init 143 = .ok (.invokespecial 81, 3) := by decide +kernel
theorem dX10_init_146 : decode cX10_init 146 = .ok (.putfield 82, 3) := by decide +kernel
theorem dX10_init_149 : decode cX10_init 149 = .ok (.iconst 0, 1) := by decide +kernel
theorem dX10_init_150 : decode cX10_init 150 = .ok (.istore_n 1, 1) := by decide +kernel
theorem dX10_init_151 : decode cX10_init 151 = .ok (.iload_n 1, 1) := by decide +kernel
theorem dX10_init_152 : decode cX10_init 152 = .ok (.iconst 4, 1) := by decide +kernel
theorem dX10_init_153 : decode cX10_init 153 = .ok (.if_icmp .ge 33, 3) := by decide +kernel
theorem dX10_init_156 : decode cX10_init 156 = .ok (.aload_n 0, 1) := by decide +kernel
theorem dX10_init_157 : decode cX10_init 157 = .ok (.getfield 18, 3) := by decide +kernel
theorem dX10_init_160 : decode cX10_init 160 = .ok (.iload_n 1, 1) := by decide +kernel
theorem dX10_init_161 : decode cX10_init 161 = .ok (.new 16, 3) := by decide +kernel
theorem dX10_init_164 : decode cX10_init 164 = .ok (.dup, 1) := by decide +kernel
theorem dX10_init_165 : decode cX10_init 165 = .ok (.iload_n 1, 1) := by decide +kernel
theorem dX10_init_166 : decode cX10_init 166 = .ok (.ifCond .ne 8, 3) := by decide +kernel
theorem dX10_init_169 : decode cX10_init 169 = .ok (.bipush 50, 2) := by decide +kernel
theorem dX10_init_171 : decode cX10_init 171 = .ok (.goto 5, 3) := by decide +kernel
theorem dX10_init_174 : decode cX10_init 174 = .ok (.bipush 30, 2) := by decide +kernel
theorem dX10_init_176 : decode cX10_init 176 = .ok (.invokespecial 86, 3) := by decide +kernel
theorem dX10_init_179 : decode cX10_init 179 = .ok (.aastore, 1) := by decide +kernel
theorem dX10_init_180 : decode cX10_init 180 = .ok (.iinc 1 1, 3) := by decide +kernel
theorem dX10_init_183 : decode cX10_init 183 = .ok (.goto (-32), 3) := by decide +kernel
theorem dX10_init_186 : decode cX10_init 186 = .ok (.return_, 1) := by decide +kernel
theorem dX10_type_0 : decode cX10_type 0 = .ok (.iload_n 1, 1) := by decide +kernel
theorem dX10_type_1 : decode cX10_type 1 = .ok (.invokestatic 89, 3) := by decide +kernel
theorem dX10_type_4 : decode cX10_type 4 = .ok (.ifCond .eq 14, 3) := by decide +kernel
theorem dX10_type_7 : decode cX10_type 7 = .ok (.iload_n 2, 1) := by decide +kernel
theorem dX10_type_8 : decode cX10_type 8 = .ok (.ifCond .lt 10, 3) := by decide +kernel
theorem dX10_type_11 : decode cX10_type 11 = .ok (.iload_n 2, 1) := by decide +kernel
theorem dX10_type_12 : decode cX10_type 12 = .ok (.sipush 255, 3) := by decide +kernel
theorem dX10_type_15 : decode cX10_type 15 = .ok (.if_icmp .le 6, 3) := by decide +kernel
theorem dX10_type_18 : decode cX10_type 18 = .ok (.bipush (-2), 2) := by decide +kernel
theorem dX10_type_20 : decode cX10_type 20 = .ok (.ireturn, 1) := by decide +kernel
theorem dX10_type_21 : decode cX10_type 21 = .ok (.aload_n 0, 1) := by decide +kernel
theorem dX10_type_22 : decode cX10_type 22 = .ok (.getfield 18, 3) := by decide +kernel
theorem dX10_type_25 : decode cX10_type 25 = .ok (.iload_n 1, 1) := by decide +kernel
theorem dX10_type_26 : decode cX10_type 26 = .ok (.aaload, 1) := by decide +kernel
theorem dX10_type_27 : decode cX10_type 27 = .ok (.invokevirtual 93, 3) := by decide +kernel
theorem dX10_type_30 : decode cX10_type 30 = .ok (.ifCond .eq 6, 3) := by decide +kernel
theorem dX10_type_33 : decode cX10_type 33 = .ok (.bipush (-4), 2) := by decide +kernel
theorem dX10_type_35 : decode cX10_type 35 = .ok (.ireturn, 1) := by decide +kernel
theorem dX10_type_36 : decode cX10_type 36 = .ok (.aload_n 0, 1) := by decide +kernel
theorem dX10_type_37 : decode cX10_type 37 = .ok (.getfield 18, 3) := by decide +kernel
theorem dX10_type_40 : decode cX10_type 40 = .ok (.iload_n 1, 1) := by decide +kernel
theorem dX10_type_41 : decode cX10_type 41 = .ok (.aaload, 1) := by decide +kernel
theorem dX10_type_42 : decode cX10_type 42 = .ok (.iload_n 2, 1) := by decide +kernel
theorem dX10_type_43 : decode cX10_type 43 = .ok (.invokevirtual 97, 3) := by decide +kernel
theorem dX10_type_46 : decode cX10_type 46 = .ok (.aload_n 0, 1) := by decide +kernel
theorem dX10_type_47 : decode cX10_type 47 = .ok (.iload_n 1, 1) := by decide +kernel
theorem dX10_type_48 : decode cX10_type 48 = .ok (.invokevirtual 100, 3) := by decide +kernel
theorem dX10_type_51 : decode cX10_type 51 = .ok (.aload_n 0, 1) := by decide +kernel
theorem dX10_type_52 : decode cX10_type 52 = .ok (.getfield 18, 3) := by decide +kernel
theorem dX10_type_55 : decode cX10_type 55 = .ok (.iload_n 1, 1) := by decide +kernel
theorem dX10_type_56 : decode cX10_type 56 = .ok (.aaload, 1) := by decide +kernel
theorem dX10_type_57 : decode cX10_type 57 = .ok (.invokevirtual 103, 3) := by decide +kernel
theorem dX10_type_60 : decode cX10_type 60 = .ok (.ireturn, 1) := by decide +kernel
theorem dX10_wipe_0 : decode cX10_wipe 0 = .ok (.iload_n 1, 1) := by decide +kernel
theorem dX10_wipe_1 : decode cX10_wipe 1 = .ok (.invokestatic 89, 3) := by decide +kernel
theorem dX10_wipe_4 : decode cX10_wipe 4 = .ok (.ifCond .ne 6, 3) := by decide +kernel
theorem dX10_wipe_7 : decode cX10_wipe 7 = .ok (.bipush (-2), 2) := by decide +kernel
theorem dX10_wipe_9 : decode cX10_wipe 9 = .ok (.ireturn, 1) := by decide +kernel
theorem dX10_wipe_10 : decode cX10_wipe 10 = .ok (.aload_n 0, 1) := by decide +kernel
theorem dX10_wipe_11 : decode cX10_wipe 11 = .ok (.getfield 18, 3) := by decide +kernel
theorem dX10_wipe_14 : decode cX10_wipe 14 = .ok (.iload_n 1, 1) := by decide +kernel
theorem dX10_wipe_15 : decode cX10_wipe 15 = .ok (.aaload, 1) := by decide +kernel
theorem dX10_wipe_16 : decode cX10_wipe 16 = .ok (.invokevirtual 103, 3) := by decide +kernel
theorem dX10_wipe_19 : decode cX10_wipe 19 = .ok (.istore_n 2, 1) := by decide +kernel
theorem dX10_wipe_20 : decode cX10_wipe 20 = .ok (.aload_n 0, 1) := by decide +kernel
theorem dX10_wipe_21 : decode cX10_wipe 21 = .ok (.getfield 18, 3) := by decide +kernel
theorem dX10_wipe_24 : decode cX10_wipe 24 = .ok (.iload_n 1, 1) := by decide +kernel
theorem dX10_wipe_25 : decode cX10_wipe 25 = .ok (.aaload, 1) := by decide +kernel
theorem dX10_wipe_26 : decode cX10_wipe 26 = .ok (.invokevirtual 107, 3) := by decide +kernel
theorem dX10_wipe_29 : decode cX10_wipe 29 = .ok (.aload_n 0, 1) := by decide +kernel
theorem dX10_wipe_30 : decode cX10_wipe 30 = .ok (.iload_n 1, 1) := by decide +kernel
theorem dX10_wipe_31 : decode cX10_wipe 31 = .ok (.invokevirtual 100, 3) := by decide +kernel
theorem dX10_wipe_34 : decode cX10_wipe 34 = .ok (.iload_n 2, 1) := by decide +kernel
theorem dX10_wipe_35 : decode cX10_wipe 35 = .ok (.ireturn, 1) := by decide +kernel
theorem dX10_fault_0 : decode cX10_fault 0 = .ok (.iload_n 1, 1) := by decide +kernel
theorem dX10_fault_1 : decode cX10_fault 1 = .ok (.invokestatic 89, 3) := by decide +kernel
theorem dX10_fault_4 : decode cX10_fault 4 = .ok (.ifCond .ne 6, 3) := by decide +kernel
theorem dX10_fault_7 : decode cX10_fault 7 = .ok (.bipush (-2), 2) := by decide +kernel
theorem dX10_fault_9 : decode cX10_fault 9 = .ok (.ireturn, 1) := by decide +kernel
theorem dX10_fault_10 : decode cX10_fault 10 = .ok (.iload_n 1, 1) := by decide +kernel
theorem dX10_fault_11 : decode cX10_fault 11 = .ok (.ifCond .ne 13, 3) := by decide +kernel
theorem dX10_fault_14 : decode cX10_fault 14 = .ok (.aload_n 0, 1) := by decide +kernel
theorem dX10_fault_15 : decode cX10_fault 15 = .ok (.getfield 12, 3) := by decide +kernel
theorem dX10_fault_18 : decode cX10_fault 18 = .ok (.invokevirtual 110, 3) := by decide +kernel
theorem dX10_fault_21 : decode cX10_fault 21 = .ok (.goto 13, 3) := by decide +kernel
theorem dX10_fault_24 : decode cX10_fault 24 = .ok (.aload_n 0, 1) := by decide +kernel
theorem dX10_fault_25 : decode cX10_fault 25 = .ok (.aload_n 0, 1) := by decide +kernel
theorem dX10_fault_26 : decode cX10_fault 26 = .ok (.getfield 18, 3) := by decide +kernel
theorem dX10_fault_29 : decode cX10_fault 29 = .ok (.iload_n 1, 1) := by decide +kernel
theorem dX10_fault_30 : decode cX10_fault 30 = .ok (.aaload, 1) := by decide +kernel
theorem dX10_fault_31 : decode cX10_fault 31 = .ok (.invokevirtual 113, 3) := by decide +kernel
theorem dX10_fault_34 : decode cX10_fault 34 = .ok (.ireturn, 1) := by decide +kernel
theorem dX10_gate_0 : decode cX10_gate 0 = .ok (.aload_n 0, 1) := by decide +kernel
theorem dX10_gate_1 : decode cX10_gate 1 = .ok (.getfield 12, 3) := by decide +kernel
theorem dX10_gate_4 : decode cX10_gate 4 = .ok (.iload_n 1, 1) := by decide +kernel
theorem dX10_gate_5 : decode cX10_gate 5 = .ok (.invokevirtual 117, 3) := by decide +kernel
theorem dX10_gate_8 : decode cX10_gate 8 = .ok (.ifCond .eq 12, 3) := by decide +kernel
theorem dX10_gate_11 : decode cX10_gate 11 = .ok (.iload_n 2, 1) := by decide +kernel
theorem dX10_gate_12 : decode cX10_gate 12 = .ok (.ifCond .lt 8, 3) := by decide +kernel
theorem dX10_gate_15 : decode cX10_gate 15 = .ok (.iload_n 2, 1) := by decide +kernel
theorem dX10_gate_16 : decode cX10_gate 16 = .ok (.iconst 3, 1) := by decide +kernel
theorem dX10_gate_17 : decode cX10_gate 17 = .ok (.if_icmp .le 6, 3) := by decide +kernel
theorem dX10_gate_20 : decode cX10_gate 20 = .ok (.bipush (-2), 2) := by decide +kernel
theorem dX10_gate_22 : decode cX10_gate 22 = .ok (.ireturn, 1) := by decide +kernel
theorem dX10_gate_23 : decode cX10_gate 23 = .ok (.iload_n 2, 1) := by decide +kernel
theorem dX10_gate_24 : decode cX10_gate 24 = .ok (.tableswitch 69 0 2 #[28, 39, 50], 28) := by decide +kernel
theorem dX10_gate_52 : decode cX10_gate 52 = .ok (.aload_n 0, 1) := by decide +kernel
theorem dX10_gate_53 : decode cX10_gate 53 = .ok (.getfield 12, 3) := by decide +kernel
theorem dX10_gate_56 : decode cX10_gate 56 = .ok (.iconst 2, 1) := by decide +kernel
theorem dX10_gate_57 : decode cX10_gate 57 = .ok (.iload_n 1, 1) := by decide +kernel
theorem dX10_gate_58 : decode cX10_gate 58 = .ok (.imul, 1) := by decide +kernel
theorem dX10_gate_59 : decode cX10_gate 59 = .ok (.invokevirtual 120, 3) := by decide +kernel
theorem dX10_gate_62 : decode cX10_gate 62 = .ok (.ireturn, 1) := by decide +kernel
theorem dX10_gate_63 : decode cX10_gate 63 = .ok (.aload_n 0, 1) := by decide +kernel
theorem dX10_gate_64 : decode cX10_gate 64 = .ok (.getfield 12, 3) := by decide +kernel
theorem dX10_gate_67 : decode cX10_gate 67 = .ok (.iconst 2, 1) := by decide +kernel
theorem dX10_gate_68 : decode cX10_gate 68 = .ok (.iload_n 1, 1) := by decide +kernel
theorem dX10_gate_69 : decode cX10_gate 69 = .ok (.imul, 1) := by decide +kernel
theorem dX10_gate_70 : decode cX10_gate 70 = .ok (.invokevirtual 124, 3) := by decide +kernel
theorem dX10_gate_73 : decode cX10_gate 73 = .ok (.ireturn, 1) := by decide +kernel
theorem dX10_gate_74 : decode cX10_gate 74 = .ok (.aload_n 0, 1) := by decide +kernel
theorem dX10_gate_75 : decode cX10_gate 75 = .ok (.getfield 12, 3) := by decide +kernel
theorem dX10_gate_78 : decode cX10_gate 78 = .ok (.iconst 2, 1) := by decide +kernel
theorem dX10_gate_79 : decode cX10_gate 79 = .ok (.iload_n 1, 1) := by decide +kernel
theorem dX10_gate_80 : decode cX10_gate 80 = .ok (.imul, 1) := by decide +kernel
theorem dX10_gate_81 : decode cX10_gate 81 = .ok (.invokevirtual 127, 3) := by decide +kernel
theorem dX10_gate_84 : decode cX10_gate 84 = .ok (.ifCond .eq 7, 3) := by decide +kernel
theorem dX10_gate_87 : decode cX10_gate 87 = .ok (.iconst 1, 1) := by decide +kernel
theorem dX10_gate_88 : decode cX10_gate 88 = .ok (.goto 4, 3) := by decide +kernel
theorem dX10_gate_91 : decode cX10_gate 91 = .ok (.iconst 0, 1) := by decide +kernel
theorem dX10_gate_92 : decode cX10_gate 92 = .ok (.ireturn, 1) := by decide +kernel
theorem dX10_gate_93 : decode cX10_gate 93 = .ok (.aload_n 0, 1) := by decide +kernel
theorem dX10_gate_94 : decode cX10_gate 94 = .ok (.getfield 12, 3) := by decide +kernel
theorem dX10_gate_97 : decode cX10_gate 97 = .ok (.iconst 2, 1) := by decide +kernel
theorem dX10_gate_98 : decode cX10_gate 98 = .ok (.iload_n 1, 1) := by decide +kernel
theorem dX10_gate_99 : decode cX10_gate 99 = .ok (.imul, 1) := by decide +kernel
theorem dX10_gate_100 : decode cX10_gate 100 = .ok (.invokevirtual 130, 3) := by decide +kernel
theorem dX10_gate_103 : decode cX10_gate 103 = .ok (.ifCond .eq 7, 3) := by decide +kernel
theorem dX10_gate_106 : decode cX10_gate 106 = .ok (.iconst 0, 1) := by decide +kernel
theorem dX10_gate_107 : decode cX10_gate 107 = .ok (.goto 4, 3) := by decide +kernel
theorem dX10_gate_110 : decode cX10_gate 110 = .ok (.iconst 1, 1) := by decide +kernel
theorem dX10_gate_111 : decode cX10_gate 111 = .ok (.ireturn, 1) := by decide +kernel
theorem dX10_room_0 : decode cX10_room 0 = .ok (.aload_n 0, 1) := by decide +kernel
theorem dX10_room_1 : decode cX10_room 1 = .ok (.getfield 12, 3) := by decide +kernel
theorem dX10_room_4 : decode cX10_room 4 = .ok (.invokevirtual 133, 3) := by decide +kernel
theorem dX10_room_7 : decode cX10_room 7 = .ok (.ireturn, 1) := by decide +kernel
theorem dX10_shut_0 : decode cX10_shut 0 = .ok (.iload_n 1, 1) := by decide +kernel
theorem dX10_shut_1 : decode cX10_shut 1 = .ok (.ifCond .lt 10, 3) := by decide +kernel
theorem dX10_shut_4 : decode cX10_shut 4 = .ok (.iload_n 1, 1) := by decide +kernel
theorem dX10_shut_5 : decode cX10_shut 5 = .ok (.sipush 511, 3) := by decide +kernel
theorem dX10_shut_8 : decode cX10_shut 8 = .ok (.if_icmp .le 6, 3) := by decide +kernel
theorem dX10_shut_11 : decode cX10_shut 11 = .ok (.bipush (-2), 2) := by decide +kernel
theorem dX10_shut_13 : decode cX10_shut 13 = .ok (.ireturn, 1) := by decide +kernel
theorem dX10_shut_14 : decode cX10_shut 14 = .ok (.aload_n 0, 1) := by decide +kernel
theorem dX10_shut_15 : decode cX10_shut 15 = .ok (.getfield 12, 3) := by decide +kernel
theorem dX10_shut_18 : decode cX10_shut 18 = .ok (.iload_n 1, 1) := by decide +kernel
theorem dX10_shut_19 : decode cX10_shut 19 = .ok (.invokevirtual 136, 3) := by decide +kernel
theorem dX10_shut_22 : decode cX10_shut 22 = .ok (.ireturn, 1) := by decide +kernel
theorem dX10_paper_0 : decode cX10_paper 0 = .ok (.iload_n 1, 1) := by decide +kernel
theorem dX10_paper_1 : decode cX10_paper 1 = .ok (.invokestatic 139, 3) := by decide +kernel
theorem dX10_paper_4 : decode cX10_paper 4 = .ok (.ifCond .eq 8, 3) := by decide +kernel
theorem dX10_paper_7 : decode cX10_paper 7 = .ok (.iload_n 2, 1) := by decide +kernel
theorem dX10_paper_8 : decode cX10_paper 8 = .ok (.iconst (-1), 1) := by decide +kernel
theorem dX10_paper_9 : decode cX10_paper 9 = .ok (.if_icmp .ge 6, 3) := by decide +kernel
theorem dX10_paper_12 : decode cX10_paper 12 = .ok (.bipush (-2), 2) := by decide +kernel
theorem dX10_paper_14 : decode cX10_paper 14 = .ok (.ireturn, 1) := by decide +kernel
theorem dX10_paper_15 : decode cX10_paper 15 = .ok (.aload_n 0, 1) := by decide +kernel
theorem dX10_paper_16 : decode cX10_paper 16 = .ok (.iload_n 1, 1) := by decide +kernel
theorem dX10_paper_17 : decode cX10_paper 17 = .ok (.aload_n 0, 1) := by decide +kernel
theorem dX10_paper_18 : decode cX10_paper 18 = .ok (.getfield 25, 3) := by decide +kernel
theorem dX10_paper_21 : decode cX10_paper 21 = .ok (.invokevirtual 142, 3) := by decide +kernel
theorem dX10_paper_24 : decode cX10_paper 24 = .ok (.iload_n 2, 1) := by decide +kernel
theorem dX10_paper_25 : decode cX10_paper 25 = .ok (.iconst (-1), 1) := by decide +kernel
theorem dX10_paper_26 : decode cX10_paper 26 = .ok (.if_icmp .ne 13, 3) := by decide +kernel
theorem dX10_paper_29 : decode cX10_paper 29 = .ok (.aload_n 0, 1) := by decide +kernel
theorem dX10_paper_30 : decode cX10_paper 30 = .ok (.getfield 25, 3) := by decide +kernel
theorem dX10_paper_33 : decode cX10_paper 33 = .ok (.invokevirtual 146, 3) := by decide +kernel
theorem dX10_paper_36 : decode cX10_paper 36 = .ok (.goto 14, 3) := by decide +kernel
theorem dX10_paper_39 : decode cX10_paper 39 = .ok (.aload_n 0, 1) := by decide +kernel
theorem dX10_paper_40 : decode cX10_paper 40 = .ok (.getfield 25, 3) := by decide +kernel
theorem dX10_paper_43 : decode cX10_paper 43 = .ok (.iload_n 2, 1) := by decide +kernel
theorem dX10_paper_44 : decode cX10_paper 44 = .ok (.invokevirtual 147, 3) := by decide +kernel
theorem dX10_paper_47 : decode cX10_paper 47 = .ok (.invokestatic 150, 3) := by decide +kernel
theorem dX10_paper_50 : decode cX10_paper 50 = .ok (.ireturn, 1) := by decide +kernel
theorem dX10_judged_0 : decode cX10_judged 0 = .ok (.iload_n 1, 1) := by decide +kernel
theorem dX10_judged_1 : decode cX10_judged 1 = .ok (.invokestatic 139, 3) := by decide +kernel
theorem dX10_judged_4 : decode cX10_judged 4 = .ok (.ifCond .eq 28, 3) := by decide +kernel
theorem dX10_judged_7 : decode cX10_judged 7 = .ok (.iload_n 2, 1) := by decide +kernel
theorem dX10_judged_8 : decode cX10_judged 8 = .ok (.invokestatic 153, 3) := by decide +kernel
theorem dX10_judged_11 : decode cX10_judged 11 = .ok (.ifCond .eq 21, 3) := by decide +kernel
theorem dX10_judged_14 : decode cX10_judged 14 = .ok (.iload_n 3, 1) := by decide +kernel
theorem dX10_judged_15 : decode cX10_judged 15 = .ok (.invokestatic 156, 3) := by decide +kernel
theorem dX10_judged_18 : decode cX10_judged 18 = .ok (.ifCond .eq 14, 3) := by decide +kernel
theorem dX10_judged_21 : decode cX10_judged 21 = .ok (.iload 4, 2) := by decide +kernel
theorem dX10_judged_23 : decode cX10_judged 23 = .ok (.ifCond .lt 9, 3) := by decide +kernel
theorem dX10_judged_26 : decode cX10_judged 26 = .ok (.iload 4, 2) := by decide +kernel
theorem dX10_judged_28 : decode cX10_judged 28 = .ok (.iconst 4, 1) := by decide +kernel
theorem dX10_judged_29 : decode cX10_judged 29 = .ok (.if_icmp .le 6, 3) := by decide +kernel
theorem dX10_judged_32 : decode cX10_judged 32 = .ok (.bipush (-2), 2) := by decide +kernel
theorem dX10_judged_34 : decode cX10_judged 34 = .ok (.ireturn, 1) := by decide +kernel
theorem dX10_judged_35 : decode cX10_judged 35 = .ok (.aload_n 0, 1) := by decide +kernel
theorem dX10_judged_36 : decode cX10_judged 36 = .ok (.iload_n 1, 1) := by decide +kernel
theorem dX10_judged_37 : decode cX10_judged 37 = .ok (.iload_n 2, 1) := by decide +kernel
theorem dX10_judged_38 : decode cX10_judged 38 = .ok (.iload_n 3, 1) := by decide +kernel
theorem dX10_judged_39 : decode cX10_judged 39 = .ok (.invokevirtual 159, 3) := by decide +kernel
theorem dX10_judged_42 : decode cX10_judged 42 = .ok (.aload_n 0, 1) := by decide +kernel
theorem dX10_judged_43 : decode cX10_judged 43 = .ok (.getfield 37, 3) := by decide +kernel
theorem dX10_judged_46 : decode cX10_judged 46 = .ok (.iload 4, 2) := by decide +kernel
theorem dX10_judged_48 : decode cX10_judged 48 = .ok (.invokevirtual 163, 3) := by decide +kernel
theorem dX10_judged_51 : decode cX10_judged 51 = .ok (.ireturn, 1) := by decide +kernel
theorem dX10_same_0 : decode cX10_same 0 = .ok (.iload_n 1, 1) := by decide +kernel
theorem dX10_same_1 : decode cX10_same 1 = .ok (.invokestatic 139, 3) := by decide +kernel
theorem dX10_same_4 : decode cX10_same 4 = .ok (.ifCond .eq 10, 3) := by decide +kernel
theorem dX10_same_7 : decode cX10_same 7 = .ok (.iload_n 2, 1) := by decide +kernel
theorem dX10_same_8 : decode cX10_same 8 = .ok (.invokestatic 139, 3) := by decide +kernel
theorem dX10_same_11 : decode cX10_same 11 = .ok (.ifCond .ne 6, 3) := by decide +kernel
theorem dX10_same_14 : decode cX10_same 14 = .ok (.bipush (-2), 2) := by decide +kernel
theorem dX10_same_16 : decode cX10_same 16 = .ok (.ireturn, 1) := by decide +kernel
theorem dX10_same_17 : decode cX10_same 17 = .ok (.aload_n 0, 1) := by decide +kernel
theorem dX10_same_18 : decode cX10_same 18 = .ok (.iload_n 1, 1) := by decide +kernel
theorem dX10_same_19 : decode cX10_same 19 = .ok (.aload_n 0, 1) := by decide +kernel
theorem dX10_same_20 : decode cX10_same 20 = .ok (.getfield 25, 3) := by decide +kernel
theorem dX10_same_23 : decode cX10_same 23 = .ok (.invokevirtual 142, 3) := by decide +kernel
theorem dX10_same_26 : decode cX10_same 26 = .ok (.aload_n 0, 1) := by decide +kernel
theorem dX10_same_27 : decode cX10_same 27 = .ok (.iload_n 2, 1) := by decide +kernel
theorem dX10_same_28 : decode cX10_same 28 = .ok (.aload_n 0, 1) := by decide +kernel
theorem dX10_same_29 : decode cX10_same 29 = .ok (.getfield 29, 3) := by decide +kernel
theorem dX10_same_32 : decode cX10_same 32 = .ok (.invokevirtual 142, 3) := by decide +kernel
theorem dX10_same_35 : decode cX10_same 35 = .ok (.aload_n 0, 1) := by decide +kernel
theorem dX10_same_36 : decode cX10_same 36 = .ok (.getfield 25, 3) := by decide +kernel
theorem dX10_same_39 : decode cX10_same 39 = .ok (.aload_n 0, 1) := by decide +kernel
theorem dX10_same_40 : decode cX10_same 40 = .ok (.getfield 29, 3) := by decide +kernel
theorem dX10_same_43 : decode cX10_same 43 = .ok (.invokevirtual 166, 3) := by decide +kernel
theorem dX10_same_46 : decode cX10_same 46 = .ok (.istore_n 3, 1) := by decide +kernel
theorem dX10_same_47 : decode cX10_same 47 = .ok (.iload_n 3, 1) := by decide +kernel
theorem dX10_same_48 : decode cX10_same 48 = .ok (.aload_n 0, 1) := by decide +kernel
theorem dX10_same_49 : decode cX10_same 49 = .ok (.getfield 25, 3) := by decide +kernel
theorem dX10_same_52 : decode cX10_same 52 = .ok (.invokevirtual 146, 3) := by decide +kernel
theorem dX10_same_55 : decode cX10_same 55 = .ok (.if_icmp .ne 18, 3) := by decide +kernel
theorem dX10_same_58 : decode cX10_same 58 = .ok (.iload_n 3, 1) := by decide +kernel
theorem dX10_same_59 : decode cX10_same 59 = .ok (.aload_n 0, 1) := by decide +kernel
theorem dX10_same_60 : decode cX10_same 60 = .ok (.getfield 29, 3) := by decide +kernel
theorem dX10_same_63 : decode cX10_same 63 = .ok (.invokevirtual 146, 3) := by decide +kernel
theorem dX10_same_66 : decode cX10_same 66 = .ok (.if_icmp .ne 7, 3) := by decide +kernel
theorem dX10_same_69 : decode cX10_same 69 = .ok (.iconst 1, 1) := by decide +kernel
theorem dX10_same_70 : decode cX10_same 70 = .ok (.goto 4, 3) := by decide +kernel
theorem dX10_same_73 : decode cX10_same 73 = .ok (.iconst 0, 1) := by decide +kernel
theorem dX10_same_74 : decode cX10_same 74 = .ok (.ireturn, 1) := by decide +kernel
theorem dX10_shortest_0 : decode cX10_shortest 0 = .ok (.iload_n 1, 1) := by decide +kernel
theorem dX10_shortest_1 : decode cX10_shortest 1 = .ok (.iload_n 2, 1) := by decide +kernel
theorem dX10_shortest_2 : decode cX10_shortest 2 = .ok (.iload_n 3, 1) := by decide +kernel
theorem dX10_shortest_3 : decode cX10_shortest 3 = .ok (.iload 4, 2) := by decide +kernel
theorem dX10_shortest_5 : decode cX10_shortest 5 = .ok (.invokestatic 170, 3) := by decide +kernel
theorem dX10_shortest_8 : decode cX10_shortest 8 = .ok (.ifCond .eq 14, 3) := by decide +kernel
theorem dX10_shortest_11 : decode cX10_shortest 11 = .ok (.iload 5, 2) := by decide +kernel
theorem dX10_shortest_13 : decode cX10_shortest 13 = .ok (.ifCond .lt 9, 3) := by decide +kernel
theorem dX10_shortest_16 : decode cX10_shortest 16 = .ok (.iload 5, 2) := by decide +kernel
theorem dX10_shortest_18 : decode cX10_shortest 18 = .ok (.iconst 1, 1) := by decide +kernel
theorem dX10_shortest_19 : decode cX10_shortest 19 = .ok (.if_icmp .le 9, 3) := by decide +kernel
theorem dX10_shortest_22 : decode cX10_shortest 22 = .ok (.bipush (-2), 2) := by decide +kernel
theorem dX10_shortest_24 : decode cX10_shortest 24 = .ok (.invokestatic 174, 3) := by decide +kernel
theorem dX10_shortest_27 : decode cX10_shortest 27 = .ok (.lreturn, 1) := by decide +kernel
theorem dX10_shortest_28 : decode cX10_shortest 28 = .ok (.aload_n 0, 1) := by decide +kernel
theorem dX10_shortest_29 : decode cX10_shortest 29 = .ok (.iload_n 1, 1) := by decide +kernel
theorem dX10_shortest_30 : decode cX10_shortest 30 = .ok (.iload_n 2, 1) := by decide +kernel
theorem dX10_shortest_31 : decode cX10_shortest 31 = .ok (.iload_n 3, 1) := by decide +kernel
theorem dX10_shortest_32 : decode cX10_shortest 32 = .ok (.iload 4, 2) := by decide +kernel
theorem dX10_shortest_34 : decode cX10_shortest 34 = .ok (.invokevirtual 178, 3) := by decide +kernel
theorem dX10_shortest_37 : decode cX10_shortest 37 = .ok (.istore 6, 2) := by decide +kernel
theorem dX10_shortest_39 : decode cX10_shortest 39 = .ok (.iload 5, 2) := by decide +kernel
theorem dX10_shortest_41 : decode cX10_shortest 41 = .ok (.ifCond .ne 7, 3) := by decide +kernel
theorem dX10_shortest_44 : decode cX10_shortest 44 = .ok (.iload 6, 2) := by decide +kernel
theorem dX10_shortest_46 : decode cX10_shortest 46 = .ok (.i2l, 1) := by decide +kernel
theorem dX10_shortest_47 : decode cX10_shortest 47 = .ok (.lreturn, 1) := by decide +kernel
theorem dX10_shortest_48 : decode cX10_shortest 48 = .ok (.iload 6, 2) := by decide +kernel
theorem dX10_shortest_50 : decode cX10_shortest 50 = .ok (.iconst (-1), 1) := by decide +kernel
theorem dX10_shortest_51 : decode cX10_shortest 51 = .ok (.if_icmp .ne 7, 3) := by decide +kernel
theorem dX10_shortest_54 : decode cX10_shortest 54 = .ok (.lconst 0, 1) := by decide +kernel
theorem dX10_shortest_55 : decode cX10_shortest 55 = .ok (.goto 12, 3) := by decide +kernel
theorem dX10_shortest_58 : decode cX10_shortest 58 = .ok (.aload_n 0, 1) := by decide +kernel
theorem dX10_shortest_59 : decode cX10_shortest 59 = .ok (.getfield 44, 3) := by decide +kernel
theorem dX10_shortest_62 : decode cX10_shortest 62 = .ok (.iload_n 1, 1) := by decide +kernel
theorem dX10_shortest_63 : decode cX10_shortest 63 = .ok (.iload_n 3, 1) := by decide +kernel
theorem dX10_shortest_64 : decode cX10_shortest 64 = .ok (.invokevirtual 182, 3) := by decide +kernel
theorem dX10_shortest_67 : decode cX10_shortest 67 = .ok (.lreturn, 1) := by decide +kernel
theorem dX10_letter_0 : decode cX10_letter 0 = .ok (.iload_n 1, 1) := by decide +kernel
theorem dX10_letter_1 : decode cX10_letter 1 = .ok (.iload_n 2, 1) := by decide +kernel
theorem dX10_letter_2 : decode cX10_letter 2 = .ok (.iload_n 3, 1) := by decide +kernel
theorem dX10_letter_3 : decode cX10_letter 3 = .ok (.iload 4, 2) := by decide +kernel
theorem dX10_letter_5 : decode cX10_letter 5 = .ok (.invokestatic 170, 3) := by decide +kernel
theorem dX10_letter_8 : decode cX10_letter 8 = .ok (.ifCond .eq 8, 3) := by decide +kernel
theorem dX10_letter_11 : decode cX10_letter 11 = .ok (.iload 5, 2) := by decide +kernel
theorem dX10_letter_13 : decode cX10_letter 13 = .ok (.ifCond .ge 6, 3) := by decide +kernel
theorem dX10_letter_16 : decode cX10_letter 16 = .ok (.bipush (-2), 2) := by decide +kernel
theorem dX10_letter_18 : decode cX10_letter 18 = .ok (.ireturn, 1) := by decide +kernel
theorem dX10_letter_19 : decode cX10_letter 19 = .ok (.aload_n 0, 1) := by decide +kernel
theorem dX10_letter_20 : decode cX10_letter 20 = .ok (.iload_n 1, 1) := by decide +kernel
theorem dX10_letter_21 : decode cX10_letter 21 = .ok (.iload_n 2, 1) := by decide +kernel
theorem dX10_letter_22 : decode cX10_letter 22 = .ok (.iload_n 3, 1) := by decide +kernel
theorem dX10_letter_23 : decode cX10_letter 23 = .ok (.iload 4, 2) := by decide +kernel
theorem dX10_letter_25 : decode cX10_letter 25 = .ok (.invokevirtual 178, 3) := by decide +kernel
theorem dX10_letter_28 : decode cX10_letter 28 = .ok (.istore 6, 2) := by decide +kernel
theorem dX10_letter_30 : decode cX10_letter 30 = .ok (.iload 5, 2) := by decide +kernel
theorem dX10_letter_32 : decode cX10_letter 32 = .ok (.iload 6, 2) := by decide +kernel
theorem dX10_letter_34 : decode cX10_letter 34 = .ok (.if_icmp .ge 20, 3) := by decide +kernel
theorem dX10_letter_37 : decode cX10_letter 37 = .ok (.aload_n 0, 1) := by decide +kernel
theorem dX10_letter_38 : decode cX10_letter 38 = .ok (.getfield 44, 3) := by decide +kernel
theorem dX10_letter_41 : decode cX10_letter 41 = .ok (.iload_n 1, 1) := by decide +kernel
theorem dX10_letter_42 : decode cX10_letter 42 = .ok (.iload_n 3, 1) := by decide +kernel
theorem dX10_letter_43 : decode cX10_letter 43 = .ok (.iload 5, 2) := by decide +kernel
theorem dX10_letter_45 : decode cX10_letter 45 = .ok (.invokevirtual 186, 3) := by decide +kernel
theorem dX10_letter_48 : decode cX10_letter 48 = .ok (.invokestatic 150, 3) := by decide +kernel
theorem dX10_letter_51 : decode cX10_letter 51 = .ok (.goto 4, 3) := by decide +kernel
theorem dX10_letter_54 : decode cX10_letter 54 = .ok (.iconst (-1), 1) := by decide +kernel
theorem dX10_letter_55 : decode cX10_letter 55 = .ok (.ireturn, 1) := by decide +kernel
theorem dX10_errands_0 : decode cX10_errands 0 = .ok (.iload_n 1, 1) := by decide +kernel
theorem dX10_errands_1 : decode cX10_errands 1 = .ok (.invokestatic 153, 3) := by decide +kernel
theorem dX10_errands_4 : decode cX10_errands 4 = .ok (.ifCond .eq 23, 3) := by decide +kernel
theorem dX10_errands_7 : decode cX10_errands 7 = .ok (.iload_n 2, 1) := by decide +kernel
theorem dX10_errands_8 : decode cX10_errands 8 = .ok (.ifCond .lt 19, 3) := by decide +kernel
theorem dX10_errands_11 : decode cX10_errands 11 = .ok (.iload_n 2, 1) := by decide +kernel
theorem dX10_errands_12 : decode cX10_errands 12 = .ok (.sipush 255, 3) := by decide +kernel
theorem dX10_errands_15 : decode cX10_errands 15 = .ok (.if_icmp .gt 12, 3) := by decide +kernel
theorem dX10_errands_18 : decode cX10_errands 18 = .ok (.iload_n 3, 1) := by decide +kernel
theorem dX10_errands_19 : decode cX10_errands 19 = .ok (.ifCond .lt 8, 3) := by decide +kernel
theorem dX10_errands_22 : decode cX10_errands 22 = .ok (.iload_n 3, 1) := by decide +kernel
theorem dX10_errands_23 : decode cX10_errands 23 = .ok (.iconst 1, 1) := by decide +kernel
theorem dX10_errands_24 : decode cX10_errands 24 = .ok (.if_icmp .le 6, 3) := by decide +kernel
theorem dX10_errands_27 : decode cX10_errands 27 = .ok (.bipush (-2), 2) := by decide +kernel
theorem dX10_errands_29 : decode cX10_errands 29 = .ok (.ireturn, 1) := by decide +kernel
theorem dX10_errands_30 : decode cX10_errands 30 = .ok (.aload_n 0, 1) := by decide +kernel
theorem dX10_errands_31 : decode cX10_errands 31 = .ok (.getfield 51, 3) := by decide +kernel
theorem dX10_errands_34 : decode cX10_errands 34 = .ok (.iload_n 1, 1) := by decide +kernel
theorem dX10_errands_35 : decode cX10_errands 35 = .ok (.iload_n 2, 1) := by decide +kernel
theorem dX10_errands_36 : decode cX10_errands 36 = .ok (.invokevirtual 190, 3) := by decide +kernel
theorem dX10_errands_39 : decode cX10_errands 39 = .ok (.istore 4, 2) := by decide +kernel
theorem dX10_errands_41 : decode cX10_errands 41 = .ok (.iload_n 3, 1) := by decide +kernel
theorem dX10_errands_42 : decode cX10_errands 42 = .ok (.ifCond .eq 9, 3) := by decide +kernel
theorem dX10_errands_45 : decode cX10_errands 45 = .ok (.iload 4, 2) := by decide +kernel
theorem dX10_errands_47 : decode cX10_errands 47 = .ok (.iconst (-1), 1) := by decide +kernel
theorem dX10_errands_48 : decode cX10_errands 48 = .ok (.if_icmp .ne 8, 3) := by decide +kernel
theorem dX10_errands_51 : decode cX10_errands 51 = .ok (.iload 4, 2) := by decide +kernel
theorem dX10_errands_53 : decode cX10_errands 53 = .ok (.goto 13, 3) := by decide +kernel
theorem dX10_errands_56 : decode cX10_errands 56 = .ok (.iconst 2, 1) := by decide +kernel
theorem dX10_errands_57 : decode cX10_errands 57 = .ok (.aload_n 0, 1) := by decide +kernel
theorem dX10_errands_58 : decode cX10_errands 58 = .ok (.getfield 51, 3) := by decide +kernel
theorem dX10_errands_61 : decode cX10_errands 61 = .ok (.iload_n 2, 1) := by decide +kernel
theorem dX10_errands_62 : decode cX10_errands 62 = .ok (.invokevirtual 194, 3) := by decide +kernel
theorem dX10_errands_65 : decode cX10_errands 65 = .ok (.imul, 1) := by decide +kernel
theorem dX10_errands_66 : decode cX10_errands 66 = .ok (.ireturn, 1) := by decide +kernel
theorem dX10_clean_0 : decode cX10_clean 0 = .ok (.iload_n 1, 1) := by decide +kernel
theorem dX10_clean_1 : decode cX10_clean 1 = .ok (.invokestatic 153, 3) := by decide +kernel
theorem dX10_clean_4 : decode cX10_clean 4 = .ok (.ifCond .eq 14, 3) := by decide +kernel
theorem dX10_clean_7 : decode cX10_clean 7 = .ok (.aload_n 0, 1) := by decide +kernel
theorem dX10_clean_8 : decode cX10_clean 8 = .ok (.getfield 51, 3) := by decide +kernel
theorem dX10_clean_11 : decode cX10_clean 11 = .ok (.iload_n 1, 1) := by decide +kernel
theorem dX10_clean_12 : decode cX10_clean 12 = .ok (.invokevirtual 197, 3) := by decide +kernel
theorem dX10_clean_15 : decode cX10_clean 15 = .ok (.goto 5, 3) := by decide +kernel
theorem dX10_clean_18 : decode cX10_clean 18 = .ok (.bipush (-2), 2) := by decide +kernel
theorem dX10_clean_20 : decode cX10_clean 20 = .ok (.ireturn, 1) := by decide +kernel
theorem dX10_found_0 : decode cX10_found 0 = .ok (.iload_n 1, 1) := by decide +kernel
theorem dX10_found_1 : decode cX10_found 1 = .ok (.invokestatic 139, 3) := by decide +kernel
theorem dX10_found_4 : decode cX10_found 4 = .ok (.ifCond .eq 12, 3) := by decide +kernel
theorem dX10_found_7 : decode cX10_found 7 = .ok (.iload_n 2, 1) := by decide +kernel
theorem dX10_found_8 : decode cX10_found 8 = .ok (.ifCond .lt 8, 3) := by decide +kernel
theorem dX10_found_11 : decode cX10_found 11 = .ok (.iload_n 2, 1) := by decide +kernel
theorem dX10_found_12 : decode cX10_found 12 = .ok (.iconst 1, 1) := by decide +kernel
theorem dX10_found_13 : decode cX10_found 13 = .ok (.if_icmp .le 6, 3) := by decide +kernel
theorem dX10_found_16 : decode cX10_found 16 = .ok (.bipush (-2), 2) := by decide +kernel
theorem dX10_found_18 : decode cX10_found 18 = .ok (.ireturn, 1) := by decide +kernel
theorem dX10_found_19 : decode cX10_found 19 = .ok (.aload_n 0, 1) := by decide +kernel
theorem dX10_found_20 : decode cX10_found 20 = .ok (.getfield 25, 3) := by decide +kernel
theorem dX10_found_23 : decode cX10_found 23 = .ok (.invokevirtual 200, 3) := by decide +kernel
theorem dX10_found_26 : decode cX10_found 26 = .ok (.aload_n 0, 1) := by decide +kernel
theorem dX10_found_27 : decode cX10_found 27 = .ok (.iload_n 1, 1) := by decide +kernel
theorem dX10_found_28 : decode cX10_found 28 = .ok (.aload_n 0, 1) := by decide +kernel
theorem dX10_found_29 : decode cX10_found 29 = .ok (.getfield 29, 3) := by decide +kernel
theorem dX10_found_32 : decode cX10_found 32 = .ok (.invokevirtual 142, 3) := by decide +kernel
theorem dX10_found_35 : decode cX10_found 35 = .ok (.aload_n 0, 1) := by decide +kernel
theorem dX10_found_36 : decode cX10_found 36 = .ok (.getfield 44, 3) := by decide +kernel
theorem dX10_found_39 : decode cX10_found 39 = .ok (.aload_n 0, 1) := by decide +kernel
theorem dX10_found_40 : decode cX10_found 40 = .ok (.getfield 25, 3) := by decide +kernel
theorem dX10_found_43 : decode cX10_found 43 = .ok (.aload_n 0, 1) := by decide +kernel
theorem dX10_found_44 : decode cX10_found 44 = .ok (.getfield 29, 3) := by decide +kernel
theorem dX10_found_47 : decode cX10_found 47 = .ok (.invokevirtual 201, 3) := by decide +kernel
theorem dX10_found_50 : decode cX10_found 50 = .ok (.iload_n 2, 1) := by decide +kernel
theorem dX10_found_51 : decode cX10_found 51 = .ok (.ifCond .ne 13, 3) := by decide +kernel
theorem dX10_found_54 : decode cX10_found 54 = .ok (.aload_n 0, 1) := by decide +kernel
theorem dX10_found_55 : decode cX10_found 55 = .ok (.getfield 44, 3) := by decide +kernel
theorem dX10_found_58 : decode cX10_found 58 = .ok (.invokevirtual 205, 3) := by decide +kernel
theorem dX10_found_61 : decode cX10_found 61 = .ok (.goto 10, 3) := by decide +kernel
theorem dX10_found_64 : decode cX10_found 64 = .ok (.aload_n 0, 1) := by decide +kernel
theorem dX10_found_65 : decode cX10_found 65 = .ok (.getfield 44, 3) := by decide +kernel
theorem dX10_found_68 : decode cX10_found 68 = .ok (.invokevirtual 208, 3) := by decide +kernel
theorem dX10_found_71 : decode cX10_found 71 = .ok (.ireturn, 1) := by decide +kernel
theorem dX10_many_0 : decode cX10_many 0 = .ok (.iload_n 1, 1) := by decide +kernel
theorem dX10_many_1 : decode cX10_many 1 = .ok (.invokestatic 153, 3) := by decide +kernel
theorem dX10_many_4 : decode cX10_many 4 = .ok (.ifCond .eq 29, 3) := by decide +kernel
theorem dX10_many_7 : decode cX10_many 7 = .ok (.iload_n 2, 1) := by decide +kernel
theorem dX10_many_8 : decode cX10_many 8 = .ok (.invokestatic 139, 3) := by decide +kernel
theorem dX10_many_11 : decode cX10_many 11 = .ok (.ifCond .eq 22, 3) := by decide +kernel
theorem dX10_many_14 : decode cX10_many 14 = .ok (.iload_n 3, 1) := by decide +kernel
theorem dX10_many_15 : decode cX10_many 15 = .ok (.invokestatic 153, 3) := by decide +kernel
theorem dX10_many_18 : decode cX10_many 18 = .ok (.ifCond .eq 15, 3) := by decide +kernel
theorem dX10_many_21 : decode cX10_many 21 = .ok (.iload 4, 2) := by decide +kernel
theorem dX10_many_23 : decode cX10_many 23 = .ok (.ifCond .lt 10, 3) := by decide +kernel
theorem dX10_many_26 : decode cX10_many 26 = .ok (.iload 4, 2) := by decide +kernel
theorem dX10_many_28 : decode cX10_many 28 = .ok (.bipush 12, 2) := by decide +kernel
theorem dX10_many_30 : decode cX10_many 30 = .ok (.if_icmp .le 9, 3) := by decide +kernel
theorem dX10_many_33 : decode cX10_many 33 = .ok (.bipush (-2), 2) := by decide +kernel
theorem dX10_many_35 : decode cX10_many 35 = .ok (.invokestatic 174, 3) := by decide +kernel
theorem dX10_many_38 : decode cX10_many 38 = .ok (.lreturn, 1) := by decide +kernel
theorem dX10_many_39 : decode cX10_many 39 = .ok (.aload_n 0, 1) := by decide +kernel
theorem dX10_many_40 : decode cX10_many 40 = .ok (.iload_n 2, 1) := by decide +kernel
theorem dX10_many_41 : decode cX10_many 41 = .ok (.aload_n 0, 1) := by decide +kernel
theorem dX10_many_42 : decode cX10_many 42 = .ok (.getfield 25, 3) := by decide +kernel
theorem dX10_many_45 : decode cX10_many 45 = .ok (.invokevirtual 142, 3) := by decide +kernel
theorem dX10_many_48 : decode cX10_many 48 = .ok (.aload_n 0, 1) := by decide +kernel
theorem dX10_many_49 : decode cX10_many 49 = .ok (.getfield 58, 3) := by decide +kernel
theorem dX10_many_52 : decode cX10_many 52 = .ok (.iload_n 1, 1) := by decide +kernel
theorem dX10_many_53 : decode cX10_many 53 = .ok (.aload_n 0, 1) := by decide +kernel
theorem dX10_many_54 : decode cX10_many 54 = .ok (.getfield 25, 3) := by decide +kernel
theorem dX10_many_57 : decode cX10_many 57 = .ok (.iload_n 3, 1) := by decide +kernel
theorem dX10_many_58 : decode cX10_many 58 = .ok (.iload 4, 2) := by decide +kernel
theorem dX10_many_60 : decode cX10_many 60 = .ok (.invokevirtual 211, 3) := by decide +kernel
theorem dX10_many_63 : decode cX10_many 63 = .ok (.lreturn, 1) := by decide +kernel
theorem dX10_list_0 : decode cX10_list 0 = .ok (.iload_n 1, 1) := by decide +kernel
theorem dX10_list_1 : decode cX10_list 1 = .ok (.invokestatic 139, 3) := by decide +kernel
theorem dX10_list_4 : decode cX10_list 4 = .ok (.ifCond .eq 12, 3) := by decide +kernel
theorem dX10_list_7 : decode cX10_list 7 = .ok (.iload_n 2, 1) := by decide +kernel
theorem dX10_list_8 : decode cX10_list 8 = .ok (.ifCond .lt 8, 3) := by decide +kernel
theorem dX10_list_11 : decode cX10_list 11 = .ok (.iload_n 2, 1) := by decide +kernel
theorem dX10_list_12 : decode cX10_list 12 = .ok (.iconst 1, 1) := by decide +kernel
theorem dX10_list_13 : decode cX10_list 13 = .ok (.if_icmp .le 6, 3) := by decide +kernel
theorem dX10_list_16 : decode cX10_list 16 = .ok (.bipush (-2), 2) := by decide +kernel
theorem dX10_list_18 : decode cX10_list 18 = .ok (.ireturn, 1) := by decide +kernel
theorem dX10_list_19 : decode cX10_list 19 = .ok (.aload_n 0, 1) := by decide +kernel
theorem dX10_list_20 : decode cX10_list 20 = .ok (.getfield 65, 3) := by decide +kernel
theorem dX10_list_23 : decode cX10_list 23 = .ok (.invokevirtual 215, 3) := by decide +kernel
theorem dX10_list_26 : decode cX10_list 26 = .ok (.ifCond .eq 6, 3) := by decide +kernel
theorem dX10_list_29 : decode cX10_list 29 = .ok (.bipush (-4), 2) := by decide +kernel
theorem dX10_list_31 : decode cX10_list 31 = .ok (.ireturn, 1) := by decide +kernel
theorem dX10_list_32 : decode cX10_list 32 = .ok (.aload_n 0, 1) := by decide +kernel
theorem dX10_list_33 : decode cX10_list 33 = .ok (.iload_n 1, 1) := by decide +kernel
theorem dX10_list_34 : decode cX10_list 34 = .ok (.aload_n 0, 1) := by decide +kernel
theorem dX10_list_35 : decode cX10_list 35 = .ok (.getfield 25, 3) := by decide +kernel
theorem dX10_list_38 : decode cX10_list 38 = .ok (.invokevirtual 142, 3) := by decide +kernel
theorem dX10_list_41 : decode cX10_list 41 = .ok (.aload_n 0, 1) := by decide +kernel
theorem dX10_list_42 : decode cX10_list 42 = .ok (.getfield 65, 3) := by decide +kernel
theorem dX10_list_45 : decode cX10_list 45 = .ok (.aload_n 0, 1) := by decide +kernel
theorem dX10_list_46 : decode cX10_list 46 = .ok (.getfield 25, 3) := by decide +kernel
theorem dX10_list_49 : decode cX10_list 49 = .ok (.iload_n 2, 1) := by decide +kernel
theorem dX10_list_50 : decode cX10_list 50 = .ok (.invokevirtual 216, 3) := by decide +kernel
theorem dX10_list_53 : decode cX10_list 53 = .ok (.aload_n 0, 1) := by decide +kernel
theorem dX10_list_54 : decode cX10_list 54 = .ok (.getfield 65, 3) := by decide +kernel
theorem dX10_list_57 : decode cX10_list 57 = .ok (.invokevirtual 219, 3) := by decide +kernel
theorem dX10_list_60 : decode cX10_list 60 = .ok (.ireturn, 1) := by decide +kernel
theorem dX10_read_0 : decode cX10_read 0 = .ok (.iload_n 1, 1) := by decide +kernel
theorem dX10_read_1 : decode cX10_read 1 = .ok (.invokestatic 220, 3) := by decide +kernel
theorem dX10_read_4 : decode cX10_read 4 = .ok (.ifCond .ne 6, 3) := by decide +kernel
theorem dX10_read_7 : decode cX10_read 7 = .ok (.bipush (-2), 2) := by decide +kernel
theorem dX10_read_9 : decode cX10_read 9 = .ok (.ireturn, 1) := by decide +kernel
theorem dX10_read_10 : decode cX10_read 10 = .ok (.aload_n 0, 1) := by decide +kernel
theorem dX10_read_11 : decode cX10_read 11 = .ok (.getfield 82, 3) := by decide +kernel
theorem dX10_read_14 : decode cX10_read 14 = .ok (.iload_n 1, 1) := by decide +kernel
theorem dX10_read_15 : decode cX10_read 15 = .ok (.invokevirtual 223, 3) := by decide +kernel
theorem dX10_read_18 : decode cX10_read 18 = .ok (.ifCond .eq 12, 3) := by decide +kernel
theorem dX10_read_21 : decode cX10_read 21 = .ok (.aload_n 0, 1) := by decide +kernel
theorem dX10_read_22 : decode cX10_read 22 = .ok (.getfield 82, 3) := by decide +kernel
theorem dX10_read_25 : decode cX10_read 25 = .ok (.iconst 1, 1) := by decide +kernel
theorem dX10_read_26 : decode cX10_read 26 = .ok (.invokevirtual 226, 3) := by decide +kernel
theorem dX10_read_29 : decode cX10_read 29 = .ok (.ireturn, 1) := by decide +kernel
theorem dX10_read_30 : decode cX10_read 30 = .ok (.aload_n 0, 1) := by decide +kernel
theorem dX10_read_31 : decode cX10_read 31 = .ok (.getfield 65, 3) := by decide +kernel
theorem dX10_read_34 : decode cX10_read 34 = .ok (.invokevirtual 219, 3) := by decide +kernel
theorem dX10_read_37 : decode cX10_read 37 = .ok (.istore_n 2, 1) := by decide +kernel
theorem dX10_read_38 : decode cX10_read 38 = .ok (.aload_n 0, 1) := by decide +kernel
theorem dX10_read_39 : decode cX10_read 39 = .ok (.getfield 25, 3) := by decide +kernel
theorem dX10_read_42 : decode cX10_read 42 = .ok (.invokevirtual 200, 3) := by decide +kernel
theorem dX10_read_45 : decode cX10_read 45 = .ok (.iconst 0, 1) := by decide +kernel
theorem dX10_read_46 : decode cX10_read 46 = .ok (.istore_n 3, 1) := by decide +kernel
theorem dX10_read_47 : decode cX10_read 47 = .ok (.iload_n 3, 1) := by decide +kernel
theorem dX10_read_48 : decode cX10_read 48 = .ok (.aload_n 0, 1) := by decide +kernel
theorem dX10_read_49 : decode cX10_read 49 = .ok (.getfield 82, 3) := by decide +kernel
theorem dX10_read_52 : decode cX10_read 52 = .ok (.iload_n 1, 1) := by decide +kernel
theorem dX10_read_53 : decode cX10_read 53 = .ok (.invokevirtual 229, 3) := by decide +kernel
theorem dX10_read_56 : decode cX10_read 56 = .ok (.if_icmp .gt 88, 3) := by decide +kernel
theorem dX10_read_59 : decode cX10_read 59 = .ok (.iload_n 3, 1) := by decide +kernel
theorem dX10_read_60 : decode cX10_read 60 = .ok (.aload_n 0, 1) := by decide +kernel
theorem dX10_read_61 : decode cX10_read 61 = .ok (.getfield 82, 3) := by decide +kernel
theorem dX10_read_64 : decode cX10_read 64 = .ok (.iload_n 1, 1) := by decide +kernel
theorem dX10_read_65 : decode cX10_read 65 = .ok (.invokevirtual 229, 3) := by decide +kernel
theorem dX10_read_68 : decode cX10_read 68 = .ok (.if_icmp .ge 22, 3) := by decide +kernel
theorem dX10_read_71 : decode cX10_read 71 = .ok (.aload_n 0, 1) := by decide +kernel
theorem dX10_read_72 : decode cX10_read 72 = .ok (.getfield 12, 3) := by decide +kernel
theorem dX10_read_75 : decode cX10_read 75 = .ok (.aload_n 0, 1) := by decide +kernel
theorem dX10_read_76 : decode cX10_read 76 = .ok (.getfield 82, 3) := by decide +kernel
theorem dX10_read_79 : decode cX10_read 79 = .ok (.iload_n 1, 1) := by decide +kernel
theorem dX10_read_80 : decode cX10_read 80 = .ok (.iload_n 3, 1) := by decide +kernel
theorem dX10_read_81 : decode cX10_read 81 = .ok (.invokevirtual 231, 3) := by decide +kernel
theorem dX10_read_84 : decode cX10_read 84 = .ok (.invokevirtual 234, 3) := by decide +kernel
theorem dX10_read_87 : decode cX10_read 87 = .ok (.goto 4, 3) := by decide +kernel
theorem dX10_read_90 : decode cX10_read 90 = .ok (.iconst (-1), 1) := by decide +kernel
theorem dX10_read_91 : decode cX10_read 91 = .ok (.istore 4, 2) := by decide +kernel
theorem dX10_read_93 : decode cX10_read 93 = .ok (.iload 4, 2) := by decide +kernel
theorem dX10_read_95 : decode cX10_read 95 = .ok (.iconst (-1), 1) := by decide +kernel
theorem dX10_read_96 : decode cX10_read 96 = .ok (.if_icmp .ne 21, 3) := by decide +kernel
theorem dX10_read_99 : decode cX10_read 99 = .ok (.aload_n 0, 1) := by decide +kernel
theorem dX10_read_100 : decode cX10_read 100 = .ok (.aload_n 0, 1) := by decide +kernel
theorem dX10_read_101 : decode cX10_read 101 = .ok (.getfield 25, 3) := by decide +kernel
theorem dX10_read_104 : decode cX10_read 104 = .ok (.invokevirtual 237, 3) := by decide +kernel
theorem dX10_read_107 : decode cX10_read 107 = .ok (.aload_n 0, 1) := by decide +kernel
theorem dX10_read_108 : decode cX10_read 108 = .ok (.getfield 25, 3) := by decide +kernel
theorem dX10_read_111 : decode cX10_read 111 = .ok (.invokevirtual 200, 3) := by decide +kernel
theorem dX10_read_114 : decode cX10_read 114 = .ok (.goto 24, 3) := by decide +kernel
theorem dX10_read_117 : decode cX10_read 117 = .ok (.aload_n 0, 1) := by decide +kernel
theorem dX10_read_118 : decode cX10_read 118 = .ok (.getfield 12, 3) := by decide +kernel
theorem dX10_read_121 : decode cX10_read 121 = .ok (.iload 4, 2) := by decide +kernel
theorem dX10_read_123 : decode cX10_read 123 = .ok (.invokevirtual 127, 3) := by decide +kernel
theorem dX10_read_126 : decode cX10_read 126 = .ok (.ifCond .eq 12, 3) := by decide +kernel
theorem dX10_read_129 : decode cX10_read 129 = .ok (.aload_n 0, 1) := by decide +kernel
theorem dX10_read_130 : decode cX10_read 130 = .ok (.getfield 25, 3) := by decide +kernel
theorem dX10_read_133 : decode cX10_read 133 = .ok (.iload 4, 2) := by decide +kernel
theorem dX10_read_135 : decode cX10_read 135 = .ok (.invokevirtual 241, 3) := by decide +kernel
theorem dX10_read_138 : decode cX10_read 138 = .ok (.iinc 3 1, 3) := by decide +kernel
theorem dX10_read_141 : decode cX10_read 141 = .ok (.goto (-94), 3) := by decide +kernel
theorem dX10_read_144 : decode cX10_read 144 = .ok (.aload_n 0, 1) := by decide +kernel
theorem dX10_read_145 : decode cX10_read 145 = .ok (.getfield 65, 3) := by decide +kernel
theorem dX10_read_148 : decode cX10_read 148 = .ok (.invokevirtual 219, 3) := by decide +kernel
theorem dX10_read_151 : decode cX10_read 151 = .ok (.iload_n 2, 1) := by decide +kernel
theorem dX10_read_152 : decode cX10_read 152 = .ok (.isub, 1) := by decide +kernel
theorem dX10_read_153 : decode cX10_read 153 = .ok (.ireturn, 1) := by decide +kernel
theorem dX10_unlist_0 : decode cX10_unlist 0 = .ok (.aload_n 0, 1) := by decide +kernel
theorem dX10_unlist_1 : decode cX10_unlist 1 = .ok (.getfield 65, 3) := by decide +kernel
theorem dX10_unlist_4 : decode cX10_unlist 4 = .ok (.invokevirtual 219, 3) := by decide +kernel
theorem dX10_unlist_7 : decode cX10_unlist 7 = .ok (.ifCond .ne 6, 3) := by decide +kernel
theorem dX10_unlist_10 : decode cX10_unlist 10 = .ok (.bipush (-3), 2) := by decide +kernel
theorem dX10_unlist_12 : decode cX10_unlist 12 = .ok (.ireturn, 1) := by decide +kernel
theorem dX10_unlist_13 : decode cX10_unlist 13 = .ok (.aload_n 0, 1) := by decide +kernel
theorem dX10_unlist_14 : decode cX10_unlist 14 = .ok (.getfield 65, 3) := by decide +kernel
theorem dX10_unlist_17 : decode cX10_unlist 17 = .ok (.invokevirtual 244, 3) := by decide +kernel
theorem dX10_unlist_20 : decode cX10_unlist 20 = .ok (.aload_n 0, 1) := by decide +kernel
theorem dX10_unlist_21 : decode cX10_unlist 21 = .ok (.getfield 65, 3) := by decide +kernel
theorem dX10_unlist_24 : decode cX10_unlist 24 = .ok (.invokevirtual 219, 3) := by decide +kernel
theorem dX10_unlist_27 : decode cX10_unlist 27 = .ok (.ireturn, 1) := by decide +kernel
theorem dX10_listed_0 : decode cX10_listed 0 = .ok (.iload_n 1, 1) := by decide +kernel
theorem dX10_listed_1 : decode cX10_listed 1 = .ok (.ifCond .lt 25, 3) := by decide +kernel
theorem dX10_listed_4 : decode cX10_listed 4 = .ok (.iload_n 1, 1) := by decide +kernel
theorem dX10_listed_5 : decode cX10_listed 5 = .ok (.aload_n 0, 1) := by decide +kernel
theorem dX10_listed_6 : decode cX10_listed 6 = .ok (.getfield 65, 3) := by decide +kernel
theorem dX10_listed_9 : decode cX10_listed 9 = .ok (.invokevirtual 219, 3) := by decide +kernel
theorem dX10_listed_12 : decode cX10_listed 12 = .ok (.if_icmp .ge 14, 3) := by decide +kernel
theorem dX10_listed_15 : decode cX10_listed 15 = .ok (.iload_n 2, 1) := by decide +kernel
theorem dX10_listed_16 : decode cX10_listed 16 = .ok (.iconst (-1), 1) := by decide +kernel
theorem dX10_listed_17 : decode cX10_listed 17 = .ok (.if_icmp .lt 9, 3) := by decide +kernel
theorem dX10_listed_20 : decode cX10_listed 20 = .ok (.iload_n 2, 1) := by decide +kernel
theorem dX10_listed_21 : decode cX10_listed 21 = .ok (.bipush 11, 2) := by decide +kernel
theorem dX10_listed_23 : decode cX10_listed 23 = .ok (.if_icmp .lt 6, 3) := by decide +kernel
theorem dX10_listed_26 : decode cX10_listed 26 = .ok (.bipush (-2), 2) := by decide +kernel
theorem dX10_listed_28 : decode cX10_listed 28 = .ok (.ireturn, 1) := by decide +kernel
theorem dX10_listed_29 : decode cX10_listed 29 = .ok (.iload_n 2, 1) := by decide +kernel
theorem dX10_listed_30 : decode cX10_listed 30 = .ok (.iconst (-1), 1) := by decide +kernel
theorem dX10_listed_31 : decode cX10_listed 31 = .ok (.if_icmp .ne 14, 3) := by decide +kernel
theorem dX10_listed_34 : decode cX10_listed 34 = .ok (.aload_n 0, 1) := by decide +kernel
theorem dX10_listed_35 : decode cX10_listed 35 = .ok (.getfield 65, 3) := by decide +kernel
theorem dX10_listed_38 : decode cX10_listed 38 = .ok (.iload_n 1, 1) := by decide +kernel
theorem dX10_listed_39 : decode cX10_listed 39 = .ok (.invokevirtual 247, 3) := by decide +kernel
theorem dX10_listed_42 : decode cX10_listed 42 = .ok (.goto 15, 3) := by decide +kernel
theorem dX10_listed_45 : decode cX10_listed 45 = .ok (.aload_n 0, 1) := by decide +kernel
theorem dX10_listed_46 : decode cX10_listed 46 = .ok (.getfield 65, 3) := by decide +kernel
theorem dX10_listed_49 : decode cX10_listed 49 = .ok (.iload_n 1, 1) := by decide +kernel
theorem dX10_listed_50 : decode cX10_listed 50 = .ok (.iload_n 2, 1) := by decide +kernel
theorem dX10_listed_51 : decode cX10_listed 51 = .ok (.invokevirtual 250, 3) := by decide +kernel
theorem dX10_listed_54 : decode cX10_listed 54 = .ok (.invokestatic 150, 3) := by decide +kernel
theorem dX10_listed_57 : decode cX10_listed 57 = .ok (.ireturn, 1) := by decide +kernel
theorem dX10_lets_0 : decode cX10_lets 0 = .ok (.iload_n 1, 1) := by decide +kernel
theorem dX10_lets_1 : decode cX10_lets 1 = .ok (.invokestatic 139, 3) := by decide +kernel
theorem dX10_lets_4 : decode cX10_lets 4 = .ok (.ifCond .eq 10, 3) := by decide +kernel
theorem dX10_lets_7 : decode cX10_lets 7 = .ok (.iload_n 2, 1) := by decide +kernel
theorem dX10_lets_8 : decode cX10_lets 8 = .ok (.invokestatic 253, 3) := by decide +kernel
theorem dX10_lets_11 : decode cX10_lets 11 = .ok (.ifCond .ne 6, 3) := by decide +kernel
theorem dX10_lets_14 : decode cX10_lets 14 = .ok (.bipush (-2), 2) := by decide +kernel
theorem dX10_lets_16 : decode cX10_lets 16 = .ok (.ireturn, 1) := by decide +kernel
theorem dX10_lets_17 : decode cX10_lets 17 = .ok (.aload_n 0, 1) := by decide +kernel
theorem dX10_lets_18 : decode cX10_lets 18 = .ok (.iload_n 1, 1) := by decide +kernel
theorem dX10_lets_19 : decode cX10_lets 19 = .ok (.aload_n 0, 1) := by decide +kernel
theorem dX10_lets_20 : decode cX10_lets 20 = .ok (.getfield 25, 3) := by decide +kernel
theorem dX10_lets_23 : decode cX10_lets 23 = .ok (.invokevirtual 142, 3) := by decide +kernel
theorem dX10_lets_26 : decode cX10_lets 26 = .ok (.aload_n 0, 1) := by decide +kernel
theorem dX10_lets_27 : decode cX10_lets 27 = .ok (.getfield 65, 3) := by decide +kernel
theorem dX10_lets_30 : decode cX10_lets 30 = .ok (.aload_n 0, 1) := by decide +kernel
theorem dX10_lets_31 : decode cX10_lets 31 = .ok (.getfield 25, 3) := by decide +kernel
theorem dX10_lets_34 : decode cX10_lets 34 = .ok (.iload_n 2, 1) := by decide +kernel
theorem dX10_lets_35 : decode cX10_lets 35 = .ok (.invokevirtual 256, 3) := by decide +kernel
theorem dX10_lets_38 : decode cX10_lets 38 = .ok (.ifCond .eq 7, 3) := by decide +kernel
theorem dX10_lets_41 : decode cX10_lets 41 = .ok (.iconst 1, 1) := by decide +kernel
theorem dX10_lets_42 : decode cX10_lets 42 = .ok (.goto 4, 3) := by decide +kernel
theorem dX10_lets_45 : decode cX10_lets 45 = .ok (.iconst 0, 1) := by decide +kernel
theorem dX10_lets_46 : decode cX10_lets 46 = .ok (.ireturn, 1) := by decide +kernel
theorem dX10_slips_0 : decode cX10_slips 0 = .ok (.iload_n 1, 1) := by decide +kernel
theorem dX10_slips_1 : decode cX10_slips 1 = .ok (.invokestatic 253, 3) := by decide +kernel
theorem dX10_slips_4 : decode cX10_slips 4 = .ok (.ifCond .eq 14, 3) := by decide +kernel
theorem dX10_slips_7 : decode cX10_slips 7 = .ok (.aload_n 0, 1) := by decide +kernel
theorem dX10_slips_8 : decode cX10_slips 8 = .ok (.getfield 65, 3) := by decide +kernel
theorem dX10_slips_11 : decode cX10_slips 11 = .ok (.iload_n 1, 1) := by decide +kernel
theorem dX10_slips_12 : decode cX10_slips 12 = .ok (.invokevirtual 260, 3) := by decide +kernel
theorem dX10_slips_15 : decode cX10_slips 15 = .ok (.goto 5, 3) := by decide +kernel
theorem dX10_slips_18 : decode cX10_slips 18 = .ok (.bipush (-2), 2) := by decide +kernel
theorem dX10_slips_20 : decode cX10_slips 20 = .ok (.ireturn, 1) := by decide +kernel
theorem dX10_fewest_0 : decode cX10_fewest 0 = .ok (.aload_n 0, 1) := by decide +kernel
theorem dX10_fewest_1 : decode cX10_fewest 1 = .ok (.getfield 65, 3) := by decide +kernel
theorem dX10_fewest_4 : decode cX10_fewest 4 = .ok (.invokevirtual 263, 3) := by decide +kernel
theorem dX10_fewest_7 : decode cX10_fewest 7 = .ok (.ireturn, 1) := by decide +kernel
theorem dX10_far_0 : decode cX10_far 0 = .ok (.iload_n 1, 1) := by decide +kernel
theorem dX10_far_1 : decode cX10_far 1 = .ok (.invokestatic 153, 3) := by decide +kernel
theorem dX10_far_4 : decode cX10_far 4 = .ok (.ifCond .eq 10, 3) := by decide +kernel
theorem dX10_far_7 : decode cX10_far 7 = .ok (.iload_n 2, 1) := by decide +kernel
theorem dX10_far_8 : decode cX10_far 8 = .ok (.invokestatic 153, 3) := by decide +kernel
theorem dX10_far_11 : decode cX10_far 11 = .ok (.ifCond .ne 6, 3) := by decide +kernel
theorem dX10_far_14 : decode cX10_far 14 = .ok (.bipush (-2), 2) := by decide +kernel
theorem dX10_far_16 : decode cX10_far 16 = .ok (.ireturn, 1) := by decide +kernel
theorem dX10_far_17 : decode cX10_far 17 = .ok (.aload_n 0, 1) := by decide +kernel
theorem dX10_far_18 : decode cX10_far 18 = .ok (.getfield 72, 3) := by decide +kernel
theorem dX10_far_21 : decode cX10_far 21 = .ok (.aload_n 0, 1) := by decide +kernel
theorem dX10_far_22 : decode cX10_far 22 = .ok (.getfield 12, 3) := by decide +kernel
theorem dX10_far_25 : decode cX10_far 25 = .ok (.aload_n 0, 1) := by decide +kernel
theorem dX10_far_26 : decode cX10_far 26 = .ok (.getfield 12, 3) := by decide +kernel
theorem dX10_far_29 : decode cX10_far 29 = .ok (.invokevirtual 266, 3) := by decide +kernel
theorem dX10_far_32 : decode cX10_far 32 = .ok (.iload_n 1, 1) := by decide +kernel
theorem dX10_far_33 : decode cX10_far 33 = .ok (.invokevirtual 269, 3) := by decide +kernel
theorem dX10_far_36 : decode cX10_far 36 = .ok (.aload_n 0, 1) := by decide +kernel
theorem dX10_far_37 : decode cX10_far 37 = .ok (.getfield 72, 3) := by decide +kernel
theorem dX10_far_40 : decode cX10_far 40 = .ok (.iload_n 1, 1) := by decide +kernel
theorem dX10_far_41 : decode cX10_far 41 = .ok (.iload_n 2, 1) := by decide +kernel
theorem dX10_far_42 : decode cX10_far 42 = .ok (.invokevirtual 273, 3) := by decide +kernel
theorem dX10_far_45 : decode cX10_far 45 = .ok (.ireturn, 1) := by decide +kernel
theorem dX10_without_0 : decode cX10_without 0 = .ok (.aload_n 0, 1) := by decide +kernel
theorem dX10_without_1 : decode cX10_without 1 = .ok (.getfield 12, 3) := by decide +kernel
theorem dX10_without_4 : decode cX10_without 4 = .ok (.iload_n 1, 1) := by decide +kernel
theorem dX10_without_5 : decode cX10_without 5 = .ok (.invokevirtual 117, 3) := by decide +kernel
theorem dX10_without_8 : decode cX10_without 8 = .ok (.ifCond .eq 12, 3) := by decide +kernel
theorem dX10_without_11 : decode cX10_without 11 = .ok (.iload_n 2, 1) := by decide +kernel
theorem dX10_without_12 : decode cX10_without 12 = .ok (.ifCond .lt 8, 3) := by decide +kernel
theorem dX10_without_15 : decode cX10_without 15 = .ok (.iload_n 2, 1) := by decide +kernel
theorem dX10_without_16 : decode cX10_without 16 = .ok (.iconst 1, 1) := by decide +kernel
theorem dX10_without_17 : decode cX10_without 17 = .ok (.if_icmp .le 6, 3) := by decide +kernel
theorem dX10_without_20 : decode cX10_without 20 = .ok (.bipush (-2), 2) := by decide +kernel
theorem dX10_without_22 : decode cX10_without 22 = .ok (.ireturn, 1) := by decide +kernel
theorem dX10_without_23 : decode cX10_without 23 = .ok (.aload_n 0, 1) := by decide +kernel
theorem dX10_without_24 : decode cX10_without 24 = .ok (.getfield 12, 3) := by decide +kernel
theorem dX10_without_27 : decode cX10_without 27 = .ok (.invokevirtual 266, 3) := by decide +kernel
theorem dX10_without_30 : decode cX10_without 30 = .ok (.istore_n 3, 1) := by decide +kernel
theorem dX10_without_31 : decode cX10_without 31 = .ok (.iload_n 3, 1) := by decide +kernel
theorem dX10_without_32 : decode cX10_without 32 = .ok (.iconst 1, 1) := by decide +kernel
theorem dX10_without_33 : decode cX10_without 33 = .ok (.iload_n 1, 1) := by decide +kernel
theorem dX10_without_34 : decode cX10_without 34 = .ok (.ishl, 1) := by decide +kernel
theorem dX10_without_35 : decode cX10_without 35 = .ok (.iconst (-1), 1) := by decide +kernel
theorem dX10_without_36 : decode cX10_without 36 = .ok (.ixor, 1) := by decide +kernel
theorem dX10_without_37 : decode cX10_without 37 = .ok (.iand, 1) := by decide +kernel
theorem dX10_without_38 : decode cX10_without 38 = .ok (.istore 4, 2) := by decide +kernel
theorem dX10_without_40 : decode cX10_without 40 = .ok (.iload 4, 2) := by decide +kernel
theorem dX10_without_42 : decode cX10_without 42 = .ok (.iload_n 3, 1) := by decide +kernel
theorem dX10_without_43 : decode cX10_without 43 = .ok (.if_icmp .ne 5, 3) := by decide +kernel
theorem dX10_without_46 : decode cX10_without 46 = .ok (.iconst 0, 1) := by decide +kernel
theorem dX10_without_47 : decode cX10_without 47 = .ok (.ireturn, 1) := by decide +kernel
theorem dX10_without_48 : decode cX10_without 48 = .ok (.aload_n 0, 1) := by decide +kernel
theorem dX10_without_49 : decode cX10_without 49 = .ok (.getfield 72, 3) := by decide +kernel
theorem dX10_without_52 : decode cX10_without 52 = .ok (.aload_n 0, 1) := by decide +kernel
theorem dX10_without_53 : decode cX10_without 53 = .ok (.getfield 12, 3) := by decide +kernel
theorem dX10_without_56 : decode cX10_without 56 = .ok (.iload_n 3, 1) := by decide +kernel
theorem dX10_without_57 : decode cX10_without 57 = .ok (.invokevirtual 276, 3) := by decide +kernel
theorem dX10_without_60 : decode cX10_without 60 = .ok (.aload_n 0, 1) := by decide +kernel
theorem dX10_without_61 : decode cX10_without 61 = .ok (.getfield 76, 3) := by decide +kernel
theorem dX10_without_64 : decode cX10_without 64 = .ok (.aload_n 0, 1) := by decide +kernel
theorem dX10_without_65 : decode cX10_without 65 = .ok (.getfield 12, 3) := by decide +kernel
theorem dX10_without_68 : decode cX10_without 68 = .ok (.iload 4, 2) := by decide +kernel
theorem dX10_without_70 : decode cX10_without 70 = .ok (.invokevirtual 276, 3) := by decide +kernel
theorem dX10_without_73 : decode cX10_without 73 = .ok (.iload_n 2, 1) := by decide +kernel
theorem dX10_without_74 : decode cX10_without 74 = .ok (.ifCond .ne 17, 3) := by decide +kernel
theorem dX10_without_77 : decode cX10_without 77 = .ok (.aload_n 0, 1) := by decide +kernel
theorem dX10_without_78 : decode cX10_without 78 = .ok (.getfield 72, 3) := by decide +kernel
theorem dX10_without_81 : decode cX10_without 81 = .ok (.aload_n 0, 1) := by decide +kernel
theorem dX10_without_82 : decode cX10_without 82 = .ok (.getfield 76, 3) := by decide +kernel
theorem dX10_without_85 : decode cX10_without 85 = .ok (.invokevirtual 280, 3) := by decide +kernel
theorem dX10_without_88 : decode cX10_without 88 = .ok (.goto 14, 3) := by decide +kernel
theorem dX10_without_91 : decode cX10_without 91 = .ok (.aload_n 0, 1) := by decide +kernel
theorem dX10_without_92 : decode cX10_without 92 = .ok (.getfield 72, 3) := by decide +kernel
theorem dX10_without_95 : decode cX10_without 95 = .ok (.aload_n 0, 1) := by decide +kernel
theorem dX10_without_96 : decode cX10_without 96 = .ok (.getfield 76, 3) := by decide +kernel
theorem dX10_without_99 : decode cX10_without 99 = .ok (.invokevirtual 284, 3) := by decide +kernel
theorem dX10_without_102 : decode cX10_without 102 = .ok (.ireturn, 1) := by decide +kernel
theorem dX10_with_0 : decode cX10_with 0 = .ok (.iload_n 1, 1) := by decide +kernel
theorem dX10_with_1 : decode cX10_with 1 = .ok (.invokestatic 153, 3) := by decide +kernel
theorem dX10_with_4 : decode cX10_with 4 = .ok (.ifCond .eq 19, 3) := by decide +kernel
theorem dX10_with_7 : decode cX10_with 7 = .ok (.iload_n 2, 1) := by decide +kernel
theorem dX10_with_8 : decode cX10_with 8 = .ok (.invokestatic 153, 3) := by decide +kernel
theorem dX10_with_11 : decode cX10_with 11 = .ok (.ifCond .eq 12, 3) := by decide +kernel
theorem dX10_with_14 : decode cX10_with 14 = .ok (.iload_n 3, 1) := by decide +kernel
theorem dX10_with_15 : decode cX10_with 15 = .ok (.ifCond .lt 8, 3) := by decide +kernel
theorem dX10_with_18 : decode cX10_with 18 = .ok (.iload_n 3, 1) := by decide +kernel
theorem dX10_with_19 : decode cX10_with 19 = .ok (.iconst 1, 1) := by decide +kernel
theorem dX10_with_20 : decode cX10_with 20 = .ok (.if_icmp .le 6, 3) := by decide +kernel
theorem dX10_with_23 : decode cX10_with 23 = .ok (.bipush (-2), 2) := by decide +kernel
theorem dX10_with_25 : decode cX10_with 25 = .ok (.ireturn, 1) := by decide +kernel
theorem dX10_with_26 : decode cX10_with 26 = .ok (.aload_n 0, 1) := by decide +kernel
theorem dX10_with_27 : decode cX10_with 27 = .ok (.getfield 72, 3) := by decide +kernel
theorem dX10_with_30 : decode cX10_with 30 = .ok (.aload_n 0, 1) := by decide +kernel
theorem dX10_with_31 : decode cX10_with 31 = .ok (.getfield 12, 3) := by decide +kernel
theorem dX10_with_34 : decode cX10_with 34 = .ok (.aload_n 0, 1) := by decide +kernel
theorem dX10_with_35 : decode cX10_with 35 = .ok (.getfield 12, 3) := by decide +kernel
theorem dX10_with_38 : decode cX10_with 38 = .ok (.invokevirtual 266, 3) := by decide +kernel
theorem dX10_with_41 : decode cX10_with 41 = .ok (.invokevirtual 276, 3) := by decide +kernel
theorem dX10_with_44 : decode cX10_with 44 = .ok (.aload_n 0, 1) := by decide +kernel
theorem dX10_with_45 : decode cX10_with 45 = .ok (.getfield 76, 3) := by decide +kernel
theorem dX10_with_48 : decode cX10_with 48 = .ok (.aload_n 0, 1) := by decide +kernel
theorem dX10_with_49 : decode cX10_with 49 = .ok (.getfield 12, 3) := by decide +kernel
theorem dX10_with_52 : decode cX10_with 52 = .ok (.aload_n 0, 1) := by decide +kernel
theorem dX10_with_53 : decode cX10_with 53 = .ok (.getfield 12, 3) := by decide +kernel
theorem dX10_with_56 : decode cX10_with 56 = .ok (.invokevirtual 266, 3) := by decide +kernel
theorem dX10_with_59 : decode cX10_with 59 = .ok (.iload_n 1, 1) := by decide +kernel
theorem dX10_with_60 : decode cX10_with 60 = .ok (.iload_n 2, 1) := by decide +kernel
theorem dX10_with_61 : decode cX10_with 61 = .ok (.invokevirtual 287, 3) := by decide +kernel
theorem dX10_with_64 : decode cX10_with 64 = .ok (.iload_n 3, 1) := by decide +kernel
theorem dX10_with_65 : decode cX10_with 65 = .ok (.ifCond .ne 17, 3) := by decide +kernel
theorem dX10_with_68 : decode cX10_with 68 = .ok (.aload_n 0, 1) := by decide +kernel
theorem dX10_with_69 : decode cX10_with 69 = .ok (.getfield 72, 3) := by decide +kernel
theorem dX10_with_72 : decode cX10_with 72 = .ok (.aload_n 0, 1) := by decide +kernel
theorem dX10_with_73 : decode cX10_with 73 = .ok (.getfield 76, 3) := by decide +kernel
theorem dX10_with_76 : decode cX10_with 76 = .ok (.invokevirtual 280, 3) := by decide +kernel
theorem dX10_with_79 : decode cX10_with 79 = .ok (.goto 14, 3) := by decide +kernel
theorem dX10_with_82 : decode cX10_with 82 = .ok (.aload_n 0, 1) := by decide +kernel
theorem dX10_with_83 : decode cX10_with 83 = .ok (.getfield 72, 3) := by decide +kernel
theorem dX10_with_86 : decode cX10_with 86 = .ok (.aload_n 0, 1) := by decide +kernel
theorem dX10_with_87 : decode cX10_with 87 = .ok (.getfield 76, 3) := by decide +kernel
theorem dX10_with_90 : decode cX10_with 90 = .ok (.invokevirtual 284, 3) := by decide +kernel
theorem dX10_with_93 : decode cX10_with 93 = .ok (.ireturn, 1) := by decide +kernel
theorem dX10_sheet_0 : decode cX10_sheet 0 = .ok (.iload_n 1, 1) := by decide +kernel
theorem dX10_sheet_1 : decode cX10_sheet 1 = .ok (.invokestatic 220, 3) := by decide +kernel
theorem dX10_sheet_4 : decode cX10_sheet 4 = .ok (.ifCond .eq 16, 3) := by decide +kernel
theorem dX10_sheet_7 : decode cX10_sheet 7 = .ok (.iload_n 2, 1) := by decide +kernel
theorem dX10_sheet_8 : decode cX10_sheet 8 = .ok (.invokestatic 291, 3) := by decide +kernel
theorem dX10_sheet_11 : decode cX10_sheet 11 = .ok (.ifCond .eq 9, 3) := by decide +kernel
theorem dX10_sheet_14 : decode cX10_sheet 14 = .ok (.iload_n 3, 1) := by decide +kernel
theorem dX10_sheet_15 : decode cX10_sheet 15 = .ok (.bipush 60, 2) := by decide +kernel
theorem dX10_sheet_17 : decode cX10_sheet 17 = .ok (.if_icmp .le 6, 3) := by decide +kernel
theorem dX10_sheet_20 : decode cX10_sheet 20 = .ok (.bipush (-2), 2) := by decide +kernel
theorem dX10_sheet_22 : decode cX10_sheet 22 = .ok (.ireturn, 1) := by decide +kernel
theorem dX10_sheet_23 : decode cX10_sheet 23 = .ok (.iload_n 3, 1) := by decide +kernel
theorem dX10_sheet_24 : decode cX10_sheet 24 = .ok (.ifCond .ge 12, 3) := by decide +kernel
theorem dX10_sheet_27 : decode cX10_sheet 27 = .ok (.aload_n 0, 1) := by decide +kernel
theorem dX10_sheet_28 : decode cX10_sheet 28 = .ok (.getfield 82, 3) := by decide +kernel
theorem dX10_sheet_31 : decode cX10_sheet 31 = .ok (.iconst 5, 1) := by decide +kernel
theorem dX10_sheet_32 : decode cX10_sheet 32 = .ok (.invokevirtual 226, 3) := by decide +kernel
theorem dX10_sheet_35 : decode cX10_sheet 35 = .ok (.ireturn, 1) := by decide +kernel
theorem dX10_sheet_36 : decode cX10_sheet 36 = .ok (.aload_n 0, 1) := by decide +kernel
theorem dX10_sheet_37 : decode cX10_sheet 37 = .ok (.getfield 82, 3) := by decide +kernel
theorem dX10_sheet_40 : decode cX10_sheet 40 = .ok (.iload_n 1, 1) := by decide +kernel
theorem dX10_sheet_41 : decode cX10_sheet 41 = .ok (.iload_n 2, 1) := by decide +kernel
theorem dX10_sheet_42 : decode cX10_sheet 42 = .ok (.iload_n 3, 1) := by decide +kernel
theorem dX10_sheet_43 : decode cX10_sheet 43 = .ok (.invokevirtual 294, 3) := by decide +kernel
theorem dX10_sheet_46 : decode cX10_sheet 46 = .ok (.iload_n 3, 1) := by decide +kernel
theorem dX10_sheet_47 : decode cX10_sheet 47 = .ok (.ireturn, 1) := by decide +kernel
theorem dX10_lose_0 : decode cX10_lose 0 = .ok (.iload_n 1, 1) := by decide +kernel
theorem dX10_lose_1 : decode cX10_lose 1 = .ok (.invokestatic 220, 3) := by decide +kernel
theorem dX10_lose_4 : decode cX10_lose 4 = .ok (.ifCond .ne 6, 3) := by decide +kernel
theorem dX10_lose_7 : decode cX10_lose 7 = .ok (.bipush (-2), 2) := by decide +kernel
theorem dX10_lose_9 : decode cX10_lose 9 = .ok (.ireturn, 1) := by decide +kernel
theorem dX10_lose_10 : decode cX10_lose 10 = .ok (.aload_n 0, 1) := by decide +kernel
theorem dX10_lose_11 : decode cX10_lose 11 = .ok (.getfield 82, 3) := by decide +kernel
theorem dX10_lose_14 : decode cX10_lose 14 = .ok (.iload_n 1, 1) := by decide +kernel
theorem dX10_lose_15 : decode cX10_lose 15 = .ok (.invokevirtual 223, 3) := by decide +kernel
theorem dX10_lose_18 : decode cX10_lose 18 = .ok (.ifCond .eq 12, 3) := by decide +kernel
theorem dX10_lose_21 : decode cX10_lose 21 = .ok (.aload_n 0, 1) := by decide +kernel
theorem dX10_lose_22 : decode cX10_lose 22 = .ok (.getfield 82, 3) := by decide +kernel
theorem dX10_lose_25 : decode cX10_lose 25 = .ok (.iconst 1, 1) := by decide +kernel
theorem dX10_lose_26 : decode cX10_lose 26 = .ok (.invokevirtual 226, 3) := by decide +kernel
theorem dX10_lose_29 : decode cX10_lose 29 = .ok (.ireturn, 1) := by decide +kernel
theorem dX10_lose_30 : decode cX10_lose 30 = .ok (.aload_n 0, 1) := by decide +kernel
theorem dX10_lose_31 : decode cX10_lose 31 = .ok (.getfield 82, 3) := by decide +kernel
theorem dX10_lose_34 : decode cX10_lose 34 = .ok (.iload_n 1, 1) := by decide +kernel
theorem dX10_lose_35 : decode cX10_lose 35 = .ok (.invokevirtual 229, 3) := by decide +kernel
theorem dX10_lose_38 : decode cX10_lose 38 = .ok (.istore_n 2, 1) := by decide +kernel
theorem dX10_lose_39 : decode cX10_lose 39 = .ok (.aload_n 0, 1) := by decide +kernel
theorem dX10_lose_40 : decode cX10_lose 40 = .ok (.getfield 82, 3) := by decide +kernel
theorem dX10_lose_43 : decode cX10_lose 43 = .ok (.iload_n 1, 1) := by decide +kernel
theorem dX10_lose_44 : decode cX10_lose 44 = .ok (.invokevirtual 297, 3) := by decide +kernel
theorem dX10_lose_47 : decode cX10_lose 47 = .ok (.iload_n 2, 1) := by decide +kernel
theorem dX10_lose_48 : decode cX10_lose 48 = .ok (.ireturn, 1) := by decide +kernel
theorem dX10_lay_0 : decode cX10_lay 0 = .ok (.iload_n 1, 1) := by decide +kernel
theorem dX10_lay_1 : decode cX10_lay 1 = .ok (.invokestatic 220, 3) := by decide +kernel
theorem dX10_lay_4 : decode cX10_lay 4 = .ok (.ifCond .eq 10, 3) := by decide +kernel
theorem dX10_lay_7 : decode cX10_lay 7 = .ok (.iload_n 2, 1) := by decide +kernel
theorem dX10_lay_8 : decode cX10_lay 8 = .ok (.invokestatic 291, 3) := by decide +kernel
theorem dX10_lay_11 : decode cX10_lay 11 = .ok (.ifCond .ne 6, 3) := by decide +kernel
theorem dX10_lay_14 : decode cX10_lay 14 = .ok (.bipush (-2), 2) := by decide +kernel
theorem dX10_lay_16 : decode cX10_lay 16 = .ok (.ireturn, 1) := by decide +kernel
theorem dX10_lay_17 : decode cX10_lay 17 = .ok (.aload_n 0, 1) := by decide +kernel
theorem dX10_lay_18 : decode cX10_lay 18 = .ok (.getfield 82, 3) := by decide +kernel
theorem dX10_lay_21 : decode cX10_lay 21 = .ok (.iload_n 1, 1) := by decide +kernel
theorem dX10_lay_22 : decode cX10_lay 22 = .ok (.iload_n 2, 1) := by decide +kernel
theorem dX10_lay_23 : decode cX10_lay 23 = .ok (.iload_n 3, 1) := by decide +kernel
theorem dX10_lay_24 : decode cX10_lay 24 = .ok (.invokevirtual 300, 3) := by decide +kernel
theorem dX10_lay_27 : decode cX10_lay 27 = .ok (.istore 5, 2) := by decide +kernel
theorem dX10_lay_29 : decode cX10_lay 29 = .ok (.iload 5, 2) := by decide +kernel
theorem dX10_lay_31 : decode cX10_lay 31 = .ok (.ifCond .eq 13, 3) := by decide +kernel
theorem dX10_lay_34 : decode cX10_lay 34 = .ok (.aload_n 0, 1) := by decide +kernel
theorem dX10_lay_35 : decode cX10_lay 35 = .ok (.getfield 82, 3) := by decide +kernel
theorem dX10_lay_38 : decode cX10_lay 38 = .ok (.iload 5, 2) := by decide +kernel
theorem dX10_lay_40 : decode cX10_lay 40 = .ok (.invokevirtual 226, 3) := by decide +kernel
theorem dX10_lay_43 : decode cX10_lay 43 = .ok (.ireturn, 1) := by decide +kernel
theorem dX10_lay_44 : decode cX10_lay 44 = .ok (.aload_n 0, 1) := by decide +kernel
theorem dX10_lay_45 : decode cX10_lay 45 = .ok (.getfield 82, 3) := by decide +kernel
theorem dX10_lay_48 : decode cX10_lay 48 = .ok (.iload_n 1, 1) := by decide +kernel
theorem dX10_lay_49 : decode cX10_lay 49 = .ok (.iload_n 3, 1) := by decide +kernel
theorem dX10_lay_50 : decode cX10_lay 50 = .ok (.iload 4, 2) := by decide +kernel
theorem dX10_lay_52 : decode cX10_lay 52 = .ok (.invokevirtual 303, 3) := by decide +kernel
theorem dX10_lay_55 : decode cX10_lay 55 = .ok (.iconst 1, 1) := by decide +kernel
theorem dX10_lay_56 : decode cX10_lay 56 = .ok (.ireturn, 1) := by decide +kernel
theorem dX10_get_0 : decode cX10_get 0 = .ok (.iload_n 1, 1) := by decide +kernel
theorem dX10_get_1 : decode cX10_get 1 = .ok (.invokestatic 220, 3) := by decide +kernel
theorem dX10_get_4 : decode cX10_get 4 = .ok (.ifCond .eq 10, 3) := by decide +kernel
theorem dX10_get_7 : decode cX10_get 7 = .ok (.iload_n 2, 1) := by decide +kernel
theorem dX10_get_8 : decode cX10_get 8 = .ok (.invokestatic 291, 3) := by decide +kernel
theorem dX10_get_11 : decode cX10_get 11 = .ok (.ifCond .ne 7, 3) := by decide +kernel
theorem dX10_get_14 : decode cX10_get 14 = .ok (.ldc_w 306, 3) := by decide +kernel
theorem dX10_get_17 : decode cX10_get 17 = .ok (.ireturn, 1) := by decide +kernel
theorem dX10_get_18 : decode cX10_get 18 = .ok (.aload_n 0, 1) := by decide +kernel
theorem dX10_get_19 : decode cX10_get 19 = .ok (.getfield 82, 3) := by decide +kernel
theorem dX10_get_22 : decode cX10_get 22 = .ok (.iload_n 1, 1) := by decide +kernel
theorem dX10_get_23 : decode cX10_get 23 = .ok (.iload_n 2, 1) := by decide +kernel
theorem dX10_get_24 : decode cX10_get 24 = .ok (.iload_n 3, 1) := by decide +kernel
theorem dX10_get_25 : decode cX10_get 25 = .ok (.invokevirtual 300, 3) := by decide +kernel
theorem dX10_get_28 : decode cX10_get 28 = .ok (.istore 4, 2) := by decide +kernel
theorem dX10_get_30 : decode cX10_get 30 = .ok (.iload 4, 2) := by decide +kernel
theorem dX10_get_32 : decode cX10_get 32 = .ok (.ifCond .eq 17, 3) := by decide +kernel
theorem dX10_get_35 : decode cX10_get 35 = .ok (.aload_n 0, 1) := by decide +kernel
theorem dX10_get_36 : decode cX10_get 36 = .ok (.getfield 82, 3) := by decide +kernel
theorem dX10_get_39 : decode cX10_get 39 = .ok (.iload 4, 2) := by decide +kernel
theorem dX10_get_41 : decode cX10_get 41 = .ok (.invokevirtual 226, 3) := by decide +kernel
theorem dX10_get_44 : decode cX10_get 44 = .ok (.pop, 1) := by decide +kernel
theorem dX10_get_45 : decode cX10_get 45 = .ok (.ldc_w 306, 3) := by decide +kernel
theorem dX10_get_48 : decode cX10_get 48 = .ok (.ireturn, 1) := by decide +kernel
theorem dX10_get_49 : decode cX10_get 49 = .ok (.aload_n 0, 1) := by decide +kernel
theorem dX10_get_50 : decode cX10_get 50 = .ok (.getfield 82, 3) := by decide +kernel
theorem dX10_get_53 : decode cX10_get 53 = .ok (.iload_n 1, 1) := by decide +kernel
theorem dX10_get_54 : decode cX10_get 54 = .ok (.iload_n 3, 1) := by decide +kernel
theorem dX10_get_55 : decode cX10_get 55 = .ok (.invokevirtual 231, 3) := by decide +kernel
theorem dX10_get_58 : decode cX10_get 58 = .ok (.ireturn, 1) := by decide +kernel
theorem dX10_copy_0 : decode cX10_copy 0 = .ok (.iload_n 1, 1) := by decide +kernel
theorem dX10_copy_1 : decode cX10_copy 1 = .ok (.invokestatic 220, 3) := by decide +kernel
theorem dX10_copy_4 : decode cX10_copy 4 = .ok (.ifCond .eq 10, 3) := by decide +kernel
theorem dX10_copy_7 : decode cX10_copy 7 = .ok (.iload_n 3, 1) := by decide +kernel
theorem dX10_copy_8 : decode cX10_copy 8 = .ok (.invokestatic 220, 3) := by decide +kernel
theorem dX10_copy_11 : decode cX10_copy 11 = .ok (.ifCond .ne 6, 3) := by decide +kernel
theorem dX10_copy_14 : decode cX10_copy 14 = .ok (.bipush (-2), 2) := by decide +kernel
theorem dX10_copy_16 : decode cX10_copy 16 = .ok (.ireturn, 1) := by decide +kernel
theorem dX10_copy_17 : decode cX10_copy 17 = .ok (.aload_n 0, 1) := by decide +kernel
theorem dX10_copy_18 : decode cX10_copy 18 = .ok (.getfield 82, 3) := by decide +kernel
theorem dX10_copy_21 : decode cX10_copy 21 = .ok (.iload_n 1, 1) := by decide +kernel
theorem dX10_copy_22 : decode cX10_copy 22 = .ok (.iload_n 2, 1) := by decide +kernel
theorem dX10_copy_23 : decode cX10_copy 23 = .ok (.iload_n 3, 1) := by decide +kernel
theorem dX10_copy_24 : decode cX10_copy 24 = .ok (.iload 4, 2) := by decide +kernel
theorem dX10_copy_26 : decode cX10_copy 26 = .ok (.iload 5, 2) := by decide +kernel
theorem dX10_copy_28 : decode cX10_copy 28 = .ok (.invokevirtual 307, 3) := by decide +kernel
theorem dX10_copy_31 : decode cX10_copy 31 = .ok (.istore 6, 2) := by decide +kernel
theorem dX10_copy_33 : decode cX10_copy 33 = .ok (.iload 6, 2) := by decide +kernel
theorem dX10_copy_35 : decode cX10_copy 35 = .ok (.ifCond .eq 13, 3) := by decide +kernel
theorem dX10_copy_38 : decode cX10_copy 38 = .ok (.aload_n 0, 1) := by decide +kernel
theorem dX10_copy_39 : decode cX10_copy 39 = .ok (.getfield 82, 3) := by decide +kernel
theorem dX10_copy_42 : decode cX10_copy 42 = .ok (.iload 6, 2) := by decide +kernel
theorem dX10_copy_44 : decode cX10_copy 44 = .ok (.invokevirtual 226, 3) := by decide +kernel
theorem dX10_copy_47 : decode cX10_copy 47 = .ok (.ireturn, 1) := by decide +kernel
theorem dX10_copy_48 : decode cX10_copy 48 = .ok (.aload_n 0, 1) := by decide +kernel
theorem dX10_copy_49 : decode cX10_copy 49 = .ok (.getfield 82, 3) := by decide +kernel
theorem dX10_copy_52 : decode cX10_copy 52 = .ok (.iload_n 1, 1) := by decide +kernel
theorem dX10_copy_53 : decode cX10_copy 53 = .ok (.iload_n 2, 1) := by decide +kernel
theorem dX10_copy_54 : decode cX10_copy 54 = .ok (.iload_n 3, 1) := by decide +kernel
theorem dX10_copy_55 : decode cX10_copy 55 = .ok (.iload 4, 2) := by decide +kernel
theorem dX10_copy_57 : decode cX10_copy 57 = .ok (.iload 5, 2) := by decide +kernel
theorem dX10_copy_59 : decode cX10_copy 59 = .ok (.invokevirtual 311, 3) := by decide +kernel
theorem dX10_copy_62 : decode cX10_copy 62 = .ok (.iconst 1, 1) := by decide +kernel
theorem dX10_copy_63 : decode cX10_copy 63 = .ok (.ireturn, 1) := by decide +kernel
theorem dX10_write_0 : decode cX10_write 0 = .ok (.iload_n 1, 1) := by decide +kernel
theorem dX10_write_1 : decode cX10_write 1 = .ok (.invokestatic 139, 3) := by decide +kernel
theorem dX10_write_4 : decode cX10_write 4 = .ok (.ifCond .eq 10, 3) := by decide +kernel
theorem dX10_write_7 : decode cX10_write 7 = .ok (.iload_n 2, 1) := by decide +kernel
theorem dX10_write_8 : decode cX10_write 8 = .ok (.invokestatic 220, 3) := by decide +kernel
theorem dX10_write_11 : decode cX10_write 11 = .ok (.ifCond .ne 6, 3) := by decide +kernel
theorem dX10_write_14 : decode cX10_write 14 = .ok (.bipush (-2), 2) := by decide +kernel
theorem dX10_write_16 : decode cX10_write 16 = .ok (.ireturn, 1) := by decide +kernel
theorem dX10_write_17 : decode cX10_write 17 = .ok (.aload_n 0, 1) := by decide +kernel
theorem dX10_write_18 : decode cX10_write 18 = .ok (.getfield 82, 3) := by decide +kernel
theorem dX10_write_21 : decode cX10_write 21 = .ok (.iload_n 2, 1) := by decide +kernel
theorem dX10_write_22 : decode cX10_write 22 = .ok (.invokevirtual 223, 3) := by decide +kernel
theorem dX10_write_25 : decode cX10_write 25 = .ok (.ifCond .eq 12, 3) := by decide +kernel
theorem dX10_write_28 : decode cX10_write 28 = .ok (.aload_n 0, 1) := by decide +kernel
theorem dX10_write_29 : decode cX10_write 29 = .ok (.getfield 82, 3) := by decide +kernel
theorem dX10_write_32 : decode cX10_write 32 = .ok (.iconst 1, 1) := by decide +kernel
theorem dX10_write_33 : decode cX10_write 33 = .ok (.invokevirtual 226, 3) := by decide +kernel
theorem dX10_write_36 : decode cX10_write 36 = .ok (.ireturn, 1) := by decide +kernel
theorem dX10_write_37 : decode cX10_write 37 = .ok (.aload_n 0, 1) := by decide +kernel
theorem dX10_write_38 : decode cX10_write 38 = .ok (.iload_n 1, 1) := by decide +kernel
theorem dX10_write_39 : decode cX10_write 39 = .ok (.aload_n 0, 1) := by decide +kernel
theorem dX10_write_40 : decode cX10_write 40 = .ok (.getfield 25, 3) := by decide +kernel
theorem dX10_write_43 : decode cX10_write 43 = .ok (.invokevirtual 142, 3) := by decide +kernel
theorem dX10_write_46 : decode cX10_write 46 = .ok (.aload_n 0, 1) := by decide +kernel
theorem dX10_write_47 : decode cX10_write 47 = .ok (.getfield 25, 3) := by decide +kernel
theorem dX10_write_50 : decode cX10_write 50 = .ok (.invokevirtual 146, 3) := by decide +kernel
theorem dX10_write_53 : decode cX10_write 53 = .ok (.aload_n 0, 1) := by decide +kernel
theorem dX10_write_54 : decode cX10_write 54 = .ok (.getfield 82, 3) := by decide +kernel
theorem dX10_write_57 : decode cX10_write 57 = .ok (.iload_n 2, 1) := by decide +kernel
theorem dX10_write_58 : decode cX10_write 58 = .ok (.invokevirtual 229, 3) := by decide +kernel
theorem dX10_write_61 : decode cX10_write 61 = .ok (.invokestatic 315, 3) := by decide +kernel
theorem dX10_write_64 : decode cX10_write 64 = .ok (.istore_n 3, 1) := by decide +kernel
theorem dX10_write_65 : decode cX10_write 65 = .ok (.iconst 0, 1) := by decide +kernel
theorem dX10_write_66 : decode cX10_write 66 = .ok (.istore 4, 2) := by decide +kernel
theorem dX10_write_68 : decode cX10_write 68 = .ok (.iload 4, 2) := by decide +kernel
theorem dX10_write_70 : decode cX10_write 70 = .ok (.iload_n 3, 1) := by decide +kernel
theorem dX10_write_71 : decode cX10_write 71 = .ok (.if_icmp .ge 31, 3) := by decide +kernel
theorem dX10_write_74 : decode cX10_write 74 = .ok (.aload_n 0, 1) := by decide +kernel
theorem dX10_write_75 : decode cX10_write 75 = .ok (.getfield 82, 3) := by decide +kernel
theorem dX10_write_78 : decode cX10_write 78 = .ok (.iload_n 2, 1) := by decide +kernel
theorem dX10_write_79 : decode cX10_write 79 = .ok (.iload 4, 2) := by decide +kernel
theorem dX10_write_81 : decode cX10_write 81 = .ok (.aload_n 0, 1) := by decide +kernel
theorem dX10_write_82 : decode cX10_write 82 = .ok (.getfield 25, 3) := by decide +kernel
theorem dX10_write_85 : decode cX10_write 85 = .ok (.iload 4, 2) := by decide +kernel
theorem dX10_write_87 : decode cX10_write 87 = .ok (.invokevirtual 147, 3) := by decide +kernel
theorem dX10_write_90 : decode cX10_write 90 = .ok (.invokestatic 150, 3) := by decide +kernel
theorem dX10_write_93 : decode cX10_write 93 = .ok (.invokevirtual 303, 3) := by decide +kernel
theorem dX10_write_96 : decode cX10_write 96 = .ok (.iinc 4 1, 3) := by decide +kernel
theorem dX10_write_99 : decode cX10_write 99 = .ok (.goto (-31), 3) := by decide +kernel
theorem dX10_write_102 : decode cX10_write 102 = .ok (.iload_n 3, 1) := by decide +kernel
theorem dX10_write_103 : decode cX10_write 103 = .ok (.ireturn, 1) := by decide +kernel
theorem dX10_count_0 : decode cX10_count 0 = .ok (.iload_n 1, 1) := by decide +kernel
theorem dX10_count_1 : decode cX10_count 1 = .ok (.ifCond .lt 9, 3) := by decide +kernel
theorem dX10_count_4 : decode cX10_count 4 = .ok (.iload_n 1, 1) := by decide +kernel
theorem dX10_count_5 : decode cX10_count 5 = .ok (.bipush 8, 2) := by decide +kernel
theorem dX10_count_7 : decode cX10_count 7 = .ok (.if_icmp .le 6, 3) := by decide +kernel
theorem dX10_count_10 : decode cX10_count 10 = .ok (.bipush (-2), 2) := by decide +kernel
theorem dX10_count_12 : decode cX10_count 12 = .ok (.ireturn, 1) := by decide +kernel
theorem dX10_count_13 : decode cX10_count 13 = .ok (.iload_n 1, 1) := by decide +kernel
theorem dX10_count_14 : decode cX10_count 14 = .ok (.tableswitch 90 0 8 #[50, 58, 90, 90, 90, 90, 66, 74, 82], 50) := by decide +kernel
theorem dX10_count_64 : decode cX10_count 64 = .ok (.aload_n 0, 1) := by decide +kernel
theorem dX10_count_65 : decode cX10_count 65 = .ok (.getfield 12, 3) := by decide +kernel
theorem dX10_count_68 : decode cX10_count 68 = .ok (.invokevirtual 320, 3) := by decide +kernel
theorem dX10_count_71 : decode cX10_count 71 = .ok (.ireturn, 1) := by decide +kernel
theorem dX10_count_72 : decode cX10_count 72 = .ok (.aload_n 0, 1) := by decide +kernel
theorem dX10_count_73 : decode cX10_count 73 = .ok (.getfield 12, 3) := by decide +kernel
theorem dX10_count_76 : decode cX10_count 76 = .ok (.invokevirtual 323, 3) := by decide +kernel
theorem dX10_count_79 : decode cX10_count 79 = .ok (.ireturn, 1) := by decide +kernel
theorem dX10_count_80 : decode cX10_count 80 = .ok (.aload_n 0, 1) := by decide +kernel
theorem dX10_count_81 : decode cX10_count 81 = .ok (.getfield 65, 3) := by decide +kernel
theorem dX10_count_84 : decode cX10_count 84 = .ok (.invokevirtual 219, 3) := by decide +kernel
theorem dX10_count_87 : decode cX10_count 87 = .ok (.ireturn, 1) := by decide +kernel
theorem dX10_count_88 : decode cX10_count 88 = .ok (.aload_n 0, 1) := by decide +kernel
theorem dX10_count_89 : decode cX10_count 89 = .ok (.getfield 65, 3) := by decide +kernel
theorem dX10_count_92 : decode cX10_count 92 = .ok (.invokevirtual 326, 3) := by decide +kernel
theorem dX10_count_95 : decode cX10_count 95 = .ok (.ireturn, 1) := by decide +kernel
theorem dX10_count_96 : decode cX10_count 96 = .ok (.aload_n 0, 1) := by decide +kernel
theorem dX10_count_97 : decode cX10_count 97 = .ok (.getfield 82, 3) := by decide +kernel
theorem dX10_count_100 : decode cX10_count 100 = .ok (.invokevirtual 329, 3) := by decide +kernel
theorem dX10_count_103 : decode cX10_count 103 = .ok (.ireturn, 1) := by decide +kernel
theorem dX10_count_104 : decode cX10_count 104 = .ok (.aload_n 0, 1) := by decide +kernel
theorem dX10_count_105 : decode cX10_count 105 = .ok (.getfield 18, 3) := by decide +kernel
theorem dX10_count_108 : decode cX10_count 108 = .ok (.iload_n 1, 1) := by decide +kernel
theorem dX10_count_109 : decode cX10_count 109 = .ok (.iconst 2, 1) := by decide +kernel
theorem dX10_count_110 : decode cX10_count 110 = .ok (.isub, 1) := by decide +kernel
theorem dX10_count_111 : decode cX10_count 111 = .ok (.aaload, 1) := by decide +kernel
theorem dX10_count_112 : decode cX10_count 112 = .ok (.invokevirtual 103, 3) := by decide +kernel
theorem dX10_count_115 : decode cX10_count 115 = .ok (.ireturn, 1) := by decide +kernel
theorem dX10_digest_0 : decode cX10_digest 0 = .ok (.ldc2_w 332, 3) := by decide +kernel
theorem dX10_digest_3 : decode cX10_digest 3 = .ok (.lstore_n 1, 1) := by decide +kernel
theorem dX10_digest_4 : decode cX10_digest 4 = .ok (.iconst 0, 1) := by decide +kernel
theorem dX10_digest_5 : decode cX10_digest 5 = .ok (.istore_n 3, 1) := by decide +kernel
theorem dX10_digest_6 : decode cX10_digest 6 = .ok (.iload_n 3, 1) := by decide +kernel
theorem dX10_digest_7 : decode cX10_digest 7 = .ok (.bipush 7, 2) := by decide +kernel
theorem dX10_digest_9 : decode cX10_digest 9 = .ok (.if_icmp .gt 22, 3) := by decide +kernel
theorem dX10_digest_12 : decode cX10_digest 12 = .ok (.ldc2_w 334, 3) := by decide +kernel
theorem dX10_digest_15 : decode cX10_digest 15 = .ok (.lload_n 1, 1) := by decide +kernel
theorem dX10_digest_16 : decode cX10_digest 16 = .ok (.lmul, 1) := by decide +kernel
theorem dX10_digest_17 : decode cX10_digest 17 = .ok (.aload_n 0, 1) := by decide +kernel
theorem dX10_digest_18 : decode cX10_digest 18 = .ok (.iload_n 3, 1) := by decide +kernel
theorem dX10_digest_19 : decode cX10_digest 19 = .ok (.invokevirtual 336, 3) := by decide +kernel
theorem dX10_digest_22 : decode cX10_digest 22 = .ok (.i2l, 1) := by decide +kernel
theorem dX10_digest_23 : decode cX10_digest 23 = .ok (.ladd, 1) := by decide +kernel
theorem dX10_digest_24 : decode cX10_digest 24 = .ok (.lstore_n 1, 1) := by decide +kernel
theorem dX10_digest_25 : decode cX10_digest 25 = .ok (.iinc 3 1, 3) := by decide +kernel
theorem dX10_digest_28 : decode cX10_digest 28 = .ok (.goto (-22), 3) := by decide +kernel
theorem dX10_digest_31 : decode cX10_digest 31 = .ok (.iconst 0, 1) := by decide +kernel
theorem dX10_digest_32 : decode cX10_digest 32 = .ok (.istore_n 3, 1) := by decide +kernel
theorem dX10_digest_33 : decode cX10_digest 33 = .ok (.iload_n 3, 1) := by decide +kernel
theorem dX10_digest_34 : decode cX10_digest 34 = .ok (.iconst 4, 1) := by decide +kernel
theorem dX10_digest_35 : decode cX10_digest 35 = .ok (.if_icmp .ge 22, 3) := by decide +kernel
theorem dX10_digest_38 : decode cX10_digest 38 = .ok (.ldc2_w 334, 3) := by decide +kernel
theorem dX10_digest_41 : decode cX10_digest 41 = .ok (.lload_n 1, 1) := by decide +kernel
theorem dX10_digest_42 : decode cX10_digest 42 = .ok (.lmul, 1) := by decide +kernel
theorem dX10_digest_43 : decode cX10_digest 43 = .ok (.aload_n 0, 1) := by decide +kernel
theorem dX10_digest_44 : decode cX10_digest 44 = .ok (.iload_n 3, 1) := by decide +kernel
theorem dX10_digest_45 : decode cX10_digest 45 = .ok (.invokevirtual 339, 3) := by decide +kernel
theorem dX10_digest_48 : decode cX10_digest 48 = .ok (.i2l, 1) := by decide +kernel
theorem dX10_digest_49 : decode cX10_digest 49 = .ok (.ladd, 1) := by decide +kernel
theorem dX10_digest_50 : decode cX10_digest 50 = .ok (.lstore_n 1, 1) := by decide +kernel
theorem dX10_digest_51 : decode cX10_digest 51 = .ok (.iinc 3 1, 3) := by decide +kernel
theorem dX10_digest_54 : decode cX10_digest 54 = .ok (.goto (-21), 3) := by decide +kernel
theorem dX10_digest_57 : decode cX10_digest 57 = .ok (.ldc2_w 334, 3) := by decide +kernel
theorem dX10_digest_60 : decode cX10_digest 60 = .ok (.lload_n 1, 1) := by decide +kernel
theorem dX10_digest_61 : decode cX10_digest 61 = .ok (.lmul, 1) := by decide +kernel
theorem dX10_digest_62 : decode cX10_digest 62 = .ok (.aload_n 0, 1) := by decide +kernel
theorem dX10_digest_63 : decode cX10_digest 63 = .ok (.invokevirtual 342, 3) := by decide +kernel
theorem dX10_digest_66 : decode cX10_digest 66 = .ok (.i2l, 1) := by decide +kernel
theorem dX10_digest_67 : decode cX10_digest 67 = .ok (.ladd, 1) := by decide +kernel
theorem dX10_digest_68 : decode cX10_digest 68 = .ok (.lstore_n 1, 1) := by decide +kernel
theorem dX10_digest_69 : decode cX10_digest 69 = .ok (.iconst 0, 1) := by decide +kernel
theorem dX10_digest_70 : decode cX10_digest 70 = .ok (.istore_n 3, 1) := by decide +kernel
theorem dX10_digest_71 : decode cX10_digest 71 = .ok (.iload_n 3, 1) := by decide +kernel
theorem dX10_digest_72 : decode cX10_digest 72 = .ok (.aload_n 0, 1) := by decide +kernel
theorem dX10_digest_73 : decode cX10_digest 73 = .ok (.getfield 12, 3) := by decide +kernel
theorem dX10_digest_76 : decode cX10_digest 76 = .ok (.invokevirtual 320, 3) := by decide +kernel
theorem dX10_digest_79 : decode cX10_digest 79 = .ok (.if_icmp .ge 16, 3) := by decide +kernel
theorem dX10_digest_82 : decode cX10_digest 82 = .ok (.aload_n 0, 1) := by decide +kernel
theorem dX10_digest_83 : decode cX10_digest 83 = .ok (.lload_n 1, 1) := by decide +kernel
theorem dX10_digest_84 : decode cX10_digest 84 = .ok (.iload_n 3, 1) := by decide +kernel
theorem dX10_digest_85 : decode cX10_digest 85 = .ok (.invokevirtual 345, 3) := by decide +kernel
theorem dX10_digest_88 : decode cX10_digest 88 = .ok (.lstore_n 1, 1) := by decide +kernel
theorem dX10_digest_89 : decode cX10_digest 89 = .ok (.iinc 3 1, 3) := by decide +kernel
theorem dX10_digest_92 : decode cX10_digest 92 = .ok (.goto (-21), 3) := by decide +kernel
theorem dX10_digest_95 : decode cX10_digest 95 = .ok (.iconst 1, 1) := by decide +kernel
theorem dX10_digest_96 : decode cX10_digest 96 = .ok (.istore_n 3, 1) := by decide +kernel
theorem dX10_digest_97 : decode cX10_digest 97 = .ok (.iload_n 3, 1) := by decide +kernel
theorem dX10_digest_98 : decode cX10_digest 98 = .ok (.iconst 4, 1) := by decide +kernel
theorem dX10_digest_99 : decode cX10_digest 99 = .ok (.if_icmp .ge 16, 3) := by decide +kernel
theorem dX10_digest_102 : decode cX10_digest 102 = .ok (.aload_n 0, 1) := by decide +kernel
theorem dX10_digest_103 : decode cX10_digest 103 = .ok (.lload_n 1, 1) := by decide +kernel
theorem dX10_digest_104 : decode cX10_digest 104 = .ok (.iload_n 3, 1) := by decide +kernel
theorem dX10_digest_105 : decode cX10_digest 105 = .ok (.invokevirtual 349, 3) := by decide +kernel
theorem dX10_digest_108 : decode cX10_digest 108 = .ok (.lstore_n 1, 1) := by decide +kernel
theorem dX10_digest_109 : decode cX10_digest 109 = .ok (.iinc 3 1, 3) := by decide +kernel
theorem dX10_digest_112 : decode cX10_digest 112 = .ok (.goto (-15), 3) := by decide +kernel
theorem dX10_digest_115 : decode cX10_digest 115 = .ok (.ldc2_w 334, 3) := by decide +kernel
theorem dX10_digest_118 : decode cX10_digest 118 = .ok (.lload_n 1, 1) := by decide +kernel
theorem dX10_digest_119 : decode cX10_digest 119 = .ok (.lmul, 1) := by decide +kernel
theorem dX10_digest_120 : decode cX10_digest 120 = .ok (.aload_n 0, 1) := by decide +kernel
theorem dX10_digest_121 : decode cX10_digest 121 = .ok (.iconst 1, 1) := by decide +kernel
theorem dX10_digest_122 : decode cX10_digest 122 = .ok (.iconst 2, 1) := by decide +kernel
theorem dX10_digest_123 : decode cX10_digest 123 = .ok (.invokevirtual 352, 3) := by decide +kernel
theorem dX10_digest_126 : decode cX10_digest 126 = .ok (.i2l, 1) := by decide +kernel
theorem dX10_digest_127 : decode cX10_digest 127 = .ok (.ladd, 1) := by decide +kernel
theorem dX10_digest_128 : decode cX10_digest 128 = .ok (.lstore_n 1, 1) := by decide +kernel
theorem dX10_digest_129 : decode cX10_digest 129 = .ok (.iconst 0, 1) := by decide +kernel
theorem dX10_digest_130 : decode cX10_digest 130 = .ok (.istore_n 3, 1) := by decide +kernel
theorem dX10_digest_131 : decode cX10_digest 131 = .ok (.iload_n 3, 1) := by decide +kernel
theorem dX10_digest_132 : decode cX10_digest 132 = .ok (.bipush 8, 2) := by decide +kernel
theorem dX10_digest_134 : decode cX10_digest 134 = .ok (.if_icmp .ge 16, 3) := by decide +kernel
theorem dX10_digest_137 : decode cX10_digest 137 = .ok (.aload_n 0, 1) := by decide +kernel
theorem dX10_digest_138 : decode cX10_digest 138 = .ok (.lload_n 1, 1) := by decide +kernel
theorem dX10_digest_139 : decode cX10_digest 139 = .ok (.iload_n 3, 1) := by decide +kernel
theorem dX10_digest_140 : decode cX10_digest 140 = .ok (.invokevirtual 355, 3) := by decide +kernel
theorem dX10_digest_143 : decode cX10_digest 143 = .ok (.lstore_n 1, 1) := by decide +kernel
theorem dX10_digest_144 : decode cX10_digest 144 = .ok (.iinc 3 1, 3) := by decide +kernel
theorem dX10_digest_147 : decode cX10_digest 147 = .ok (.goto (-16), 3) := by decide +kernel
theorem dX10_digest_150 : decode cX10_digest 150 = .ok (.ldc2_w 334, 3) := by decide +kernel
theorem dX10_digest_153 : decode cX10_digest 153 = .ok (.lload_n 1, 1) := by decide +kernel
theorem dX10_digest_154 : decode cX10_digest 154 = .ok (.lmul, 1) := by decide +kernel
theorem dX10_digest_155 : decode cX10_digest 155 = .ok (.aload_n 0, 1) := by decide +kernel
theorem dX10_digest_156 : decode cX10_digest 156 = .ok (.bipush 7, 2) := by decide +kernel
theorem dX10_digest_158 : decode cX10_digest 158 = .ok (.invokevirtual 358, 3) := by decide +kernel
theorem dX10_digest_161 : decode cX10_digest 161 = .ok (.i2l, 1) := by decide +kernel
theorem dX10_digest_162 : decode cX10_digest 162 = .ok (.ladd, 1) := by decide +kernel
theorem dX10_digest_163 : decode cX10_digest 163 = .ok (.lstore_n 1, 1) := by decide +kernel
theorem dX10_digest_164 : decode cX10_digest 164 = .ok (.ldc2_w 334, 3) := by decide +kernel
theorem dX10_digest_167 : decode cX10_digest 167 = .ok (.lload_n 1, 1) := by decide +kernel
theorem dX10_digest_168 : decode cX10_digest 168 = .ok (.lmul, 1) := by decide +kernel
theorem dX10_digest_169 : decode cX10_digest 169 = .ok (.aload_n 0, 1) := by decide +kernel
theorem dX10_digest_170 : decode cX10_digest 170 = .ok (.invokevirtual 361, 3) := by decide +kernel
theorem dX10_digest_173 : decode cX10_digest 173 = .ok (.i2l, 1) := by decide +kernel
theorem dX10_digest_174 : decode cX10_digest 174 = .ok (.ladd, 1) := by decide +kernel
theorem dX10_digest_175 : decode cX10_digest 175 = .ok (.lreturn, 1) := by decide +kernel
theorem dX10_digestGate_0 : decode cX10_digestGate 0 = .ok (.lload_n 1, 1) := by decide +kernel
theorem dX10_digestGate_1 : decode cX10_digestGate 1 = .ok (.lstore 4, 2) := by decide +kernel
theorem dX10_digestGate_3 : decode cX10_digestGate 3 = .ok (.iconst 0, 1) := by decide +kernel
theorem dX10_digestGate_4 : decode cX10_digestGate 4 = .ok (.istore 6, 2) := by decide +kernel
theorem dX10_digestGate_6 : decode cX10_digestGate 6 = .ok (.iload 6, 2) := by decide +kernel
theorem dX10_digestGate_8 : decode cX10_digestGate 8 = .ok (.iconst 3, 1) := by decide +kernel
theorem dX10_digestGate_9 : decode cX10_digestGate 9 = .ok (.if_icmp .gt 26, 3) := by decide +kernel
theorem dX10_digestGate_12 : decode cX10_digestGate 12 = .ok (.ldc2_w 334, 3) := by decide +kernel
theorem dX10_digestGate_15 : decode cX10_digestGate 15 = .ok (.lload 4, 2) := by decide +kernel
theorem dX10_digestGate_17 : decode cX10_digestGate 17 = .ok (.lmul, 1) := by decide +kernel
theorem dX10_digestGate_18 : decode cX10_digestGate 18 = .ok (.aload_n 0, 1) := by decide +kernel
theorem dX10_digestGate_19 : decode cX10_digestGate 19 = .ok (.iload_n 3, 1) := by decide +kernel
theorem dX10_digestGate_20 : decode cX10_digestGate 20 = .ok (.iload 6, 2) := by decide +kernel
theorem dX10_digestGate_22 : decode cX10_digestGate 22 = .ok (.invokevirtual 364, 3) := by decide +kernel
theorem dX10_digestGate_25 : decode cX10_digestGate 25 = .ok (.i2l, 1) := by decide +kernel
theorem dX10_digestGate_26 : decode cX10_digestGate 26 = .ok (.ladd, 1) := by decide +kernel
theorem dX10_digestGate_27 : decode cX10_digestGate 27 = .ok (.lstore 4, 2) := by decide +kernel
theorem dX10_digestGate_29 : decode cX10_digestGate 29 = .ok (.iinc 6 1, 3) := by decide +kernel
theorem dX10_digestGate_32 : decode cX10_digestGate 32 = .ok (.goto (-26), 3) := by decide +kernel
theorem dX10_digestGate_35 : decode cX10_digestGate 35 = .ok (.ldc2_w 334, 3) := by decide +kernel
theorem dX10_digestGate_38 : decode cX10_digestGate 38 = .ok (.lload 4, 2) := by decide +kernel
theorem dX10_digestGate_40 : decode cX10_digestGate 40 = .ok (.lmul, 1) := by decide +kernel
theorem dX10_digestGate_41 : decode cX10_digestGate 41 = .ok (.aload_n 0, 1) := by decide +kernel
theorem dX10_digestGate_42 : decode cX10_digestGate 42 = .ok (.iload_n 3, 1) := by decide +kernel
theorem dX10_digestGate_43 : decode cX10_digestGate 43 = .ok (.iconst 0, 1) := by decide +kernel
theorem dX10_digestGate_44 : decode cX10_digestGate 44 = .ok (.invokevirtual 367, 3) := by decide +kernel
theorem dX10_digestGate_47 : decode cX10_digestGate 47 = .ok (.i2l, 1) := by decide +kernel
theorem dX10_digestGate_48 : decode cX10_digestGate 48 = .ok (.ladd, 1) := by decide +kernel
theorem dX10_digestGate_49 : decode cX10_digestGate 49 = .ok (.lstore 4, 2) := by decide +kernel
theorem dX10_digestGate_51 : decode cX10_digestGate 51 = .ok (.ldc2_w 334, 3) := by decide +kernel
theorem dX10_digestGate_54 : decode cX10_digestGate 54 = .ok (.lload 4, 2) := by decide +kernel
theorem dX10_digestGate_56 : decode cX10_digestGate 56 = .ok (.lmul, 1) := by decide +kernel
theorem dX10_digestGate_57 : decode cX10_digestGate 57 = .ok (.aload_n 0, 1) := by decide +kernel
theorem dX10_digestGate_58 : decode cX10_digestGate 58 = .ok (.iload_n 3, 1) := by decide +kernel
theorem dX10_digestGate_59 : decode cX10_digestGate 59 = .ok (.iconst 1, 1) := by decide +kernel
theorem dX10_digestGate_60 : decode cX10_digestGate 60 = .ok (.invokevirtual 367, 3) := by decide +kernel
theorem dX10_digestGate_63 : decode cX10_digestGate 63 = .ok (.i2l, 1) := by decide +kernel
theorem dX10_digestGate_64 : decode cX10_digestGate 64 = .ok (.ladd, 1) := by decide +kernel
theorem dX10_digestGate_65 : decode cX10_digestGate 65 = .ok (.lreturn, 1) := by decide +kernel
theorem dX10_digestWay_0 : decode cX10_digestWay 0 = .ok (.aload_n 0, 1) := by decide +kernel
theorem dX10_digestWay_1 : decode cX10_digestWay 1 = .ok (.iload_n 3, 1) := by decide +kernel
theorem dX10_digestWay_2 : decode cX10_digestWay 2 = .ok (.iconst (-1), 1) := by decide +kernel
theorem dX10_digestWay_3 : decode cX10_digestWay 3 = .ok (.invokevirtual 370, 3) := by decide +kernel
theorem dX10_digestWay_6 : decode cX10_digestWay 6 = .ok (.istore 4, 2) := by decide +kernel
theorem dX10_digestWay_8 : decode cX10_digestWay 8 = .ok (.ldc2_w 334, 3) := by decide +kernel
theorem dX10_digestWay_11 : decode cX10_digestWay 11 = .ok (.lload_n 1, 1) := by decide +kernel
theorem dX10_digestWay_12 : decode cX10_digestWay 12 = .ok (.lmul, 1) := by decide +kernel
theorem dX10_digestWay_13 : decode cX10_digestWay 13 = .ok (.iload 4, 2) := by decide +kernel
theorem dX10_digestWay_15 : decode cX10_digestWay 15 = .ok (.i2l, 1) := by decide +kernel
theorem dX10_digestWay_16 : decode cX10_digestWay 16 = .ok (.ladd, 1) := by decide +kernel
theorem dX10_digestWay_17 : decode cX10_digestWay 17 = .ok (.lstore 5, 2) := by decide +kernel
theorem dX10_digestWay_19 : decode cX10_digestWay 19 = .ok (.iconst 0, 1) := by decide +kernel
theorem dX10_digestWay_20 : decode cX10_digestWay 20 = .ok (.istore 7, 2) := by decide +kernel
theorem dX10_digestWay_22 : decode cX10_digestWay 22 = .ok (.iload 7, 2) := by decide +kernel
theorem dX10_digestWay_24 : decode cX10_digestWay 24 = .ok (.iload 4, 2) := by decide +kernel
theorem dX10_digestWay_26 : decode cX10_digestWay 26 = .ok (.if_icmp .ge 26, 3) := by decide +kernel
theorem dX10_digestWay_29 : decode cX10_digestWay 29 = .ok (.ldc2_w 334, 3) := by decide +kernel
theorem dX10_digestWay_32 : decode cX10_digestWay 32 = .ok (.lload 5, 2) := by decide +kernel
theorem dX10_digestWay_34 : decode cX10_digestWay 34 = .ok (.lmul, 1) := by decide +kernel
theorem dX10_digestWay_35 : decode cX10_digestWay 35 = .ok (.aload_n 0, 1) := by decide +kernel
theorem dX10_digestWay_36 : decode cX10_digestWay 36 = .ok (.iload_n 3, 1) := by decide +kernel
theorem dX10_digestWay_37 : decode cX10_digestWay 37 = .ok (.iload 7, 2) := by decide +kernel
theorem dX10_digestWay_39 : decode cX10_digestWay 39 = .ok (.invokevirtual 370, 3) := by decide +kernel
theorem dX10_digestWay_42 : decode cX10_digestWay 42 = .ok (.i2l, 1) := by decide +kernel
theorem dX10_digestWay_43 : decode cX10_digestWay 43 = .ok (.ladd, 1) := by decide +kernel
theorem dX10_digestWay_44 : decode cX10_digestWay 44 = .ok (.lstore 5, 2) := by decide +kernel
theorem dX10_digestWay_46 : decode cX10_digestWay 46 = .ok (.iinc 7 1, 3) := by decide +kernel
theorem dX10_digestWay_49 : decode cX10_digestWay 49 = .ok (.goto (-27), 3) := by decide +kernel
theorem dX10_digestWay_52 : decode cX10_digestWay 52 = .ok (.iconst 0, 1) := by decide +kernel
theorem dX10_digestWay_53 : decode cX10_digestWay 53 = .ok (.istore 7, 2) := by decide +kernel
theorem dX10_digestWay_55 : decode cX10_digestWay 55 = .ok (.iload 7, 2) := by decide +kernel
theorem dX10_digestWay_57 : decode cX10_digestWay 57 = .ok (.iconst 4, 1) := by decide +kernel
theorem dX10_digestWay_58 : decode cX10_digestWay 58 = .ok (.if_icmp .gt 28, 3) := by decide +kernel
theorem dX10_digestWay_61 : decode cX10_digestWay 61 = .ok (.ldc2_w 334, 3) := by decide +kernel
theorem dX10_digestWay_64 : decode cX10_digestWay 64 = .ok (.lload 5, 2) := by decide +kernel
theorem dX10_digestWay_66 : decode cX10_digestWay 66 = .ok (.lmul, 1) := by decide +kernel
theorem dX10_digestWay_67 : decode cX10_digestWay 67 = .ok (.aload_n 0, 1) := by decide +kernel
theorem dX10_digestWay_68 : decode cX10_digestWay 68 = .ok (.iload_n 3, 1) := by decide +kernel
theorem dX10_digestWay_69 : decode cX10_digestWay 69 = .ok (.iconst 0, 1) := by decide +kernel
theorem dX10_digestWay_70 : decode cX10_digestWay 70 = .ok (.iconst 0, 1) := by decide +kernel
theorem dX10_digestWay_71 : decode cX10_digestWay 71 = .ok (.iload 7, 2) := by decide +kernel
theorem dX10_digestWay_73 : decode cX10_digestWay 73 = .ok (.invokevirtual 373, 3) := by decide +kernel
theorem dX10_digestWay_76 : decode cX10_digestWay 76 = .ok (.i2l, 1) := by decide +kernel
theorem dX10_digestWay_77 : decode cX10_digestWay 77 = .ok (.ladd, 1) := by decide +kernel
theorem dX10_digestWay_78 : decode cX10_digestWay 78 = .ok (.lstore 5, 2) := by decide +kernel
theorem dX10_digestWay_80 : decode cX10_digestWay 80 = .ok (.iinc 7 1, 3) := by decide +kernel
theorem dX10_digestWay_83 : decode cX10_digestWay 83 = .ok (.goto (-28), 3) := by decide +kernel
theorem dX10_digestWay_86 : decode cX10_digestWay 86 = .ok (.ldc2_w 334, 3) := by decide +kernel
theorem dX10_digestWay_89 : decode cX10_digestWay 89 = .ok (.lload 5, 2) := by decide +kernel
theorem dX10_digestWay_91 : decode cX10_digestWay 91 = .ok (.lmul, 1) := by decide +kernel
theorem dX10_digestWay_92 : decode cX10_digestWay 92 = .ok (.aload_n 0, 1) := by decide +kernel
theorem dX10_digestWay_93 : decode cX10_digestWay 93 = .ok (.iload_n 3, 1) := by decide +kernel
theorem dX10_digestWay_94 : decode cX10_digestWay 94 = .ok (.iconst 0, 1) := by decide +kernel
theorem dX10_digestWay_95 : decode cX10_digestWay 95 = .ok (.invokevirtual 376, 3) := by decide +kernel
theorem dX10_digestWay_98 : decode cX10_digestWay 98 = .ok (.i2l, 1) := by decide +kernel
theorem dX10_digestWay_99 : decode cX10_digestWay 99 = .ok (.ladd, 1) := by decide +kernel
theorem dX10_digestWay_100 : decode cX10_digestWay 100 = .ok (.lstore 5, 2) := by decide +kernel
theorem dX10_digestWay_102 : decode cX10_digestWay 102 = .ok (.ldc2_w 334, 3) := by decide +kernel
theorem dX10_digestWay_105 : decode cX10_digestWay 105 = .ok (.lload 5, 2) := by decide +kernel
theorem dX10_digestWay_107 : decode cX10_digestWay 107 = .ok (.lmul, 1) := by decide +kernel
theorem dX10_digestWay_108 : decode cX10_digestWay 108 = .ok (.aload_n 0, 1) := by decide +kernel
theorem dX10_digestWay_109 : decode cX10_digestWay 109 = .ok (.iload_n 3, 1) := by decide +kernel
theorem dX10_digestWay_110 : decode cX10_digestWay 110 = .ok (.iconst 1, 1) := by decide +kernel
theorem dX10_digestWay_111 : decode cX10_digestWay 111 = .ok (.invokevirtual 376, 3) := by decide +kernel
theorem dX10_digestWay_114 : decode cX10_digestWay 114 = .ok (.i2l, 1) := by decide +kernel
theorem dX10_digestWay_115 : decode cX10_digestWay 115 = .ok (.ladd, 1) := by decide +kernel
theorem dX10_digestWay_116 : decode cX10_digestWay 116 = .ok (.lstore 5, 2) := by decide +kernel
theorem dX10_digestWay_118 : decode cX10_digestWay 118 = .ok (.aload_n 0, 1) := by decide +kernel
theorem dX10_digestWay_119 : decode cX10_digestWay 119 = .ok (.iload_n 3, 1) := by decide +kernel
theorem dX10_digestWay_120 : decode cX10_digestWay 120 = .ok (.iconst 0, 1) := by decide +kernel
theorem dX10_digestWay_121 : decode cX10_digestWay 121 = .ok (.iconst 0, 1) := by decide +kernel
theorem dX10_digestWay_122 : decode cX10_digestWay 122 = .ok (.iconst 1, 1) := by decide +kernel
theorem dX10_digestWay_123 : decode cX10_digestWay 123 = .ok (.invokevirtual 373, 3) := by decide +kernel
theorem dX10_digestWay_126 : decode cX10_digestWay 126 = .ok (.istore 7, 2) := by decide +kernel
theorem dX10_digestWay_128 : decode cX10_digestWay 128 = .ok (.ldc2_w 334, 3) := by decide +kernel
theorem dX10_digestWay_131 : decode cX10_digestWay 131 = .ok (.lload 5, 2) := by decide +kernel
theorem dX10_digestWay_133 : decode cX10_digestWay 133 = .ok (.lmul, 1) := by decide +kernel
theorem dX10_digestWay_134 : decode cX10_digestWay 134 = .ok (.aload_n 0, 1) := by decide +kernel
theorem dX10_digestWay_135 : decode cX10_digestWay 135 = .ok (.iconst 0, 1) := by decide +kernel
theorem dX10_digestWay_136 : decode cX10_digestWay 136 = .ok (.iconst 0, 1) := by decide +kernel
theorem dX10_digestWay_137 : decode cX10_digestWay 137 = .ok (.iload 7, 2) := by decide +kernel
theorem dX10_digestWay_139 : decode cX10_digestWay 139 = .ok (.iload_n 3, 1) := by decide +kernel
theorem dX10_digestWay_140 : decode cX10_digestWay 140 = .ok (.iconst 0, 1) := by decide +kernel
theorem dX10_digestWay_141 : decode cX10_digestWay 141 = .ok (.invokevirtual 379, 3) := by decide +kernel
theorem dX10_digestWay_144 : decode cX10_digestWay 144 = .ok (.ladd, 1) := by decide +kernel
theorem dX10_digestWay_145 : decode cX10_digestWay 145 = .ok (.lstore 5, 2) := by decide +kernel
theorem dX10_digestWay_147 : decode cX10_digestWay 147 = .ok (.ldc2_w 334, 3) := by decide +kernel
theorem dX10_digestWay_150 : decode cX10_digestWay 150 = .ok (.lload 5, 2) := by decide +kernel
theorem dX10_digestWay_152 : decode cX10_digestWay 152 = .ok (.lmul, 1) := by decide +kernel
theorem dX10_digestWay_153 : decode cX10_digestWay 153 = .ok (.aload_n 0, 1) := by decide +kernel
theorem dX10_digestWay_154 : decode cX10_digestWay 154 = .ok (.iconst 0, 1) := by decide +kernel
theorem dX10_digestWay_155 : decode cX10_digestWay 155 = .ok (.iconst 0, 1) := by decide +kernel
theorem dX10_digestWay_156 : decode cX10_digestWay 156 = .ok (.iload 7, 2) := by decide +kernel
theorem dX10_digestWay_158 : decode cX10_digestWay 158 = .ok (.iload_n 3, 1) := by decide +kernel
theorem dX10_digestWay_159 : decode cX10_digestWay 159 = .ok (.iconst 1, 1) := by decide +kernel
theorem dX10_digestWay_160 : decode cX10_digestWay 160 = .ok (.invokevirtual 379, 3) := by decide +kernel
theorem dX10_digestWay_163 : decode cX10_digestWay 163 = .ok (.ladd, 1) := by decide +kernel
theorem dX10_digestWay_164 : decode cX10_digestWay 164 = .ok (.lstore 5, 2) := by decide +kernel
theorem dX10_digestWay_166 : decode cX10_digestWay 166 = .ok (.ldc2_w 334, 3) := by decide +kernel
theorem dX10_digestWay_169 : decode cX10_digestWay 169 = .ok (.lload 5, 2) := by decide +kernel
theorem dX10_digestWay_171 : decode cX10_digestWay 171 = .ok (.lmul, 1) := by decide +kernel
theorem dX10_digestWay_172 : decode cX10_digestWay 172 = .ok (.aload_n 0, 1) := by decide +kernel
theorem dX10_digestWay_173 : decode cX10_digestWay 173 = .ok (.iconst 0, 1) := by decide +kernel
theorem dX10_digestWay_174 : decode cX10_digestWay 174 = .ok (.iload_n 3, 1) := by decide +kernel
theorem dX10_digestWay_175 : decode cX10_digestWay 175 = .ok (.iload 7, 2) := by decide +kernel
theorem dX10_digestWay_177 : decode cX10_digestWay 177 = .ok (.bipush 6, 2) := by decide +kernel
theorem dX10_digestWay_179 : decode cX10_digestWay 179 = .ok (.invokevirtual 383, 3) := by decide +kernel
theorem dX10_digestWay_182 : decode cX10_digestWay 182 = .ok (.ladd, 1) := by decide +kernel
theorem dX10_digestWay_183 : decode cX10_digestWay 183 = .ok (.lreturn, 1) := by decide +kernel
theorem dX10_digestTown_0 : decode cX10_digestTown 0 = .ok (.ldc2_w 334, 3) := by decide +kernel
theorem dX10_digestTown_3 : decode cX10_digestTown 3 = .ok (.lload_n 1, 1) := by decide +kernel
theorem dX10_digestTown_4 : decode cX10_digestTown 4 = .ok (.lmul, 1) := by decide +kernel
theorem dX10_digestTown_5 : decode cX10_digestTown 5 = .ok (.aload_n 0, 1) := by decide +kernel
theorem dX10_digestTown_6 : decode cX10_digestTown 6 = .ok (.iload_n 3, 1) := by decide +kernel
theorem dX10_digestTown_7 : decode cX10_digestTown 7 = .ok (.invokevirtual 387, 3) := by decide +kernel
theorem dX10_digestTown_10 : decode cX10_digestTown 10 = .ok (.i2l, 1) := by decide +kernel
theorem dX10_digestTown_11 : decode cX10_digestTown 11 = .ok (.ladd, 1) := by decide +kernel
theorem dX10_digestTown_12 : decode cX10_digestTown 12 = .ok (.lstore 4, 2) := by decide +kernel
theorem dX10_digestTown_14 : decode cX10_digestTown 14 = .ok (.ldc2_w 334, 3) := by decide +kernel
theorem dX10_digestTown_17 : decode cX10_digestTown 17 = .ok (.lload 4, 2) := by decide +kernel
theorem dX10_digestTown_19 : decode cX10_digestTown 19 = .ok (.lmul, 1) := by decide +kernel
theorem dX10_digestTown_20 : decode cX10_digestTown 20 = .ok (.aload_n 0, 1) := by decide +kernel
theorem dX10_digestTown_21 : decode cX10_digestTown 21 = .ok (.iconst 0, 1) := by decide +kernel
theorem dX10_digestTown_22 : decode cX10_digestTown 22 = .ok (.iload_n 3, 1) := by decide +kernel
theorem dX10_digestTown_23 : decode cX10_digestTown 23 = .ok (.invokevirtual 390, 3) := by decide +kernel
theorem dX10_digestTown_26 : decode cX10_digestTown 26 = .ok (.i2l, 1) := by decide +kernel
theorem dX10_digestTown_27 : decode cX10_digestTown 27 = .ok (.ladd, 1) := by decide +kernel
theorem dX10_digestTown_28 : decode cX10_digestTown 28 = .ok (.lstore 4, 2) := by decide +kernel
theorem dX10_digestTown_30 : decode cX10_digestTown 30 = .ok (.ldc2_w 334, 3) := by decide +kernel
theorem dX10_digestTown_33 : decode cX10_digestTown 33 = .ok (.lload 4, 2) := by decide +kernel
theorem dX10_digestTown_35 : decode cX10_digestTown 35 = .ok (.lmul, 1) := by decide +kernel
theorem dX10_digestTown_36 : decode cX10_digestTown 36 = .ok (.aload_n 0, 1) := by decide +kernel
theorem dX10_digestTown_37 : decode cX10_digestTown 37 = .ok (.iconst 0, 1) := by decide +kernel
theorem dX10_digestTown_38 : decode cX10_digestTown 38 = .ok (.iconst 1, 1) := by decide +kernel
theorem dX10_digestTown_39 : decode cX10_digestTown 39 = .ok (.iload_n 3, 1) := by decide +kernel
theorem dX10_digestTown_40 : decode cX10_digestTown 40 = .ok (.ishl, 1) := by decide +kernel
theorem dX10_digestTown_41 : decode cX10_digestTown 41 = .ok (.iconst 0, 1) := by decide +kernel
theorem dX10_digestTown_42 : decode cX10_digestTown 42 = .ok (.invokevirtual 393, 3) := by decide +kernel
theorem dX10_digestTown_45 : decode cX10_digestTown 45 = .ok (.i2l, 1) := by decide +kernel
theorem dX10_digestTown_46 : decode cX10_digestTown 46 = .ok (.ladd, 1) := by decide +kernel
theorem dX10_digestTown_47 : decode cX10_digestTown 47 = .ok (.lstore 4, 2) := by decide +kernel
theorem dX10_digestTown_49 : decode cX10_digestTown 49 = .ok (.ldc2_w 334, 3) := by decide +kernel
theorem dX10_digestTown_52 : decode cX10_digestTown 52 = .ok (.lload 4, 2) := by decide +kernel
theorem dX10_digestTown_54 : decode cX10_digestTown 54 = .ok (.lmul, 1) := by decide +kernel
theorem dX10_digestTown_55 : decode cX10_digestTown 55 = .ok (.aload_n 0, 1) := by decide +kernel
theorem dX10_digestTown_56 : decode cX10_digestTown 56 = .ok (.iconst 0, 1) := by decide +kernel
theorem dX10_digestTown_57 : decode cX10_digestTown 57 = .ok (.iconst 1, 1) := by decide +kernel
theorem dX10_digestTown_58 : decode cX10_digestTown 58 = .ok (.iload_n 3, 1) := by decide +kernel
theorem dX10_digestTown_59 : decode cX10_digestTown 59 = .ok (.ishl, 1) := by decide +kernel
theorem dX10_digestTown_60 : decode cX10_digestTown 60 = .ok (.iconst 1, 1) := by decide +kernel
theorem dX10_digestTown_61 : decode cX10_digestTown 61 = .ok (.invokevirtual 393, 3) := by decide +kernel
theorem dX10_digestTown_64 : decode cX10_digestTown 64 = .ok (.i2l, 1) := by decide +kernel
theorem dX10_digestTown_65 : decode cX10_digestTown 65 = .ok (.ladd, 1) := by decide +kernel
theorem dX10_digestTown_66 : decode cX10_digestTown 66 = .ok (.lreturn, 1) := by decide +kernel
theorem dX10_isText_0 : decode cX10_isText 0 = .ok (.iload_n 0, 1) := by decide +kernel
theorem dX10_isText_1 : decode cX10_isText 1 = .ok (.ifCond .lt 12, 3) := by decide +kernel
theorem dX10_isText_4 : decode cX10_isText 4 = .ok (.iload_n 0, 1) := by decide +kernel
theorem dX10_isText_5 : decode cX10_isText 5 = .ok (.iconst 4, 1) := by decide +kernel
theorem dX10_isText_6 : decode cX10_isText 6 = .ok (.if_icmp .ge 7, 3) := by decide +kernel
theorem dX10_isText_9 : decode cX10_isText 9 = .ok (.iconst 1, 1) := by decide +kernel
theorem dX10_isText_10 : decode cX10_isText 10 = .ok (.goto 4, 3) := by decide +kernel
theorem dX10_isText_13 : decode cX10_isText 13 = .ok (.iconst 0, 1) := by decide +kernel
theorem dX10_isText_14 : decode cX10_isText 14 = .ok (.ireturn, 1) := by decide +kernel
theorem dX10_isWay_0 : decode cX10_isWay 0 = .ok (.iload_n 0, 1) := by decide +kernel
theorem dX10_isWay_1 : decode cX10_isWay 1 = .ok (.iconst 1, 1) := by decide +kernel
theorem dX10_isWay_2 : decode cX10_isWay 2 = .ok (.if_icmp .lt 12, 3) := by decide +kernel
theorem dX10_isWay_5 : decode cX10_isWay 5 = .ok (.iload_n 0, 1) := by decide +kernel
theorem dX10_isWay_6 : decode cX10_isWay 6 = .ok (.iconst 4, 1) := by decide +kernel
theorem dX10_isWay_7 : decode cX10_isWay 7 = .ok (.if_icmp .ge 7, 3) := by decide +kernel
theorem dX10_isWay_10 : decode cX10_isWay 10 = .ok (.iconst 1, 1) := by decide +kernel
theorem dX10_isWay_11 : decode cX10_isWay 11 = .ok (.goto 4, 3) := by decide +kernel
theorem dX10_isWay_14 : decode cX10_isWay 14 = .ok (.iconst 0, 1) := by decide +kernel
theorem dX10_isWay_15 : decode cX10_isWay 15 = .ok (.ireturn, 1) := by decide +kernel
theorem dX10_isWayOrClean_0 : decode cX10_isWayOrClean 0 = .ok (.iload_n 0, 1) := by decide +kernel
theorem dX10_isWayOrClean_1 : decode cX10_isWayOrClean 1 = .ok (.ifCond .lt 12, 3) := by decide +kernel
theorem dX10_isWayOrClean_4 : decode cX10_isWayOrClean 4 = .ok (.iload_n 0, 1) := by decide +kernel
theorem dX10_isWayOrClean_5 : decode cX10_isWayOrClean 5 = .ok (.iconst 4, 1) := by decide +kernel
theorem dX10_isWayOrClean_6 : decode cX10_isWayOrClean 6 = .ok (.if_icmp .ge 7, 3) := by decide +kernel
theorem dX10_isWayOrClean_9 : decode cX10_isWayOrClean 9 = .ok (.iconst 1, 1) := by decide +kernel
theorem dX10_isWayOrClean_10 : decode cX10_isWayOrClean 10 = .ok (.goto 4, 3) := by decide +kernel
theorem dX10_isWayOrClean_13 : decode cX10_isWayOrClean 13 = .ok (.iconst 0, 1) := by decide +kernel
theorem dX10_isWayOrClean_14 : decode cX10_isWayOrClean 14 = .ok (.ireturn, 1) := by decide +kernel
theorem dX10_isTown_0 : decode cX10_isTown 0 = .ok (.iload_n 0, 1) := by decide +kernel
theorem dX10_isTown_1 : decode cX10_isTown 1 = .ok (.ifCond .lt 13, 3) := by decide +kernel
theorem dX10_isTown_4 : decode cX10_isTown 4 = .ok (.iload_n 0, 1) := by decide +kernel
theorem dX10_isTown_5 : decode cX10_isTown 5 = .ok (.bipush 8, 2) := by decide +kernel
theorem dX10_isTown_7 : decode cX10_isTown 7 = .ok (.if_icmp .ge 7, 3) := by decide +kernel
theorem dX10_isTown_10 : decode cX10_isTown 10 = .ok (.iconst 1, 1) := by decide +kernel
theorem dX10_isTown_11 : decode cX10_isTown 11 = .ok (.goto 4, 3) := by decide +kernel
theorem dX10_isTown_14 : decode cX10_isTown 14 = .ok (.iconst 0, 1) := by decide +kernel
theorem dX10_isTown_15 : decode cX10_isTown 15 = .ok (.ireturn, 1) := by decide +kernel
theorem dX10_arePlaces_0 : decode cX10_arePlaces 0 = .ok (.iload_n 0, 1) := by decide +kernel
theorem dX10_arePlaces_1 : decode cX10_arePlaces 1 = .ok (.ifCond .lt 14, 3) := by decide +kernel
theorem dX10_arePlaces_4 : decode cX10_arePlaces 4 = .ok (.iload_n 0, 1) := by decide +kernel
theorem dX10_arePlaces_5 : decode cX10_arePlaces 5 = .ok (.sipush 2047, 3) := by decide +kernel
theorem dX10_arePlaces_8 : decode cX10_arePlaces 8 = .ok (.if_icmp .gt 7, 3) := by decide +kernel
theorem dX10_arePlaces_11 : decode cX10_arePlaces 11 = .ok (.iconst 1, 1) := by decide +kernel
theorem dX10_arePlaces_12 : decode cX10_arePlaces 12 = .ok (.goto 4, 3) := by decide +kernel
theorem dX10_arePlaces_15 : decode cX10_arePlaces 15 = .ok (.iconst 0, 1) := by decide +kernel
theorem dX10_arePlaces_16 : decode cX10_arePlaces 16 = .ok (.ireturn, 1) := by decide +kernel
theorem dX10_isSheet_0 : decode cX10_isSheet 0 = .ok (.iload_n 0, 1) := by decide +kernel
theorem dX10_isSheet_1 : decode cX10_isSheet 1 = .ok (.ifCond .lt 12, 3) := by decide +kernel
theorem dX10_isSheet_4 : decode cX10_isSheet 4 = .ok (.iload_n 0, 1) := by decide +kernel
theorem dX10_isSheet_5 : decode cX10_isSheet 5 = .ok (.iconst 4, 1) := by decide +kernel
theorem dX10_isSheet_6 : decode cX10_isSheet 6 = .ok (.if_icmp .ge 7, 3) := by decide +kernel
theorem dX10_isSheet_9 : decode cX10_isSheet 9 = .ok (.iconst 1, 1) := by decide +kernel
theorem dX10_isSheet_10 : decode cX10_isSheet 10 = .ok (.goto 4, 3) := by decide +kernel
theorem dX10_isSheet_13 : decode cX10_isSheet 13 = .ok (.iconst 0, 1) := by decide +kernel
theorem dX10_isSheet_14 : decode cX10_isSheet 14 = .ok (.ireturn, 1) := by decide +kernel
theorem dX10_isForm_0 : decode cX10_isForm 0 = .ok (.iload_n 0, 1) := by decide +kernel
theorem dX10_isForm_1 : decode cX10_isForm 1 = .ok (.ifCond .lt 12, 3) := by decide +kernel
theorem dX10_isForm_4 : decode cX10_isForm 4 = .ok (.iload_n 0, 1) := by decide +kernel
theorem dX10_isForm_5 : decode cX10_isForm 5 = .ok (.iconst 3, 1) := by decide +kernel
theorem dX10_isForm_6 : decode cX10_isForm 6 = .ok (.if_icmp .ge 7, 3) := by decide +kernel
theorem dX10_isForm_9 : decode cX10_isForm 9 = .ok (.iconst 1, 1) := by decide +kernel
theorem dX10_isForm_10 : decode cX10_isForm 10 = .ok (.goto 4, 3) := by decide +kernel
theorem dX10_isForm_13 : decode cX10_isForm 13 = .ok (.iconst 0, 1) := by decide +kernel
theorem dX10_isForm_14 : decode cX10_isForm 14 = .ok (.ireturn, 1) := by decide +kernel
theorem dX10_areEnds_0 : decode cX10_areEnds 0 = .ok (.iload_n 0, 1) := by decide +kernel
theorem dX10_areEnds_1 : decode cX10_areEnds 1 = .ok (.invokestatic 153, 3) := by decide +kernel
theorem dX10_areEnds_4 : decode cX10_areEnds 4 = .ok (.ifCond .eq 28, 3) := by decide +kernel
theorem dX10_areEnds_7 : decode cX10_areEnds 7 = .ok (.iload_n 1, 1) := by decide +kernel
theorem dX10_areEnds_8 : decode cX10_areEnds 8 = .ok (.invokestatic 156, 3) := by decide +kernel
theorem dX10_areEnds_11 : decode cX10_areEnds 11 = .ok (.ifCond .eq 21, 3) := by decide +kernel
theorem dX10_areEnds_14 : decode cX10_areEnds 14 = .ok (.iload_n 2, 1) := by decide +kernel
theorem dX10_areEnds_15 : decode cX10_areEnds 15 = .ok (.invokestatic 153, 3) := by decide +kernel
theorem dX10_areEnds_18 : decode cX10_areEnds 18 = .ok (.ifCond .eq 14, 3) := by decide +kernel
theorem dX10_areEnds_21 : decode cX10_areEnds 21 = .ok (.iload_n 3, 1) := by decide +kernel
theorem dX10_areEnds_22 : decode cX10_areEnds 22 = .ok (.invokestatic 156, 3) := by decide +kernel
theorem dX10_areEnds_25 : decode cX10_areEnds 25 = .ok (.ifCond .eq 7, 3) := by decide +kernel
theorem dX10_areEnds_28 : decode cX10_areEnds 28 = .ok (.iconst 1, 1) := by decide +kernel
theorem dX10_areEnds_29 : decode cX10_areEnds 29 = .ok (.goto 4, 3) := by decide +kernel
theorem dX10_areEnds_32 : decode cX10_areEnds 32 = .ok (.iconst 0, 1) := by decide +kernel
theorem dX10_areEnds_33 : decode cX10_areEnds 33 = .ok (.ireturn, 1) := by decide +kernel
theorem dX10_longRefusal_0 : decode cX10_longRefusal 0 = .ok (.ldc2_w 395, 3) := by decide +kernel
theorem dX10_longRefusal_3 : decode cX10_longRefusal 3 = .ok (.iload_n 0, 1) := by decide +kernel
theorem dX10_longRefusal_4 : decode cX10_longRefusal 4 = .ok (.i2l, 1) := by decide +kernel
theorem dX10_longRefusal_5 : decode cX10_longRefusal 5 = .ok (.lsub, 1) := by decide +kernel
theorem dX10_longRefusal_6 : decode cX10_longRefusal 6 = .ok (.lreturn, 1) := by decide +kernel
theorem dX10_byteOf_0 : decode cX10_byteOf 0 = .ok (.iload_n 0, 1) := by decide +kernel
theorem dX10_byteOf_1 : decode cX10_byteOf 1 = .ok (.iconst (-1), 1) := by decide +kernel
theorem dX10_byteOf_2 : decode cX10_byteOf 2 = .ok (.if_icmp .ne 5, 3) := by decide +kernel
theorem dX10_byteOf_5 : decode cX10_byteOf 5 = .ok (.iconst (-1), 1) := by decide +kernel
theorem dX10_byteOf_6 : decode cX10_byteOf 6 = .ok (.ireturn, 1) := by decide +kernel
theorem dX10_byteOf_7 : decode cX10_byteOf 7 = .ok (.iload_n 0, 1) := by decide +kernel
theorem dX10_byteOf_8 : decode cX10_byteOf 8 = .ok (.iconst 1, 1) := by decide +kernel
theorem dX10_byteOf_9 : decode cX10_byteOf 9 = .ok (.iand, 1) := by decide +kernel
theorem dX10_byteOf_10 : decode cX10_byteOf 10 = .ok (.ifCond .ne 8, 3) := by decide +kernel
theorem dX10_byteOf_13 : decode cX10_byteOf 13 = .ok (.bipush 97, 2) := by decide +kernel
theorem dX10_byteOf_15 : decode cX10_byteOf 15 = .ok (.goto 5, 3) := by decide +kernel
theorem dX10_byteOf_18 : decode cX10_byteOf 18 = .ok (.bipush 65, 2) := by decide +kernel
theorem dX10_byteOf_20 : decode cX10_byteOf 20 = .ok (.iload_n 0, 1) := by decide +kernel
theorem dX10_byteOf_21 : decode cX10_byteOf 21 = .ok (.iconst 1, 1) := by decide +kernel
theorem dX10_byteOf_22 : decode cX10_byteOf 22 = .ok (.ishr, 1) := by decide +kernel
theorem dX10_byteOf_23 : decode cX10_byteOf 23 = .ok (.iadd, 1) := by decide +kernel
theorem dX10_byteOf_24 : decode cX10_byteOf 24 = .ok (.ireturn, 1) := by decide +kernel
theorem dX10_learnIfLand_0 : decode cX10_learnIfLand 0 = .ok (.iload_n 1, 1) := by decide +kernel
theorem dX10_learnIfLand_1 : decode cX10_learnIfLand 1 = .ok (.ifCond .ne 16, 3) := by decide +kernel
theorem dX10_learnIfLand_4 : decode cX10_learnIfLand 4 = .ok (.aload_n 0, 1) := by decide +kernel
theorem dX10_learnIfLand_5 : decode cX10_learnIfLand 5 = .ok (.getfield 12, 3) := by decide +kernel
theorem dX10_learnIfLand_8 : decode cX10_learnIfLand 8 = .ok (.aload_n 0, 1) := by decide +kernel
theorem dX10_learnIfLand_9 : decode cX10_learnIfLand 9 = .ok (.getfield 18, 3) := by decide +kernel
theorem dX10_learnIfLand_12 : decode cX10_learnIfLand 12 = .ok (.iconst 0, 1) := by decide +kernel
theorem dX10_learnIfLand_13 : decode cX10_learnIfLand 13 = .ok (.aaload, 1) := by decide +kernel
theorem dX10_learnIfLand_14 : decode cX10_learnIfLand 14 = .ok (.invokevirtual 397, 3) := by decide +kernel
theorem dX10_learnIfLand_17 : decode cX10_learnIfLand 17 = .ok (.return_, 1) := by decide +kernel
theorem dX10_wayFault_0 : decode cX10_wayFault 0 = .ok (.iconst 0, 1) := by decide +kernel
theorem dX10_wayFault_1 : decode cX10_wayFault 1 = .ok (.istore_n 2, 1) := by decide +kernel
theorem dX10_wayFault_2 : decode cX10_wayFault 2 = .ok (.iload_n 2, 1) := by decide +kernel
theorem dX10_wayFault_3 : decode cX10_wayFault 3 = .ok (.aload_n 1, 1) := by decide +kernel
theorem dX10_wayFault_4 : decode cX10_wayFault 4 = .ok (.invokevirtual 103, 3) := by decide +kernel
theorem dX10_wayFault_7 : decode cX10_wayFault 7 = .ok (.if_icmp .ge 27, 3) := by decide +kernel
theorem dX10_wayFault_10 : decode cX10_wayFault 10 = .ok (.aload_n 0, 1) := by decide +kernel
theorem dX10_wayFault_11 : decode cX10_wayFault 11 = .ok (.getfield 12, 3) := by decide +kernel
theorem dX10_wayFault_14 : decode cX10_wayFault 14 = .ok (.aload_n 1, 1) := by decide +kernel
theorem dX10_wayFault_15 : decode cX10_wayFault 15 = .ok (.iload_n 2, 1) := by decide +kernel
theorem dX10_wayFault_16 : decode cX10_wayFault 16 = .ok (.invokevirtual 401, 3) := by decide +kernel
theorem dX10_wayFault_19 : decode cX10_wayFault 19 = .ok (.invokevirtual 234, 3) := by decide +kernel
theorem dX10_wayFault_22 : decode cX10_wayFault 22 = .ok (.iconst (-1), 1) := by decide +kernel
theorem dX10_wayFault_23 : decode cX10_wayFault 23 = .ok (.if_icmp .ne 5, 3) := by decide +kernel
theorem dX10_wayFault_26 : decode cX10_wayFault 26 = .ok (.iload_n 2, 1) := by decide +kernel
theorem dX10_wayFault_27 : decode cX10_wayFault 27 = .ok (.ireturn, 1) := by decide +kernel
theorem dX10_wayFault_28 : decode cX10_wayFault 28 = .ok (.iinc 2 1, 3) := by decide +kernel
theorem dX10_wayFault_31 : decode cX10_wayFault 31 = .ok (.goto (-29), 3) := by decide +kernel
theorem dX10_wayFault_34 : decode cX10_wayFault 34 = .ok (.iconst (-1), 1) := by decide +kernel
theorem dX10_wayFault_35 : decode cX10_wayFault 35 = .ok (.ireturn, 1) := by decide +kernel
theorem dX10_stampWay_0 : decode cX10_stampWay 0 = .ok (.aload_n 2, 1) := by decide +kernel
theorem dX10_stampWay_1 : decode cX10_stampWay 1 = .ok (.invokevirtual 200, 3) := by decide +kernel
theorem dX10_stampWay_4 : decode cX10_stampWay 4 = .ok (.iload_n 1, 1) := by decide +kernel
theorem dX10_stampWay_5 : decode cX10_stampWay 5 = .ok (.invokestatic 139, 3) := by decide +kernel
theorem dX10_stampWay_8 : decode cX10_stampWay 8 = .ok (.ifCond .eq 17, 3) := by decide +kernel
theorem dX10_stampWay_11 : decode cX10_stampWay 11 = .ok (.aload_n 0, 1) := by decide +kernel
theorem dX10_stampWay_12 : decode cX10_stampWay 12 = .ok (.aload_n 0, 1) := by decide +kernel
theorem dX10_stampWay_13 : decode cX10_stampWay 13 = .ok (.getfield 18, 3) := by decide +kernel
theorem dX10_stampWay_16 : decode cX10_stampWay 16 = .ok (.iload_n 1, 1) := by decide +kernel
theorem dX10_stampWay_17 : decode cX10_stampWay 17 = .ok (.aaload, 1) := by decide +kernel
theorem dX10_stampWay_18 : decode cX10_stampWay 18 = .ok (.invokevirtual 113, 3) := by decide +kernel
theorem dX10_stampWay_21 : decode cX10_stampWay 21 = .ok (.iconst (-1), 1) := by decide +kernel
theorem dX10_stampWay_22 : decode cX10_stampWay 22 = .ok (.if_icmp .eq 4, 3) := by decide +kernel
theorem dX10_stampWay_25 : decode cX10_stampWay 25 = .ok (.return_, 1) := by decide +kernel
theorem dX10_stampWay_26 : decode cX10_stampWay 26 = .ok (.iconst 0, 1) := by decide +kernel
theorem dX10_stampWay_27 : decode cX10_stampWay 27 = .ok (.istore_n 3, 1) := by decide +kernel
theorem dX10_stampWay_28 : decode cX10_stampWay 28 = .ok (.iload_n 3, 1) := by decide +kernel
theorem dX10_stampWay_29 : decode cX10_stampWay 29 = .ok (.aload_n 0, 1) := by decide +kernel
theorem dX10_stampWay_30 : decode cX10_stampWay 30 = .ok (.getfield 18, 3) := by decide +kernel
theorem dX10_stampWay_33 : decode cX10_stampWay 33 = .ok (.iload_n 1, 1) := by decide +kernel
theorem dX10_stampWay_34 : decode cX10_stampWay 34 = .ok (.aaload, 1) := by decide +kernel
theorem dX10_stampWay_35 : decode cX10_stampWay 35 = .ok (.invokevirtual 103, 3) := by decide +kernel
theorem dX10_stampWay_38 : decode cX10_stampWay 38 = .ok (.if_icmp .ge 46, 3) := by decide +kernel
theorem dX10_stampWay_41 : decode cX10_stampWay 41 = .ok (.aload_n 0, 1) := by decide +kernel
theorem dX10_stampWay_42 : decode cX10_stampWay 42 = .ok (.getfield 12, 3) := by decide +kernel
theorem dX10_stampWay_45 : decode cX10_stampWay 45 = .ok (.aload_n 0, 1) := by decide +kernel
theorem dX10_stampWay_46 : decode cX10_stampWay 46 = .ok (.getfield 18, 3) := by decide +kernel
theorem dX10_stampWay_49 : decode cX10_stampWay 49 = .ok (.iload_n 1, 1) := by decide +kernel
theorem dX10_stampWay_50 : decode cX10_stampWay 50 = .ok (.aaload, 1) := by decide +kernel
theorem dX10_stampWay_51 : decode cX10_stampWay 51 = .ok (.iload_n 3, 1) := by decide +kernel
theorem dX10_stampWay_52 : decode cX10_stampWay 52 = .ok (.invokevirtual 401, 3) := by decide +kernel
theorem dX10_stampWay_55 : decode cX10_stampWay 55 = .ok (.invokevirtual 234, 3) := by decide +kernel
theorem dX10_stampWay_58 : decode cX10_stampWay 58 = .ok (.istore 4, 2) := by decide +kernel
theorem dX10_stampWay_60 : decode cX10_stampWay 60 = .ok (.aload_n 0, 1) := by decide +kernel
theorem dX10_stampWay_61 : decode cX10_stampWay 61 = .ok (.getfield 12, 3) := by decide +kernel
theorem dX10_stampWay_64 : decode cX10_stampWay 64 = .ok (.iload 4, 2) := by decide +kernel
theorem dX10_stampWay_66 : decode cX10_stampWay 66 = .ok (.invokevirtual 127, 3) := by decide +kernel
theorem dX10_stampWay_69 : decode cX10_stampWay 69 = .ok (.ifCond .eq 9, 3) := by decide +kernel
theorem dX10_stampWay_72 : decode cX10_stampWay 72 = .ok (.aload_n 2, 1) := by decide +kernel
theorem dX10_stampWay_73 : decode cX10_stampWay 73 = .ok (.iload 4, 2) := by decide +kernel
theorem dX10_stampWay_75 : decode cX10_stampWay 75 = .ok (.invokevirtual 241, 3) := by decide +kernel
theorem dX10_stampWay_78 : decode cX10_stampWay 78 = .ok (.iinc 3 1, 3) := by decide +kernel
theorem dX10_stampWay_81 : decode cX10_stampWay 81 = .ok (.goto (-53), 3) := by decide +kernel
theorem dX10_stampWay_84 : decode cX10_stampWay 84 = .ok (.return_, 1) := by decide +kernel
theorem dX10_judgeWay_0 : decode cX10_judgeWay 0 = .ok (.aload_n 0, 1) := by decide +kernel
theorem dX10_judgeWay_1 : decode cX10_judgeWay 1 = .ok (.iload_n 3, 1) := by decide +kernel
theorem dX10_judgeWay_2 : decode cX10_judgeWay 2 = .ok (.aload_n 0, 1) := by decide +kernel
theorem dX10_judgeWay_3 : decode cX10_judgeWay 3 = .ok (.getfield 37, 3) := by decide +kernel
theorem dX10_judgeWay_6 : decode cX10_judgeWay 6 = .ok (.invokevirtual 402, 3) := by decide +kernel
theorem dX10_judgeWay_9 : decode cX10_judgeWay 9 = .ok (.invokevirtual 142, 3) := by decide +kernel
theorem dX10_judgeWay_12 : decode cX10_judgeWay 12 = .ok (.aload_n 0, 1) := by decide +kernel
theorem dX10_judgeWay_13 : decode cX10_judgeWay 13 = .ok (.getfield 37, 3) := by decide +kernel
theorem dX10_judgeWay_16 : decode cX10_judgeWay 16 = .ok (.iload_n 2, 1) := by decide +kernel
theorem dX10_judgeWay_17 : decode cX10_judgeWay 17 = .ok (.invokevirtual 406, 3) := by decide +kernel
theorem dX10_judgeWay_20 : decode cX10_judgeWay 20 = .ok (.aload_n 0, 1) := by decide +kernel
theorem dX10_judgeWay_21 : decode cX10_judgeWay 21 = .ok (.aload_n 0, 1) := by decide +kernel
theorem dX10_judgeWay_22 : decode cX10_judgeWay 22 = .ok (.getfield 18, 3) := by decide +kernel
theorem dX10_judgeWay_25 : decode cX10_judgeWay 25 = .ok (.iload_n 1, 1) := by decide +kernel
theorem dX10_judgeWay_26 : decode cX10_judgeWay 26 = .ok (.aaload, 1) := by decide +kernel
theorem dX10_judgeWay_27 : decode cX10_judgeWay 27 = .ok (.invokevirtual 113, 3) := by decide +kernel
theorem dX10_judgeWay_30 : decode cX10_judgeWay 30 = .ok (.iconst (-1), 1) := by decide +kernel
theorem dX10_judgeWay_31 : decode cX10_judgeWay 31 = .ok (.if_icmp .ne 16, 3) := by decide +kernel
theorem dX10_judgeWay_34 : decode cX10_judgeWay 34 = .ok (.aload_n 0, 1) := by decide +kernel
theorem dX10_judgeWay_35 : decode cX10_judgeWay 35 = .ok (.getfield 37, 3) := by decide +kernel
theorem dX10_judgeWay_38 : decode cX10_judgeWay 38 = .ok (.aload_n 0, 1) := by decide +kernel
theorem dX10_judgeWay_39 : decode cX10_judgeWay 39 = .ok (.getfield 18, 3) := by decide +kernel
theorem dX10_judgeWay_42 : decode cX10_judgeWay 42 = .ok (.iload_n 1, 1) := by decide +kernel
theorem dX10_judgeWay_43 : decode cX10_judgeWay 43 = .ok (.aaload, 1) := by decide +kernel
theorem dX10_judgeWay_44 : decode cX10_judgeWay 44 = .ok (.invokevirtual 409, 3) := by decide +kernel
theorem dX10_judgeWay_47 : decode cX10_judgeWay 47 = .ok (.return_, 1) := by decide +kernel
theorem dX10_planRoute_0 : decode cX10_planRoute 0 = .ok (.aload_n 0, 1) := by decide +kernel
theorem dX10_planRoute_1 : decode cX10_planRoute 1 = .ok (.iload_n 2, 1) := by decide +kernel
theorem dX10_planRoute_2 : decode cX10_planRoute 2 = .ok (.aload_n 0, 1) := by decide +kernel
theorem dX10_planRoute_3 : decode cX10_planRoute 3 = .ok (.getfield 25, 3) := by decide +kernel
theorem dX10_planRoute_6 : decode cX10_planRoute 6 = .ok (.invokevirtual 142, 3) := by decide +kernel
theorem dX10_planRoute_9 : decode cX10_planRoute 9 = .ok (.aload_n 0, 1) := by decide +kernel
theorem dX10_planRoute_10 : decode cX10_planRoute 10 = .ok (.iload 4, 2) := by decide +kernel
theorem dX10_planRoute_12 : decode cX10_planRoute 12 = .ok (.aload_n 0, 1) := by decide +kernel
theorem dX10_planRoute_13 : decode cX10_planRoute 13 = .ok (.getfield 29, 3) := by decide +kernel
theorem dX10_planRoute_16 : decode cX10_planRoute 16 = .ok (.invokevirtual 142, 3) := by decide +kernel
theorem dX10_planRoute_19 : decode cX10_planRoute 19 = .ok (.aload_n 0, 1) := by decide +kernel
theorem dX10_planRoute_20 : decode cX10_planRoute 20 = .ok (.getfield 25, 3) := by decide +kernel
theorem dX10_planRoute_23 : decode cX10_planRoute 23 = .ok (.invokevirtual 146, 3) := by decide +kernel
theorem dX10_planRoute_26 : decode cX10_planRoute 26 = .ok (.aload_n 0, 1) := by decide +kernel
theorem dX10_planRoute_27 : decode cX10_planRoute 27 = .ok (.getfield 29, 3) := by decide +kernel
theorem dX10_planRoute_30 : decode cX10_planRoute 30 = .ok (.invokevirtual 146, 3) := by decide +kernel
theorem dX10_planRoute_33 : decode cX10_planRoute 33 = .ok (.invokestatic 412, 3) := by decide +kernel
theorem dX10_planRoute_36 : decode cX10_planRoute 36 = .ok (.aload_n 0, 1) := by decide +kernel
theorem dX10_planRoute_37 : decode cX10_planRoute 37 = .ok (.getfield 12, 3) := by decide +kernel
theorem dX10_planRoute_40 : decode cX10_planRoute 40 = .ok (.invokevirtual 133, 3) := by decide +kernel
theorem dX10_planRoute_43 : decode cX10_planRoute 43 = .ok (.if_icmp .le 5, 3) := by decide +kernel
theorem dX10_planRoute_46 : decode cX10_planRoute 46 = .ok (.iconst (-1), 1) := by decide +kernel
theorem dX10_planRoute_47 : decode cX10_planRoute 47 = .ok (.ireturn, 1) := by decide +kernel
theorem dX10_planRoute_48 : decode cX10_planRoute 48 = .ok (.aload_n 0, 1) := by decide +kernel
theorem dX10_planRoute_49 : decode cX10_planRoute 49 = .ok (.getfield 44, 3) := by decide +kernel
theorem dX10_planRoute_52 : decode cX10_planRoute 52 = .ok (.aload_n 0, 1) := by decide +kernel
theorem dX10_planRoute_53 : decode cX10_planRoute 53 = .ok (.getfield 25, 3) := by decide +kernel
theorem dX10_planRoute_56 : decode cX10_planRoute 56 = .ok (.aload_n 0, 1) := by decide +kernel
theorem dX10_planRoute_57 : decode cX10_planRoute 57 = .ok (.getfield 29, 3) := by decide +kernel
theorem dX10_planRoute_60 : decode cX10_planRoute 60 = .ok (.invokevirtual 201, 3) := by decide +kernel
theorem dX10_planRoute_63 : decode cX10_planRoute 63 = .ok (.aload_n 0, 1) := by decide +kernel
theorem dX10_planRoute_64 : decode cX10_planRoute 64 = .ok (.getfield 44, 3) := by decide +kernel
theorem dX10_planRoute_67 : decode cX10_planRoute 67 = .ok (.iload_n 1, 1) := by decide +kernel
theorem dX10_planRoute_68 : decode cX10_planRoute 68 = .ok (.iload_n 3, 1) := by decide +kernel
theorem dX10_planRoute_69 : decode cX10_planRoute 69 = .ok (.invokevirtual 415, 3) := by decide +kernel
theorem dX10_planRoute_72 : decode cX10_planRoute 72 = .ok (.ireturn, 1) := by decide +kernel
theorem dX10_listIfRoom_0 : decode cX10_listIfRoom 0 = .ok (.aload_n 0, 1) := by decide +kernel
theorem dX10_listIfRoom_1 : decode cX10_listIfRoom 1 = .ok (.getfield 65, 3) := by decide +kernel
theorem dX10_listIfRoom_4 : decode cX10_listIfRoom 4 = .ok (.invokevirtual 215, 3) := by decide +kernel
theorem dX10_listIfRoom_7 : decode cX10_listIfRoom 7 = .ok (.ifCond .ne 12, 3) := by decide +kernel
theorem dX10_listIfRoom_10 : decode cX10_listIfRoom 10 = .ok (.aload_n 0, 1) := by decide +kernel
theorem dX10_listIfRoom_11 : decode cX10_listIfRoom 11 = .ok (.getfield 65, 3) := by decide +kernel
theorem dX10_listIfRoom_14 : decode cX10_listIfRoom 14 = .ok (.aload_n 1, 1) := by decide +kernel
theorem dX10_listIfRoom_15 : decode cX10_listIfRoom 15 = .ok (.iconst 1, 1) := by decide +kernel
theorem dX10_listIfRoom_16 : decode cX10_listIfRoom 16 = .ok (.invokevirtual 216, 3) := by decide +kernel
theorem dX10_listIfRoom_19 : decode cX10_listIfRoom 19 = .ok (.return_, 1) := by decide +kernel
theorem dX11_init_0 : decode cX11_init 0 = .ok (.aload_n 0, 1) := by decide +kernel
theorem dX11_init_1 : decode cX11_init 1 = .ok (.invokespecial 1, 3) := by decide +kernel
theorem dX11_init_4 : decode cX11_init 4 = .ok (.aload_n 0, 1) := by decide +kernel
theorem dX11_init_5 : decode cX11_init 5 = .ok (.iconst 4, 1) := by decide +kernel
theorem dX11_init_6 : decode cX11_init 6 = .ok (.newarray .int, 2) := by decide +kernel
theorem dX11_init_8 : decode cX11_init 8 = .ok (.putfield 7, 3) := by decide +kernel
theorem dX11_init_11 : decode cX11_init 11 = .ok (.aload_n 0, 1) := by decide +kernel
theorem dX11_init_12 : decode cX11_init 12 = .ok (.iconst 4, 1) := by decide +kernel
theorem dX11_init_13 : decode cX11_init 13 = .ok (.newarray .int, 2) := by decide +kernel
theorem dX11_init_15 : decode cX11_init 15 = .ok (.putfield 13, 3) := by decide +kernel
theorem dX11_init_18 : decode cX11_init 18 = .ok (.aload_n 0, 1) := by decide +kernel
theorem dX11_init_19 : decode cX11_init 19 = .ok (.sipush 240, 3) := by decide +kernel
theorem dX11_init_22 : decode cX11_init 22 = .ok (.newarray .int, 2) := by decide +kernel
theorem dX11_init_24 : decode cX11_init 24 = .ok (.putfield 16, 3) := by decide +kernel
theorem dX11_init_27 : decode cX11_init 27 = .ok (.aload_n 0, 1) := by decide +kernel
theorem dX11_init_28 : decode cX11_init 28 = .ok (.bipush 60, 2) := by decide +kernel
theorem dX11_init_30 : decode cX11_init 30 = .ok (.newarray .int, 2) := by decide +kernel
theorem dX11_init_32 : decode cX11_init 32 = .ok (.putfield 19, 3) := by decide +kernel
theorem dX11_init_35 : decode cX11_init 35 = .ok (.aload_n 0, 1) := by decide +kernel
theorem dX11_init_36 : decode cX11_init 36 = .ok (.sipush 140, 3) := by decide +kernel
theorem dX11_init_39 : decode cX11_init 39 = .ok (.newarray .int, 2) := by decide +kernel
theorem dX11_init_41 : decode cX11_init 41 = .ok (.putfield 22, 3) := by decide +kernel
theorem dX11_init_44 : decode cX11_init 44 = .ok (.aload_n 0, 1) := by decide +kernel
theorem dX11_init_45 : decode cX11_init 45 = .ok (.iconst 4, 1) := by decide +kernel
theorem dX11_init_46 : decode cX11_init 46 = .ok (.newarray .int, 2) := by decide +kernel
theorem dX11_init_48 : decode cX11_init 48 = .ok (.putfield 25, 3) := by decide +kernel
theorem dX11_init_51 : decode cX11_init 51 = .ok (.aload_n 0, 1) := by decide +kernel
theorem dX11_init_52 : decode cX11_init 52 = .ok (.bipush 9, 2) := by decide +kernel
theorem dX11_init_54 : decode cX11_init 54 = .ok (.newarray .int, 2) := by decide +kernel
theorem dX11_init_56 : decode cX11_init 56 = .ok (.putfield 28, 3) := by decide +kernel
theorem dX11_init_59 : decode cX11_init 59 = .ok (.aload_n 0, 1) := by decide +kernel
theorem dX11_init_60 : decode cX11_init 60 = .ok (.bipush 9, 2) := by decide +kernel
theorem dX11_init_62 : decode cX11_init 62 = .ok (.newarray .int, 2) := by decide +kernel
theorem dX11_init_64 : decode cX11_init 64 = .ok (.putfield 31, 3) := by decide +kernel
theorem dX11_init_67 : decode cX11_init 67 = .ok (.aload_n 0, 1) := by decide +kernel
theorem dX11_init_68 : decode cX11_init 68 = .ok (.bipush 9, 2) := by decide +kernel
theorem dX11_init_70 : decode cX11_init 70 = .ok (.newarray .boolean, 2) := by decide +kernel
theorem dX11_init_72 : decode cX11_init 72 = .ok (.putfield 34, 3) := by decide +kernel
theorem dX11_init_75 : decode cX11_init 75 = .ok (.aload_n 0, 1) := by decide +kernel
theorem dX11_init_76 : decode cX11_init 76 = .ok (.bipush 120, 2) := by decide +kernel
theorem dX11_init_78 : decode cX11_init 78 = .ok (.newarray .int, 2) := by decide +kernel
theorem dX11_init_80 : decode cX11_init 80 = .ok (.putfield 38, 3) := by decide +kernel
theorem dX11_init_83 : decode cX11_init 83 = .ok (.aload_n 0, 1) := by decide +kernel
theorem dX11_init_84 : decode cX11_init 84 = .ok (.iconst 2, 1) := by decide +kernel
theorem dX11_init_85 : decode cX11_init 85 = .ok (.newarray .int, 2) := by decide +kernel
theorem dX11_init_87 : decode cX11_init 87 = .ok (.putfield 41, 3) := by decide +kernel
theorem dX11_init_90 : decode cX11_init 90 = .ok (.aload_n 0, 1) := by decide +kernel
theorem dX11_init_91 : decode cX11_init 91 = .ok (.bipush 64, 2) := by decide +kernel
theorem dX11_init_93 : decode cX11_init 93 = .ok (.newarray .int, 2) := by decide +kernel
theorem dX11_init_95 : decode cX11_init 95 = .ok (.putfield 44, 3) := by decide +kernel
theorem dX11_init_98 : decode cX11_init 98 = .ok (.aload_n 0, 1) := by decide +kernel
theorem dX11_init_99 : decode cX11_init 99 = .ok (.bipush 64, 2) := by decide +kernel
theorem dX11_init_101 : decode cX11_init 101 = .ok (.newarray .long, 2) := by decide +kernel
theorem dX11_init_103 : decode cX11_init 103 = .ok (.putfield 47, 3) := by decide +kernel
theorem dX11_init_106 : decode cX11_init 106 = .ok (.aload_n 0, 1) := by decide +kernel
theorem dX11_init_107 : decode cX11_init 107 = .ok (.bipush 120, 2) := by decide +kernel
theorem dX11_init_109 : decode cX11_init 109 = .ok (.newarray .int, 2) := by decide +kernel
theorem dX11_init_111 : decode cX11_init 111 = .ok (.putfield 51, 3) := by decide +kernel
theorem dX11_init_114 : decode cX11_init 114 = .ok (.aload_n 0, 1) := by decide +kernel
theorem dX11_init_115 : decode cX11_init 115 = .ok (.bipush 96, 2) := by decide +kernel
theorem dX11_init_117 : decode cX11_init 117 = .ok (.newarray .int, 2) := by decide +kernel
theorem dX11_init_119 : decode cX11_init 119 = .ok (.putfield 54, 3) := by decide +kernel
theorem dX11_init_122 : decode cX11_init 122 = .ok (.aload_n 0, 1) := by decide +kernel
theorem dX11_init_123 : decode cX11_init 123 = .ok (.sipush 15808, 3) := by decide +kernel
theorem dX11_init_126 : decode cX11_init 126 = .ok (.newarray .long, 2) := by decide +kernel
theorem dX11_init_128 : decode cX11_init 128 = .ok (.putfield 57, 3) := by decide +kernel
theorem dX11_init_131 : decode cX11_init 131 = .ok (.aload_n 0, 1) := by decide +kernel
theorem dX11_init_132 : decode cX11_init 132 = .ok (.bipush 13, 2) := by decide +kernel
theorem dX11_init_134 : decode cX11_init 134 = .ok (.newarray .long, 2) := by decide +kernel
theorem dX11_init_136 : decode cX11_init 136 = .ok (.putfield 60, 3) := by decide +kernel
theorem dX11_init_139 : decode cX11_init 139 = .ok (.aload_n 0, 1) := by decide +kernel
theorem dX11_init_140 : decode cX11_init 140 = .ok (.bipush 13, 2) := by decide +kernel
theorem dX11_init_142 : decode cX11_init 142 = .ok (.newarray .long, 2) := by decide +kernel
theorem dX11_init_144 : decode cX11_init 144 = .ok (.putfield 63, 3) := by decide +kernel
theorem dX11_init_147 : decode cX11_init 147 = .ok (.aload_n 0, 1) := by decide +kernel
theorem dX11_init_148 : decode cX11_init 148 = .ok (.sipush 720, 3) := by decide +kernel
theorem dX11_init_151 : decode cX11_init 151 = .ok (.newarray .int, 2) := by decide +kernel
theorem dX11_init_153 : decode cX11_init 153 = .ok (.putfield 66, 3) := by decide +kernel
theorem dX11_init_156 : decode cX11_init 156 = .ok (.aload_n 0, 1) := by decide +kernel
theorem dX11_init_157 : decode cX11_init 157 = .ok (.bipush 12, 2) := by decide +kernel
theorem dX11_init_159 : decode cX11_init 159 = .ok (.newarray .int, 2) := by decide +kernel
theorem dX11_init_161 : decode cX11_init 161 = .ok (.putfield 69, 3) := by decide +kernel
theorem dX11_init_164 : decode cX11_init 164 = .ok (.aload_n 0, 1) := by decide +kernel
theorem dX11_init_165 : decode cX11_init 165 = .ok (.bipush 12, 2) := by decide +kernel
theorem dX11_init_167 : decode cX11_init 167 = .ok (.newarray .boolean, 2) := by decide +kernel
theorem dX11_init_169 : decode cX11_init 169 = .ok (.putfield 72, 3) := by decide +kernel
theorem dX11_init_172 : decode cX11_init 172 = .ok (.aload_n 0, 1) := by decide +kernel
theorem dX11_init_173 : decode cX11_init 173 = .ok (.bipush 11, 2) := by decide +kernel
theorem dX11_init_175 : decode cX11_init 175 = .ok (.newarray .int, 2) := by decide +kernel
theorem dX11_init_177 : decode cX11_init 177 = .ok (.putfield 75, 3) := by decide +kernel
theorem dX11_init_180 : decode cX11_init 180 = .ok (.aload_n 0, 1) := by decide +kernel
theorem dX11_init_181 : decode cX11_init 181 = .ok (.bipush 64, 2) := by decide +kernel
theorem dX11_init_183 : decode cX11_init 183 = .ok (.newarray .int, 2) := by decide +kernel
theorem dX11_init_185 : decode cX11_init 185 = .ok (.putfield 78, 3) := by decide +kernel
theorem dX11_init_188 : decode cX11_init 188 = .ok (.aload_n 0, 1) := by decide +kernel
theorem dX11_init_189 : decode cX11_init 189 = .ok (.bipush 64, 2) := by decide +kernel
theorem dX11_init_191 : decode cX11_init 191 = .ok (.newarray .int, 2) := by decide +kernel
theorem dX11_init_193 : decode cX11_init 193 = .ok (.putfield 81, 3) := by decide +kernel
theorem dX11_init_196 : decode cX11_init 196 = .ok (.iconst 0, 1) := by decide +kernel
theorem dX11_init_197 : decode cX11_init 197 = .ok (.istore_n 1, 1) := by decide +kernel
theorem dX11_init_198 : decode cX11_init 198 = .ok (.iload_n 1, 1) := by decide +kernel
theorem dX11_init_199 : decode cX11_init 199 = .ok (.iconst 4, 1) := by decide +kernel
theorem dX11_init_200 : decode cX11_init 200 = .ok (.if_icmp .ge 16, 3) := by decide +kernel
theorem dX11_init_203 : decode cX11_init 203 = .ok (.aload_n 0, 1) := by decide +kernel
theorem dX11_init_204 : decode cX11_init 204 = .ok (.getfield 7, 3) := by decide +kernel
theorem dX11_init_207 : decode cX11_init 207 = .ok (.iload_n 1, 1) := by decide +kernel
theorem dX11_init_208 : decode cX11_init 208 = .ok (.iconst (-1), 1) := by decide +kernel
theorem dX11_init_209 : decode cX11_init 209 = .ok (.iastore, 1) := by decide +kernel
theorem dX11_init_210 : decode cX11_init 210 = .ok (.iinc 1 1, 3) := by decide +kernel
theorem dX11_init_213 : decode cX11_init 213 = .ok (.goto (-15), 3) := by decide +kernel
theorem dX11_init_216 : decode cX11_init 216 = .ok (.return_, 1) := by decide +kernel
theorem dX11_in_0 : decode cX11_in 0 = .ok (.lload_n 0, 1) := by decide +kernel
theorem dX11_in_1 : decode cX11_in 1 = .ok (.lload_n 2, 1) := by decide +kernel
theorem dX11_in_2 : decode cX11_in 2 = .ok (.lcmp, 1) := by decide +kernel
theorem dX11_in_3 : decode cX11_in 3 = .ok (.ifCond .lt 14, 3) := by decide +kernel
theorem dX11_in_6 : decode cX11_in 6 = .ok (.lload_n 0, 1) := by decide +kernel
theorem dX11_in_7 : decode cX11_in 7 = .ok (.lload 4, 2) := by decide +kernel
theorem dX11_in_9 : decode cX11_in 9 = .ok (.lcmp, 1) := by decide +kernel
theorem dX11_in_10 : decode cX11_in 10 = .ok (.ifCond .gt 7, 3) := by decide +kernel
theorem dX11_in_13 : decode cX11_in 13 = .ok (.iconst 1, 1) := by decide +kernel
theorem dX11_in_14 : decode cX11_in 14 = .ok (.goto 4, 3) := by decide +kernel
theorem dX11_in_17 : decode cX11_in 17 = .ok (.iconst 0, 1) := by decide +kernel
theorem dX11_in_18 : decode cX11_in 18 = .ok (.ireturn, 1) := by decide +kernel
theorem dX11_no_0 : decode cX11_no 0 = .ok (.ldc2_w 84, 3) := by decide +kernel
theorem dX11_no_3 : decode cX11_no 3 = .ok (.iload_n 0, 1) := by decide +kernel
theorem dX11_no_4 : decode cX11_no 4 = .ok (.i2l, 1) := by decide +kernel
theorem dX11_no_5 : decode cX11_no 5 = .ok (.lsub, 1) := by decide +kernel
theorem dX11_no_6 : decode cX11_no 6 = .ok (.lreturn, 1) := by decide +kernel
theorem dX11_isTwo_0 : decode cX11_isTwo 0 = .ok (.iload_n 0, 1) := by decide +kernel
theorem dX11_isTwo_1 : decode cX11_isTwo 1 = .ok (.i2l, 1) := by decide +kernel
theorem dX11_isTwo_2 : decode cX11_isTwo 2 = .ok (.lconst 0, 1) := by decide +kernel
theorem dX11_isTwo_3 : decode cX11_isTwo 3 = .ok (.lconst 1, 1) := by decide +kernel
theorem dX11_isTwo_4 : decode cX11_isTwo 4 = .ok (.invokestatic 86, 3) := by decide +kernel
theorem dX11_isTwo_7 : decode cX11_isTwo 7 = .ok (.ireturn, 1) := by decide +kernel
theorem dX11_isTown_0 : decode cX11_isTown 0 = .ok (.iload_n 0, 1) := by decide +kernel
theorem dX11_isTown_1 : decode cX11_isTown 1 = .ok (.i2l, 1) := by decide +kernel
theorem dX11_isTown_2 : decode cX11_isTown 2 = .ok (.lconst 0, 1) := by decide +kernel
theorem dX11_isTown_3 : decode cX11_isTown 3 = .ok (.ldc2_w 90, 3) := by decide +kernel
theorem dX11_isTown_6 : decode cX11_isTown 6 = .ok (.invokestatic 86, 3) := by decide +kernel
theorem dX11_isTown_9 : decode cX11_isTown 9 = .ok (.ireturn, 1) := by decide +kernel
theorem dX11_met_0 : decode cX11_met 0 = .ok (.aload_n 0, 1) := by decide +kernel
theorem dX11_met_1 : decode cX11_met 1 = .ok (.iload_n 1, 1) := by decide +kernel
theorem dX11_met_2 : decode cX11_met 2 = .ok (.putfield 92, 3) := by decide +kernel
theorem dX11_met_5 : decode cX11_met 5 = .ok (.bipush (-10), 2) := by decide +kernel
theorem dX11_met_7 : decode cX11_met 7 = .ok (.iload_n 1, 1) := by decide +kernel
theorem dX11_met_8 : decode cX11_met 8 = .ok (.isub, 1) := by decide +kernel
theorem dX11_met_9 : decode cX11_met 9 = .ok (.ireturn, 1) := by decide +kernel
theorem dX11_isSheet_0 : decode cX11_isSheet 0 = .ok (.iload_n 0, 1) := by decide +kernel
theorem dX11_isSheet_1 : decode cX11_isSheet 1 = .ok (.i2l, 1) := by decide +kernel
theorem dX11_isSheet_2 : decode cX11_isSheet 2 = .ok (.lconst 0, 1) := by decide +kernel
theorem dX11_isSheet_3 : decode cX11_isSheet 3 = .ok (.ldc2_w 96, 3) := by decide +kernel
theorem dX11_isSheet_6 : decode cX11_isSheet 6 = .ok (.invokestatic 86, 3) := by decide +kernel
theorem dX11_isSheet_9 : decode cX11_isSheet 9 = .ok (.ireturn, 1) := by decide +kernel
theorem dX11_sheet_0 : decode cX11_sheet 0 = .ok (.iload_n 1, 1) := by decide +kernel
theorem dX11_sheet_1 : decode cX11_sheet 1 = .ok (.invokestatic 98, 3) := by decide +kernel
theorem dX11_sheet_4 : decode cX11_sheet 4 = .ok (.ifCond .eq 21, 3) := by decide +kernel
theorem dX11_sheet_7 : decode cX11_sheet 7 = .ok (.iload_n 2, 1) := by decide +kernel
theorem dX11_sheet_8 : decode cX11_sheet 8 = .ok (.i2l, 1) := by decide +kernel
theorem dX11_sheet_9 : decode cX11_sheet 9 = .ok (.lconst 0, 1) := by decide +kernel
theorem dX11_sheet_10 : decode cX11_sheet 10 = .ok (.ldc2_w 102, 3) := by decide +kernel
theorem dX11_sheet_13 : decode cX11_sheet 13 = .ok (.invokestatic 86, 3) := by decide +kernel
theorem dX11_sheet_16 : decode cX11_sheet 16 = .ok (.ifCond .eq 9, 3) := by decide +kernel
theorem dX11_sheet_19 : decode cX11_sheet 19 = .ok (.iload_n 3, 1) := by decide +kernel
theorem dX11_sheet_20 : decode cX11_sheet 20 = .ok (.bipush 60, 2) := by decide +kernel
theorem dX11_sheet_22 : decode cX11_sheet 22 = .ok (.if_icmp .le 6, 3) := by decide +kernel
theorem dX11_sheet_25 : decode cX11_sheet 25 = .ok (.bipush (-2), 2) := by decide +kernel
theorem dX11_sheet_27 : decode cX11_sheet 27 = .ok (.ireturn, 1) := by decide +kernel
theorem dX11_sheet_28 : decode cX11_sheet 28 = .ok (.iload_n 3, 1) := by decide +kernel
theorem dX11_sheet_29 : decode cX11_sheet 29 = .ok (.ifCond .ge 9, 3) := by decide +kernel
theorem dX11_sheet_32 : decode cX11_sheet 32 = .ok (.aload_n 0, 1) := by decide +kernel
theorem dX11_sheet_33 : decode cX11_sheet 33 = .ok (.iconst 5, 1) := by decide +kernel
theorem dX11_sheet_34 : decode cX11_sheet 34 = .ok (.invokevirtual 104, 3) := by decide +kernel
theorem dX11_sheet_37 : decode cX11_sheet 37 = .ok (.ireturn, 1) := by decide +kernel
theorem dX11_sheet_38 : decode cX11_sheet 38 = .ok (.aload_n 0, 1) := by decide +kernel
theorem dX11_sheet_39 : decode cX11_sheet 39 = .ok (.getfield 7, 3) := by decide +kernel
theorem dX11_sheet_42 : decode cX11_sheet 42 = .ok (.iload_n 1, 1) := by decide +kernel
theorem dX11_sheet_43 : decode cX11_sheet 43 = .ok (.iload_n 2, 1) := by decide +kernel
theorem dX11_sheet_44 : decode cX11_sheet 44 = .ok (.iastore, 1) := by decide +kernel
theorem dX11_sheet_45 : decode cX11_sheet 45 = .ok (.aload_n 0, 1) := by decide +kernel
theorem dX11_sheet_46 : decode cX11_sheet 46 = .ok (.getfield 13, 3) := by decide +kernel
theorem dX11_sheet_49 : decode cX11_sheet 49 = .ok (.iload_n 1, 1) := by decide +kernel
theorem dX11_sheet_50 : decode cX11_sheet 50 = .ok (.iload_n 3, 1) := by decide +kernel
theorem dX11_sheet_51 : decode cX11_sheet 51 = .ok (.iastore, 1) := by decide +kernel
theorem dX11_sheet_52 : decode cX11_sheet 52 = .ok (.iconst 0, 1) := by decide +kernel
theorem dX11_sheet_53 : decode cX11_sheet 53 = .ok (.istore 4, 2) := by decide +kernel
theorem dX11_sheet_55 : decode cX11_sheet 55 = .ok (.iload 4, 2) := by decide +kernel
theorem dX11_sheet_57 : decode cX11_sheet 57 = .ok (.iload_n 3, 1) := by decide +kernel
theorem dX11_sheet_58 : decode cX11_sheet 58 = .ok (.if_icmp .ge 22, 3) := by decide +kernel
theorem dX11_sheet_61 : decode cX11_sheet 61 = .ok (.aload_n 0, 1) := by decide +kernel
theorem dX11_sheet_62 : decode cX11_sheet 62 = .ok (.getfield 16, 3) := by decide +kernel
theorem dX11_sheet_65 : decode cX11_sheet 65 = .ok (.bipush 60, 2) := by decide +kernel
theorem dX11_sheet_67 : decode cX11_sheet 67 = .ok (.iload_n 1, 1) := by decide +kernel
theorem dX11_sheet_68 : decode cX11_sheet 68 = .ok (.imul, 1) := by decide +kernel
theorem dX11_sheet_69 : decode cX11_sheet 69 = .ok (.iload 4, 2) := by decide +kernel
theorem dX11_sheet_71 : decode cX11_sheet 71 = .ok (.iadd, 1) := by decide +kernel
theorem dX11_sheet_72 : decode cX11_sheet 72 = .ok (.iconst 0, 1) := by decide +kernel
theorem dX11_sheet_73 : decode cX11_sheet 73 = .ok (.iastore, 1) := by decide +kernel
theorem dX11_sheet_74 : decode cX11_sheet 74 = .ok (.iinc 4 1, 3) := by decide +kernel
theorem dX11_sheet_77 : decode cX11_sheet 77 = .ok (.goto (-22), 3) := by decide +kernel
theorem dX11_sheet_80 : decode cX11_sheet 80 = .ok (.iload_n 3, 1) := by decide +kernel
theorem dX11_sheet_81 : decode cX11_sheet 81 = .ok (.ireturn, 1) := by decide +kernel
theorem dX11_lose_0 : decode cX11_lose 0 = .ok (.iload_n 1, 1) := by decide +kernel
theorem dX11_lose_1 : decode cX11_lose 1 = .ok (.invokestatic 98, 3) := by decide +kernel
theorem dX11_lose_4 : decode cX11_lose 4 = .ok (.ifCond .ne 6, 3) := by decide +kernel
theorem dX11_lose_7 : decode cX11_lose 7 = .ok (.bipush (-2), 2) := by decide +kernel
theorem dX11_lose_9 : decode cX11_lose 9 = .ok (.ireturn, 1) := by decide +kernel
theorem dX11_lose_10 : decode cX11_lose 10 = .ok (.aload_n 0, 1) := by decide +kernel
theorem dX11_lose_11 : decode cX11_lose 11 = .ok (.getfield 7, 3) := by decide +kernel
theorem dX11_lose_14 : decode cX11_lose 14 = .ok (.iload_n 1, 1) := by decide +kernel
theorem dX11_lose_15 : decode cX11_lose 15 = .ok (.iaload, 1) := by decide +kernel
theorem dX11_lose_16 : decode cX11_lose 16 = .ok (.ifCond .ge 9, 3) := by decide +kernel
theorem dX11_lose_19 : decode cX11_lose 19 = .ok (.aload_n 0, 1) := by decide +kernel
theorem dX11_lose_20 : decode cX11_lose 20 = .ok (.iconst 1, 1) := by decide +kernel
theorem dX11_lose_21 : decode cX11_lose 21 = .ok (.invokevirtual 104, 3) := by decide +kernel
theorem dX11_lose_24 : decode cX11_lose 24 = .ok (.ireturn, 1) := by decide +kernel
theorem dX11_lose_25 : decode cX11_lose 25 = .ok (.aload_n 0, 1) := by decide +kernel
theorem dX11_lose_26 : decode cX11_lose 26 = .ok (.getfield 7, 3) := by decide +kernel
theorem dX11_lose_29 : decode cX11_lose 29 = .ok (.iload_n 1, 1) := by decide +kernel
theorem dX11_lose_30 : decode cX11_lose 30 = .ok (.iconst (-1), 1) := by decide +kernel
theorem dX11_lose_31 : decode cX11_lose 31 = .ok (.iastore, 1) := by decide +kernel
theorem dX11_lose_32 : decode cX11_lose 32 = .ok (.aload_n 0, 1) := by decide +kernel
theorem dX11_lose_33 : decode cX11_lose 33 = .ok (.getfield 13, 3) := by decide +kernel
theorem dX11_lose_36 : decode cX11_lose 36 = .ok (.iload_n 1, 1) := by decide +kernel
theorem dX11_lose_37 : decode cX11_lose 37 = .ok (.iaload, 1) := by decide +kernel
theorem dX11_lose_38 : decode cX11_lose 38 = .ok (.ireturn, 1) := by decide +kernel
theorem dX11_lacks_0 : decode cX11_lacks 0 = .ok (.aload_n 0, 1) := by decide +kernel
theorem dX11_lacks_1 : decode cX11_lacks 1 = .ok (.getfield 7, 3) := by decide +kernel
theorem dX11_lacks_4 : decode cX11_lacks 4 = .ok (.iload_n 1, 1) := by decide +kernel
theorem dX11_lacks_5 : decode cX11_lacks 5 = .ok (.iaload, 1) := by decide +kernel
theorem dX11_lacks_6 : decode cX11_lacks 6 = .ok (.ifCond .ge 9, 3) := by decide +kernel
theorem dX11_lacks_9 : decode cX11_lacks 9 = .ok (.aload_n 0, 1) := by decide +kernel
theorem dX11_lacks_10 : decode cX11_lacks 10 = .ok (.iconst 1, 1) := by decide +kernel
theorem dX11_lacks_11 : decode cX11_lacks 11 = .ok (.invokevirtual 104, 3) := by decide +kernel
theorem dX11_lacks_14 : decode cX11_lacks 14 = .ok (.ireturn, 1) := by decide +kernel
theorem dX11_lacks_15 : decode cX11_lacks 15 = .ok (.aload_n 0, 1) := by decide +kernel
theorem dX11_lacks_16 : decode cX11_lacks 16 = .ok (.getfield 7, 3) := by decide +kernel
theorem dX11_lacks_19 : decode cX11_lacks 19 = .ok (.iload_n 1, 1) := by decide +kernel
theorem dX11_lacks_20 : decode cX11_lacks 20 = .ok (.iaload, 1) := by decide +kernel
theorem dX11_lacks_21 : decode cX11_lacks 21 = .ok (.iload_n 2, 1) := by decide +kernel
theorem dX11_lacks_22 : decode cX11_lacks 22 = .ok (.if_icmp .eq 9, 3) := by decide +kernel
theorem dX11_lacks_25 : decode cX11_lacks 25 = .ok (.aload_n 0, 1) := by decide +kernel
theorem dX11_lacks_26 : decode cX11_lacks 26 = .ok (.iconst 3, 1) := by decide +kernel
theorem dX11_lacks_27 : decode cX11_lacks 27 = .ok (.invokevirtual 104, 3) := by decide +kernel
theorem dX11_lacks_30 : decode cX11_lacks 30 = .ok (.ireturn, 1) := by decide +kernel
theorem dX11_lacks_31 : decode cX11_lacks 31 = .ok (.iload_n 3, 1) := by decide +kernel
theorem dX11_lacks_32 : decode cX11_lacks 32 = .ok (.i2l, 1) := by decide +kernel
theorem dX11_lacks_33 : decode cX11_lacks 33 = .ok (.lconst 0, 1) := by decide +kernel
theorem dX11_lacks_34 : decode cX11_lacks 34 = .ok (.aload_n 0, 1) := by decide +kernel
theorem dX11_lacks_35 : decode cX11_lacks 35 = .ok (.getfield 13, 3) := by decide +kernel
theorem dX11_lacks_38 : decode cX11_lacks 38 = .ok (.iload_n 1, 1) := by decide +kernel
theorem dX11_lacks_39 : decode cX11_lacks 39 = .ok (.iaload, 1) := by decide +kernel
theorem dX11_lacks_40 : decode cX11_lacks 40 = .ok (.iconst 1, 1) := by decide +kernel
theorem dX11_lacks_41 : decode cX11_lacks 41 = .ok (.isub, 1) := by decide +kernel
theorem dX11_lacks_42 : decode cX11_lacks 42 = .ok (.i2l, 1) := by decide +kernel
theorem dX11_lacks_43 : decode cX11_lacks 43 = .ok (.invokestatic 86, 3) := by decide +kernel
theorem dX11_lacks_46 : decode cX11_lacks 46 = .ok (.ifCond .eq 7, 3) := by decide +kernel
theorem dX11_lacks_49 : decode cX11_lacks 49 = .ok (.iconst 0, 1) := by decide +kernel
theorem dX11_lacks_50 : decode cX11_lacks 50 = .ok (.goto 8, 3) := by decide +kernel
theorem dX11_lacks_53 : decode cX11_lacks 53 = .ok (.aload_n 0, 1) := by decide +kernel
theorem dX11_lacks_54 : decode cX11_lacks 54 = .ok (.iconst 2, 1) := by decide +kernel
theorem dX11_lacks_55 : decode cX11_lacks 55 = .ok (.invokevirtual 104, 3) := by decide +kernel
theorem dX11_lacks_58 : decode cX11_lacks 58 = .ok (.ireturn, 1) := by decide +kernel
theorem dX11_cut_0 : decode cX11_cut 0 = .ok (.iload_n 0, 1) := by decide +kernel
theorem dX11_cut_1 : decode cX11_cut 1 = .ok (.ifCond .ne 8, 3) := by decide +kernel
theorem dX11_cut_4 : decode cX11_cut 4 = .ok (.iload_n 1, 1) := by decide +kernel
theorem dX11_cut_5 : decode cX11_cut 5 = .ok (.i2b, 1) := by decide +kernel
theorem dX11_cut_6 : decode cX11_cut 6 = .ok (.goto 14, 3) := by decide +kernel
theorem dX11_cut_9 : decode cX11_cut 9 = .ok (.iload_n 0, 1) := by decide +kernel
theorem dX11_cut_10 : decode cX11_cut 10 = .ok (.iconst 1, 1) := by decide +kernel
theorem dX11_cut_11 : decode cX11_cut 11 = .ok (.if_icmp .ne 8, 3) := by decide +kernel
theorem dX11_cut_14 : decode cX11_cut 14 = .ok (.iload_n 1, 1) := by decide +kernel
theorem dX11_cut_15 : decode cX11_cut 15 = .ok (.i2s, 1) := by decide +kernel
theorem dX11_cut_16 : decode cX11_cut 16 = .ok (.goto 4, 3) := by decide +kernel
theorem dX11_cut_19 : decode cX11_cut 19 = .ok (.iload_n 1, 1) := by decide +kernel
theorem dX11_cut_20 : decode cX11_cut 20 = .ok (.ireturn, 1) := by decide +kernel
theorem dX11_lay_0 : decode cX11_lay 0 = .ok (.iload_n 1, 1) := by decide +kernel
theorem dX11_lay_1 : decode cX11_lay 1 = .ok (.invokestatic 98, 3) := by decide +kernel
theorem dX11_lay_4 : decode cX11_lay 4 = .ok (.ifCond .eq 15, 3) := by decide +kernel
theorem dX11_lay_7 : decode cX11_lay 7 = .ok (.iload_n 2, 1) := by decide +kernel
theorem dX11_lay_8 : decode cX11_lay 8 = .ok (.i2l, 1) := by decide +kernel
theorem dX11_lay_9 : decode cX11_lay 9 = .ok (.lconst 0, 1) := by decide +kernel
theorem dX11_lay_10 : decode cX11_lay 10 = .ok (.ldc2_w 102, 3) := by decide +kernel
theorem dX11_lay_13 : decode cX11_lay 13 = .ok (.invokestatic 86, 3) := by decide +kernel
theorem dX11_lay_16 : decode cX11_lay 16 = .ok (.ifCond .ne 6, 3) := by decide +kernel
theorem dX11_lay_19 : decode cX11_lay 19 = .ok (.bipush (-2), 2) := by decide +kernel
theorem dX11_lay_21 : decode cX11_lay 21 = .ok (.ireturn, 1) := by decide +kernel
theorem dX11_lay_22 : decode cX11_lay 22 = .ok (.aload_n 0, 1) := by decide +kernel
theorem dX11_lay_23 : decode cX11_lay 23 = .ok (.iload_n 1, 1) := by decide +kernel
theorem dX11_lay_24 : decode cX11_lay 24 = .ok (.iload_n 2, 1) := by decide +kernel
theorem dX11_lay_25 : decode cX11_lay 25 = .ok (.iload_n 3, 1) := by decide +kernel
theorem dX11_lay_26 : decode cX11_lay 26 = .ok (.invokevirtual 108, 3) := by decide +kernel
theorem dX11_lay_29 : decode cX11_lay 29 = .ok (.istore 5, 2) := by decide +kernel
theorem dX11_lay_31 : decode cX11_lay 31 = .ok (.iload 5, 2) := by decide +kernel
theorem dX11_lay_33 : decode cX11_lay 33 = .ok (.ifCond .eq 6, 3) := by decide +kernel
theorem dX11_lay_36 : decode cX11_lay 36 = .ok (.iload 5, 2) := by decide +kernel
theorem dX11_lay_38 : decode cX11_lay 38 = .ok (.ireturn, 1) := by decide +kernel
theorem dX11_lay_39 : decode cX11_lay 39 = .ok (.aload_n 0, 1) := by decide +kernel
theorem dX11_lay_40 : decode cX11_lay 40 = .ok (.getfield 16, 3) := by decide +kernel
theorem dX11_lay_43 : decode cX11_lay 43 = .ok (.bipush 60, 2) := by decide +kernel
theorem dX11_lay_45 : decode cX11_lay 45 = .ok (.iload_n 1, 1) := by decide +kernel
theorem dX11_lay_46 : decode cX11_lay 46 = .ok (.imul, 1) := by decide +kernel
theorem dX11_lay_47 : decode cX11_lay 47 = .ok (.iload_n 3, 1) := by decide +kernel
theorem dX11_lay_48 : decode cX11_lay 48 = .ok (.iadd, 1) := by decide +kernel
theorem dX11_lay_49 : decode cX11_lay 49 = .ok (.iload_n 2, 1) := by decide +kernel
theorem dX11_lay_50 : decode cX11_lay 50 = .ok (.iload 4, 2) := by decide +kernel
theorem dX11_lay_52 : decode cX11_lay 52 = .ok (.invokestatic 112, 3) := by decide +kernel
theorem dX11_lay_55 : decode cX11_lay 55 = .ok (.iastore, 1) := by decide +kernel
theorem dX11_lay_56 : decode cX11_lay 56 = .ok (.iconst 1, 1) := by decide +kernel
theorem dX11_lay_57 : decode cX11_lay 57 = .ok (.ireturn, 1) := by decide +kernel
theorem dX11_get_0 : decode cX11_get 0 = .ok (.iload_n 1, 1) := by decide +kernel
theorem dX11_get_1 : decode cX11_get 1 = .ok (.invokestatic 98, 3) := by decide +kernel
theorem dX11_get_4 : decode cX11_get 4 = .ok (.ifCond .eq 25, 3) := by decide +kernel
theorem dX11_get_7 : decode cX11_get 7 = .ok (.iload_n 2, 1) := by decide +kernel
theorem dX11_get_8 : decode cX11_get 8 = .ok (.i2l, 1) := by decide +kernel
theorem dX11_get_9 : decode cX11_get 9 = .ok (.lconst 0, 1) := by decide +kernel
theorem dX11_get_10 : decode cX11_get 10 = .ok (.ldc2_w 102, 3) := by decide +kernel
theorem dX11_get_13 : decode cX11_get 13 = .ok (.invokestatic 86, 3) := by decide +kernel
theorem dX11_get_16 : decode cX11_get 16 = .ok (.ifCond .eq 13, 3) := by decide +kernel
theorem dX11_get_19 : decode cX11_get 19 = .ok (.aload_n 0, 1) := by decide +kernel
theorem dX11_get_20 : decode cX11_get 20 = .ok (.iload_n 1, 1) := by decide +kernel
theorem dX11_get_21 : decode cX11_get 21 = .ok (.iload_n 2, 1) := by decide +kernel
theorem dX11_get_22 : decode cX11_get 22 = .ok (.iload_n 3, 1) := by decide +kernel
theorem dX11_get_23 : decode cX11_get 23 = .ok (.invokevirtual 108, 3) := by decide +kernel
theorem dX11_get_26 : decode cX11_get 26 = .ok (.ifCond .eq 6, 3) := by decide +kernel
theorem dX11_get_29 : decode cX11_get 29 = .ok (.ldc 116, 2) := by decide +kernel
theorem dX11_get_31 : decode cX11_get 31 = .ok (.ireturn, 1) := by decide +kernel
theorem dX11_get_32 : decode cX11_get 32 = .ok (.aload_n 0, 1) := by decide +kernel
theorem dX11_get_33 : decode cX11_get 33 = .ok (.getfield 16, 3) := by decide +kernel
theorem dX11_get_36 : decode cX11_get 36 = .ok (.bipush 60, 2) := by decide +kernel
theorem dX11_get_38 : decode cX11_get 38 = .ok (.iload_n 1, 1) := by decide +kernel
theorem dX11_get_39 : decode cX11_get 39 = .ok (.imul, 1) := by decide +kernel
