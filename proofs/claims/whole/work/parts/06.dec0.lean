theorem dX0_init_0 : decode cX0_init 0 = .ok (.aload_n 0, 1) := by decide +kernel
theorem dX0_init_1 : decode cX0_init 1 = .ok (.invokespecial 3, 3) := by decide +kernel
theorem dX0_init_4 : decode cX0_init 4 = .ok (.aload_n 0, 1) := by decide +kernel
theorem dX0_init_5 : decode cX0_init 5 = .ok (.bipush 8, 2) := by decide +kernel
theorem dX0_init_7 : decode cX0_init 7 = .ok (.bipush 8, 2) := by decide +kernel
theorem dX0_init_9 : decode cX0_init 9 = .ok (.multianewarray 9 2, 4) := by decide +kernel
theorem dX0_init_13 : decode cX0_init 13 = .ok (.putfield 11, 3) := by decide +kernel
theorem dX0_init_16 : decode cX0_init 16 = .ok (.aload_n 0, 1) := by decide +kernel
theorem dX0_init_17 : decode cX0_init 17 = .ok (.bipush 8, 2) := by decide +kernel
theorem dX0_init_19 : decode cX0_init 19 = .ok (.newarray .int, 2) := by decide +kernel
theorem dX0_init_21 : decode cX0_init 21 = .ok (.putfield 16, 3) := by decide +kernel
theorem dX0_init_24 : decode cX0_init 24 = .ok (.aload_n 0, 1) := by decide +kernel
theorem dX0_init_25 : decode cX0_init 25 = .ok (.bipush 8, 2) := by decide +kernel
theorem dX0_init_27 : decode cX0_init 27 = .ok (.newarray .int, 2) := by decide +kernel
theorem dX0_init_29 : decode cX0_init 29 = .ok (.putfield 20, 3) := by decide +kernel
theorem dX0_init_32 : decode cX0_init 32 = .ok (.return_, 1) := by decide +kernel
theorem dX0_measure_0 : decode cX0_measure 0 = .ok (.aload_n 0, 1) := by decide +kernel
theorem dX0_measure_1 : decode cX0_measure 1 = .ok (.aload_n 1, 1) := by decide +kernel
theorem dX0_measure_2 : decode cX0_measure 2 = .ok (.iload_n 2, 1) := by decide +kernel
theorem dX0_measure_3 : decode cX0_measure 3 = .ok (.invokevirtual 23, 3) := by decide +kernel
theorem dX0_measure_6 : decode cX0_measure 6 = .ok (.iconst 0, 1) := by decide +kernel
theorem dX0_measure_7 : decode cX0_measure 7 = .ok (.istore_n 3, 1) := by decide +kernel
theorem dX0_measure_8 : decode cX0_measure 8 = .ok (.iload_n 3, 1) := by decide +kernel
theorem dX0_measure_9 : decode cX0_measure 9 = .ok (.bipush 8, 2) := by decide +kernel
theorem dX0_measure_11 : decode cX0_measure 11 = .ok (.if_icmp .ge 14, 3) := by decide +kernel
theorem dX0_measure_14 : decode cX0_measure 14 = .ok (.aload_n 0, 1) := by decide +kernel
theorem dX0_measure_15 : decode cX0_measure 15 = .ok (.iload_n 3, 1) := by decide +kernel
theorem dX0_measure_16 : decode cX0_measure 16 = .ok (.invokevirtual 27, 3) := by decide +kernel
theorem dX0_measure_19 : decode cX0_measure 19 = .ok (.iinc 3 1, 3) := by decide +kernel
theorem dX0_measure_22 : decode cX0_measure 22 = .ok (.goto (-14), 3) := by decide +kernel
theorem dX0_measure_25 : decode cX0_measure 25 = .ok (.return_, 1) := by decide +kernel
theorem dX0_measureLinked_0 : decode cX0_measureLinked 0 = .ok (.aload_n 0, 1) := by decide +kernel
theorem dX0_measureLinked_1 : decode cX0_measureLinked 1 = .ok (.aload_n 1, 1) := by decide +kernel
theorem dX0_measureLinked_2 : decode cX0_measureLinked 2 = .ok (.iload_n 2, 1) := by decide +kernel
theorem dX0_measureLinked_3 : decode cX0_measureLinked 3 = .ok (.invokevirtual 23, 3) := by decide +kernel
theorem dX0_measureLinked_6 : decode cX0_measureLinked 6 = .ok (.aload_n 0, 1) := by decide +kernel
theorem dX0_measureLinked_7 : decode cX0_measureLinked 7 = .ok (.iload_n 3, 1) := by decide +kernel
theorem dX0_measureLinked_8 : decode cX0_measureLinked 8 = .ok (.iload 4, 2) := by decide +kernel
theorem dX0_measureLinked_10 : decode cX0_measureLinked 10 = .ok (.invokevirtual 31, 3) := by decide +kernel
theorem dX0_measureLinked_13 : decode cX0_measureLinked 13 = .ok (.iconst 0, 1) := by decide +kernel
theorem dX0_measureLinked_14 : decode cX0_measureLinked 14 = .ok (.istore 5, 2) := by decide +kernel
theorem dX0_measureLinked_16 : decode cX0_measureLinked 16 = .ok (.iload 5, 2) := by decide +kernel
theorem dX0_measureLinked_18 : decode cX0_measureLinked 18 = .ok (.bipush 8, 2) := by decide +kernel
theorem dX0_measureLinked_20 : decode cX0_measureLinked 20 = .ok (.if_icmp .ge 15, 3) := by decide +kernel
theorem dX0_measureLinked_23 : decode cX0_measureLinked 23 = .ok (.aload_n 0, 1) := by decide +kernel
theorem dX0_measureLinked_24 : decode cX0_measureLinked 24 = .ok (.iload 5, 2) := by decide +kernel
theorem dX0_measureLinked_26 : decode cX0_measureLinked 26 = .ok (.invokevirtual 27, 3) := by decide +kernel
theorem dX0_measureLinked_29 : decode cX0_measureLinked 29 = .ok (.iinc 5 1, 3) := by decide +kernel
theorem dX0_measureLinked_32 : decode cX0_measureLinked 32 = .ok (.goto (-16), 3) := by decide +kernel
theorem dX0_measureLinked_35 : decode cX0_measureLinked 35 = .ok (.return_, 1) := by decide +kernel
theorem dX0_measureFrom_0 : decode cX0_measureFrom 0 = .ok (.aload_n 0, 1) := by decide +kernel
theorem dX0_measureFrom_1 : decode cX0_measureFrom 1 = .ok (.aload_n 1, 1) := by decide +kernel
theorem dX0_measureFrom_2 : decode cX0_measureFrom 2 = .ok (.iload_n 2, 1) := by decide +kernel
theorem dX0_measureFrom_3 : decode cX0_measureFrom 3 = .ok (.invokevirtual 23, 3) := by decide +kernel
theorem dX0_measureFrom_6 : decode cX0_measureFrom 6 = .ok (.iload_n 3, 1) := by decide +kernel
theorem dX0_measureFrom_7 : decode cX0_measureFrom 7 = .ok (.invokestatic 35, 3) := by decide +kernel
theorem dX0_measureFrom_10 : decode cX0_measureFrom 10 = .ok (.ifCond .eq 8, 3) := by decide +kernel
theorem dX0_measureFrom_13 : decode cX0_measureFrom 13 = .ok (.aload_n 0, 1) := by decide +kernel
theorem dX0_measureFrom_14 : decode cX0_measureFrom 14 = .ok (.iload_n 3, 1) := by decide +kernel
theorem dX0_measureFrom_15 : decode cX0_measureFrom 15 = .ok (.invokevirtual 27, 3) := by decide +kernel
theorem dX0_measureFrom_18 : decode cX0_measureFrom 18 = .ok (.return_, 1) := by decide +kernel
theorem dX0_between_0 : decode cX0_between 0 = .ok (.iload_n 1, 1) := by decide +kernel
theorem dX0_between_1 : decode cX0_between 1 = .ok (.invokestatic 35, 3) := by decide +kernel
theorem dX0_between_4 : decode cX0_between 4 = .ok (.ifCond .eq 21, 3) := by decide +kernel
theorem dX0_between_7 : decode cX0_between 7 = .ok (.iload_n 2, 1) := by decide +kernel
theorem dX0_between_8 : decode cX0_between 8 = .ok (.invokestatic 35, 3) := by decide +kernel
theorem dX0_between_11 : decode cX0_between 11 = .ok (.ifCond .eq 14, 3) := by decide +kernel
theorem dX0_between_14 : decode cX0_between 14 = .ok (.aload_n 0, 1) := by decide +kernel
theorem dX0_between_15 : decode cX0_between 15 = .ok (.getfield 11, 3) := by decide +kernel
theorem dX0_between_18 : decode cX0_between 18 = .ok (.iload_n 1, 1) := by decide +kernel
theorem dX0_between_19 : decode cX0_between 19 = .ok (.aaload, 1) := by decide +kernel
theorem dX0_between_20 : decode cX0_between 20 = .ok (.iload_n 2, 1) := by decide +kernel
theorem dX0_between_21 : decode cX0_between 21 = .ok (.iaload, 1) := by decide +kernel
theorem dX0_between_22 : decode cX0_between 22 = .ok (.goto 4, 3) := by decide +kernel
theorem dX0_between_25 : decode cX0_between 25 = .ok (.iconst (-1), 1) := by decide +kernel
theorem dX0_between_26 : decode cX0_between 26 = .ok (.ireturn, 1) := by decide +kernel
theorem dX0_reachedFrom_0 : decode cX0_reachedFrom 0 = .ok (.iconst 0, 1) := by decide +kernel
theorem dX0_reachedFrom_1 : decode cX0_reachedFrom 1 = .ok (.istore_n 2, 1) := by decide +kernel
theorem dX0_reachedFrom_2 : decode cX0_reachedFrom 2 = .ok (.iconst 0, 1) := by decide +kernel
theorem dX0_reachedFrom_3 : decode cX0_reachedFrom 3 = .ok (.istore_n 3, 1) := by decide +kernel
theorem dX0_reachedFrom_4 : decode cX0_reachedFrom 4 = .ok (.iload_n 3, 1) := by decide +kernel
theorem dX0_reachedFrom_5 : decode cX0_reachedFrom 5 = .ok (.bipush 8, 2) := by decide +kernel
theorem dX0_reachedFrom_7 : decode cX0_reachedFrom 7 = .ok (.if_icmp .ge 25, 3) := by decide +kernel
theorem dX0_reachedFrom_10 : decode cX0_reachedFrom 10 = .ok (.aload_n 0, 1) := by decide +kernel
theorem dX0_reachedFrom_11 : decode cX0_reachedFrom 11 = .ok (.iload_n 1, 1) := by decide +kernel
theorem dX0_reachedFrom_12 : decode cX0_reachedFrom 12 = .ok (.iload_n 3, 1) := by decide +kernel
theorem dX0_reachedFrom_13 : decode cX0_reachedFrom 13 = .ok (.invokevirtual 39, 3) := by decide +kernel
theorem dX0_reachedFrom_16 : decode cX0_reachedFrom 16 = .ok (.iconst (-1), 1) := by decide +kernel
theorem dX0_reachedFrom_17 : decode cX0_reachedFrom 17 = .ok (.if_icmp .eq 9, 3) := by decide +kernel
theorem dX0_reachedFrom_20 : decode cX0_reachedFrom 20 = .ok (.iload_n 2, 1) := by decide +kernel
theorem dX0_reachedFrom_21 : decode cX0_reachedFrom 21 = .ok (.iconst 1, 1) := by decide +kernel
theorem dX0_reachedFrom_22 : decode cX0_reachedFrom 22 = .ok (.iload_n 3, 1) := by decide +kernel
theorem dX0_reachedFrom_23 : decode cX0_reachedFrom 23 = .ok (.ishl, 1) := by decide +kernel
theorem dX0_reachedFrom_24 : decode cX0_reachedFrom 24 = .ok (.ior, 1) := by decide +kernel
theorem dX0_reachedFrom_25 : decode cX0_reachedFrom 25 = .ok (.istore_n 2, 1) := by decide +kernel
theorem dX0_reachedFrom_26 : decode cX0_reachedFrom 26 = .ok (.iinc 3 1, 3) := by decide +kernel
theorem dX0_reachedFrom_29 : decode cX0_reachedFrom 29 = .ok (.goto (-25), 3) := by decide +kernel
theorem dX0_reachedFrom_32 : decode cX0_reachedFrom 32 = .ok (.iload_n 2, 1) := by decide +kernel
theorem dX0_reachedFrom_33 : decode cX0_reachedFrom 33 = .ok (.ireturn, 1) := by decide +kernel
theorem dX0_pairsUnlike_0 : decode cX0_pairsUnlike 0 = .ok (.iconst 0, 1) := by decide +kernel
theorem dX0_pairsUnlike_1 : decode cX0_pairsUnlike 1 = .ok (.istore_n 2, 1) := by decide +kernel
theorem dX0_pairsUnlike_2 : decode cX0_pairsUnlike 2 = .ok (.iconst 0, 1) := by decide +kernel
theorem dX0_pairsUnlike_3 : decode cX0_pairsUnlike 3 = .ok (.istore_n 3, 1) := by decide +kernel
theorem dX0_pairsUnlike_4 : decode cX0_pairsUnlike 4 = .ok (.iload_n 3, 1) := by decide +kernel
theorem dX0_pairsUnlike_5 : decode cX0_pairsUnlike 5 = .ok (.bipush 8, 2) := by decide +kernel
theorem dX0_pairsUnlike_7 : decode cX0_pairsUnlike 7 = .ok (.if_icmp .ge 49, 3) := by decide +kernel
theorem dX0_pairsUnlike_10 : decode cX0_pairsUnlike 10 = .ok (.iload_n 3, 1) := by decide +kernel
theorem dX0_pairsUnlike_11 : decode cX0_pairsUnlike 11 = .ok (.iconst 1, 1) := by decide +kernel
theorem dX0_pairsUnlike_12 : decode cX0_pairsUnlike 12 = .ok (.iadd, 1) := by decide +kernel
theorem dX0_pairsUnlike_13 : decode cX0_pairsUnlike 13 = .ok (.istore 4, 2) := by decide +kernel
theorem dX0_pairsUnlike_15 : decode cX0_pairsUnlike 15 = .ok (.iload 4, 2) := by decide +kernel
theorem dX0_pairsUnlike_17 : decode cX0_pairsUnlike 17 = .ok (.bipush 8, 2) := by decide +kernel
theorem dX0_pairsUnlike_19 : decode cX0_pairsUnlike 19 = .ok (.if_icmp .ge 31, 3) := by decide +kernel
theorem dX0_pairsUnlike_22 : decode cX0_pairsUnlike 22 = .ok (.aload_n 0, 1) := by decide +kernel
theorem dX0_pairsUnlike_23 : decode cX0_pairsUnlike 23 = .ok (.getfield 11, 3) := by decide +kernel
theorem dX0_pairsUnlike_26 : decode cX0_pairsUnlike 26 = .ok (.iload_n 3, 1) := by decide +kernel
theorem dX0_pairsUnlike_27 : decode cX0_pairsUnlike 27 = .ok (.aaload, 1) := by decide +kernel
theorem dX0_pairsUnlike_28 : decode cX0_pairsUnlike 28 = .ok (.iload 4, 2) := by decide +kernel
theorem dX0_pairsUnlike_30 : decode cX0_pairsUnlike 30 = .ok (.iaload, 1) := by decide +kernel
theorem dX0_pairsUnlike_31 : decode cX0_pairsUnlike 31 = .ok (.aload_n 1, 1) := by decide +kernel
theorem dX0_pairsUnlike_32 : decode cX0_pairsUnlike 32 = .ok (.iload_n 3, 1) := by decide +kernel
theorem dX0_pairsUnlike_33 : decode cX0_pairsUnlike 33 = .ok (.iload 4, 2) := by decide +kernel
theorem dX0_pairsUnlike_35 : decode cX0_pairsUnlike 35 = .ok (.invokevirtual 39, 3) := by decide +kernel
theorem dX0_pairsUnlike_38 : decode cX0_pairsUnlike 38 = .ok (.if_icmp .eq 6, 3) := by decide +kernel
theorem dX0_pairsUnlike_41 : decode cX0_pairsUnlike 41 = .ok (.iinc 2 1, 3) := by decide +kernel
theorem dX0_pairsUnlike_44 : decode cX0_pairsUnlike 44 = .ok (.iinc 4 1, 3) := by decide +kernel
theorem dX0_pairsUnlike_47 : decode cX0_pairsUnlike 47 = .ok (.goto (-32), 3) := by decide +kernel
theorem dX0_pairsUnlike_50 : decode cX0_pairsUnlike 50 = .ok (.iinc 3 1, 3) := by decide +kernel
theorem dX0_pairsUnlike_53 : decode cX0_pairsUnlike 53 = .ok (.goto (-49), 3) := by decide +kernel
theorem dX0_pairsUnlike_56 : decode cX0_pairsUnlike 56 = .ok (.iload_n 2, 1) := by decide +kernel
theorem dX0_pairsUnlike_57 : decode cX0_pairsUnlike 57 = .ok (.ireturn, 1) := by decide +kernel
theorem dX0_mostUnlike_0 : decode cX0_mostUnlike 0 = .ok (.iconst 0, 1) := by decide +kernel
theorem dX0_mostUnlike_1 : decode cX0_mostUnlike 1 = .ok (.istore_n 2, 1) := by decide +kernel
theorem dX0_mostUnlike_2 : decode cX0_mostUnlike 2 = .ok (.iconst 0, 1) := by decide +kernel
theorem dX0_mostUnlike_3 : decode cX0_mostUnlike 3 = .ok (.istore_n 3, 1) := by decide +kernel
theorem dX0_mostUnlike_4 : decode cX0_mostUnlike 4 = .ok (.iload_n 3, 1) := by decide +kernel
theorem dX0_mostUnlike_5 : decode cX0_mostUnlike 5 = .ok (.bipush 8, 2) := by decide +kernel
theorem dX0_mostUnlike_7 : decode cX0_mostUnlike 7 = .ok (.if_icmp .ge 72, 3) := by decide +kernel
theorem dX0_mostUnlike_10 : decode cX0_mostUnlike 10 = .ok (.iload_n 3, 1) := by decide +kernel
theorem dX0_mostUnlike_11 : decode cX0_mostUnlike 11 = .ok (.iconst 1, 1) := by decide +kernel
theorem dX0_mostUnlike_12 : decode cX0_mostUnlike 12 = .ok (.iadd, 1) := by decide +kernel
theorem dX0_mostUnlike_13 : decode cX0_mostUnlike 13 = .ok (.istore 4, 2) := by decide +kernel
theorem dX0_mostUnlike_15 : decode cX0_mostUnlike 15 = .ok (.iload 4, 2) := by decide +kernel
theorem dX0_mostUnlike_17 : decode cX0_mostUnlike 17 = .ok (.bipush 8, 2) := by decide +kernel
theorem dX0_mostUnlike_19 : decode cX0_mostUnlike 19 = .ok (.if_icmp .ge 54, 3) := by decide +kernel
theorem dX0_mostUnlike_22 : decode cX0_mostUnlike 22 = .ok (.aload_n 0, 1) := by decide +kernel
theorem dX0_mostUnlike_23 : decode cX0_mostUnlike 23 = .ok (.getfield 11, 3) := by decide +kernel
theorem dX0_mostUnlike_26 : decode cX0_mostUnlike 26 = .ok (.iload_n 3, 1) := by decide +kernel
theorem dX0_mostUnlike_27 : decode cX0_mostUnlike 27 = .ok (.aaload, 1) := by decide +kernel
theorem dX0_mostUnlike_28 : decode cX0_mostUnlike 28 = .ok (.iload 4, 2) := by decide +kernel
theorem dX0_mostUnlike_30 : decode cX0_mostUnlike 30 = .ok (.iaload, 1) := by decide +kernel
theorem dX0_mostUnlike_31 : decode cX0_mostUnlike 31 = .ok (.istore 5, 2) := by decide +kernel
theorem dX0_mostUnlike_33 : decode cX0_mostUnlike 33 = .ok (.aload_n 1, 1) := by decide +kernel
theorem dX0_mostUnlike_34 : decode cX0_mostUnlike 34 = .ok (.iload_n 3, 1) := by decide +kernel
theorem dX0_mostUnlike_35 : decode cX0_mostUnlike 35 = .ok (.iload 4, 2) := by decide +kernel
theorem dX0_mostUnlike_37 : decode cX0_mostUnlike 37 = .ok (.invokevirtual 39, 3) := by decide +kernel
theorem dX0_mostUnlike_40 : decode cX0_mostUnlike 40 = .ok (.istore 6, 2) := by decide +kernel
theorem dX0_mostUnlike_42 : decode cX0_mostUnlike 42 = .ok (.iload 5, 2) := by decide +kernel
theorem dX0_mostUnlike_44 : decode cX0_mostUnlike 44 = .ok (.iconst (-1), 1) := by decide +kernel
theorem dX0_mostUnlike_45 : decode cX0_mostUnlike 45 = .ok (.if_icmp .eq 22, 3) := by decide +kernel
theorem dX0_mostUnlike_48 : decode cX0_mostUnlike 48 = .ok (.iload 6, 2) := by decide +kernel
theorem dX0_mostUnlike_50 : decode cX0_mostUnlike 50 = .ok (.iconst (-1), 1) := by decide +kernel
theorem dX0_mostUnlike_51 : decode cX0_mostUnlike 51 = .ok (.if_icmp .eq 16, 3) := by decide +kernel
theorem dX0_mostUnlike_54 : decode cX0_mostUnlike 54 = .ok (.iload_n 2, 1) := by decide +kernel
theorem dX0_mostUnlike_55 : decode cX0_mostUnlike 55 = .ok (.iload 5, 2) := by decide +kernel
theorem dX0_mostUnlike_57 : decode cX0_mostUnlike 57 = .ok (.iload 6, 2) := by decide +kernel
theorem dX0_mostUnlike_59 : decode cX0_mostUnlike 59 = .ok (.isub, 1) := by decide +kernel
theorem dX0_mostUnlike_60 : decode cX0_mostUnlike 60 = .ok (.invokestatic 43, 3) := by decide +kernel
theorem dX0_mostUnlike_63 : decode cX0_mostUnlike 63 = .ok (.invokestatic 49, 3) := by decide +kernel
theorem dX0_mostUnlike_66 : decode cX0_mostUnlike 66 = .ok (.istore_n 2, 1) := by decide +kernel
theorem dX0_mostUnlike_67 : decode cX0_mostUnlike 67 = .ok (.iinc 4 1, 3) := by decide +kernel
theorem dX0_mostUnlike_70 : decode cX0_mostUnlike 70 = .ok (.goto (-55), 3) := by decide +kernel
theorem dX0_mostUnlike_73 : decode cX0_mostUnlike 73 = .ok (.iinc 3 1, 3) := by decide +kernel
theorem dX0_mostUnlike_76 : decode cX0_mostUnlike 76 = .ok (.goto (-72), 3) := by decide +kernel
theorem dX0_mostUnlike_79 : decode cX0_mostUnlike 79 = .ok (.iload_n 2, 1) := by decide +kernel
theorem dX0_mostUnlike_80 : decode cX0_mostUnlike 80 = .ok (.ireturn, 1) := by decide +kernel
theorem dX0_layOut_0 : decode cX0_layOut 0 = .ok (.aload_n 0, 1) := by decide +kernel
theorem dX0_layOut_1 : decode cX0_layOut 1 = .ok (.getfield 16, 3) := by decide +kernel
theorem dX0_layOut_4 : decode cX0_layOut 4 = .ok (.iconst 0, 1) := by decide +kernel
theorem dX0_layOut_5 : decode cX0_layOut 5 = .ok (.invokestatic 52, 3) := by decide +kernel
theorem dX0_layOut_8 : decode cX0_layOut 8 = .ok (.iconst 0, 1) := by decide +kernel
theorem dX0_layOut_9 : decode cX0_layOut 9 = .ok (.istore_n 3, 1) := by decide +kernel
theorem dX0_layOut_10 : decode cX0_layOut 10 = .ok (.iload_n 3, 1) := by decide +kernel
theorem dX0_layOut_11 : decode cX0_layOut 11 = .ok (.aload_n 1, 1) := by decide +kernel
theorem dX0_layOut_12 : decode cX0_layOut 12 = .ok (.invokevirtual 58, 3) := by decide +kernel
theorem dX0_layOut_15 : decode cX0_layOut 15 = .ok (.if_icmp .ge 36, 3) := by decide +kernel
theorem dX0_layOut_18 : decode cX0_layOut 18 = .ok (.iload_n 2, 1) := by decide +kernel
theorem dX0_layOut_19 : decode cX0_layOut 19 = .ok (.iload_n 3, 1) := by decide +kernel
theorem dX0_layOut_20 : decode cX0_layOut 20 = .ok (.ishr, 1) := by decide +kernel
theorem dX0_layOut_21 : decode cX0_layOut 21 = .ok (.iconst 1, 1) := by decide +kernel
theorem dX0_layOut_22 : decode cX0_layOut 22 = .ok (.iand, 1) := by decide +kernel
theorem dX0_layOut_23 : decode cX0_layOut 23 = .ok (.iconst 1, 1) := by decide +kernel
theorem dX0_layOut_24 : decode cX0_layOut 24 = .ok (.if_icmp .ne 21, 3) := by decide +kernel
theorem dX0_layOut_27 : decode cX0_layOut 27 = .ok (.aload_n 0, 1) := by decide +kernel
theorem dX0_layOut_28 : decode cX0_layOut 28 = .ok (.aload_n 1, 1) := by decide +kernel
theorem dX0_layOut_29 : decode cX0_layOut 29 = .ok (.iconst 2, 1) := by decide +kernel
theorem dX0_layOut_30 : decode cX0_layOut 30 = .ok (.iload_n 3, 1) := by decide +kernel
theorem dX0_layOut_31 : decode cX0_layOut 31 = .ok (.imul, 1) := by decide +kernel
theorem dX0_layOut_32 : decode cX0_layOut 32 = .ok (.invokevirtual 64, 3) := by decide +kernel
theorem dX0_layOut_35 : decode cX0_layOut 35 = .ok (.aload_n 1, 1) := by decide +kernel
theorem dX0_layOut_36 : decode cX0_layOut 36 = .ok (.iconst 2, 1) := by decide +kernel
theorem dX0_layOut_37 : decode cX0_layOut 37 = .ok (.iload_n 3, 1) := by decide +kernel
theorem dX0_layOut_38 : decode cX0_layOut 38 = .ok (.imul, 1) := by decide +kernel
theorem dX0_layOut_39 : decode cX0_layOut 39 = .ok (.invokevirtual 67, 3) := by decide +kernel
theorem dX0_layOut_42 : decode cX0_layOut 42 = .ok (.invokevirtual 31, 3) := by decide +kernel
theorem dX0_layOut_45 : decode cX0_layOut 45 = .ok (.iinc 3 1, 3) := by decide +kernel
theorem dX0_layOut_48 : decode cX0_layOut 48 = .ok (.goto (-38), 3) := by decide +kernel
theorem dX0_layOut_51 : decode cX0_layOut 51 = .ok (.return_, 1) := by decide +kernel
theorem dX0_link_0 : decode cX0_link 0 = .ok (.iload_n 1, 1) := by decide +kernel
theorem dX0_link_1 : decode cX0_link 1 = .ok (.ifCond .lt 43, 3) := by decide +kernel
theorem dX0_link_4 : decode cX0_link 4 = .ok (.iload_n 1, 1) := by decide +kernel
theorem dX0_link_5 : decode cX0_link 5 = .ok (.bipush 8, 2) := by decide +kernel
theorem dX0_link_7 : decode cX0_link 7 = .ok (.if_icmp .ge 37, 3) := by decide +kernel
theorem dX0_link_10 : decode cX0_link 10 = .ok (.iload_n 2, 1) := by decide +kernel
theorem dX0_link_11 : decode cX0_link 11 = .ok (.ifCond .lt 33, 3) := by decide +kernel
theorem dX0_link_14 : decode cX0_link 14 = .ok (.iload_n 2, 1) := by decide +kernel
theorem dX0_link_15 : decode cX0_link 15 = .ok (.bipush 8, 2) := by decide +kernel
theorem dX0_link_17 : decode cX0_link 17 = .ok (.if_icmp .ge 27, 3) := by decide +kernel
theorem dX0_link_20 : decode cX0_link 20 = .ok (.aload_n 0, 1) := by decide +kernel
theorem dX0_link_21 : decode cX0_link 21 = .ok (.getfield 16, 3) := by decide +kernel
theorem dX0_link_24 : decode cX0_link 24 = .ok (.iload_n 1, 1) := by decide +kernel
theorem dX0_link_25 : decode cX0_link 25 = .ok (.dup2, 1) := by decide +kernel
theorem dX0_link_26 : decode cX0_link 26 = .ok (.iaload, 1) := by decide +kernel
theorem dX0_link_27 : decode cX0_link 27 = .ok (.iconst 1, 1) := by decide +kernel
theorem dX0_link_28 : decode cX0_link 28 = .ok (.iload_n 2, 1) := by decide +kernel
theorem dX0_link_29 : decode cX0_link 29 = .ok (.ishl, 1) := by decide +kernel
theorem dX0_link_30 : decode cX0_link 30 = .ok (.ior, 1) := by decide +kernel
theorem dX0_link_31 : decode cX0_link 31 = .ok (.iastore, 1) := by decide +kernel
theorem dX0_link_32 : decode cX0_link 32 = .ok (.aload_n 0, 1) := by decide +kernel
theorem dX0_link_33 : decode cX0_link 33 = .ok (.getfield 16, 3) := by decide +kernel
theorem dX0_link_36 : decode cX0_link 36 = .ok (.iload_n 2, 1) := by decide +kernel
theorem dX0_link_37 : decode cX0_link 37 = .ok (.dup2, 1) := by decide +kernel
theorem dX0_link_38 : decode cX0_link 38 = .ok (.iaload, 1) := by decide +kernel
theorem dX0_link_39 : decode cX0_link 39 = .ok (.iconst 1, 1) := by decide +kernel
theorem dX0_link_40 : decode cX0_link 40 = .ok (.iload_n 1, 1) := by decide +kernel
theorem dX0_link_41 : decode cX0_link 41 = .ok (.ishl, 1) := by decide +kernel
theorem dX0_link_42 : decode cX0_link 42 = .ok (.ior, 1) := by decide +kernel
theorem dX0_link_43 : decode cX0_link 43 = .ok (.iastore, 1) := by decide +kernel
theorem dX0_link_44 : decode cX0_link 44 = .ok (.return_, 1) := by decide +kernel
theorem dX0_spread_0 : decode cX0_spread 0 = .ok (.aload_n 0, 1) := by decide +kernel
theorem dX0_spread_1 : decode cX0_spread 1 = .ok (.getfield 11, 3) := by decide +kernel
theorem dX0_spread_4 : decode cX0_spread 4 = .ok (.iload_n 1, 1) := by decide +kernel
theorem dX0_spread_5 : decode cX0_spread 5 = .ok (.aaload, 1) := by decide +kernel
theorem dX0_spread_6 : decode cX0_spread 6 = .ok (.astore_n 2, 1) := by decide +kernel
theorem dX0_spread_7 : decode cX0_spread 7 = .ok (.aload_n 2, 1) := by decide +kernel
theorem dX0_spread_8 : decode cX0_spread 8 = .ok (.iconst (-1), 1) := by decide +kernel
theorem dX0_spread_9 : decode cX0_spread 9 = .ok (.invokestatic 52, 3) := by decide +kernel
theorem dX0_spread_12 : decode cX0_spread 12 = .ok (.aload_n 2, 1) := by decide +kernel
theorem dX0_spread_13 : decode cX0_spread 13 = .ok (.iload_n 1, 1) := by decide +kernel
theorem dX0_spread_14 : decode cX0_spread 14 = .ok (.iconst 0, 1) := by decide +kernel
theorem dX0_spread_15 : decode cX0_spread 15 = .ok (.iastore, 1) := by decide +kernel
theorem dX0_spread_16 : decode cX0_spread 16 = .ok (.aload_n 0, 1) := by decide +kernel
theorem dX0_spread_17 : decode cX0_spread 17 = .ok (.getfield 20, 3) := by decide +kernel
theorem dX0_spread_20 : decode cX0_spread 20 = .ok (.iconst 0, 1) := by decide +kernel
theorem dX0_spread_21 : decode cX0_spread 21 = .ok (.iload_n 1, 1) := by decide +kernel
theorem dX0_spread_22 : decode cX0_spread 22 = .ok (.iastore, 1) := by decide +kernel
theorem dX0_spread_23 : decode cX0_spread 23 = .ok (.iconst 1, 1) := by decide +kernel
theorem dX0_spread_24 : decode cX0_spread 24 = .ok (.istore_n 3, 1) := by decide +kernel
theorem dX0_spread_25 : decode cX0_spread 25 = .ok (.iconst 1, 1) := by decide +kernel
theorem dX0_spread_26 : decode cX0_spread 26 = .ok (.iload_n 1, 1) := by decide +kernel
theorem dX0_spread_27 : decode cX0_spread 27 = .ok (.ishl, 1) := by decide +kernel
theorem dX0_spread_28 : decode cX0_spread 28 = .ok (.istore 4, 2) := by decide +kernel
theorem dX0_spread_30 : decode cX0_spread 30 = .ok (.iconst 0, 1) := by decide +kernel
theorem dX0_spread_31 : decode cX0_spread 31 = .ok (.istore 5, 2) := by decide +kernel
theorem dX0_spread_33 : decode cX0_spread 33 = .ok (.iload 5, 2) := by decide +kernel
theorem dX0_spread_35 : decode cX0_spread 35 = .ok (.iload_n 3, 1) := by decide +kernel
theorem dX0_spread_36 : decode cX0_spread 36 = .ok (.if_icmp .ge 108, 3) := by decide +kernel
theorem dX0_spread_39 : decode cX0_spread 39 = .ok (.iload 5, 2) := by decide +kernel
theorem dX0_spread_41 : decode cX0_spread 41 = .ok (.bipush 8, 2) := by decide +kernel
theorem dX0_spread_43 : decode cX0_spread 43 = .ok (.if_icmp .ge 101, 3) := by decide +kernel
theorem dX0_spread_46 : decode cX0_spread 46 = .ok (.aload_n 0, 1) := by decide +kernel
theorem dX0_spread_47 : decode cX0_spread 47 = .ok (.getfield 20, 3) := by decide +kernel
theorem dX0_spread_50 : decode cX0_spread 50 = .ok (.iload 5, 2) := by decide +kernel
theorem dX0_spread_52 : decode cX0_spread 52 = .ok (.iaload, 1) := by decide +kernel
theorem dX0_spread_53 : decode cX0_spread 53 = .ok (.istore 6, 2) := by decide +kernel
theorem dX0_spread_55 : decode cX0_spread 55 = .ok (.aload_n 0, 1) := by decide +kernel
theorem dX0_spread_56 : decode cX0_spread 56 = .ok (.getfield 16, 3) := by decide +kernel
theorem dX0_spread_59 : decode cX0_spread 59 = .ok (.iload 6, 2) := by decide +kernel
theorem dX0_spread_61 : decode cX0_spread 61 = .ok (.iaload, 1) := by decide +kernel
theorem dX0_spread_62 : decode cX0_spread 62 = .ok (.iload 4, 2) := by decide +kernel
theorem dX0_spread_64 : decode cX0_spread 64 = .ok (.iconst (-1), 1) := by decide +kernel
theorem dX0_spread_65 : decode cX0_spread 65 = .ok (.ixor, 1) := by decide +kernel
theorem dX0_spread_66 : decode cX0_spread 66 = .ok (.iand, 1) := by decide +kernel
theorem dX0_spread_67 : decode cX0_spread 67 = .ok (.istore 7, 2) := by decide +kernel
theorem dX0_spread_69 : decode cX0_spread 69 = .ok (.iload 4, 2) := by decide +kernel
theorem dX0_spread_71 : decode cX0_spread 71 = .ok (.iload 7, 2) := by decide +kernel
theorem dX0_spread_73 : decode cX0_spread 73 = .ok (.ior, 1) := by decide +kernel
theorem dX0_spread_74 : decode cX0_spread 74 = .ok (.istore 4, 2) := by decide +kernel
theorem dX0_spread_76 : decode cX0_spread 76 = .ok (.iconst 0, 1) := by decide +kernel
theorem dX0_spread_77 : decode cX0_spread 77 = .ok (.istore 8, 2) := by decide +kernel
theorem dX0_spread_79 : decode cX0_spread 79 = .ok (.iload 8, 2) := by decide +kernel
theorem dX0_spread_81 : decode cX0_spread 81 = .ok (.bipush 8, 2) := by decide +kernel
theorem dX0_spread_83 : decode cX0_spread 83 = .ok (.if_icmp .ge 55, 3) := by decide +kernel
theorem dX0_spread_86 : decode cX0_spread 86 = .ok (.iload 7, 2) := by decide +kernel
theorem dX0_spread_88 : decode cX0_spread 88 = .ok (.iload 8, 2) := by decide +kernel
theorem dX0_spread_90 : decode cX0_spread 90 = .ok (.ishr, 1) := by decide +kernel
theorem dX0_spread_91 : decode cX0_spread 91 = .ok (.ifCond .eq 47, 3) := by decide +kernel
theorem dX0_spread_94 : decode cX0_spread 94 = .ok (.iload 7, 2) := by decide +kernel
theorem dX0_spread_96 : decode cX0_spread 96 = .ok (.iload 8, 2) := by decide +kernel
theorem dX0_spread_98 : decode cX0_spread 98 = .ok (.ishr, 1) := by decide +kernel
theorem dX0_spread_99 : decode cX0_spread 99 = .ok (.iconst 1, 1) := by decide +kernel
theorem dX0_spread_100 : decode cX0_spread 100 = .ok (.iand, 1) := by decide +kernel
theorem dX0_spread_101 : decode cX0_spread 101 = .ok (.iconst 1, 1) := by decide +kernel
theorem dX0_spread_102 : decode cX0_spread 102 = .ok (.if_icmp .ne 30, 3) := by decide +kernel
theorem dX0_spread_105 : decode cX0_spread 105 = .ok (.iload_n 3, 1) := by decide +kernel
theorem dX0_spread_106 : decode cX0_spread 106 = .ok (.bipush 8, 2) := by decide +kernel
theorem dX0_spread_108 : decode cX0_spread 108 = .ok (.if_icmp .ge 24, 3) := by decide +kernel
theorem dX0_spread_111 : decode cX0_spread 111 = .ok (.aload_n 2, 1) := by decide +kernel
theorem dX0_spread_112 : decode cX0_spread 112 = .ok (.iload 8, 2) := by decide +kernel
theorem dX0_spread_114 : decode cX0_spread 114 = .ok (.aload_n 2, 1) := by decide +kernel
theorem dX0_spread_115 : decode cX0_spread 115 = .ok (.iload 6, 2) := by decide +kernel
theorem dX0_spread_117 : decode cX0_spread 117 = .ok (.iaload, 1) := by decide +kernel
theorem dX0_spread_118 : decode cX0_spread 118 = .ok (.iconst 1, 1) := by decide +kernel
theorem dX0_spread_119 : decode cX0_spread 119 = .ok (.iadd, 1) := by decide +kernel
theorem dX0_spread_120 : decode cX0_spread 120 = .ok (.iastore, 1) := by decide +kernel
theorem dX0_spread_121 : decode cX0_spread 121 = .ok (.aload_n 0, 1) := by decide +kernel
theorem dX0_spread_122 : decode cX0_spread 122 = .ok (.getfield 20, 3) := by decide +kernel
theorem dX0_spread_125 : decode cX0_spread 125 = .ok (.iload_n 3, 1) := by decide +kernel
theorem dX0_spread_126 : decode cX0_spread 126 = .ok (.iload 8, 2) := by decide +kernel
theorem dX0_spread_128 : decode cX0_spread 128 = .ok (.iastore, 1) := by decide +kernel
theorem dX0_spread_129 : decode cX0_spread 129 = .ok (.iinc 3 1, 3) := by decide +kernel
theorem dX0_spread_132 : decode cX0_spread 132 = .ok (.iinc 8 1, 3) := by decide +kernel
theorem dX0_spread_135 : decode cX0_spread 135 = .ok (.goto (-56), 3) := by decide +kernel
theorem dX0_spread_138 : decode cX0_spread 138 = .ok (.iinc 5 1, 3) := by decide +kernel
theorem dX0_spread_141 : decode cX0_spread 141 = .ok (.goto (-108), 3) := by decide +kernel
theorem dX0_spread_144 : decode cX0_spread 144 = .ok (.return_, 1) := by decide +kernel
theorem dX1_init_0 : decode cX1_init 0 = .ok (.aload_n 0, 1) := by decide +kernel
theorem dX1_init_1 : decode cX1_init 1 = .ok (.invokespecial 3, 3) := by decide +kernel
theorem dX1_init_4 : decode cX1_init 4 = .ok (.aload_n 0, 1) := by decide +kernel
theorem dX1_init_5 : decode cX1_init 5 = .ok (.new 9, 3) := by decide +kernel
theorem dX1_init_8 : decode cX1_init 8 = .ok (.dup, 1) := by decide +kernel
theorem dX1_init_9 : decode cX1_init 9 = .ok (.invokespecial 11, 3) := by decide +kernel
theorem dX1_init_12 : decode cX1_init 12 = .ok (.putfield 12, 3) := by decide +kernel
theorem dX1_init_15 : decode cX1_init 15 = .ok (.aload_n 0, 1) := by decide +kernel
theorem dX1_init_16 : decode cX1_init 16 = .ok (.bipush 8, 2) := by decide +kernel
theorem dX1_init_18 : decode cX1_init 18 = .ok (.newarray .int, 2) := by decide +kernel
theorem dX1_init_20 : decode cX1_init 20 = .ok (.putfield 18, 3) := by decide +kernel
theorem dX1_init_23 : decode cX1_init 23 = .ok (.aload_n 0, 1) := by decide +kernel
theorem dX1_init_24 : decode cX1_init 24 = .ok (.bipush 8, 2) := by decide +kernel
theorem dX1_init_26 : decode cX1_init 26 = .ok (.newarray .int, 2) := by decide +kernel
theorem dX1_init_28 : decode cX1_init 28 = .ok (.putfield 22, 3) := by decide +kernel
theorem dX1_init_31 : decode cX1_init 31 = .ok (.aload_n 0, 1) := by decide +kernel
theorem dX1_init_32 : decode cX1_init 32 = .ok (.aload_n 1, 1) := by decide +kernel
theorem dX1_init_33 : decode cX1_init 33 = .ok (.putfield 25, 3) := by decide +kernel
theorem dX1_init_36 : decode cX1_init 36 = .ok (.return_, 1) := by decide +kernel
theorem dX1_fullest_0 : decode cX1_fullest 0 = .ok (.aload_n 0, 1) := by decide +kernel
theorem dX1_fullest_1 : decode cX1_fullest 1 = .ok (.iload_n 1, 1) := by decide +kernel
theorem dX1_fullest_2 : decode cX1_fullest 2 = .ok (.invokevirtual 29, 3) := by decide +kernel
theorem dX1_fullest_5 : decode cX1_fullest 5 = .ok (.iconst 0, 1) := by decide +kernel
theorem dX1_fullest_6 : decode cX1_fullest 6 = .ok (.istore_n 3, 1) := by decide +kernel
theorem dX1_fullest_7 : decode cX1_fullest 7 = .ok (.iload_n 3, 1) := by decide +kernel
theorem dX1_fullest_8 : decode cX1_fullest 8 = .ok (.aload_n 0, 1) := by decide +kernel
theorem dX1_fullest_9 : decode cX1_fullest 9 = .ok (.getfield 25, 3) := by decide +kernel
theorem dX1_fullest_12 : decode cX1_fullest 12 = .ok (.invokevirtual 33, 3) := by decide +kernel
theorem dX1_fullest_15 : decode cX1_fullest 15 = .ok (.if_icmp .gt 30, 3) := by decide +kernel
theorem dX1_fullest_18 : decode cX1_fullest 18 = .ok (.aload_n 0, 1) := by decide +kernel
theorem dX1_fullest_19 : decode cX1_fullest 19 = .ok (.invokevirtual 39, 3) := by decide +kernel
theorem dX1_fullest_22 : decode cX1_fullest 22 = .ok (.iload_n 2, 1) := by decide +kernel
theorem dX1_fullest_23 : decode cX1_fullest 23 = .ok (.iand, 1) := by decide +kernel
theorem dX1_fullest_24 : decode cX1_fullest 24 = .ok (.iload_n 2, 1) := by decide +kernel
theorem dX1_fullest_25 : decode cX1_fullest 25 = .ok (.if_icmp .ne 5, 3) := by decide +kernel
theorem dX1_fullest_28 : decode cX1_fullest 28 = .ok (.iload_n 3, 1) := by decide +kernel
theorem dX1_fullest_29 : decode cX1_fullest 29 = .ok (.ireturn, 1) := by decide +kernel
theorem dX1_fullest_30 : decode cX1_fullest 30 = .ok (.aload_n 0, 1) := by decide +kernel
theorem dX1_fullest_31 : decode cX1_fullest 31 = .ok (.invokevirtual 42, 3) := by decide +kernel
theorem dX1_fullest_34 : decode cX1_fullest 34 = .ok (.ifCond .ne 5, 3) := by decide +kernel
theorem dX1_fullest_37 : decode cX1_fullest 37 = .ok (.iconst (-1), 1) := by decide +kernel
theorem dX1_fullest_38 : decode cX1_fullest 38 = .ok (.ireturn, 1) := by decide +kernel
theorem dX1_fullest_39 : decode cX1_fullest 39 = .ok (.iinc 3 1, 3) := by decide +kernel
theorem dX1_fullest_42 : decode cX1_fullest 42 = .ok (.goto (-35), 3) := by decide +kernel
theorem dX1_fullest_45 : decode cX1_fullest 45 = .ok (.iconst (-1), 1) := by decide +kernel
theorem dX1_fullest_46 : decode cX1_fullest 46 = .ok (.ireturn, 1) := by decide +kernel
theorem dX1_homely_0 : decode cX1_homely 0 = .ok (.aload_n 0, 1) := by decide +kernel
theorem dX1_homely_1 : decode cX1_homely 1 = .ok (.iload_n 1, 1) := by decide +kernel
theorem dX1_homely_2 : decode cX1_homely 2 = .ok (.invokevirtual 29, 3) := by decide +kernel
theorem dX1_homely_5 : decode cX1_homely 5 = .ok (.iconst 1, 1) := by decide +kernel
theorem dX1_homely_6 : decode cX1_homely 6 = .ok (.istore_n 2, 1) := by decide +kernel
theorem dX1_homely_7 : decode cX1_homely 7 = .ok (.iconst 0, 1) := by decide +kernel
theorem dX1_homely_8 : decode cX1_homely 8 = .ok (.istore_n 3, 1) := by decide +kernel
theorem dX1_homely_9 : decode cX1_homely 9 = .ok (.iload_n 3, 1) := by decide +kernel
theorem dX1_homely_10 : decode cX1_homely 10 = .ok (.aload_n 0, 1) := by decide +kernel
theorem dX1_homely_11 : decode cX1_homely 11 = .ok (.getfield 25, 3) := by decide +kernel
theorem dX1_homely_14 : decode cX1_homely 14 = .ok (.invokevirtual 33, 3) := by decide +kernel
theorem dX1_homely_17 : decode cX1_homely 17 = .ok (.if_icmp .ge 18, 3) := by decide +kernel
theorem dX1_homely_20 : decode cX1_homely 20 = .ok (.iload_n 2, 1) := by decide +kernel
theorem dX1_homely_21 : decode cX1_homely 21 = .ok (.ifCond .eq 14, 3) := by decide +kernel
theorem dX1_homely_24 : decode cX1_homely 24 = .ok (.aload_n 0, 1) := by decide +kernel
theorem dX1_homely_25 : decode cX1_homely 25 = .ok (.invokevirtual 42, 3) := by decide +kernel
theorem dX1_homely_28 : decode cX1_homely 28 = .ok (.istore_n 2, 1) := by decide +kernel
theorem dX1_homely_29 : decode cX1_homely 29 = .ok (.iinc 3 1, 3) := by decide +kernel
theorem dX1_homely_32 : decode cX1_homely 32 = .ok (.goto (-23), 3) := by decide +kernel
theorem dX1_homely_35 : decode cX1_homely 35 = .ok (.aload_n 0, 1) := by decide +kernel
theorem dX1_homely_36 : decode cX1_homely 36 = .ok (.invokevirtual 39, 3) := by decide +kernel
theorem dX1_homely_39 : decode cX1_homely 39 = .ok (.ireturn, 1) := by decide +kernel
theorem dX1_stepsTo_0 : decode cX1_stepsTo 0 = .ok (.iconst 0, 1) := by decide +kernel
theorem dX1_stepsTo_1 : decode cX1_stepsTo 1 = .ok (.istore_n 2, 1) := by decide +kernel
theorem dX1_stepsTo_2 : decode cX1_stepsTo 2 = .ok (.iconst 0, 1) := by decide +kernel
theorem dX1_stepsTo_3 : decode cX1_stepsTo 3 = .ok (.istore_n 3, 1) := by decide +kernel
theorem dX1_stepsTo_4 : decode cX1_stepsTo 4 = .ok (.iload_n 3, 1) := by decide +kernel
theorem dX1_stepsTo_5 : decode cX1_stepsTo 5 = .ok (.bipush 8, 2) := by decide +kernel
theorem dX1_stepsTo_7 : decode cX1_stepsTo 7 = .ok (.if_icmp .ge 27, 3) := by decide +kernel
theorem dX1_stepsTo_10 : decode cX1_stepsTo 10 = .ok (.iload_n 1, 1) := by decide +kernel
theorem dX1_stepsTo_11 : decode cX1_stepsTo 11 = .ok (.iload_n 3, 1) := by decide +kernel
theorem dX1_stepsTo_12 : decode cX1_stepsTo 12 = .ok (.ishr, 1) := by decide +kernel
theorem dX1_stepsTo_13 : decode cX1_stepsTo 13 = .ok (.iconst 1, 1) := by decide +kernel
theorem dX1_stepsTo_14 : decode cX1_stepsTo 14 = .ok (.iand, 1) := by decide +kernel
theorem dX1_stepsTo_15 : decode cX1_stepsTo 15 = .ok (.iconst 1, 1) := by decide +kernel
theorem dX1_stepsTo_16 : decode cX1_stepsTo 16 = .ok (.if_icmp .ne 12, 3) := by decide +kernel
theorem dX1_stepsTo_19 : decode cX1_stepsTo 19 = .ok (.iload_n 2, 1) := by decide +kernel
theorem dX1_stepsTo_20 : decode cX1_stepsTo 20 = .ok (.aload_n 0, 1) := by decide +kernel
theorem dX1_stepsTo_21 : decode cX1_stepsTo 21 = .ok (.getfield 18, 3) := by decide +kernel
theorem dX1_stepsTo_24 : decode cX1_stepsTo 24 = .ok (.iload_n 3, 1) := by decide +kernel
theorem dX1_stepsTo_25 : decode cX1_stepsTo 25 = .ok (.iaload, 1) := by decide +kernel
theorem dX1_stepsTo_26 : decode cX1_stepsTo 26 = .ok (.iadd, 1) := by decide +kernel
theorem dX1_stepsTo_27 : decode cX1_stepsTo 27 = .ok (.istore_n 2, 1) := by decide +kernel
theorem dX1_stepsTo_28 : decode cX1_stepsTo 28 = .ok (.iinc 3 1, 3) := by decide +kernel
theorem dX1_stepsTo_31 : decode cX1_stepsTo 31 = .ok (.goto (-27), 3) := by decide +kernel
theorem dX1_stepsTo_34 : decode cX1_stepsTo 34 = .ok (.iload_n 2, 1) := by decide +kernel
theorem dX1_stepsTo_35 : decode cX1_stepsTo 35 = .ok (.ireturn, 1) := by decide +kernel
theorem dX1_reached_0 : decode cX1_reached 0 = .ok (.iconst 0, 1) := by decide +kernel
theorem dX1_reached_1 : decode cX1_reached 1 = .ok (.istore_n 1, 1) := by decide +kernel
theorem dX1_reached_2 : decode cX1_reached 2 = .ok (.iconst 0, 1) := by decide +kernel
theorem dX1_reached_3 : decode cX1_reached 3 = .ok (.istore_n 2, 1) := by decide +kernel
theorem dX1_reached_4 : decode cX1_reached 4 = .ok (.iload_n 2, 1) := by decide +kernel
theorem dX1_reached_5 : decode cX1_reached 5 = .ok (.bipush 8, 2) := by decide +kernel
theorem dX1_reached_7 : decode cX1_reached 7 = .ok (.if_icmp .ge 27, 3) := by decide +kernel
theorem dX1_reached_10 : decode cX1_reached 10 = .ok (.aload_n 0, 1) := by decide +kernel
theorem dX1_reached_11 : decode cX1_reached 11 = .ok (.getfield 18, 3) := by decide +kernel
theorem dX1_reached_14 : decode cX1_reached 14 = .ok (.iload_n 2, 1) := by decide +kernel
theorem dX1_reached_15 : decode cX1_reached 15 = .ok (.iaload, 1) := by decide +kernel
theorem dX1_reached_16 : decode cX1_reached 16 = .ok (.sipush 1000, 3) := by decide +kernel
theorem dX1_reached_19 : decode cX1_reached 19 = .ok (.if_icmp .ge 9, 3) := by decide +kernel
theorem dX1_reached_22 : decode cX1_reached 22 = .ok (.iload_n 1, 1) := by decide +kernel
theorem dX1_reached_23 : decode cX1_reached 23 = .ok (.iconst 1, 1) := by decide +kernel
theorem dX1_reached_24 : decode cX1_reached 24 = .ok (.iload_n 2, 1) := by decide +kernel
theorem dX1_reached_25 : decode cX1_reached 25 = .ok (.ishl, 1) := by decide +kernel
theorem dX1_reached_26 : decode cX1_reached 26 = .ok (.ior, 1) := by decide +kernel
theorem dX1_reached_27 : decode cX1_reached 27 = .ok (.istore_n 1, 1) := by decide +kernel
theorem dX1_reached_28 : decode cX1_reached 28 = .ok (.iinc 2 1, 3) := by decide +kernel
theorem dX1_reached_31 : decode cX1_reached 31 = .ok (.goto (-27), 3) := by decide +kernel
theorem dX1_reached_34 : decode cX1_reached 34 = .ok (.iload_n 1, 1) := by decide +kernel
theorem dX1_reached_35 : decode cX1_reached 35 = .ok (.ireturn, 1) := by decide +kernel
theorem dX1_setOut_0 : decode cX1_setOut 0 = .ok (.aload_n 0, 1) := by decide +kernel
theorem dX1_setOut_1 : decode cX1_setOut 1 = .ok (.getfield 12, 3) := by decide +kernel
theorem dX1_setOut_4 : decode cX1_setOut 4 = .ok (.aload_n 0, 1) := by decide +kernel
theorem dX1_setOut_5 : decode cX1_setOut 5 = .ok (.getfield 25, 3) := by decide +kernel
theorem dX1_setOut_8 : decode cX1_setOut 8 = .ok (.aload_n 0, 1) := by decide +kernel
theorem dX1_setOut_9 : decode cX1_setOut 9 = .ok (.getfield 25, 3) := by decide +kernel
theorem dX1_setOut_12 : decode cX1_setOut 12 = .ok (.invokevirtual 46, 3) := by decide +kernel
theorem dX1_setOut_15 : decode cX1_setOut 15 = .ok (.invokevirtual 49, 3) := by decide +kernel
theorem dX1_setOut_18 : decode cX1_setOut 18 = .ok (.iconst 0, 1) := by decide +kernel
theorem dX1_setOut_19 : decode cX1_setOut 19 = .ok (.istore_n 2, 1) := by decide +kernel
theorem dX1_setOut_20 : decode cX1_setOut 20 = .ok (.iload_n 2, 1) := by decide +kernel
theorem dX1_setOut_21 : decode cX1_setOut 21 = .ok (.bipush 8, 2) := by decide +kernel
theorem dX1_setOut_23 : decode cX1_setOut 23 = .ok (.if_icmp .ge 37, 3) := by decide +kernel
theorem dX1_setOut_26 : decode cX1_setOut 26 = .ok (.aload_n 0, 1) := by decide +kernel
theorem dX1_setOut_27 : decode cX1_setOut 27 = .ok (.getfield 12, 3) := by decide +kernel
theorem dX1_setOut_30 : decode cX1_setOut 30 = .ok (.iload_n 1, 1) := by decide +kernel
theorem dX1_setOut_31 : decode cX1_setOut 31 = .ok (.iload_n 2, 1) := by decide +kernel
theorem dX1_setOut_32 : decode cX1_setOut 32 = .ok (.invokevirtual 53, 3) := by decide +kernel
theorem dX1_setOut_35 : decode cX1_setOut 35 = .ok (.istore_n 3, 1) := by decide +kernel
theorem dX1_setOut_36 : decode cX1_setOut 36 = .ok (.aload_n 0, 1) := by decide +kernel
theorem dX1_setOut_37 : decode cX1_setOut 37 = .ok (.getfield 18, 3) := by decide +kernel
theorem dX1_setOut_40 : decode cX1_setOut 40 = .ok (.iload_n 2, 1) := by decide +kernel
theorem dX1_setOut_41 : decode cX1_setOut 41 = .ok (.iload_n 3, 1) := by decide +kernel
theorem dX1_setOut_42 : decode cX1_setOut 42 = .ok (.iconst (-1), 1) := by decide +kernel
theorem dX1_setOut_43 : decode cX1_setOut 43 = .ok (.if_icmp .ne 9, 3) := by decide +kernel
theorem dX1_setOut_46 : decode cX1_setOut 46 = .ok (.sipush 1000, 3) := by decide +kernel
theorem dX1_setOut_49 : decode cX1_setOut 49 = .ok (.goto 4, 3) := by decide +kernel
theorem dX1_setOut_52 : decode cX1_setOut 52 = .ok (.iload_n 3, 1) := by decide +kernel
theorem dX1_setOut_53 : decode cX1_setOut 53 = .ok (.iastore, 1) := by decide +kernel
theorem dX1_setOut_54 : decode cX1_setOut 54 = .ok (.iinc 2 1, 3) := by decide +kernel
theorem dX1_setOut_57 : decode cX1_setOut 57 = .ok (.goto (-37), 3) := by decide +kernel
theorem dX1_setOut_60 : decode cX1_setOut 60 = .ok (.return_, 1) := by decide +kernel
theorem dX1_allowOneMore_0 : decode cX1_allowOneMore 0 = .ok (.aload_n 0, 1) := by decide +kernel
theorem dX1_allowOneMore_1 : decode cX1_allowOneMore 1 = .ok (.getfield 18, 3) := by decide +kernel
theorem dX1_allowOneMore_4 : decode cX1_allowOneMore 4 = .ok (.iconst 0, 1) := by decide +kernel
theorem dX1_allowOneMore_5 : decode cX1_allowOneMore 5 = .ok (.aload_n 0, 1) := by decide +kernel
theorem dX1_allowOneMore_6 : decode cX1_allowOneMore 6 = .ok (.getfield 22, 3) := by decide +kernel
theorem dX1_allowOneMore_9 : decode cX1_allowOneMore 9 = .ok (.iconst 0, 1) := by decide +kernel
theorem dX1_allowOneMore_10 : decode cX1_allowOneMore 10 = .ok (.bipush 8, 2) := by decide +kernel
theorem dX1_allowOneMore_12 : decode cX1_allowOneMore 12 = .ok (.invokestatic 57, 3) := by decide +kernel
theorem dX1_allowOneMore_15 : decode cX1_allowOneMore 15 = .ok (.iconst 0, 1) := by decide +kernel
theorem dX1_allowOneMore_16 : decode cX1_allowOneMore 16 = .ok (.istore_n 1, 1) := by decide +kernel
theorem dX1_allowOneMore_17 : decode cX1_allowOneMore 17 = .ok (.iconst 0, 1) := by decide +kernel
theorem dX1_allowOneMore_18 : decode cX1_allowOneMore 18 = .ok (.istore_n 2, 1) := by decide +kernel
theorem dX1_allowOneMore_19 : decode cX1_allowOneMore 19 = .ok (.iload_n 2, 1) := by decide +kernel
theorem dX1_allowOneMore_20 : decode cX1_allowOneMore 20 = .ok (.aload_n 0, 1) := by decide +kernel
theorem dX1_allowOneMore_21 : decode cX1_allowOneMore 21 = .ok (.getfield 25, 3) := by decide +kernel
theorem dX1_allowOneMore_24 : decode cX1_allowOneMore 24 = .ok (.invokevirtual 63, 3) := by decide +kernel
theorem dX1_allowOneMore_27 : decode cX1_allowOneMore 27 = .ok (.if_icmp .ge 63, 3) := by decide +kernel
theorem dX1_allowOneMore_30 : decode cX1_allowOneMore 30 = .ok (.aload_n 0, 1) := by decide +kernel
theorem dX1_allowOneMore_31 : decode cX1_allowOneMore 31 = .ok (.getfield 25, 3) := by decide +kernel
theorem dX1_allowOneMore_34 : decode cX1_allowOneMore 34 = .ok (.iload_n 2, 1) := by decide +kernel
theorem dX1_allowOneMore_35 : decode cX1_allowOneMore 35 = .ok (.invokevirtual 66, 3) := by decide +kernel
theorem dX1_allowOneMore_38 : decode cX1_allowOneMore 38 = .ok (.ifCond .eq 46, 3) := by decide +kernel
theorem dX1_allowOneMore_41 : decode cX1_allowOneMore 41 = .ok (.aload_n 0, 1) := by decide +kernel
theorem dX1_allowOneMore_42 : decode cX1_allowOneMore 42 = .ok (.getfield 25, 3) := by decide +kernel
theorem dX1_allowOneMore_45 : decode cX1_allowOneMore 45 = .ok (.iload_n 2, 1) := by decide +kernel
theorem dX1_allowOneMore_46 : decode cX1_allowOneMore 46 = .ok (.invokevirtual 70, 3) := by decide +kernel
theorem dX1_allowOneMore_49 : decode cX1_allowOneMore 49 = .ok (.ifCond .eq 35, 3) := by decide +kernel
theorem dX1_allowOneMore_52 : decode cX1_allowOneMore 52 = .ok (.aload_n 0, 1) := by decide +kernel
theorem dX1_allowOneMore_53 : decode cX1_allowOneMore 53 = .ok (.getfield 25, 3) := by decide +kernel
theorem dX1_allowOneMore_56 : decode cX1_allowOneMore 56 = .ok (.iload_n 2, 1) := by decide +kernel
theorem dX1_allowOneMore_57 : decode cX1_allowOneMore 57 = .ok (.invokevirtual 73, 3) := by decide +kernel
theorem dX1_allowOneMore_60 : decode cX1_allowOneMore 60 = .ok (.istore_n 3, 1) := by decide +kernel
theorem dX1_allowOneMore_61 : decode cX1_allowOneMore 61 = .ok (.iload_n 1, 1) := by decide +kernel
theorem dX1_allowOneMore_62 : decode cX1_allowOneMore 62 = .ok (.aload_n 0, 1) := by decide +kernel
theorem dX1_allowOneMore_63 : decode cX1_allowOneMore 63 = .ok (.iload_n 3, 1) := by decide +kernel
theorem dX1_allowOneMore_64 : decode cX1_allowOneMore 64 = .ok (.aload_n 0, 1) := by decide +kernel
theorem dX1_allowOneMore_65 : decode cX1_allowOneMore 65 = .ok (.getfield 22, 3) := by decide +kernel
theorem dX1_allowOneMore_68 : decode cX1_allowOneMore 68 = .ok (.aload_n 0, 1) := by decide +kernel
theorem dX1_allowOneMore_69 : decode cX1_allowOneMore 69 = .ok (.getfield 25, 3) := by decide +kernel
theorem dX1_allowOneMore_72 : decode cX1_allowOneMore 72 = .ok (.iload_n 2, 1) := by decide +kernel
theorem dX1_allowOneMore_73 : decode cX1_allowOneMore 73 = .ok (.invokevirtual 77, 3) := by decide +kernel
theorem dX1_allowOneMore_76 : decode cX1_allowOneMore 76 = .ok (.iaload, 1) := by decide +kernel
theorem dX1_allowOneMore_77 : decode cX1_allowOneMore 77 = .ok (.iconst 1, 1) := by decide +kernel
theorem dX1_allowOneMore_78 : decode cX1_allowOneMore 78 = .ok (.iadd, 1) := by decide +kernel
theorem dX1_allowOneMore_79 : decode cX1_allowOneMore 79 = .ok (.invokevirtual 80, 3) := by decide +kernel
theorem dX1_allowOneMore_82 : decode cX1_allowOneMore 82 = .ok (.ior, 1) := by decide +kernel
theorem dX1_allowOneMore_83 : decode cX1_allowOneMore 83 = .ok (.istore_n 1, 1) := by decide +kernel
theorem dX1_allowOneMore_84 : decode cX1_allowOneMore 84 = .ok (.iinc 2 1, 3) := by decide +kernel
theorem dX1_allowOneMore_87 : decode cX1_allowOneMore 87 = .ok (.goto (-68), 3) := by decide +kernel
theorem dX1_allowOneMore_90 : decode cX1_allowOneMore 90 = .ok (.iload_n 1, 1) := by decide +kernel
theorem dX1_allowOneMore_91 : decode cX1_allowOneMore 91 = .ok (.ireturn, 1) := by decide +kernel
theorem dX1_comeNearer_0 : decode cX1_comeNearer 0 = .ok (.iload_n 2, 1) := by decide +kernel
theorem dX1_comeNearer_1 : decode cX1_comeNearer 1 = .ok (.aload_n 0, 1) := by decide +kernel
theorem dX1_comeNearer_2 : decode cX1_comeNearer 2 = .ok (.getfield 18, 3) := by decide +kernel
theorem dX1_comeNearer_5 : decode cX1_comeNearer 5 = .ok (.iload_n 1, 1) := by decide +kernel
theorem dX1_comeNearer_6 : decode cX1_comeNearer 6 = .ok (.iaload, 1) := by decide +kernel
theorem dX1_comeNearer_7 : decode cX1_comeNearer 7 = .ok (.if_icmp .lt 5, 3) := by decide +kernel
theorem dX1_comeNearer_10 : decode cX1_comeNearer 10 = .ok (.iconst 0, 1) := by decide +kernel
theorem dX1_comeNearer_11 : decode cX1_comeNearer 11 = .ok (.ireturn, 1) := by decide +kernel
theorem dX1_comeNearer_12 : decode cX1_comeNearer 12 = .ok (.iconst 0, 1) := by decide +kernel
theorem dX1_comeNearer_13 : decode cX1_comeNearer 13 = .ok (.istore_n 3, 1) := by decide +kernel
theorem dX1_comeNearer_14 : decode cX1_comeNearer 14 = .ok (.iload_n 3, 1) := by decide +kernel
theorem dX1_comeNearer_15 : decode cX1_comeNearer 15 = .ok (.bipush 8, 2) := by decide +kernel
theorem dX1_comeNearer_17 : decode cX1_comeNearer 17 = .ok (.if_icmp .ge 45, 3) := by decide +kernel
theorem dX1_comeNearer_20 : decode cX1_comeNearer 20 = .ok (.aload_n 0, 1) := by decide +kernel
theorem dX1_comeNearer_21 : decode cX1_comeNearer 21 = .ok (.getfield 12, 3) := by decide +kernel
theorem dX1_comeNearer_24 : decode cX1_comeNearer 24 = .ok (.iload_n 1, 1) := by decide +kernel
theorem dX1_comeNearer_25 : decode cX1_comeNearer 25 = .ok (.iload_n 3, 1) := by decide +kernel
theorem dX1_comeNearer_26 : decode cX1_comeNearer 26 = .ok (.invokevirtual 53, 3) := by decide +kernel
theorem dX1_comeNearer_29 : decode cX1_comeNearer 29 = .ok (.istore 4, 2) := by decide +kernel
theorem dX1_comeNearer_31 : decode cX1_comeNearer 31 = .ok (.iload 4, 2) := by decide +kernel
theorem dX1_comeNearer_33 : decode cX1_comeNearer 33 = .ok (.iconst (-1), 1) := by decide +kernel
theorem dX1_comeNearer_34 : decode cX1_comeNearer 34 = .ok (.if_icmp .eq 22, 3) := by decide +kernel
theorem dX1_comeNearer_37 : decode cX1_comeNearer 37 = .ok (.aload_n 0, 1) := by decide +kernel
theorem dX1_comeNearer_38 : decode cX1_comeNearer 38 = .ok (.getfield 18, 3) := by decide +kernel
theorem dX1_comeNearer_41 : decode cX1_comeNearer 41 = .ok (.iload_n 3, 1) := by decide +kernel
theorem dX1_comeNearer_42 : decode cX1_comeNearer 42 = .ok (.aload_n 0, 1) := by decide +kernel
theorem dX1_comeNearer_43 : decode cX1_comeNearer 43 = .ok (.getfield 18, 3) := by decide +kernel
theorem dX1_comeNearer_46 : decode cX1_comeNearer 46 = .ok (.iload_n 3, 1) := by decide +kernel
theorem dX1_comeNearer_47 : decode cX1_comeNearer 47 = .ok (.iaload, 1) := by decide +kernel
theorem dX1_comeNearer_48 : decode cX1_comeNearer 48 = .ok (.iload_n 2, 1) := by decide +kernel
theorem dX1_comeNearer_49 : decode cX1_comeNearer 49 = .ok (.iload 4, 2) := by decide +kernel
theorem dX1_comeNearer_51 : decode cX1_comeNearer 51 = .ok (.iadd, 1) := by decide +kernel
theorem dX1_comeNearer_52 : decode cX1_comeNearer 52 = .ok (.invokestatic 84, 3) := by decide +kernel
theorem dX1_comeNearer_55 : decode cX1_comeNearer 55 = .ok (.iastore, 1) := by decide +kernel
theorem dX1_comeNearer_56 : decode cX1_comeNearer 56 = .ok (.iinc 3 1, 3) := by decide +kernel
theorem dX1_comeNearer_59 : decode cX1_comeNearer 59 = .ok (.goto (-45), 3) := by decide +kernel
theorem dX1_comeNearer_62 : decode cX1_comeNearer 62 = .ok (.iconst 1, 1) := by decide +kernel
theorem dX1_comeNearer_63 : decode cX1_comeNearer 63 = .ok (.ireturn, 1) := by decide +kernel
theorem dX2_init_0 : decode cX2_init 0 = .ok (.aload_n 0, 1) := by decide +kernel
theorem dX2_init_1 : decode cX2_init 1 = .ok (.invokespecial 3, 3) := by decide +kernel
theorem dX2_init_4 : decode cX2_init 4 = .ok (.aload_n 0, 1) := by decide +kernel
theorem dX2_init_5 : decode cX2_init 5 = .ok (.new 9, 3) := by decide +kernel
theorem dX2_init_8 : decode cX2_init 8 = .ok (.dup, 1) := by decide +kernel
theorem dX2_init_9 : decode cX2_init 9 = .ok (.invokespecial 11, 3) := by decide +kernel
theorem dX2_init_12 : decode cX2_init 12 = .ok (.putfield 12, 3) := by decide +kernel
theorem dX2_init_15 : decode cX2_init 15 = .ok (.aload_n 0, 1) := by decide +kernel
theorem dX2_init_16 : decode cX2_init 16 = .ok (.aload_n 1, 1) := by decide +kernel
theorem dX2_init_17 : decode cX2_init 17 = .ok (.putfield 18, 3) := by decide +kernel
theorem dX2_init_20 : decode cX2_init 20 = .ok (.return_, 1) := by decide +kernel
theorem dX2_onPaper_0 : decode cX2_onPaper 0 = .ok (.aload_n 0, 1) := by decide +kernel
theorem dX2_onPaper_1 : decode cX2_onPaper 1 = .ok (.getfield 12, 3) := by decide +kernel
theorem dX2_onPaper_4 : decode cX2_onPaper 4 = .ok (.areturn, 1) := by decide +kernel
theorem dX2_begin_0 : decode cX2_begin 0 = .ok (.aload_n 0, 1) := by decide +kernel
theorem dX2_begin_1 : decode cX2_begin 1 = .ok (.iconst (-1), 1) := by decide +kernel
theorem dX2_begin_2 : decode cX2_begin 2 = .ok (.putfield 22, 3) := by decide +kernel
theorem dX2_begin_5 : decode cX2_begin 5 = .ok (.aload_n 0, 1) := by decide +kernel
theorem dX2_begin_6 : decode cX2_begin 6 = .ok (.iload_n 1, 1) := by decide +kernel
theorem dX2_begin_7 : decode cX2_begin 7 = .ok (.putfield 26, 3) := by decide +kernel
theorem dX2_begin_10 : decode cX2_begin 10 = .ok (.aload_n 0, 1) := by decide +kernel
theorem dX2_begin_11 : decode cX2_begin 11 = .ok (.aload_n 0, 1) := by decide +kernel
theorem dX2_begin_12 : decode cX2_begin 12 = .ok (.getfield 12, 3) := by decide +kernel
theorem dX2_begin_15 : decode cX2_begin 15 = .ok (.invokevirtual 29, 3) := by decide +kernel
theorem dX2_begin_18 : decode cX2_begin 18 = .ok (.putfield 33, 3) := by decide +kernel
theorem dX2_begin_21 : decode cX2_begin 21 = .ok (.aload_n 0, 1) := by decide +kernel
theorem dX2_begin_22 : decode cX2_begin 22 = .ok (.iconst 0, 1) := by decide +kernel
theorem dX2_begin_23 : decode cX2_begin 23 = .ok (.putfield 36, 3) := by decide +kernel
theorem dX2_begin_26 : decode cX2_begin 26 = .ok (.return_, 1) := by decide +kernel
theorem dX2_follow_0 : decode cX2_follow 0 = .ok (.iconst 0, 1) := by decide +kernel
theorem dX2_follow_1 : decode cX2_follow 1 = .ok (.istore_n 2, 1) := by decide +kernel
theorem dX2_follow_2 : decode cX2_follow 2 = .ok (.iload_n 2, 1) := by decide +kernel
theorem dX2_follow_3 : decode cX2_follow 3 = .ok (.aload_n 1, 1) := by decide +kernel
theorem dX2_follow_4 : decode cX2_follow 4 = .ok (.invokevirtual 39, 3) := by decide +kernel
theorem dX2_follow_7 : decode cX2_follow 7 = .ok (.if_icmp .ge 41, 3) := by decide +kernel
theorem dX2_follow_10 : decode cX2_follow 10 = .ok (.aload_n 0, 1) := by decide +kernel
theorem dX2_follow_11 : decode cX2_follow 11 = .ok (.getfield 18, 3) := by decide +kernel
theorem dX2_follow_14 : decode cX2_follow 14 = .ok (.aload_n 1, 1) := by decide +kernel
theorem dX2_follow_15 : decode cX2_follow 15 = .ok (.iload_n 2, 1) := by decide +kernel
theorem dX2_follow_16 : decode cX2_follow 16 = .ok (.invokevirtual 42, 3) := by decide +kernel
theorem dX2_follow_19 : decode cX2_follow 19 = .ok (.invokevirtual 46, 3) := by decide +kernel
theorem dX2_follow_22 : decode cX2_follow 22 = .ok (.istore_n 3, 1) := by decide +kernel
theorem dX2_follow_23 : decode cX2_follow 23 = .ok (.aload_n 0, 1) := by decide +kernel
theorem dX2_follow_24 : decode cX2_follow 24 = .ok (.iload_n 3, 1) := by decide +kernel
theorem dX2_follow_25 : decode cX2_follow 25 = .ok (.invokevirtual 51, 3) := by decide +kernel
theorem dX2_follow_28 : decode cX2_follow 28 = .ok (.ifCond .ne 9, 3) := by decide +kernel
theorem dX2_follow_31 : decode cX2_follow 31 = .ok (.aload_n 0, 1) := by decide +kernel
theorem dX2_follow_32 : decode cX2_follow 32 = .ok (.iload_n 2, 1) := by decide +kernel
theorem dX2_follow_33 : decode cX2_follow 33 = .ok (.putfield 22, 3) := by decide +kernel
theorem dX2_follow_36 : decode cX2_follow 36 = .ok (.return_, 1) := by decide +kernel
theorem dX2_follow_37 : decode cX2_follow 37 = .ok (.aload_n 0, 1) := by decide +kernel
theorem dX2_follow_38 : decode cX2_follow 38 = .ok (.iload_n 3, 1) := by decide +kernel
theorem dX2_follow_39 : decode cX2_follow 39 = .ok (.invokevirtual 55, 3) := by decide +kernel
theorem dX2_follow_42 : decode cX2_follow 42 = .ok (.iinc 2 1, 3) := by decide +kernel
theorem dX2_follow_45 : decode cX2_follow 45 = .ok (.goto (-43), 3) := by decide +kernel
theorem dX2_follow_48 : decode cX2_follow 48 = .ok (.return_, 1) := by decide +kernel
theorem dX2_mayPass_0 : decode cX2_mayPass 0 = .ok (.aload_n 0, 1) := by decide +kernel
theorem dX2_mayPass_1 : decode cX2_mayPass 1 = .ok (.getfield 18, 3) := by decide +kernel
theorem dX2_mayPass_4 : decode cX2_mayPass 4 = .ok (.iload_n 1, 1) := by decide +kernel
theorem dX2_mayPass_5 : decode cX2_mayPass 5 = .ok (.invokevirtual 59, 3) := by decide +kernel
theorem dX2_mayPass_8 : decode cX2_mayPass 8 = .ok (.aload_n 0, 1) := by decide +kernel
theorem dX2_mayPass_9 : decode cX2_mayPass 9 = .ok (.getfield 26, 3) := by decide +kernel
theorem dX2_mayPass_12 : decode cX2_mayPass 12 = .ok (.if_icmp .ne 14, 3) := by decide +kernel
theorem dX2_mayPass_15 : decode cX2_mayPass 15 = .ok (.aload_n 0, 1) := by decide +kernel
theorem dX2_mayPass_16 : decode cX2_mayPass 16 = .ok (.getfield 18, 3) := by decide +kernel
theorem dX2_mayPass_19 : decode cX2_mayPass 19 = .ok (.iload_n 1, 1) := by decide +kernel
theorem dX2_mayPass_20 : decode cX2_mayPass 20 = .ok (.invokevirtual 62, 3) := by decide +kernel
theorem dX2_mayPass_23 : decode cX2_mayPass 23 = .ok (.ifCond .ne 5, 3) := by decide +kernel
theorem dX2_mayPass_26 : decode cX2_mayPass 26 = .ok (.iconst 0, 1) := by decide +kernel
theorem dX2_mayPass_27 : decode cX2_mayPass 27 = .ok (.ireturn, 1) := by decide +kernel
theorem dX2_mayPass_28 : decode cX2_mayPass 28 = .ok (.aload_n 0, 1) := by decide +kernel
theorem dX2_mayPass_29 : decode cX2_mayPass 29 = .ok (.getfield 18, 3) := by decide +kernel
theorem dX2_mayPass_32 : decode cX2_mayPass 32 = .ok (.iload_n 1, 1) := by decide +kernel
theorem dX2_mayPass_33 : decode cX2_mayPass 33 = .ok (.invokevirtual 65, 3) := by decide +kernel
theorem dX2_mayPass_36 : decode cX2_mayPass 36 = .ok (.ifCond .eq 31, 3) := by decide +kernel
theorem dX2_mayPass_39 : decode cX2_mayPass 39 = .ok (.aload_n 0, 1) := by decide +kernel
theorem dX2_mayPass_40 : decode cX2_mayPass 40 = .ok (.getfield 12, 3) := by decide +kernel
theorem dX2_mayPass_43 : decode cX2_mayPass 43 = .ok (.iload_n 1, 1) := by decide +kernel
theorem dX2_mayPass_44 : decode cX2_mayPass 44 = .ok (.invokevirtual 68, 3) := by decide +kernel
theorem dX2_mayPass_47 : decode cX2_mayPass 47 = .ok (.ifCond .ne 20, 3) := by decide +kernel
theorem dX2_mayPass_50 : decode cX2_mayPass 50 = .ok (.aload_n 0, 1) := by decide +kernel
theorem dX2_mayPass_51 : decode cX2_mayPass 51 = .ok (.getfield 12, 3) := by decide +kernel
theorem dX2_mayPass_54 : decode cX2_mayPass 54 = .ok (.invokevirtual 29, 3) := by decide +kernel
theorem dX2_mayPass_57 : decode cX2_mayPass 57 = .ok (.aload_n 0, 1) := by decide +kernel
theorem dX2_mayPass_58 : decode cX2_mayPass 58 = .ok (.getfield 18, 3) := by decide +kernel
theorem dX2_mayPass_61 : decode cX2_mayPass 61 = .ok (.invokevirtual 71, 3) := by decide +kernel
theorem dX2_mayPass_64 : decode cX2_mayPass 64 = .ok (.if_icmp .ge 7, 3) := by decide +kernel
theorem dX2_mayPass_67 : decode cX2_mayPass 67 = .ok (.iconst 1, 1) := by decide +kernel
theorem dX2_mayPass_68 : decode cX2_mayPass 68 = .ok (.goto 4, 3) := by decide +kernel
theorem dX2_mayPass_71 : decode cX2_mayPass 71 = .ok (.iconst 0, 1) := by decide +kernel
theorem dX2_mayPass_72 : decode cX2_mayPass 72 = .ok (.ireturn, 1) := by decide +kernel
theorem dX2_pass_0 : decode cX2_pass 0 = .ok (.aload_n 0, 1) := by decide +kernel
theorem dX2_pass_1 : decode cX2_pass 1 = .ok (.aload_n 0, 1) := by decide +kernel
theorem dX2_pass_2 : decode cX2_pass 2 = .ok (.getfield 18, 3) := by decide +kernel
theorem dX2_pass_5 : decode cX2_pass 5 = .ok (.iload_n 1, 1) := by decide +kernel
theorem dX2_pass_6 : decode cX2_pass 6 = .ok (.invokevirtual 74, 3) := by decide +kernel
theorem dX2_pass_9 : decode cX2_pass 9 = .ok (.putfield 26, 3) := by decide +kernel
theorem dX2_pass_12 : decode cX2_pass 12 = .ok (.aload_n 0, 1) := by decide +kernel
theorem dX2_pass_13 : decode cX2_pass 13 = .ok (.getfield 18, 3) := by decide +kernel
theorem dX2_pass_16 : decode cX2_pass 16 = .ok (.iload_n 1, 1) := by decide +kernel
theorem dX2_pass_17 : decode cX2_pass 17 = .ok (.invokevirtual 65, 3) := by decide +kernel
theorem dX2_pass_20 : decode cX2_pass 20 = .ok (.ifCond .ne 4, 3) := by decide +kernel
theorem dX2_pass_23 : decode cX2_pass 23 = .ok (.return_, 1) := by decide +kernel
theorem dX2_pass_24 : decode cX2_pass 24 = .ok (.aload_n 0, 1) := by decide +kernel
theorem dX2_pass_25 : decode cX2_pass 25 = .ok (.getfield 12, 3) := by decide +kernel
theorem dX2_pass_28 : decode cX2_pass 28 = .ok (.iload_n 1, 1) := by decide +kernel
theorem dX2_pass_29 : decode cX2_pass 29 = .ok (.invokevirtual 68, 3) := by decide +kernel
theorem dX2_pass_32 : decode cX2_pass 32 = .ok (.ifCond .eq 13, 3) := by decide +kernel
theorem dX2_pass_35 : decode cX2_pass 35 = .ok (.aload_n 0, 1) := by decide +kernel
theorem dX2_pass_36 : decode cX2_pass 36 = .ok (.dup, 1) := by decide +kernel
theorem dX2_pass_37 : decode cX2_pass 37 = .ok (.getfield 36, 3) := by decide +kernel
theorem dX2_pass_40 : decode cX2_pass 40 = .ok (.iconst 1, 1) := by decide +kernel
theorem dX2_pass_41 : decode cX2_pass 41 = .ok (.iadd, 1) := by decide +kernel
theorem dX2_pass_42 : decode cX2_pass 42 = .ok (.putfield 36, 3) := by decide +kernel
theorem dX2_pass_45 : decode cX2_pass 45 = .ok (.aload_n 0, 1) := by decide +kernel
theorem dX2_pass_46 : decode cX2_pass 46 = .ok (.getfield 12, 3) := by decide +kernel
theorem dX2_pass_49 : decode cX2_pass 49 = .ok (.iload_n 1, 1) := by decide +kernel
theorem dX2_pass_50 : decode cX2_pass 50 = .ok (.invokevirtual 77, 3) := by decide +kernel
theorem dX2_pass_53 : decode cX2_pass 53 = .ok (.aload_n 0, 1) := by decide +kernel
theorem dX2_pass_54 : decode cX2_pass 54 = .ok (.aload_n 0, 1) := by decide +kernel
theorem dX2_pass_55 : decode cX2_pass 55 = .ok (.getfield 33, 3) := by decide +kernel
theorem dX2_pass_58 : decode cX2_pass 58 = .ok (.aload_n 0, 1) := by decide +kernel
theorem dX2_pass_59 : decode cX2_pass 59 = .ok (.getfield 12, 3) := by decide +kernel
theorem dX2_pass_62 : decode cX2_pass 62 = .ok (.invokevirtual 29, 3) := by decide +kernel
theorem dX2_pass_65 : decode cX2_pass 65 = .ok (.invokestatic 80, 3) := by decide +kernel
theorem dX2_pass_68 : decode cX2_pass 68 = .ok (.putfield 33, 3) := by decide +kernel
theorem dX2_pass_71 : decode cX2_pass 71 = .ok (.return_, 1) := by decide +kernel
theorem dX2_verdict_0 : decode cX2_verdict 0 = .ok (.iload_n 1, 1) := by decide +kernel
theorem dX2_verdict_1 : decode cX2_verdict 1 = .ok (.tableswitch 54 0 3 #[31, 36, 41, 46], 31) := by decide +kernel
theorem dX2_verdict_32 : decode cX2_verdict 32 = .ok (.aload_n 0, 1) := by decide +kernel
theorem dX2_verdict_33 : decode cX2_verdict 33 = .ok (.getfield 22, 3) := by decide +kernel
theorem dX2_verdict_36 : decode cX2_verdict 36 = .ok (.ireturn, 1) := by decide +kernel
theorem dX2_verdict_37 : decode cX2_verdict 37 = .ok (.aload_n 0, 1) := by decide +kernel
theorem dX2_verdict_38 : decode cX2_verdict 38 = .ok (.getfield 26, 3) := by decide +kernel
theorem dX2_verdict_41 : decode cX2_verdict 41 = .ok (.ireturn, 1) := by decide +kernel
theorem dX2_verdict_42 : decode cX2_verdict 42 = .ok (.aload_n 0, 1) := by decide +kernel
theorem dX2_verdict_43 : decode cX2_verdict 43 = .ok (.getfield 33, 3) := by decide +kernel
theorem dX2_verdict_46 : decode cX2_verdict 46 = .ok (.ireturn, 1) := by decide +kernel
theorem dX2_verdict_47 : decode cX2_verdict 47 = .ok (.aload_n 0, 1) := by decide +kernel
theorem dX2_verdict_48 : decode cX2_verdict 48 = .ok (.getfield 12, 3) := by decide +kernel
theorem dX2_verdict_51 : decode cX2_verdict 51 = .ok (.invokevirtual 29, 3) := by decide +kernel
theorem dX2_verdict_54 : decode cX2_verdict 54 = .ok (.ireturn, 1) := by decide +kernel
theorem dX2_verdict_55 : decode cX2_verdict 55 = .ok (.aload_n 0, 1) := by decide +kernel
theorem dX2_verdict_56 : decode cX2_verdict 56 = .ok (.getfield 36, 3) := by decide +kernel
theorem dX2_verdict_59 : decode cX2_verdict 59 = .ok (.ireturn, 1) := by decide +kernel
theorem dX3_init_0 : decode cX3_init 0 = .ok (.aload_n 0, 1) := by decide +kernel
theorem dX3_init_1 : decode cX3_init 1 = .ok (.invokespecial 3, 3) := by decide +kernel
theorem dX3_init_4 : decode cX3_init 4 = .ok (.aload_n 0, 1) := by decide +kernel
theorem dX3_init_5 : decode cX3_init 5 = .ok (.bipush 18, 2) := by decide +kernel
theorem dX3_init_7 : decode cX3_init 7 = .ok (.newarray .int, 2) := by decide +kernel
theorem dX3_init_9 : decode cX3_init 9 = .ok (.putfield 9, 3) := by decide +kernel
theorem dX3_init_12 : decode cX3_init 12 = .ok (.aload_n 0, 1) := by decide +kernel
theorem dX3_init_13 : decode cX3_init 13 = .ok (.bipush 11, 2) := by decide +kernel
theorem dX3_init_15 : decode cX3_init 15 = .ok (.putfield 15, 3) := by decide +kernel
theorem dX3_init_18 : decode cX3_init 18 = .ok (.aload_n 0, 1) := by decide +kernel
theorem dX3_init_19 : decode cX3_init 19 = .ok (.iconst (-1), 1) := by decide +kernel
theorem dX3_init_20 : decode cX3_init 20 = .ok (.putfield 19, 3) := by decide +kernel
theorem dX3_init_23 : decode cX3_init 23 = .ok (.return_, 1) := by decide +kernel
theorem dX3_learn_0 : decode cX3_learn 0 = .ok (.aload_n 0, 1) := by decide +kernel
theorem dX3_learn_1 : decode cX3_learn 1 = .ok (.invokevirtual 22, 3) := by decide +kernel
theorem dX3_learn_4 : decode cX3_learn 4 = .ok (.aload_n 0, 1) := by decide +kernel
theorem dX3_learn_5 : decode cX3_learn 5 = .ok (.aload_n 1, 1) := by decide +kernel
theorem dX3_learn_6 : decode cX3_learn 6 = .ok (.invokevirtual 25, 3) := by decide +kernel
theorem dX3_learn_9 : decode cX3_learn 9 = .ok (.ifCond .ne 7, 3) := by decide +kernel
theorem dX3_learn_12 : decode cX3_learn 12 = .ok (.iconst (-1), 1) := by decide +kernel
theorem dX3_learn_13 : decode cX3_learn 13 = .ok (.goto 8, 3) := by decide +kernel
theorem dX3_learn_16 : decode cX3_learn 16 = .ok (.aload_n 0, 1) := by decide +kernel
theorem dX3_learn_17 : decode cX3_learn 17 = .ok (.aload_n 1, 1) := by decide +kernel
theorem dX3_learn_18 : decode cX3_learn 18 = .ok (.invokevirtual 31, 3) := by decide +kernel
theorem dX3_learn_21 : decode cX3_learn 21 = .ok (.putfield 19, 3) := by decide +kernel
theorem dX3_learn_24 : decode cX3_learn 24 = .ok (.aload_n 0, 1) := by decide +kernel
theorem dX3_learn_25 : decode cX3_learn 25 = .ok (.getfield 19, 3) := by decide +kernel
theorem dX3_learn_28 : decode cX3_learn 28 = .ok (.iconst (-1), 1) := by decide +kernel
theorem dX3_learn_29 : decode cX3_learn 29 = .ok (.if_icmp .eq 7, 3) := by decide +kernel
theorem dX3_learn_32 : decode cX3_learn 32 = .ok (.aload_n 0, 1) := by decide +kernel
theorem dX3_learn_33 : decode cX3_learn 33 = .ok (.invokevirtual 22, 3) := by decide +kernel
theorem dX3_learn_36 : decode cX3_learn 36 = .ok (.return_, 1) := by decide +kernel
theorem dX3_forget_0 : decode cX3_forget 0 = .ok (.aload_n 0, 1) := by decide +kernel
theorem dX3_forget_1 : decode cX3_forget 1 = .ok (.iconst 0, 1) := by decide +kernel
theorem dX3_forget_2 : decode cX3_forget 2 = .ok (.putfield 35, 3) := by decide +kernel
theorem dX3_forget_5 : decode cX3_forget 5 = .ok (.aload_n 0, 1) := by decide +kernel
theorem dX3_forget_6 : decode cX3_forget 6 = .ok (.iconst 0, 1) := by decide +kernel
theorem dX3_forget_7 : decode cX3_forget 7 = .ok (.putfield 38, 3) := by decide +kernel
theorem dX3_forget_10 : decode cX3_forget 10 = .ok (.aload_n 0, 1) := by decide +kernel
theorem dX3_forget_11 : decode cX3_forget 11 = .ok (.bipush 11, 2) := by decide +kernel
theorem dX3_forget_13 : decode cX3_forget 13 = .ok (.putfield 15, 3) := by decide +kernel
theorem dX3_forget_16 : decode cX3_forget 16 = .ok (.return_, 1) := by decide +kernel
theorem dX3_faultOf_0 : decode cX3_faultOf 0 = .ok (.iconst 0, 1) := by decide +kernel
theorem dX3_faultOf_1 : decode cX3_faultOf 1 = .ok (.istore_n 2, 1) := by decide +kernel
theorem dX3_faultOf_2 : decode cX3_faultOf 2 = .ok (.iconst 0, 1) := by decide +kernel
theorem dX3_faultOf_3 : decode cX3_faultOf 3 = .ok (.istore_n 3, 1) := by decide +kernel
theorem dX3_faultOf_4 : decode cX3_faultOf 4 = .ok (.iload_n 3, 1) := by decide +kernel
theorem dX3_faultOf_5 : decode cX3_faultOf 5 = .ok (.bipush 50, 2) := by decide +kernel
theorem dX3_faultOf_7 : decode cX3_faultOf 7 = .ok (.if_icmp .ge 76, 3) := by decide +kernel
theorem dX3_faultOf_10 : decode cX3_faultOf 10 = .ok (.aload_n 1, 1) := by decide +kernel
theorem dX3_faultOf_11 : decode cX3_faultOf 11 = .ok (.iload_n 2, 1) := by decide +kernel
theorem dX3_faultOf_12 : decode cX3_faultOf 12 = .ok (.invokevirtual 41, 3) := by decide +kernel
theorem dX3_faultOf_15 : decode cX3_faultOf 15 = .ok (.bipush 114, 2) := by decide +kernel
theorem dX3_faultOf_17 : decode cX3_faultOf 17 = .ok (.if_icmp .ne 12, 3) := by decide +kernel
theorem dX3_faultOf_20 : decode cX3_faultOf 20 = .ok (.aload_n 0, 1) := by decide +kernel
theorem dX3_faultOf_21 : decode cX3_faultOf 21 = .ok (.aload_n 1, 1) := by decide +kernel
theorem dX3_faultOf_22 : decode cX3_faultOf 22 = .ok (.iload_n 2, 1) := by decide +kernel
theorem dX3_faultOf_23 : decode cX3_faultOf 23 = .ok (.invokevirtual 45, 3) := by decide +kernel
theorem dX3_faultOf_26 : decode cX3_faultOf 26 = .ok (.goto 9, 3) := by decide +kernel
theorem dX3_faultOf_29 : decode cX3_faultOf 29 = .ok (.aload_n 0, 1) := by decide +kernel
theorem dX3_faultOf_30 : decode cX3_faultOf 30 = .ok (.aload_n 1, 1) := by decide +kernel
theorem dX3_faultOf_31 : decode cX3_faultOf 31 = .ok (.iload_n 2, 1) := by decide +kernel
theorem dX3_faultOf_32 : decode cX3_faultOf 32 = .ok (.invokevirtual 49, 3) := by decide +kernel
theorem dX3_faultOf_35 : decode cX3_faultOf 35 = .ok (.istore 4, 2) := by decide +kernel
theorem dX3_faultOf_37 : decode cX3_faultOf 37 = .ok (.iload 4, 2) := by decide +kernel
theorem dX3_faultOf_39 : decode cX3_faultOf 39 = .ok (.ifCond .ge 8, 3) := by decide +kernel
theorem dX3_faultOf_42 : decode cX3_faultOf 42 = .ok (.iload 4, 2) := by decide +kernel
theorem dX3_faultOf_44 : decode cX3_faultOf 44 = .ok (.iconst (-1), 1) := by decide +kernel
theorem dX3_faultOf_45 : decode cX3_faultOf 45 = .ok (.ixor, 1) := by decide +kernel
theorem dX3_faultOf_46 : decode cX3_faultOf 46 = .ok (.ireturn, 1) := by decide +kernel
theorem dX3_faultOf_47 : decode cX3_faultOf 47 = .ok (.iload 4, 2) := by decide +kernel
theorem dX3_faultOf_49 : decode cX3_faultOf 49 = .ok (.aload_n 1, 1) := by decide +kernel
theorem dX3_faultOf_50 : decode cX3_faultOf 50 = .ok (.invokevirtual 25, 3) := by decide +kernel
theorem dX3_faultOf_53 : decode cX3_faultOf 53 = .ok (.if_icmp .ne 5, 3) := by decide +kernel
theorem dX3_faultOf_56 : decode cX3_faultOf 56 = .ok (.iconst (-1), 1) := by decide +kernel
theorem dX3_faultOf_57 : decode cX3_faultOf 57 = .ok (.ireturn, 1) := by decide +kernel
theorem dX3_faultOf_58 : decode cX3_faultOf 58 = .ok (.aload_n 1, 1) := by decide +kernel
theorem dX3_faultOf_59 : decode cX3_faultOf 59 = .ok (.iload 4, 2) := by decide +kernel
theorem dX3_faultOf_61 : decode cX3_faultOf 61 = .ok (.invokevirtual 41, 3) := by decide +kernel
theorem dX3_faultOf_64 : decode cX3_faultOf 64 = .ok (.bipush 59, 2) := by decide +kernel
theorem dX3_faultOf_66 : decode cX3_faultOf 66 = .ok (.if_icmp .eq 6, 3) := by decide +kernel
theorem dX3_faultOf_69 : decode cX3_faultOf 69 = .ok (.iload 4, 2) := by decide +kernel
theorem dX3_faultOf_71 : decode cX3_faultOf 71 = .ok (.ireturn, 1) := by decide +kernel
theorem dX3_faultOf_72 : decode cX3_faultOf 72 = .ok (.iload 4, 2) := by decide +kernel
theorem dX3_faultOf_74 : decode cX3_faultOf 74 = .ok (.iconst 1, 1) := by decide +kernel
theorem dX3_faultOf_75 : decode cX3_faultOf 75 = .ok (.iadd, 1) := by decide +kernel
theorem dX3_faultOf_76 : decode cX3_faultOf 76 = .ok (.istore_n 2, 1) := by decide +kernel
theorem dX3_faultOf_77 : decode cX3_faultOf 77 = .ok (.iinc 3 1, 3) := by decide +kernel
theorem dX3_faultOf_80 : decode cX3_faultOf 80 = .ok (.goto (-76), 3) := by decide +kernel
theorem dX3_faultOf_83 : decode cX3_faultOf 83 = .ok (.iload_n 2, 1) := by decide +kernel
theorem dX3_faultOf_84 : decode cX3_faultOf 84 = .ok (.ireturn, 1) := by decide +kernel
theorem dX3_takeGate_0 : decode cX3_takeGate 0 = .ok (.aload_n 1, 1) := by decide +kernel
theorem dX3_takeGate_1 : decode cX3_takeGate 1 = .ok (.iload_n 2, 1) := by decide +kernel
theorem dX3_takeGate_2 : decode cX3_takeGate 2 = .ok (.invokevirtual 41, 3) := by decide +kernel
theorem dX3_takeGate_5 : decode cX3_takeGate 5 = .ok (.invokestatic 52, 3) := by decide +kernel
theorem dX3_takeGate_8 : decode cX3_takeGate 8 = .ok (.ifCond .eq 12, 3) := by decide +kernel
theorem dX3_takeGate_11 : decode cX3_takeGate 11 = .ok (.aload_n 0, 1) := by decide +kernel
theorem dX3_takeGate_12 : decode cX3_takeGate 12 = .ok (.getfield 35, 3) := by decide +kernel
theorem dX3_takeGate_15 : decode cX3_takeGate 15 = .ok (.bipush 9, 2) := by decide +kernel
theorem dX3_takeGate_17 : decode cX3_takeGate 17 = .ok (.if_icmp .lt 7, 3) := by decide +kernel
theorem dX3_takeGate_20 : decode cX3_takeGate 20 = .ok (.iload_n 2, 1) := by decide +kernel
theorem dX3_takeGate_21 : decode cX3_takeGate 21 = .ok (.iconst (-1), 1) := by decide +kernel
theorem dX3_takeGate_22 : decode cX3_takeGate 22 = .ok (.ixor, 1) := by decide +kernel
theorem dX3_takeGate_23 : decode cX3_takeGate 23 = .ok (.ireturn, 1) := by decide +kernel
theorem dX3_takeGate_24 : decode cX3_takeGate 24 = .ok (.aload_n 1, 1) := by decide +kernel
theorem dX3_takeGate_25 : decode cX3_takeGate 25 = .ok (.iload_n 2, 1) := by decide +kernel
theorem dX3_takeGate_26 : decode cX3_takeGate 26 = .ok (.iconst 1, 1) := by decide +kernel
theorem dX3_takeGate_27 : decode cX3_takeGate 27 = .ok (.iadd, 1) := by decide +kernel
theorem dX3_takeGate_28 : decode cX3_takeGate 28 = .ok (.invokevirtual 41, 3) := by decide +kernel
theorem dX3_takeGate_31 : decode cX3_takeGate 31 = .ok (.invokestatic 52, 3) := by decide +kernel
theorem dX3_takeGate_34 : decode cX3_takeGate 34 = .ok (.ifCond .ne 9, 3) := by decide +kernel
theorem dX3_takeGate_37 : decode cX3_takeGate 37 = .ok (.iload_n 2, 1) := by decide +kernel
theorem dX3_takeGate_38 : decode cX3_takeGate 38 = .ok (.iconst 1, 1) := by decide +kernel
theorem dX3_takeGate_39 : decode cX3_takeGate 39 = .ok (.iadd, 1) := by decide +kernel
theorem dX3_takeGate_40 : decode cX3_takeGate 40 = .ok (.iconst (-1), 1) := by decide +kernel
theorem dX3_takeGate_41 : decode cX3_takeGate 41 = .ok (.ixor, 1) := by decide +kernel
theorem dX3_takeGate_42 : decode cX3_takeGate 42 = .ok (.ireturn, 1) := by decide +kernel
theorem dX3_takeGate_43 : decode cX3_takeGate 43 = .ok (.aload_n 0, 1) := by decide +kernel
theorem dX3_takeGate_44 : decode cX3_takeGate 44 = .ok (.getfield 9, 3) := by decide +kernel
theorem dX3_takeGate_47 : decode cX3_takeGate 47 = .ok (.iconst 2, 1) := by decide +kernel
theorem dX3_takeGate_48 : decode cX3_takeGate 48 = .ok (.aload_n 0, 1) := by decide +kernel
theorem dX3_takeGate_49 : decode cX3_takeGate 49 = .ok (.getfield 35, 3) := by decide +kernel
theorem dX3_takeGate_52 : decode cX3_takeGate 52 = .ok (.imul, 1) := by decide +kernel
theorem dX3_takeGate_53 : decode cX3_takeGate 53 = .ok (.aload_n 1, 1) := by decide +kernel
theorem dX3_takeGate_54 : decode cX3_takeGate 54 = .ok (.iload_n 2, 1) := by decide +kernel
theorem dX3_takeGate_55 : decode cX3_takeGate 55 = .ok (.invokevirtual 41, 3) := by decide +kernel
theorem dX3_takeGate_58 : decode cX3_takeGate 58 = .ok (.bipush 48, 2) := by decide +kernel
theorem dX3_takeGate_60 : decode cX3_takeGate 60 = .ok (.isub, 1) := by decide +kernel
theorem dX3_takeGate_61 : decode cX3_takeGate 61 = .ok (.iastore, 1) := by decide +kernel
theorem dX3_takeGate_62 : decode cX3_takeGate 62 = .ok (.aload_n 0, 1) := by decide +kernel
theorem dX3_takeGate_63 : decode cX3_takeGate 63 = .ok (.getfield 9, 3) := by decide +kernel
theorem dX3_takeGate_66 : decode cX3_takeGate 66 = .ok (.iconst 2, 1) := by decide +kernel
theorem dX3_takeGate_67 : decode cX3_takeGate 67 = .ok (.aload_n 0, 1) := by decide +kernel
theorem dX3_takeGate_68 : decode cX3_takeGate 68 = .ok (.getfield 35, 3) := by decide +kernel
theorem dX3_takeGate_71 : decode cX3_takeGate 71 = .ok (.imul, 1) := by decide +kernel
theorem dX3_takeGate_72 : decode cX3_takeGate 72 = .ok (.iconst 1, 1) := by decide +kernel
theorem dX3_takeGate_73 : decode cX3_takeGate 73 = .ok (.iadd, 1) := by decide +kernel
theorem dX3_takeGate_74 : decode cX3_takeGate 74 = .ok (.aload_n 1, 1) := by decide +kernel
theorem dX3_takeGate_75 : decode cX3_takeGate 75 = .ok (.iload_n 2, 1) := by decide +kernel
theorem dX3_takeGate_76 : decode cX3_takeGate 76 = .ok (.iconst 1, 1) := by decide +kernel
theorem dX3_takeGate_77 : decode cX3_takeGate 77 = .ok (.iadd, 1) := by decide +kernel
theorem dX3_takeGate_78 : decode cX3_takeGate 78 = .ok (.invokevirtual 41, 3) := by decide +kernel
theorem dX3_takeGate_81 : decode cX3_takeGate 81 = .ok (.bipush 48, 2) := by decide +kernel
theorem dX3_takeGate_83 : decode cX3_takeGate 83 = .ok (.isub, 1) := by decide +kernel
theorem dX3_takeGate_84 : decode cX3_takeGate 84 = .ok (.iastore, 1) := by decide +kernel
theorem dX3_takeGate_85 : decode cX3_takeGate 85 = .ok (.aload_n 1, 1) := by decide +kernel
theorem dX3_takeGate_86 : decode cX3_takeGate 86 = .ok (.iload_n 2, 1) := by decide +kernel
theorem dX3_takeGate_87 : decode cX3_takeGate 87 = .ok (.iconst 2, 1) := by decide +kernel
theorem dX3_takeGate_88 : decode cX3_takeGate 88 = .ok (.iadd, 1) := by decide +kernel
theorem dX3_takeGate_89 : decode cX3_takeGate 89 = .ok (.invokevirtual 41, 3) := by decide +kernel
theorem dX3_takeGate_92 : decode cX3_takeGate 92 = .ok (.bipush 117, 2) := by decide +kernel
theorem dX3_takeGate_94 : decode cX3_takeGate 94 = .ok (.if_icmp .ne 7, 3) := by decide +kernel
theorem dX3_takeGate_97 : decode cX3_takeGate 97 = .ok (.iconst 1, 1) := by decide +kernel
theorem dX3_takeGate_98 : decode cX3_takeGate 98 = .ok (.goto 4, 3) := by decide +kernel
theorem dX3_takeGate_101 : decode cX3_takeGate 101 = .ok (.iconst 0, 1) := by decide +kernel
theorem dX3_takeGate_102 : decode cX3_takeGate 102 = .ok (.istore_n 3, 1) := by decide +kernel
theorem dX3_takeGate_103 : decode cX3_takeGate 103 = .ok (.iload_n 3, 1) := by decide +kernel
theorem dX3_takeGate_104 : decode cX3_takeGate 104 = .ok (.ifCond .ne 18, 3) := by decide +kernel
theorem dX3_takeGate_107 : decode cX3_takeGate 107 = .ok (.aload_n 0, 1) := by decide +kernel
theorem dX3_takeGate_108 : decode cX3_takeGate 108 = .ok (.dup, 1) := by decide +kernel
theorem dX3_takeGate_109 : decode cX3_takeGate 109 = .ok (.getfield 38, 3) := by decide +kernel
theorem dX3_takeGate_112 : decode cX3_takeGate 112 = .ok (.iconst 1, 1) := by decide +kernel
theorem dX3_takeGate_113 : decode cX3_takeGate 113 = .ok (.aload_n 0, 1) := by decide +kernel
theorem dX3_takeGate_114 : decode cX3_takeGate 114 = .ok (.getfield 35, 3) := by decide +kernel
theorem dX3_takeGate_117 : decode cX3_takeGate 117 = .ok (.ishl, 1) := by decide +kernel
theorem dX3_takeGate_118 : decode cX3_takeGate 118 = .ok (.ior, 1) := by decide +kernel
theorem dX3_takeGate_119 : decode cX3_takeGate 119 = .ok (.putfield 38, 3) := by decide +kernel
theorem dX3_takeGate_122 : decode cX3_takeGate 122 = .ok (.aload_n 0, 1) := by decide +kernel
theorem dX3_takeGate_123 : decode cX3_takeGate 123 = .ok (.dup, 1) := by decide +kernel
theorem dX3_takeGate_124 : decode cX3_takeGate 124 = .ok (.getfield 35, 3) := by decide +kernel
theorem dX3_takeGate_127 : decode cX3_takeGate 127 = .ok (.iconst 1, 1) := by decide +kernel
theorem dX3_takeGate_128 : decode cX3_takeGate 128 = .ok (.iadd, 1) := by decide +kernel
theorem dX3_takeGate_129 : decode cX3_takeGate 129 = .ok (.putfield 35, 3) := by decide +kernel
theorem dX3_takeGate_132 : decode cX3_takeGate 132 = .ok (.iload_n 3, 1) := by decide +kernel
theorem dX3_takeGate_133 : decode cX3_takeGate 133 = .ok (.ifCond .eq 9, 3) := by decide +kernel
theorem dX3_takeGate_136 : decode cX3_takeGate 136 = .ok (.iload_n 2, 1) := by decide +kernel
theorem dX3_takeGate_137 : decode cX3_takeGate 137 = .ok (.iconst 3, 1) := by decide +kernel
theorem dX3_takeGate_138 : decode cX3_takeGate 138 = .ok (.iadd, 1) := by decide +kernel
theorem dX3_takeGate_139 : decode cX3_takeGate 139 = .ok (.goto 6, 3) := by decide +kernel
theorem dX3_takeGate_142 : decode cX3_takeGate 142 = .ok (.iload_n 2, 1) := by decide +kernel
theorem dX3_takeGate_143 : decode cX3_takeGate 143 = .ok (.iconst 2, 1) := by decide +kernel
theorem dX3_takeGate_144 : decode cX3_takeGate 144 = .ok (.iadd, 1) := by decide +kernel
theorem dX3_takeGate_145 : decode cX3_takeGate 145 = .ok (.ireturn, 1) := by decide +kernel
theorem dX3_takeRoom_0 : decode cX3_takeRoom 0 = .ok (.aload_n 1, 1) := by decide +kernel
theorem dX3_takeRoom_1 : decode cX3_takeRoom 1 = .ok (.iload_n 2, 1) := by decide +kernel
theorem dX3_takeRoom_2 : decode cX3_takeRoom 2 = .ok (.iconst 1, 1) := by decide +kernel
theorem dX3_takeRoom_3 : decode cX3_takeRoom 3 = .ok (.iadd, 1) := by decide +kernel
theorem dX3_takeRoom_4 : decode cX3_takeRoom 4 = .ok (.invokevirtual 41, 3) := by decide +kernel
theorem dX3_takeRoom_7 : decode cX3_takeRoom 7 = .ok (.istore_n 3, 1) := by decide +kernel
theorem dX3_takeRoom_8 : decode cX3_takeRoom 8 = .ok (.aload_n 1, 1) := by decide +kernel
theorem dX3_takeRoom_9 : decode cX3_takeRoom 9 = .ok (.iload_n 2, 1) := by decide +kernel
theorem dX3_takeRoom_10 : decode cX3_takeRoom 10 = .ok (.iconst 2, 1) := by decide +kernel
theorem dX3_takeRoom_11 : decode cX3_takeRoom 11 = .ok (.iadd, 1) := by decide +kernel
theorem dX3_takeRoom_12 : decode cX3_takeRoom 12 = .ok (.invokevirtual 41, 3) := by decide +kernel
theorem dX3_takeRoom_15 : decode cX3_takeRoom 15 = .ok (.istore 4, 2) := by decide +kernel
theorem dX3_takeRoom_17 : decode cX3_takeRoom 17 = .ok (.iload_n 3, 1) := by decide +kernel
theorem dX3_takeRoom_18 : decode cX3_takeRoom 18 = .ok (.invokestatic 56, 3) := by decide +kernel
theorem dX3_takeRoom_21 : decode cX3_takeRoom 21 = .ok (.ifCond .ne 9, 3) := by decide +kernel
theorem dX3_takeRoom_24 : decode cX3_takeRoom 24 = .ok (.iload_n 2, 1) := by decide +kernel
theorem dX3_takeRoom_25 : decode cX3_takeRoom 25 = .ok (.iconst 1, 1) := by decide +kernel
theorem dX3_takeRoom_26 : decode cX3_takeRoom 26 = .ok (.iadd, 1) := by decide +kernel
theorem dX3_takeRoom_27 : decode cX3_takeRoom 27 = .ok (.iconst (-1), 1) := by decide +kernel
theorem dX3_takeRoom_28 : decode cX3_takeRoom 28 = .ok (.ixor, 1) := by decide +kernel
theorem dX3_takeRoom_29 : decode cX3_takeRoom 29 = .ok (.ireturn, 1) := by decide +kernel
theorem dX3_takeRoom_30 : decode cX3_takeRoom 30 = .ok (.iload 4, 2) := by decide +kernel
theorem dX3_takeRoom_32 : decode cX3_takeRoom 32 = .ok (.invokestatic 56, 3) := by decide +kernel
theorem dX3_takeRoom_35 : decode cX3_takeRoom 35 = .ok (.ifCond .eq 19, 3) := by decide +kernel
theorem dX3_takeRoom_38 : decode cX3_takeRoom 38 = .ok (.bipush 10, 2) := by decide +kernel
theorem dX3_takeRoom_40 : decode cX3_takeRoom 40 = .ok (.iload_n 3, 1) := by decide +kernel
theorem dX3_takeRoom_41 : decode cX3_takeRoom 41 = .ok (.bipush 48, 2) := by decide +kernel
theorem dX3_takeRoom_43 : decode cX3_takeRoom 43 = .ok (.isub, 1) := by decide +kernel
theorem dX3_takeRoom_44 : decode cX3_takeRoom 44 = .ok (.imul, 1) := by decide +kernel
theorem dX3_takeRoom_45 : decode cX3_takeRoom 45 = .ok (.iload 4, 2) := by decide +kernel
theorem dX3_takeRoom_47 : decode cX3_takeRoom 47 = .ok (.iadd, 1) := by decide +kernel
theorem dX3_takeRoom_48 : decode cX3_takeRoom 48 = .ok (.bipush 48, 2) := by decide +kernel
theorem dX3_takeRoom_50 : decode cX3_takeRoom 50 = .ok (.isub, 1) := by decide +kernel
theorem dX3_takeRoom_51 : decode cX3_takeRoom 51 = .ok (.goto 7, 3) := by decide +kernel
theorem dX3_takeRoom_54 : decode cX3_takeRoom 54 = .ok (.iload_n 3, 1) := by decide +kernel
theorem dX3_takeRoom_55 : decode cX3_takeRoom 55 = .ok (.bipush 48, 2) := by decide +kernel
theorem dX3_takeRoom_57 : decode cX3_takeRoom 57 = .ok (.isub, 1) := by decide +kernel
theorem dX3_takeRoom_58 : decode cX3_takeRoom 58 = .ok (.istore 5, 2) := by decide +kernel
theorem dX3_takeRoom_60 : decode cX3_takeRoom 60 = .ok (.iload 5, 2) := by decide +kernel
theorem dX3_takeRoom_62 : decode cX3_takeRoom 62 = .ok (.iconst 1, 1) := by decide +kernel
theorem dX3_takeRoom_63 : decode cX3_takeRoom 63 = .ok (.if_icmp .lt 10, 3) := by decide +kernel
theorem dX3_takeRoom_66 : decode cX3_takeRoom 66 = .ok (.iload 5, 2) := by decide +kernel
theorem dX3_takeRoom_68 : decode cX3_takeRoom 68 = .ok (.bipush 11, 2) := by decide +kernel
theorem dX3_takeRoom_70 : decode cX3_takeRoom 70 = .ok (.if_icmp .le 9, 3) := by decide +kernel
theorem dX3_takeRoom_73 : decode cX3_takeRoom 73 = .ok (.iload_n 2, 1) := by decide +kernel
theorem dX3_takeRoom_74 : decode cX3_takeRoom 74 = .ok (.iconst 1, 1) := by decide +kernel
theorem dX3_takeRoom_75 : decode cX3_takeRoom 75 = .ok (.iadd, 1) := by decide +kernel
theorem dX3_takeRoom_76 : decode cX3_takeRoom 76 = .ok (.iconst (-1), 1) := by decide +kernel
theorem dX3_takeRoom_77 : decode cX3_takeRoom 77 = .ok (.ixor, 1) := by decide +kernel
theorem dX3_takeRoom_78 : decode cX3_takeRoom 78 = .ok (.ireturn, 1) := by decide +kernel
theorem dX3_takeRoom_79 : decode cX3_takeRoom 79 = .ok (.aload_n 0, 1) := by decide +kernel
theorem dX3_takeRoom_80 : decode cX3_takeRoom 80 = .ok (.iload 5, 2) := by decide +kernel
theorem dX3_takeRoom_82 : decode cX3_takeRoom 82 = .ok (.putfield 15, 3) := by decide +kernel
theorem dX3_takeRoom_85 : decode cX3_takeRoom 85 = .ok (.iload 4, 2) := by decide +kernel
theorem dX3_takeRoom_87 : decode cX3_takeRoom 87 = .ok (.invokestatic 56, 3) := by decide +kernel
theorem dX3_takeRoom_90 : decode cX3_takeRoom 90 = .ok (.ifCond .eq 9, 3) := by decide +kernel
theorem dX3_takeRoom_93 : decode cX3_takeRoom 93 = .ok (.iload_n 2, 1) := by decide +kernel
theorem dX3_takeRoom_94 : decode cX3_takeRoom 94 = .ok (.iconst 3, 1) := by decide +kernel
theorem dX3_takeRoom_95 : decode cX3_takeRoom 95 = .ok (.iadd, 1) := by decide +kernel
theorem dX3_takeRoom_96 : decode cX3_takeRoom 96 = .ok (.goto 6, 3) := by decide +kernel
theorem dX3_takeRoom_99 : decode cX3_takeRoom 99 = .ok (.iload_n 2, 1) := by decide +kernel
theorem dX3_takeRoom_100 : decode cX3_takeRoom 100 = .ok (.iconst 2, 1) := by decide +kernel
theorem dX3_takeRoom_101 : decode cX3_takeRoom 101 = .ok (.iadd, 1) := by decide +kernel
theorem dX3_takeRoom_102 : decode cX3_takeRoom 102 = .ok (.ireturn, 1) := by decide +kernel
theorem dX3_isTownByte_0 : decode cX3_isTownByte 0 = .ok (.iload_n 0, 1) := by decide +kernel
theorem dX3_isTownByte_1 : decode cX3_isTownByte 1 = .ok (.bipush 48, 2) := by decide +kernel
theorem dX3_isTownByte_3 : decode cX3_isTownByte 3 = .ok (.if_icmp .lt 13, 3) := by decide +kernel
theorem dX3_isTownByte_6 : decode cX3_isTownByte 6 = .ok (.iload_n 0, 1) := by decide +kernel
theorem dX3_isTownByte_7 : decode cX3_isTownByte 7 = .ok (.bipush 55, 2) := by decide +kernel
theorem dX3_isTownByte_9 : decode cX3_isTownByte 9 = .ok (.if_icmp .gt 7, 3) := by decide +kernel
theorem dX3_isTownByte_12 : decode cX3_isTownByte 12 = .ok (.iconst 1, 1) := by decide +kernel
theorem dX3_isTownByte_13 : decode cX3_isTownByte 13 = .ok (.goto 4, 3) := by decide +kernel
theorem dX3_isTownByte_16 : decode cX3_isTownByte 16 = .ok (.iconst 0, 1) := by decide +kernel
theorem dX3_isTownByte_17 : decode cX3_isTownByte 17 = .ok (.ireturn, 1) := by decide +kernel
theorem dX3_isFigure_0 : decode cX3_isFigure 0 = .ok (.iload_n 0, 1) := by decide +kernel
theorem dX3_isFigure_1 : decode cX3_isFigure 1 = .ok (.bipush 48, 2) := by decide +kernel
theorem dX3_isFigure_3 : decode cX3_isFigure 3 = .ok (.if_icmp .lt 13, 3) := by decide +kernel
theorem dX3_isFigure_6 : decode cX3_isFigure 6 = .ok (.iload_n 0, 1) := by decide +kernel
theorem dX3_isFigure_7 : decode cX3_isFigure 7 = .ok (.bipush 57, 2) := by decide +kernel
theorem dX3_isFigure_9 : decode cX3_isFigure 9 = .ok (.if_icmp .gt 7, 3) := by decide +kernel
theorem dX3_isFigure_12 : decode cX3_isFigure 12 = .ok (.iconst 1, 1) := by decide +kernel
theorem dX3_isFigure_13 : decode cX3_isFigure 13 = .ok (.goto 4, 3) := by decide +kernel
theorem dX3_isFigure_16 : decode cX3_isFigure 16 = .ok (.iconst 0, 1) := by decide +kernel
theorem dX3_isFigure_17 : decode cX3_isFigure 17 = .ok (.ireturn, 1) := by decide +kernel
theorem dX3_close_0 : decode cX3_close 0 = .ok (.aload_n 0, 1) := by decide +kernel
theorem dX3_close_1 : decode cX3_close 1 = .ok (.getfield 59, 3) := by decide +kernel
theorem dX3_close_4 : decode cX3_close 4 = .ok (.istore_n 2, 1) := by decide +kernel
theorem dX3_close_5 : decode cX3_close 5 = .ok (.aload_n 0, 1) := by decide +kernel
theorem dX3_close_6 : decode cX3_close 6 = .ok (.iload_n 1, 1) := by decide +kernel
theorem dX3_close_7 : decode cX3_close 7 = .ok (.putfield 59, 3) := by decide +kernel
theorem dX3_close_10 : decode cX3_close 10 = .ok (.iload_n 2, 1) := by decide +kernel
theorem dX3_close_11 : decode cX3_close 11 = .ok (.ireturn, 1) := by decide +kernel
theorem dX3_faultPlace_0 : decode cX3_faultPlace 0 = .ok (.aload_n 0, 1) := by decide +kernel
theorem dX3_faultPlace_1 : decode cX3_faultPlace 1 = .ok (.getfield 19, 3) := by decide +kernel
theorem dX3_faultPlace_4 : decode cX3_faultPlace 4 = .ok (.ireturn, 1) := by decide +kernel
theorem dX3_roomTold_0 : decode cX3_roomTold 0 = .ok (.aload_n 0, 1) := by decide +kernel
theorem dX3_roomTold_1 : decode cX3_roomTold 1 = .ok (.getfield 15, 3) := by decide +kernel
theorem dX3_roomTold_4 : decode cX3_roomTold 4 = .ok (.ireturn, 1) := by decide +kernel
theorem dX3_gatesTold_0 : decode cX3_gatesTold 0 = .ok (.aload_n 0, 1) := by decide +kernel
theorem dX3_gatesTold_1 : decode cX3_gatesTold 1 = .ok (.getfield 35, 3) := by decide +kernel
theorem dX3_gatesTold_4 : decode cX3_gatesTold 4 = .ok (.ireturn, 1) := by decide +kernel
theorem dX3_gatesWatched_0 : decode cX3_gatesWatched 0 = .ok (.aload_n 0, 1) := by decide +kernel
theorem dX3_gatesWatched_1 : decode cX3_gatesWatched 1 = .ok (.getfield 38, 3) := by decide +kernel
theorem dX3_gatesWatched_4 : decode cX3_gatesWatched 4 = .ok (.invokestatic 62, 3) := by decide +kernel
theorem dX3_gatesWatched_7 : decode cX3_gatesWatched 7 = .ok (.ireturn, 1) := by decide +kernel
theorem dX3_hasGate_0 : decode cX3_hasGate 0 = .ok (.iload_n 1, 1) := by decide +kernel
theorem dX3_hasGate_1 : decode cX3_hasGate 1 = .ok (.ifCond .lt 15, 3) := by decide +kernel
theorem dX3_hasGate_4 : decode cX3_hasGate 4 = .ok (.iload_n 1, 1) := by decide +kernel
theorem dX3_hasGate_5 : decode cX3_hasGate 5 = .ok (.aload_n 0, 1) := by decide +kernel
theorem dX3_hasGate_6 : decode cX3_hasGate 6 = .ok (.getfield 35, 3) := by decide +kernel
theorem dX3_hasGate_9 : decode cX3_hasGate 9 = .ok (.if_icmp .ge 7, 3) := by decide +kernel
theorem dX3_hasGate_12 : decode cX3_hasGate 12 = .ok (.iconst 1, 1) := by decide +kernel
theorem dX3_hasGate_13 : decode cX3_hasGate 13 = .ok (.goto 4, 3) := by decide +kernel
theorem dX3_hasGate_16 : decode cX3_hasGate 16 = .ok (.iconst 0, 1) := by decide +kernel
theorem dX3_hasGate_17 : decode cX3_hasGate 17 = .ok (.ireturn, 1) := by decide +kernel
theorem dX3_letters_0 : decode cX3_letters 0 = .ok (.iconst 2, 1) := by decide +kernel
theorem dX3_letters_1 : decode cX3_letters 1 = .ok (.aload_n 0, 1) := by decide +kernel
theorem dX3_letters_2 : decode cX3_letters 2 = .ok (.getfield 35, 3) := by decide +kernel
theorem dX3_letters_5 : decode cX3_letters 5 = .ok (.imul, 1) := by decide +kernel
theorem dX3_letters_6 : decode cX3_letters 6 = .ok (.ireturn, 1) := by decide +kernel
theorem dX3_letterOf_0 : decode cX3_letterOf 0 = .ok (.iload_n 1, 1) := by decide +kernel
theorem dX3_letterOf_1 : decode cX3_letterOf 1 = .ok (.bipush 97, 2) := by decide +kernel
theorem dX3_letterOf_3 : decode cX3_letterOf 3 = .ok (.if_icmp .lt 21, 3) := by decide +kernel
theorem dX3_letterOf_6 : decode cX3_letterOf 6 = .ok (.iload_n 1, 1) := by decide +kernel
theorem dX3_letterOf_7 : decode cX3_letterOf 7 = .ok (.bipush 97, 2) := by decide +kernel
theorem dX3_letterOf_9 : decode cX3_letterOf 9 = .ok (.aload_n 0, 1) := by decide +kernel
theorem dX3_letterOf_10 : decode cX3_letterOf 10 = .ok (.getfield 35, 3) := by decide +kernel
theorem dX3_letterOf_13 : decode cX3_letterOf 13 = .ok (.iadd, 1) := by decide +kernel
theorem dX3_letterOf_14 : decode cX3_letterOf 14 = .ok (.if_icmp .ge 10, 3) := by decide +kernel
theorem dX3_letterOf_17 : decode cX3_letterOf 17 = .ok (.iconst 2, 1) := by decide +kernel
theorem dX3_letterOf_18 : decode cX3_letterOf 18 = .ok (.iload_n 1, 1) := by decide +kernel
theorem dX3_letterOf_19 : decode cX3_letterOf 19 = .ok (.bipush 97, 2) := by decide +kernel
theorem dX3_letterOf_21 : decode cX3_letterOf 21 = .ok (.isub, 1) := by decide +kernel
theorem dX3_letterOf_22 : decode cX3_letterOf 22 = .ok (.imul, 1) := by decide +kernel
theorem dX3_letterOf_23 : decode cX3_letterOf 23 = .ok (.ireturn, 1) := by decide +kernel
theorem dX3_letterOf_24 : decode cX3_letterOf 24 = .ok (.iload_n 1, 1) := by decide +kernel
theorem dX3_letterOf_25 : decode cX3_letterOf 25 = .ok (.bipush 65, 2) := by decide +kernel
theorem dX3_letterOf_27 : decode cX3_letterOf 27 = .ok (.if_icmp .lt 23, 3) := by decide +kernel
theorem dX3_letterOf_30 : decode cX3_letterOf 30 = .ok (.iload_n 1, 1) := by decide +kernel
theorem dX3_letterOf_31 : decode cX3_letterOf 31 = .ok (.bipush 65, 2) := by decide +kernel
theorem dX3_letterOf_33 : decode cX3_letterOf 33 = .ok (.aload_n 0, 1) := by decide +kernel
theorem dX3_letterOf_34 : decode cX3_letterOf 34 = .ok (.getfield 35, 3) := by decide +kernel
theorem dX3_letterOf_37 : decode cX3_letterOf 37 = .ok (.iadd, 1) := by decide +kernel
theorem dX3_letterOf_38 : decode cX3_letterOf 38 = .ok (.if_icmp .ge 12, 3) := by decide +kernel
theorem dX3_letterOf_41 : decode cX3_letterOf 41 = .ok (.iconst 2, 1) := by decide +kernel
theorem dX3_letterOf_42 : decode cX3_letterOf 42 = .ok (.iload_n 1, 1) := by decide +kernel
theorem dX3_letterOf_43 : decode cX3_letterOf 43 = .ok (.bipush 65, 2) := by decide +kernel
theorem dX3_letterOf_45 : decode cX3_letterOf 45 = .ok (.isub, 1) := by decide +kernel
theorem dX3_letterOf_46 : decode cX3_letterOf 46 = .ok (.imul, 1) := by decide +kernel
theorem dX3_letterOf_47 : decode cX3_letterOf 47 = .ok (.iconst 1, 1) := by decide +kernel
theorem dX3_letterOf_48 : decode cX3_letterOf 48 = .ok (.iadd, 1) := by decide +kernel
theorem dX3_letterOf_49 : decode cX3_letterOf 49 = .ok (.ireturn, 1) := by decide +kernel
theorem dX3_letterOf_50 : decode cX3_letterOf 50 = .ok (.iconst (-1), 1) := by decide +kernel
theorem dX3_letterOf_51 : decode cX3_letterOf 51 = .ok (.ireturn, 1) := by decide +kernel
theorem dX3_from_0 : decode cX3_from 0 = .ok (.iload_n 1, 1) := by decide +kernel
theorem dX3_from_1 : decode cX3_from 1 = .ok (.ifCond .lt 18, 3) := by decide +kernel
theorem dX3_from_4 : decode cX3_from 4 = .ok (.iload_n 1, 1) := by decide +kernel
theorem dX3_from_5 : decode cX3_from 5 = .ok (.bipush 18, 2) := by decide +kernel
theorem dX3_from_7 : decode cX3_from 7 = .ok (.if_icmp .ge 12, 3) := by decide +kernel
theorem dX3_from_10 : decode cX3_from 10 = .ok (.aload_n 0, 1) := by decide +kernel
theorem dX3_from_11 : decode cX3_from 11 = .ok (.getfield 9, 3) := by decide +kernel
theorem dX3_from_14 : decode cX3_from 14 = .ok (.iload_n 1, 1) := by decide +kernel
theorem dX3_from_15 : decode cX3_from 15 = .ok (.iaload, 1) := by decide +kernel
theorem dX3_from_16 : decode cX3_from 16 = .ok (.goto 4, 3) := by decide +kernel
theorem dX3_from_19 : decode cX3_from 19 = .ok (.iconst (-1), 1) := by decide +kernel
theorem dX3_from_20 : decode cX3_from 20 = .ok (.ireturn, 1) := by decide +kernel
theorem dX3_to_0 : decode cX3_to 0 = .ok (.iload_n 1, 1) := by decide +kernel
theorem dX3_to_1 : decode cX3_to 1 = .ok (.ifCond .lt 20, 3) := by decide +kernel
theorem dX3_to_4 : decode cX3_to 4 = .ok (.iload_n 1, 1) := by decide +kernel
theorem dX3_to_5 : decode cX3_to 5 = .ok (.bipush 18, 2) := by decide +kernel
theorem dX3_to_7 : decode cX3_to 7 = .ok (.if_icmp .ge 14, 3) := by decide +kernel
theorem dX3_to_10 : decode cX3_to 10 = .ok (.aload_n 0, 1) := by decide +kernel
theorem dX3_to_11 : decode cX3_to 11 = .ok (.getfield 9, 3) := by decide +kernel
theorem dX3_to_14 : decode cX3_to 14 = .ok (.iload_n 1, 1) := by decide +kernel
theorem dX3_to_15 : decode cX3_to 15 = .ok (.iconst 1, 1) := by decide +kernel
theorem dX3_to_16 : decode cX3_to 16 = .ok (.ixor, 1) := by decide +kernel
theorem dX3_to_17 : decode cX3_to 17 = .ok (.iaload, 1) := by decide +kernel
theorem dX3_to_18 : decode cX3_to 18 = .ok (.goto 4, 3) := by decide +kernel
theorem dX3_to_21 : decode cX3_to 21 = .ok (.iconst (-1), 1) := by decide +kernel
theorem dX3_to_22 : decode cX3_to 22 = .ok (.ireturn, 1) := by decide +kernel
theorem dX3_isWatched_0 : decode cX3_isWatched 0 = .ok (.iload_n 1, 1) := by decide +kernel
theorem dX3_isWatched_1 : decode cX3_isWatched 1 = .ok (.ifCond .lt 21, 3) := by decide +kernel
theorem dX3_isWatched_4 : decode cX3_isWatched 4 = .ok (.aload_n 0, 1) := by decide +kernel
theorem dX3_isWatched_5 : decode cX3_isWatched 5 = .ok (.getfield 38, 3) := by decide +kernel
theorem dX3_isWatched_8 : decode cX3_isWatched 8 = .ok (.iload_n 1, 1) := by decide +kernel
theorem dX3_isWatched_9 : decode cX3_isWatched 9 = .ok (.iconst 1, 1) := by decide +kernel
theorem dX3_isWatched_10 : decode cX3_isWatched 10 = .ok (.ishr, 1) := by decide +kernel
theorem dX3_isWatched_11 : decode cX3_isWatched 11 = .ok (.ishr, 1) := by decide +kernel
theorem dX3_isWatched_12 : decode cX3_isWatched 12 = .ok (.iconst 1, 1) := by decide +kernel
theorem dX3_isWatched_13 : decode cX3_isWatched 13 = .ok (.iand, 1) := by decide +kernel
theorem dX3_isWatched_14 : decode cX3_isWatched 14 = .ok (.iconst 1, 1) := by decide +kernel
theorem dX3_isWatched_15 : decode cX3_isWatched 15 = .ok (.if_icmp .ne 7, 3) := by decide +kernel
theorem dX3_isWatched_18 : decode cX3_isWatched 18 = .ok (.iconst 1, 1) := by decide +kernel
theorem dX3_isWatched_19 : decode cX3_isWatched 19 = .ok (.goto 4, 3) := by decide +kernel
theorem dX3_isWatched_22 : decode cX3_isWatched 22 = .ok (.iconst 0, 1) := by decide +kernel
theorem dX3_isWatched_23 : decode cX3_isWatched 23 = .ok (.ireturn, 1) := by decide +kernel
theorem dX3_isOpen_0 : decode cX3_isOpen 0 = .ok (.iload_n 1, 1) := by decide +kernel
theorem dX3_isOpen_1 : decode cX3_isOpen 1 = .ok (.ifCond .lt 20, 3) := by decide +kernel
theorem dX3_isOpen_4 : decode cX3_isOpen 4 = .ok (.aload_n 0, 1) := by decide +kernel
theorem dX3_isOpen_5 : decode cX3_isOpen 5 = .ok (.getfield 59, 3) := by decide +kernel
theorem dX3_isOpen_8 : decode cX3_isOpen 8 = .ok (.iload_n 1, 1) := by decide +kernel
theorem dX3_isOpen_9 : decode cX3_isOpen 9 = .ok (.iconst 1, 1) := by decide +kernel
theorem dX3_isOpen_10 : decode cX3_isOpen 10 = .ok (.ishr, 1) := by decide +kernel
theorem dX3_isOpen_11 : decode cX3_isOpen 11 = .ok (.ishr, 1) := by decide +kernel
theorem dX3_isOpen_12 : decode cX3_isOpen 12 = .ok (.iconst 1, 1) := by decide +kernel
theorem dX3_isOpen_13 : decode cX3_isOpen 13 = .ok (.iand, 1) := by decide +kernel
theorem dX3_isOpen_14 : decode cX3_isOpen 14 = .ok (.ifCond .ne 7, 3) := by decide +kernel
theorem dX3_isOpen_17 : decode cX3_isOpen 17 = .ok (.iconst 1, 1) := by decide +kernel
theorem dX3_isOpen_18 : decode cX3_isOpen 18 = .ok (.goto 4, 3) := by decide +kernel
theorem dX3_isOpen_21 : decode cX3_isOpen 21 = .ok (.iconst 0, 1) := by decide +kernel
theorem dX3_isOpen_22 : decode cX3_isOpen 22 = .ok (.ireturn, 1) := by decide +kernel
theorem dX3_openGates_0 : decode cX3_openGates 0 = .ok (.iconst 1, 1) := by decide +kernel
theorem dX3_openGates_1 : decode cX3_openGates 1 = .ok (.aload_n 0, 1) := by decide +kernel
theorem dX3_openGates_2 : decode cX3_openGates 2 = .ok (.getfield 35, 3) := by decide +kernel
theorem dX3_openGates_5 : decode cX3_openGates 5 = .ok (.ishl, 1) := by decide +kernel
theorem dX3_openGates_6 : decode cX3_openGates 6 = .ok (.iconst 1, 1) := by decide +kernel
theorem dX3_openGates_7 : decode cX3_openGates 7 = .ok (.isub, 1) := by decide +kernel
theorem dX3_openGates_8 : decode cX3_openGates 8 = .ok (.aload_n 0, 1) := by decide +kernel
theorem dX3_openGates_9 : decode cX3_openGates 9 = .ok (.getfield 59, 3) := by decide +kernel
theorem dX3_openGates_12 : decode cX3_openGates 12 = .ok (.iconst (-1), 1) := by decide +kernel
theorem dX3_openGates_13 : decode cX3_openGates 13 = .ok (.ixor, 1) := by decide +kernel
theorem dX3_openGates_14 : decode cX3_openGates 14 = .ok (.iand, 1) := by decide +kernel
theorem dX3_openGates_15 : decode cX3_openGates 15 = .ok (.ireturn, 1) := by decide +kernel
theorem dX3_openLanes_0 : decode cX3_openLanes 0 = .ok (.iconst 1, 1) := by decide +kernel
theorem dX3_openLanes_1 : decode cX3_openLanes 1 = .ok (.aload_n 0, 1) := by decide +kernel
theorem dX3_openLanes_2 : decode cX3_openLanes 2 = .ok (.getfield 35, 3) := by decide +kernel
theorem dX3_openLanes_5 : decode cX3_openLanes 5 = .ok (.ishl, 1) := by decide +kernel
theorem dX3_openLanes_6 : decode cX3_openLanes 6 = .ok (.iconst 1, 1) := by decide +kernel
theorem dX3_openLanes_7 : decode cX3_openLanes 7 = .ok (.isub, 1) := by decide +kernel
theorem dX3_openLanes_8 : decode cX3_openLanes 8 = .ok (.aload_n 0, 1) := by decide +kernel
theorem dX3_openLanes_9 : decode cX3_openLanes 9 = .ok (.getfield 59, 3) := by decide +kernel
theorem dX3_openLanes_12 : decode cX3_openLanes 12 = .ok (.iconst (-1), 1) := by decide +kernel
theorem dX3_openLanes_13 : decode cX3_openLanes 13 = .ok (.ixor, 1) := by decide +kernel
theorem dX3_openLanes_14 : decode cX3_openLanes 14 = .ok (.iand, 1) := by decide +kernel
theorem dX3_openLanes_15 : decode cX3_openLanes 15 = .ok (.aload_n 0, 1) := by decide +kernel
theorem dX3_openLanes_16 : decode cX3_openLanes 16 = .ok (.getfield 38, 3) := by decide +kernel
theorem dX3_openLanes_19 : decode cX3_openLanes 19 = .ok (.iconst (-1), 1) := by decide +kernel
theorem dX3_openLanes_20 : decode cX3_openLanes 20 = .ok (.ixor, 1) := by decide +kernel
theorem dX3_openLanes_21 : decode cX3_openLanes 21 = .ok (.iand, 1) := by decide +kernel
theorem dX3_openLanes_22 : decode cX3_openLanes 22 = .ok (.ireturn, 1) := by decide +kernel
theorem dX4_init_0 : decode cX4_init 0 = .ok (.aload_n 0, 1) := by decide +kernel
theorem dX4_init_1 : decode cX4_init 1 = .ok (.invokespecial 3, 3) := by decide +kernel
theorem dX4_init_4 : decode cX4_init 4 = .ok (.aload_n 0, 1) := by decide +kernel
theorem dX4_init_5 : decode cX4_init 5 = .ok (.sipush 132, 3) := by decide +kernel
theorem dX4_init_8 : decode cX4_init 8 = .ok (.newarray .int, 2) := by decide +kernel
theorem dX4_init_10 : decode cX4_init 10 = .ok (.putfield 9, 3) := by decide +kernel
theorem dX4_init_13 : decode cX4_init 13 = .ok (.aload_n 0, 1) := by decide +kernel
theorem dX4_init_14 : decode cX4_init 14 = .ok (.bipush 12, 2) := by decide +kernel
theorem dX4_init_16 : decode cX4_init 16 = .ok (.newarray .int, 2) := by decide +kernel
theorem dX4_init_18 : decode cX4_init 18 = .ok (.putfield 15, 3) := by decide +kernel
theorem dX4_init_21 : decode cX4_init 21 = .ok (.aload_n 0, 1) := by decide +kernel
theorem dX4_init_22 : decode cX4_init 22 = .ok (.bipush 12, 2) := by decide +kernel
theorem dX4_init_24 : decode cX4_init 24 = .ok (.newarray .int, 2) := by decide +kernel
theorem dX4_init_26 : decode cX4_init 26 = .ok (.putfield 18, 3) := by decide +kernel
theorem dX4_init_29 : decode cX4_init 29 = .ok (.aload_n 0, 1) := by decide +kernel
theorem dX4_init_30 : decode cX4_init 30 = .ok (.sipush 144, 3) := by decide +kernel
theorem dX4_init_33 : decode cX4_init 33 = .ok (.newarray .int, 2) := by decide +kernel
theorem dX4_init_35 : decode cX4_init 35 = .ok (.putfield 21, 3) := by decide +kernel
theorem dX4_init_38 : decode cX4_init 38 = .ok (.return_, 1) := by decide +kernel
theorem dX4_isFull_0 : decode cX4_isFull 0 = .ok (.aload_n 0, 1) := by decide +kernel
theorem dX4_isFull_1 : decode cX4_isFull 1 = .ok (.getfield 24, 3) := by decide +kernel
theorem dX4_isFull_4 : decode cX4_isFull 4 = .ok (.bipush 12, 2) := by decide +kernel
theorem dX4_isFull_6 : decode cX4_isFull 6 = .ok (.if_icmp .lt 7, 3) := by decide +kernel
theorem dX4_isFull_9 : decode cX4_isFull 9 = .ok (.iconst 1, 1) := by decide +kernel
theorem dX4_isFull_10 : decode cX4_isFull 10 = .ok (.goto 4, 3) := by decide +kernel
theorem dX4_isFull_13 : decode cX4_isFull 13 = .ok (.iconst 0, 1) := by decide +kernel
theorem dX4_isFull_14 : decode cX4_isFull 14 = .ok (.ireturn, 1) := by decide +kernel
theorem dX4_size_0 : decode cX4_size 0 = .ok (.aload_n 0, 1) := by decide +kernel
theorem dX4_size_1 : decode cX4_size 1 = .ok (.getfield 24, 3) := by decide +kernel
theorem dX4_size_4 : decode cX4_size 4 = .ok (.ireturn, 1) := by decide +kernel
theorem dX4_append_0 : decode cX4_append 0 = .ok (.aload_n 0, 1) := by decide +kernel
theorem dX4_append_1 : decode cX4_append 1 = .ok (.invokevirtual 28, 3) := by decide +kernel
theorem dX4_append_4 : decode cX4_append 4 = .ok (.ifCond .eq 4, 3) := by decide +kernel
theorem dX4_append_7 : decode cX4_append 7 = .ok (.return_, 1) := by decide +kernel
theorem dX4_append_8 : decode cX4_append 8 = .ok (.iconst 0, 1) := by decide +kernel
theorem dX4_append_9 : decode cX4_append 9 = .ok (.istore_n 3, 1) := by decide +kernel
theorem dX4_append_10 : decode cX4_append 10 = .ok (.iload_n 3, 1) := by decide +kernel
theorem dX4_append_11 : decode cX4_append 11 = .ok (.bipush 11, 2) := by decide +kernel
theorem dX4_append_13 : decode cX4_append 13 = .ok (.if_icmp .ge 28, 3) := by decide +kernel
theorem dX4_append_16 : decode cX4_append 16 = .ok (.aload_n 0, 1) := by decide +kernel
theorem dX4_append_17 : decode cX4_append 17 = .ok (.getfield 9, 3) := by decide +kernel
theorem dX4_append_20 : decode cX4_append 20 = .ok (.aload_n 0, 1) := by decide +kernel
theorem dX4_append_21 : decode cX4_append 21 = .ok (.getfield 24, 3) := by decide +kernel
theorem dX4_append_24 : decode cX4_append 24 = .ok (.bipush 11, 2) := by decide +kernel
theorem dX4_append_26 : decode cX4_append 26 = .ok (.imul, 1) := by decide +kernel
theorem dX4_append_27 : decode cX4_append 27 = .ok (.iload_n 3, 1) := by decide +kernel
theorem dX4_append_28 : decode cX4_append 28 = .ok (.iadd, 1) := by decide +kernel
theorem dX4_append_29 : decode cX4_append 29 = .ok (.aload_n 1, 1) := by decide +kernel
theorem dX4_append_30 : decode cX4_append 30 = .ok (.iload_n 3, 1) := by decide +kernel
theorem dX4_append_31 : decode cX4_append 31 = .ok (.invokevirtual 32, 3) := by decide +kernel
theorem dX4_append_34 : decode cX4_append 34 = .ok (.iastore, 1) := by decide +kernel
theorem dX4_append_35 : decode cX4_append 35 = .ok (.iinc 3 1, 3) := by decide +kernel
theorem dX4_append_38 : decode cX4_append 38 = .ok (.goto (-28), 3) := by decide +kernel
theorem dX4_append_41 : decode cX4_append 41 = .ok (.aload_n 0, 1) := by decide +kernel
theorem dX4_append_42 : decode cX4_append 42 = .ok (.getfield 15, 3) := by decide +kernel
theorem dX4_append_45 : decode cX4_append 45 = .ok (.aload_n 0, 1) := by decide +kernel
theorem dX4_append_46 : decode cX4_append 46 = .ok (.getfield 24, 3) := by decide +kernel
theorem dX4_append_49 : decode cX4_append 49 = .ok (.aload_n 1, 1) := by decide +kernel
theorem dX4_append_50 : decode cX4_append 50 = .ok (.invokevirtual 38, 3) := by decide +kernel
theorem dX4_append_53 : decode cX4_append 53 = .ok (.iastore, 1) := by decide +kernel
theorem dX4_append_54 : decode cX4_append 54 = .ok (.aload_n 0, 1) := by decide +kernel
theorem dX4_append_55 : decode cX4_append 55 = .ok (.getfield 18, 3) := by decide +kernel
theorem dX4_append_58 : decode cX4_append 58 = .ok (.aload_n 0, 1) := by decide +kernel
theorem dX4_append_59 : decode cX4_append 59 = .ok (.getfield 24, 3) := by decide +kernel
theorem dX4_append_62 : decode cX4_append 62 = .ok (.iload_n 2, 1) := by decide +kernel
theorem dX4_append_63 : decode cX4_append 63 = .ok (.iastore, 1) := by decide +kernel
theorem dX4_append_64 : decode cX4_append 64 = .ok (.aload_n 0, 1) := by decide +kernel
theorem dX4_append_65 : decode cX4_append 65 = .ok (.dup, 1) := by decide +kernel
theorem dX4_append_66 : decode cX4_append 66 = .ok (.getfield 24, 3) := by decide +kernel
theorem dX4_append_69 : decode cX4_append 69 = .ok (.iconst 1, 1) := by decide +kernel
theorem dX4_append_70 : decode cX4_append 70 = .ok (.iadd, 1) := by decide +kernel
theorem dX4_append_71 : decode cX4_append 71 = .ok (.putfield 24, 3) := by decide +kernel
theorem dX4_append_74 : decode cX4_append 74 = .ok (.return_, 1) := by decide +kernel
theorem dX4_dropLast_0 : decode cX4_dropLast 0 = .ok (.aload_n 0, 1) := by decide +kernel
theorem dX4_dropLast_1 : decode cX4_dropLast 1 = .ok (.iconst 0, 1) := by decide +kernel
theorem dX4_dropLast_2 : decode cX4_dropLast 2 = .ok (.aload_n 0, 1) := by decide +kernel
theorem dX4_dropLast_3 : decode cX4_dropLast 3 = .ok (.getfield 24, 3) := by decide +kernel
theorem dX4_dropLast_6 : decode cX4_dropLast 6 = .ok (.iconst 1, 1) := by decide +kernel
theorem dX4_dropLast_7 : decode cX4_dropLast 7 = .ok (.isub, 1) := by decide +kernel
theorem dX4_dropLast_8 : decode cX4_dropLast 8 = .ok (.invokestatic 41, 3) := by decide +kernel
theorem dX4_dropLast_11 : decode cX4_dropLast 11 = .ok (.putfield 24, 3) := by decide +kernel
theorem dX4_dropLast_14 : decode cX4_dropLast 14 = .ok (.return_, 1) := by decide +kernel
theorem dX4_goodOnes_0 : decode cX4_goodOnes 0 = .ok (.iconst 0, 1) := by decide +kernel
theorem dX4_goodOnes_1 : decode cX4_goodOnes 1 = .ok (.istore_n 1, 1) := by decide +kernel
theorem dX4_goodOnes_2 : decode cX4_goodOnes 2 = .ok (.iconst 0, 1) := by decide +kernel
theorem dX4_goodOnes_3 : decode cX4_goodOnes 3 = .ok (.istore_n 2, 1) := by decide +kernel
theorem dX4_goodOnes_4 : decode cX4_goodOnes 4 = .ok (.iload_n 2, 1) := by decide +kernel
theorem dX4_goodOnes_5 : decode cX4_goodOnes 5 = .ok (.aload_n 0, 1) := by decide +kernel
theorem dX4_goodOnes_6 : decode cX4_goodOnes 6 = .ok (.getfield 24, 3) := by decide +kernel
theorem dX4_goodOnes_9 : decode cX4_goodOnes 9 = .ok (.if_icmp .ge 18, 3) := by decide +kernel
theorem dX4_goodOnes_12 : decode cX4_goodOnes 12 = .ok (.iload_n 1, 1) := by decide +kernel
theorem dX4_goodOnes_13 : decode cX4_goodOnes 13 = .ok (.aload_n 0, 1) := by decide +kernel
theorem dX4_goodOnes_14 : decode cX4_goodOnes 14 = .ok (.getfield 18, 3) := by decide +kernel
theorem dX4_goodOnes_17 : decode cX4_goodOnes 17 = .ok (.iload_n 2, 1) := by decide +kernel
theorem dX4_goodOnes_18 : decode cX4_goodOnes 18 = .ok (.iaload, 1) := by decide +kernel
theorem dX4_goodOnes_19 : decode cX4_goodOnes 19 = .ok (.iadd, 1) := by decide +kernel
theorem dX4_goodOnes_20 : decode cX4_goodOnes 20 = .ok (.istore_n 1, 1) := by decide +kernel
theorem dX4_goodOnes_21 : decode cX4_goodOnes 21 = .ok (.iinc 2 1, 3) := by decide +kernel
theorem dX4_goodOnes_24 : decode cX4_goodOnes 24 = .ok (.goto (-20), 3) := by decide +kernel
theorem dX4_goodOnes_27 : decode cX4_goodOnes 27 = .ok (.iload_n 1, 1) := by decide +kernel
theorem dX4_goodOnes_28 : decode cX4_goodOnes 28 = .ok (.ireturn, 1) := by decide +kernel
theorem dX4_stampsOf_0 : decode cX4_stampsOf 0 = .ok (.iload_n 1, 1) := by decide +kernel
theorem dX4_stampsOf_1 : decode cX4_stampsOf 1 = .ok (.ifCond .lt 20, 3) := by decide +kernel
theorem dX4_stampsOf_4 : decode cX4_stampsOf 4 = .ok (.iload_n 1, 1) := by decide +kernel
theorem dX4_stampsOf_5 : decode cX4_stampsOf 5 = .ok (.aload_n 0, 1) := by decide +kernel
theorem dX4_stampsOf_6 : decode cX4_stampsOf 6 = .ok (.getfield 24, 3) := by decide +kernel
theorem dX4_stampsOf_9 : decode cX4_stampsOf 9 = .ok (.if_icmp .ge 12, 3) := by decide +kernel
theorem dX4_stampsOf_12 : decode cX4_stampsOf 12 = .ok (.aload_n 0, 1) := by decide +kernel
theorem dX4_stampsOf_13 : decode cX4_stampsOf 13 = .ok (.getfield 15, 3) := by decide +kernel
theorem dX4_stampsOf_16 : decode cX4_stampsOf 16 = .ok (.iload_n 1, 1) := by decide +kernel
theorem dX4_stampsOf_17 : decode cX4_stampsOf 17 = .ok (.iaload, 1) := by decide +kernel
theorem dX4_stampsOf_18 : decode cX4_stampsOf 18 = .ok (.goto 4, 3) := by decide +kernel
theorem dX4_stampsOf_21 : decode cX4_stampsOf 21 = .ok (.iconst 0, 1) := by decide +kernel
theorem dX4_stampsOf_22 : decode cX4_stampsOf 22 = .ok (.ireturn, 1) := by decide +kernel
theorem dX4_stampAt_0 : decode cX4_stampAt 0 = .ok (.iload_n 1, 1) := by decide +kernel
theorem dX4_stampAt_1 : decode cX4_stampAt 1 = .ok (.ifCond .lt 25, 3) := by decide +kernel
theorem dX4_stampAt_4 : decode cX4_stampAt 4 = .ok (.iload_n 1, 1) := by decide +kernel
theorem dX4_stampAt_5 : decode cX4_stampAt 5 = .ok (.aload_n 0, 1) := by decide +kernel
theorem dX4_stampAt_6 : decode cX4_stampAt 6 = .ok (.getfield 24, 3) := by decide +kernel
theorem dX4_stampAt_9 : decode cX4_stampAt 9 = .ok (.if_icmp .ge 17, 3) := by decide +kernel
theorem dX4_stampAt_12 : decode cX4_stampAt 12 = .ok (.iload_n 2, 1) := by decide +kernel
theorem dX4_stampAt_13 : decode cX4_stampAt 13 = .ok (.ifCond .lt 13, 3) := by decide +kernel
theorem dX4_stampAt_16 : decode cX4_stampAt 16 = .ok (.iload_n 2, 1) := by decide +kernel
theorem dX4_stampAt_17 : decode cX4_stampAt 17 = .ok (.bipush 11, 2) := by decide +kernel
theorem dX4_stampAt_19 : decode cX4_stampAt 19 = .ok (.if_icmp .ge 7, 3) := by decide +kernel
theorem dX4_stampAt_22 : decode cX4_stampAt 22 = .ok (.iconst 1, 1) := by decide +kernel
theorem dX4_stampAt_23 : decode cX4_stampAt 23 = .ok (.goto 4, 3) := by decide +kernel
theorem dX4_stampAt_26 : decode cX4_stampAt 26 = .ok (.iconst 0, 1) := by decide +kernel
theorem dX4_stampAt_27 : decode cX4_stampAt 27 = .ok (.istore_n 3, 1) := by decide +kernel
theorem dX4_stampAt_28 : decode cX4_stampAt 28 = .ok (.iload_n 3, 1) := by decide +kernel
theorem dX4_stampAt_29 : decode cX4_stampAt 29 = .ok (.ifCond .eq 17, 3) := by decide +kernel
theorem dX4_stampAt_32 : decode cX4_stampAt 32 = .ok (.aload_n 0, 1) := by decide +kernel
theorem dX4_stampAt_33 : decode cX4_stampAt 33 = .ok (.getfield 9, 3) := by decide +kernel
theorem dX4_stampAt_36 : decode cX4_stampAt 36 = .ok (.iload_n 1, 1) := by decide +kernel
theorem dX4_stampAt_37 : decode cX4_stampAt 37 = .ok (.bipush 11, 2) := by decide +kernel
theorem dX4_stampAt_39 : decode cX4_stampAt 39 = .ok (.imul, 1) := by decide +kernel
theorem dX4_stampAt_40 : decode cX4_stampAt 40 = .ok (.iload_n 2, 1) := by decide +kernel
theorem dX4_stampAt_41 : decode cX4_stampAt 41 = .ok (.iadd, 1) := by decide +kernel
theorem dX4_stampAt_42 : decode cX4_stampAt 42 = .ok (.iaload, 1) := by decide +kernel
theorem dX4_stampAt_43 : decode cX4_stampAt 43 = .ok (.goto 4, 3) := by decide +kernel
theorem dX4_stampAt_46 : decode cX4_stampAt 46 = .ok (.iconst (-1), 1) := by decide +kernel
theorem dX4_stampAt_47 : decode cX4_stampAt 47 = .ok (.ireturn, 1) := by decide +kernel
theorem dX4_letsBy_0 : decode cX4_letsBy 0 = .ok (.iconst 0, 1) := by decide +kernel
theorem dX4_letsBy_1 : decode cX4_letsBy 1 = .ok (.istore_n 3, 1) := by decide +kernel
theorem dX4_letsBy_2 : decode cX4_letsBy 2 = .ok (.iload_n 3, 1) := by decide +kernel
theorem dX4_letsBy_3 : decode cX4_letsBy 3 = .ok (.aload_n 0, 1) := by decide +kernel
theorem dX4_letsBy_4 : decode cX4_letsBy 4 = .ok (.getfield 24, 3) := by decide +kernel
theorem dX4_letsBy_7 : decode cX4_letsBy 7 = .ok (.if_icmp .ge 32, 3) := by decide +kernel
theorem dX4_letsBy_10 : decode cX4_letsBy 10 = .ok (.aload_n 0, 1) := by decide +kernel
theorem dX4_letsBy_11 : decode cX4_letsBy 11 = .ok (.getfield 18, 3) := by decide +kernel
theorem dX4_letsBy_14 : decode cX4_letsBy 14 = .ok (.iload_n 3, 1) := by decide +kernel
theorem dX4_letsBy_15 : decode cX4_letsBy 15 = .ok (.iaload, 1) := by decide +kernel
theorem dX4_letsBy_16 : decode cX4_letsBy 16 = .ok (.iconst 1, 1) := by decide +kernel
theorem dX4_letsBy_17 : decode cX4_letsBy 17 = .ok (.if_icmp .ne 16, 3) := by decide +kernel
theorem dX4_letsBy_20 : decode cX4_letsBy 20 = .ok (.aload_n 0, 1) := by decide +kernel
theorem dX4_letsBy_21 : decode cX4_letsBy 21 = .ok (.aload_n 1, 1) := by decide +kernel
theorem dX4_letsBy_22 : decode cX4_letsBy 22 = .ok (.iload_n 3, 1) := by decide +kernel
theorem dX4_letsBy_23 : decode cX4_letsBy 23 = .ok (.invokevirtual 47, 3) := by decide +kernel
theorem dX4_letsBy_26 : decode cX4_letsBy 26 = .ok (.iload_n 2, 1) := by decide +kernel
theorem dX4_letsBy_27 : decode cX4_letsBy 27 = .ok (.iand, 1) := by decide +kernel
theorem dX4_letsBy_28 : decode cX4_letsBy 28 = .ok (.ifCond .ne 5, 3) := by decide +kernel
theorem dX4_letsBy_31 : decode cX4_letsBy 31 = .ok (.iconst 1, 1) := by decide +kernel
theorem dX4_letsBy_32 : decode cX4_letsBy 32 = .ok (.ireturn, 1) := by decide +kernel
theorem dX4_letsBy_33 : decode cX4_letsBy 33 = .ok (.iinc 3 1, 3) := by decide +kernel
theorem dX4_letsBy_36 : decode cX4_letsBy 36 = .ok (.goto (-34), 3) := by decide +kernel
theorem dX4_letsBy_39 : decode cX4_letsBy 39 = .ok (.iconst 0, 1) := by decide +kernel
theorem dX4_letsBy_40 : decode cX4_letsBy 40 = .ok (.ireturn, 1) := by decide +kernel
theorem dX4_slipping_0 : decode cX4_slipping 0 = .ok (.iconst 0, 1) := by decide +kernel
theorem dX4_slipping_1 : decode cX4_slipping 1 = .ok (.istore_n 2, 1) := by decide +kernel
theorem dX4_slipping_2 : decode cX4_slipping 2 = .ok (.iconst 0, 1) := by decide +kernel
theorem dX4_slipping_3 : decode cX4_slipping 3 = .ok (.istore_n 3, 1) := by decide +kernel
theorem dX4_slipping_4 : decode cX4_slipping 4 = .ok (.iload_n 3, 1) := by decide +kernel
theorem dX4_slipping_5 : decode cX4_slipping 5 = .ok (.aload_n 0, 1) := by decide +kernel
theorem dX4_slipping_6 : decode cX4_slipping 6 = .ok (.getfield 24, 3) := by decide +kernel
theorem dX4_slipping_9 : decode cX4_slipping 9 = .ok (.if_icmp .ge 30, 3) := by decide +kernel
theorem dX4_slipping_12 : decode cX4_slipping 12 = .ok (.aload_n 0, 1) := by decide +kernel
theorem dX4_slipping_13 : decode cX4_slipping 13 = .ok (.getfield 18, 3) := by decide +kernel
theorem dX4_slipping_16 : decode cX4_slipping 16 = .ok (.iload_n 3, 1) := by decide +kernel
theorem dX4_slipping_17 : decode cX4_slipping 17 = .ok (.iaload, 1) := by decide +kernel
theorem dX4_slipping_18 : decode cX4_slipping 18 = .ok (.ifCond .ne 15, 3) := by decide +kernel
theorem dX4_slipping_21 : decode cX4_slipping 21 = .ok (.aload_n 0, 1) := by decide +kernel
theorem dX4_slipping_22 : decode cX4_slipping 22 = .ok (.iload_n 3, 1) := by decide +kernel
theorem dX4_slipping_23 : decode cX4_slipping 23 = .ok (.iload_n 1, 1) := by decide +kernel
theorem dX4_slipping_24 : decode cX4_slipping 24 = .ok (.invokevirtual 51, 3) := by decide +kernel
theorem dX4_slipping_27 : decode cX4_slipping 27 = .ok (.ifCond .eq 6, 3) := by decide +kernel
theorem dX4_slipping_30 : decode cX4_slipping 30 = .ok (.iinc 2 1, 3) := by decide +kernel
theorem dX4_slipping_33 : decode cX4_slipping 33 = .ok (.iinc 3 1, 3) := by decide +kernel
theorem dX4_slipping_36 : decode cX4_slipping 36 = .ok (.goto (-32), 3) := by decide +kernel
theorem dX4_slipping_39 : decode cX4_slipping 39 = .ok (.iload_n 2, 1) := by decide +kernel
theorem dX4_slipping_40 : decode cX4_slipping 40 = .ok (.ireturn, 1) := by decide +kernel
theorem dX4_fewestPlaces_0 : decode cX4_fewestPlaces 0 = .ok (.aload_n 0, 1) := by decide +kernel
theorem dX4_fewestPlaces_1 : decode cX4_fewestPlaces 1 = .ok (.invokevirtual 55, 3) := by decide +kernel
theorem dX4_fewestPlaces_4 : decode cX4_fewestPlaces 4 = .ok (.istore_n 1, 1) := by decide +kernel
theorem dX4_fewestPlaces_5 : decode cX4_fewestPlaces 5 = .ok (.iconst 0, 1) := by decide +kernel
theorem dX4_fewestPlaces_6 : decode cX4_fewestPlaces 6 = .ok (.istore_n 2, 1) := by decide +kernel
theorem dX4_fewestPlaces_7 : decode cX4_fewestPlaces 7 = .ok (.iconst 0, 1) := by decide +kernel
theorem dX4_fewestPlaces_8 : decode cX4_fewestPlaces 8 = .ok (.istore_n 3, 1) := by decide +kernel
theorem dX4_fewestPlaces_9 : decode cX4_fewestPlaces 9 = .ok (.iload_n 3, 1) := by decide +kernel
theorem dX4_fewestPlaces_10 : decode cX4_fewestPlaces 10 = .ok (.iload_n 1, 1) := by decide +kernel
theorem dX4_fewestPlaces_11 : decode cX4_fewestPlaces 11 = .ok (.if_icmp .ge 18, 3) := by decide +kernel
theorem dX4_fewestPlaces_14 : decode cX4_fewestPlaces 14 = .ok (.iload_n 2, 1) := by decide +kernel
theorem dX4_fewestPlaces_15 : decode cX4_fewestPlaces 15 = .ok (.aload_n 0, 1) := by decide +kernel
theorem dX4_fewestPlaces_16 : decode cX4_fewestPlaces 16 = .ok (.getfield 21, 3) := by decide +kernel
theorem dX4_fewestPlaces_19 : decode cX4_fewestPlaces 19 = .ok (.iload_n 3, 1) := by decide +kernel
theorem dX4_fewestPlaces_20 : decode cX4_fewestPlaces 20 = .ok (.iaload, 1) := by decide +kernel
theorem dX4_fewestPlaces_21 : decode cX4_fewestPlaces 21 = .ok (.ior, 1) := by decide +kernel
theorem dX4_fewestPlaces_22 : decode cX4_fewestPlaces 22 = .ok (.istore_n 2, 1) := by decide +kernel
theorem dX4_fewestPlaces_23 : decode cX4_fewestPlaces 23 = .ok (.iinc 3 1, 3) := by decide +kernel
theorem dX4_fewestPlaces_26 : decode cX4_fewestPlaces 26 = .ok (.goto (-17), 3) := by decide +kernel
theorem dX4_fewestPlaces_29 : decode cX4_fewestPlaces 29 = .ok (.iconst (-1), 1) := by decide +kernel
theorem dX4_fewestPlaces_30 : decode cX4_fewestPlaces 30 = .ok (.istore_n 3, 1) := by decide +kernel
theorem dX4_fewestPlaces_31 : decode cX4_fewestPlaces 31 = .ok (.bipush 12, 2) := by decide +kernel
theorem dX4_fewestPlaces_33 : decode cX4_fewestPlaces 33 = .ok (.istore 4, 2) := by decide +kernel
theorem dX4_fewestPlaces_35 : decode cX4_fewestPlaces 35 = .ok (.iconst 0, 1) := by decide +kernel
theorem dX4_fewestPlaces_36 : decode cX4_fewestPlaces 36 = .ok (.istore 5, 2) := by decide +kernel
theorem dX4_fewestPlaces_38 : decode cX4_fewestPlaces 38 = .ok (.iload 5, 2) := by decide +kernel
theorem dX4_fewestPlaces_40 : decode cX4_fewestPlaces 40 = .ok (.iload_n 2, 1) := by decide +kernel
theorem dX4_fewestPlaces_41 : decode cX4_fewestPlaces 41 = .ok (.if_icmp .gt 40, 3) := by decide +kernel
theorem dX4_fewestPlaces_44 : decode cX4_fewestPlaces 44 = .ok (.iload 5, 2) := by decide +kernel
theorem dX4_fewestPlaces_46 : decode cX4_fewestPlaces 46 = .ok (.invokestatic 58, 3) := by decide +kernel
theorem dX4_fewestPlaces_49 : decode cX4_fewestPlaces 49 = .ok (.istore 6, 2) := by decide +kernel
theorem dX4_fewestPlaces_51 : decode cX4_fewestPlaces 51 = .ok (.iload 6, 2) := by decide +kernel
theorem dX4_fewestPlaces_53 : decode cX4_fewestPlaces 53 = .ok (.iload 4, 2) := by decide +kernel
theorem dX4_fewestPlaces_55 : decode cX4_fewestPlaces 55 = .ok (.if_icmp .ge 20, 3) := by decide +kernel
theorem dX4_fewestPlaces_58 : decode cX4_fewestPlaces 58 = .ok (.aload_n 0, 1) := by decide +kernel
theorem dX4_fewestPlaces_59 : decode cX4_fewestPlaces 59 = .ok (.iload 5, 2) := by decide +kernel
theorem dX4_fewestPlaces_61 : decode cX4_fewestPlaces 61 = .ok (.iload_n 1, 1) := by decide +kernel
theorem dX4_fewestPlaces_62 : decode cX4_fewestPlaces 62 = .ok (.invokevirtual 63, 3) := by decide +kernel
theorem dX4_fewestPlaces_65 : decode cX4_fewestPlaces 65 = .ok (.ifCond .eq 10, 3) := by decide +kernel
theorem dX4_fewestPlaces_68 : decode cX4_fewestPlaces 68 = .ok (.iload 5, 2) := by decide +kernel
theorem dX4_fewestPlaces_70 : decode cX4_fewestPlaces 70 = .ok (.istore_n 3, 1) := by decide +kernel
theorem dX4_fewestPlaces_71 : decode cX4_fewestPlaces 71 = .ok (.iload 6, 2) := by decide +kernel
theorem dX4_fewestPlaces_73 : decode cX4_fewestPlaces 73 = .ok (.istore 4, 2) := by decide +kernel
theorem dX4_fewestPlaces_75 : decode cX4_fewestPlaces 75 = .ok (.iinc 5 1, 3) := by decide +kernel
theorem dX4_fewestPlaces_78 : decode cX4_fewestPlaces 78 = .ok (.goto (-40), 3) := by decide +kernel
theorem dX4_fewestPlaces_81 : decode cX4_fewestPlaces 81 = .ok (.iload_n 3, 1) := by decide +kernel
theorem dX4_fewestPlaces_82 : decode cX4_fewestPlaces 82 = .ok (.ireturn, 1) := by decide +kernel
theorem dX4_gatherUnlike_0 : decode cX4_gatherUnlike 0 = .ok (.iconst 0, 1) := by decide +kernel
theorem dX4_gatherUnlike_1 : decode cX4_gatherUnlike 1 = .ok (.istore_n 1, 1) := by decide +kernel
theorem dX4_gatherUnlike_2 : decode cX4_gatherUnlike 2 = .ok (.iconst 0, 1) := by decide +kernel
theorem dX4_gatherUnlike_3 : decode cX4_gatherUnlike 3 = .ok (.istore_n 2, 1) := by decide +kernel
theorem dX4_gatherUnlike_4 : decode cX4_gatherUnlike 4 = .ok (.iload_n 2, 1) := by decide +kernel
theorem dX4_gatherUnlike_5 : decode cX4_gatherUnlike 5 = .ok (.aload_n 0, 1) := by decide +kernel
theorem dX4_gatherUnlike_6 : decode cX4_gatherUnlike 6 = .ok (.getfield 24, 3) := by decide +kernel
theorem dX4_gatherUnlike_9 : decode cX4_gatherUnlike 9 = .ok (.if_icmp .ge 59, 3) := by decide +kernel
theorem dX4_gatherUnlike_12 : decode cX4_gatherUnlike 12 = .ok (.iconst 0, 1) := by decide +kernel
theorem dX4_gatherUnlike_13 : decode cX4_gatherUnlike 13 = .ok (.istore_n 3, 1) := by decide +kernel
theorem dX4_gatherUnlike_14 : decode cX4_gatherUnlike 14 = .ok (.iload_n 3, 1) := by decide +kernel
theorem dX4_gatherUnlike_15 : decode cX4_gatherUnlike 15 = .ok (.aload_n 0, 1) := by decide +kernel
theorem dX4_gatherUnlike_16 : decode cX4_gatherUnlike 16 = .ok (.getfield 24, 3) := by decide +kernel
theorem dX4_gatherUnlike_19 : decode cX4_gatherUnlike 19 = .ok (.if_icmp .ge 43, 3) := by decide +kernel
theorem dX4_gatherUnlike_22 : decode cX4_gatherUnlike 22 = .ok (.aload_n 0, 1) := by decide +kernel
theorem dX4_gatherUnlike_23 : decode cX4_gatherUnlike 23 = .ok (.getfield 18, 3) := by decide +kernel
theorem dX4_gatherUnlike_26 : decode cX4_gatherUnlike 26 = .ok (.iload_n 2, 1) := by decide +kernel
theorem dX4_gatherUnlike_27 : decode cX4_gatherUnlike 27 = .ok (.iaload, 1) := by decide +kernel
theorem dX4_gatherUnlike_28 : decode cX4_gatherUnlike 28 = .ok (.ifCond .ne 28, 3) := by decide +kernel
theorem dX4_gatherUnlike_31 : decode cX4_gatherUnlike 31 = .ok (.aload_n 0, 1) := by decide +kernel
theorem dX4_gatherUnlike_32 : decode cX4_gatherUnlike 32 = .ok (.getfield 18, 3) := by decide +kernel
theorem dX4_gatherUnlike_35 : decode cX4_gatherUnlike 35 = .ok (.iload_n 3, 1) := by decide +kernel
theorem dX4_gatherUnlike_36 : decode cX4_gatherUnlike 36 = .ok (.iaload, 1) := by decide +kernel
theorem dX4_gatherUnlike_37 : decode cX4_gatherUnlike 37 = .ok (.iconst 1, 1) := by decide +kernel
theorem dX4_gatherUnlike_38 : decode cX4_gatherUnlike 38 = .ok (.if_icmp .ne 18, 3) := by decide +kernel
theorem dX4_gatherUnlike_41 : decode cX4_gatherUnlike 41 = .ok (.aload_n 0, 1) := by decide +kernel
theorem dX4_gatherUnlike_42 : decode cX4_gatherUnlike 42 = .ok (.getfield 21, 3) := by decide +kernel
theorem dX4_gatherUnlike_45 : decode cX4_gatherUnlike 45 = .ok (.iload_n 1, 1) := by decide +kernel
theorem dX4_gatherUnlike_46 : decode cX4_gatherUnlike 46 = .ok (.aload_n 0, 1) := by decide +kernel
theorem dX4_gatherUnlike_47 : decode cX4_gatherUnlike 47 = .ok (.iload_n 2, 1) := by decide +kernel
theorem dX4_gatherUnlike_48 : decode cX4_gatherUnlike 48 = .ok (.iload_n 3, 1) := by decide +kernel
theorem dX4_gatherUnlike_49 : decode cX4_gatherUnlike 49 = .ok (.invokevirtual 66, 3) := by decide +kernel
theorem dX4_gatherUnlike_52 : decode cX4_gatherUnlike 52 = .ok (.iastore, 1) := by decide +kernel
theorem dX4_gatherUnlike_53 : decode cX4_gatherUnlike 53 = .ok (.iinc 1 1, 3) := by decide +kernel
theorem dX4_gatherUnlike_56 : decode cX4_gatherUnlike 56 = .ok (.iinc 3 1, 3) := by decide +kernel
theorem dX4_gatherUnlike_59 : decode cX4_gatherUnlike 59 = .ok (.goto (-45), 3) := by decide +kernel
theorem dX4_gatherUnlike_62 : decode cX4_gatherUnlike 62 = .ok (.iinc 2 1, 3) := by decide +kernel
theorem dX4_gatherUnlike_65 : decode cX4_gatherUnlike 65 = .ok (.goto (-61), 3) := by decide +kernel
theorem dX4_gatherUnlike_68 : decode cX4_gatherUnlike 68 = .ok (.iload_n 1, 1) := by decide +kernel
theorem dX4_gatherUnlike_69 : decode cX4_gatherUnlike 69 = .ok (.ireturn, 1) := by decide +kernel
theorem dX4_partsAll_0 : decode cX4_partsAll 0 = .ok (.iconst 0, 1) := by decide +kernel
theorem dX4_partsAll_1 : decode cX4_partsAll 1 = .ok (.istore_n 3, 1) := by decide +kernel
theorem dX4_partsAll_2 : decode cX4_partsAll 2 = .ok (.iload_n 3, 1) := by decide +kernel
theorem dX4_partsAll_3 : decode cX4_partsAll 3 = .ok (.iload_n 2, 1) := by decide +kernel
theorem dX4_partsAll_4 : decode cX4_partsAll 4 = .ok (.if_icmp .ge 22, 3) := by decide +kernel
theorem dX4_partsAll_7 : decode cX4_partsAll 7 = .ok (.aload_n 0, 1) := by decide +kernel
theorem dX4_partsAll_8 : decode cX4_partsAll 8 = .ok (.getfield 21, 3) := by decide +kernel
theorem dX4_partsAll_11 : decode cX4_partsAll 11 = .ok (.iload_n 3, 1) := by decide +kernel
theorem dX4_partsAll_12 : decode cX4_partsAll 12 = .ok (.iaload, 1) := by decide +kernel
theorem dX4_partsAll_13 : decode cX4_partsAll 13 = .ok (.iload_n 1, 1) := by decide +kernel
theorem dX4_partsAll_14 : decode cX4_partsAll 14 = .ok (.iand, 1) := by decide +kernel
theorem dX4_partsAll_15 : decode cX4_partsAll 15 = .ok (.ifCond .ne 5, 3) := by decide +kernel
theorem dX4_partsAll_18 : decode cX4_partsAll 18 = .ok (.iconst 0, 1) := by decide +kernel
theorem dX4_partsAll_19 : decode cX4_partsAll 19 = .ok (.ireturn, 1) := by decide +kernel
theorem dX4_partsAll_20 : decode cX4_partsAll 20 = .ok (.iinc 3 1, 3) := by decide +kernel
theorem dX4_partsAll_23 : decode cX4_partsAll 23 = .ok (.goto (-21), 3) := by decide +kernel
theorem dX4_partsAll_26 : decode cX4_partsAll 26 = .ok (.iconst 1, 1) := by decide +kernel
theorem dX4_partsAll_27 : decode cX4_partsAll 27 = .ok (.ireturn, 1) := by decide +kernel
theorem dX4_isLetBy_0 : decode cX4_isLetBy 0 = .ok (.iconst 0, 1) := by decide +kernel
theorem dX4_isLetBy_1 : decode cX4_isLetBy 1 = .ok (.istore_n 3, 1) := by decide +kernel
theorem dX4_isLetBy_2 : decode cX4_isLetBy 2 = .ok (.iload_n 3, 1) := by decide +kernel
theorem dX4_isLetBy_3 : decode cX4_isLetBy 3 = .ok (.aload_n 0, 1) := by decide +kernel
theorem dX4_isLetBy_4 : decode cX4_isLetBy 4 = .ok (.getfield 24, 3) := by decide +kernel
theorem dX4_isLetBy_7 : decode cX4_isLetBy 7 = .ok (.if_icmp .ge 32, 3) := by decide +kernel
theorem dX4_isLetBy_10 : decode cX4_isLetBy 10 = .ok (.aload_n 0, 1) := by decide +kernel
theorem dX4_isLetBy_11 : decode cX4_isLetBy 11 = .ok (.getfield 18, 3) := by decide +kernel
theorem dX4_isLetBy_14 : decode cX4_isLetBy 14 = .ok (.iload_n 3, 1) := by decide +kernel
theorem dX4_isLetBy_15 : decode cX4_isLetBy 15 = .ok (.iaload, 1) := by decide +kernel
theorem dX4_isLetBy_16 : decode cX4_isLetBy 16 = .ok (.iconst 1, 1) := by decide +kernel
theorem dX4_isLetBy_17 : decode cX4_isLetBy 17 = .ok (.if_icmp .ne 16, 3) := by decide +kernel
theorem dX4_isLetBy_20 : decode cX4_isLetBy 20 = .ok (.aload_n 0, 1) := by decide +kernel
theorem dX4_isLetBy_21 : decode cX4_isLetBy 21 = .ok (.iload_n 1, 1) := by decide +kernel
theorem dX4_isLetBy_22 : decode cX4_isLetBy 22 = .ok (.iload_n 3, 1) := by decide +kernel
theorem dX4_isLetBy_23 : decode cX4_isLetBy 23 = .ok (.invokevirtual 66, 3) := by decide +kernel
theorem dX4_isLetBy_26 : decode cX4_isLetBy 26 = .ok (.iload_n 2, 1) := by decide +kernel
theorem dX4_isLetBy_27 : decode cX4_isLetBy 27 = .ok (.iand, 1) := by decide +kernel
theorem dX4_isLetBy_28 : decode cX4_isLetBy 28 = .ok (.ifCond .ne 5, 3) := by decide +kernel
theorem dX4_isLetBy_31 : decode cX4_isLetBy 31 = .ok (.iconst 1, 1) := by decide +kernel
theorem dX4_isLetBy_32 : decode cX4_isLetBy 32 = .ok (.ireturn, 1) := by decide +kernel
theorem dX4_isLetBy_33 : decode cX4_isLetBy 33 = .ok (.iinc 3 1, 3) := by decide +kernel
theorem dX4_isLetBy_36 : decode cX4_isLetBy 36 = .ok (.goto (-34), 3) := by decide +kernel
theorem dX4_isLetBy_39 : decode cX4_isLetBy 39 = .ok (.iconst 0, 1) := by decide +kernel
theorem dX4_isLetBy_40 : decode cX4_isLetBy 40 = .ok (.ireturn, 1) := by decide +kernel
theorem dX4_unlikeOf_0 : decode cX4_unlikeOf 0 = .ok (.iconst 0, 1) := by decide +kernel
theorem dX4_unlikeOf_1 : decode cX4_unlikeOf 1 = .ok (.istore_n 3, 1) := by decide +kernel
theorem dX4_unlikeOf_2 : decode cX4_unlikeOf 2 = .ok (.iconst 0, 1) := by decide +kernel
theorem dX4_unlikeOf_3 : decode cX4_unlikeOf 3 = .ok (.istore 4, 2) := by decide +kernel
theorem dX4_unlikeOf_5 : decode cX4_unlikeOf 5 = .ok (.iload 4, 2) := by decide +kernel
theorem dX4_unlikeOf_7 : decode cX4_unlikeOf 7 = .ok (.bipush 11, 2) := by decide +kernel
theorem dX4_unlikeOf_9 : decode cX4_unlikeOf 9 = .ok (.if_icmp .ge 33, 3) := by decide +kernel
theorem dX4_unlikeOf_12 : decode cX4_unlikeOf 12 = .ok (.aload_n 0, 1) := by decide +kernel
theorem dX4_unlikeOf_13 : decode cX4_unlikeOf 13 = .ok (.iload_n 1, 1) := by decide +kernel
theorem dX4_unlikeOf_14 : decode cX4_unlikeOf 14 = .ok (.iload 4, 2) := by decide +kernel
theorem dX4_unlikeOf_16 : decode cX4_unlikeOf 16 = .ok (.invokevirtual 69, 3) := by decide +kernel
theorem dX4_unlikeOf_19 : decode cX4_unlikeOf 19 = .ok (.aload_n 0, 1) := by decide +kernel
theorem dX4_unlikeOf_20 : decode cX4_unlikeOf 20 = .ok (.iload_n 2, 1) := by decide +kernel
theorem dX4_unlikeOf_21 : decode cX4_unlikeOf 21 = .ok (.iload 4, 2) := by decide +kernel
theorem dX4_unlikeOf_23 : decode cX4_unlikeOf 23 = .ok (.invokevirtual 69, 3) := by decide +kernel
theorem dX4_unlikeOf_26 : decode cX4_unlikeOf 26 = .ok (.if_icmp .eq 10, 3) := by decide +kernel
theorem dX4_unlikeOf_29 : decode cX4_unlikeOf 29 = .ok (.iload_n 3, 1) := by decide +kernel
theorem dX4_unlikeOf_30 : decode cX4_unlikeOf 30 = .ok (.iconst 1, 1) := by decide +kernel
theorem dX4_unlikeOf_31 : decode cX4_unlikeOf 31 = .ok (.iload 4, 2) := by decide +kernel
theorem dX4_unlikeOf_33 : decode cX4_unlikeOf 33 = .ok (.ishl, 1) := by decide +kernel
theorem dX4_unlikeOf_34 : decode cX4_unlikeOf 34 = .ok (.ior, 1) := by decide +kernel
theorem dX4_unlikeOf_35 : decode cX4_unlikeOf 35 = .ok (.istore_n 3, 1) := by decide +kernel
theorem dX4_unlikeOf_36 : decode cX4_unlikeOf 36 = .ok (.iinc 4 1, 3) := by decide +kernel
theorem dX4_unlikeOf_39 : decode cX4_unlikeOf 39 = .ok (.goto (-34), 3) := by decide +kernel
theorem dX4_unlikeOf_42 : decode cX4_unlikeOf 42 = .ok (.iload_n 3, 1) := by decide +kernel
theorem dX4_unlikeOf_43 : decode cX4_unlikeOf 43 = .ok (.ireturn, 1) := by decide +kernel
theorem dX4_unlikeAt_0 : decode cX4_unlikeAt 0 = .ok (.iconst 0, 1) := by decide +kernel
theorem dX4_unlikeAt_1 : decode cX4_unlikeAt 1 = .ok (.istore_n 3, 1) := by decide +kernel
theorem dX4_unlikeAt_2 : decode cX4_unlikeAt 2 = .ok (.iconst 0, 1) := by decide +kernel
theorem dX4_unlikeAt_3 : decode cX4_unlikeAt 3 = .ok (.istore 4, 2) := by decide +kernel
theorem dX4_unlikeAt_5 : decode cX4_unlikeAt 5 = .ok (.iload 4, 2) := by decide +kernel
theorem dX4_unlikeAt_7 : decode cX4_unlikeAt 7 = .ok (.bipush 11, 2) := by decide +kernel
theorem dX4_unlikeAt_9 : decode cX4_unlikeAt 9 = .ok (.if_icmp .ge 32, 3) := by decide +kernel
theorem dX4_unlikeAt_12 : decode cX4_unlikeAt 12 = .ok (.aload_n 1, 1) := by decide +kernel
theorem dX4_unlikeAt_13 : decode cX4_unlikeAt 13 = .ok (.iload 4, 2) := by decide +kernel
theorem dX4_unlikeAt_15 : decode cX4_unlikeAt 15 = .ok (.invokevirtual 32, 3) := by decide +kernel
theorem dX4_unlikeAt_18 : decode cX4_unlikeAt 18 = .ok (.aload_n 0, 1) := by decide +kernel
theorem dX4_unlikeAt_19 : decode cX4_unlikeAt 19 = .ok (.iload_n 2, 1) := by decide +kernel
theorem dX4_unlikeAt_20 : decode cX4_unlikeAt 20 = .ok (.iload 4, 2) := by decide +kernel
theorem dX4_unlikeAt_22 : decode cX4_unlikeAt 22 = .ok (.invokevirtual 69, 3) := by decide +kernel
theorem dX4_unlikeAt_25 : decode cX4_unlikeAt 25 = .ok (.if_icmp .eq 10, 3) := by decide +kernel
theorem dX4_unlikeAt_28 : decode cX4_unlikeAt 28 = .ok (.iload_n 3, 1) := by decide +kernel
theorem dX4_unlikeAt_29 : decode cX4_unlikeAt 29 = .ok (.iconst 1, 1) := by decide +kernel
theorem dX4_unlikeAt_30 : decode cX4_unlikeAt 30 = .ok (.iload 4, 2) := by decide +kernel
theorem dX4_unlikeAt_32 : decode cX4_unlikeAt 32 = .ok (.ishl, 1) := by decide +kernel
theorem dX4_unlikeAt_33 : decode cX4_unlikeAt 33 = .ok (.ior, 1) := by decide +kernel
theorem dX4_unlikeAt_34 : decode cX4_unlikeAt 34 = .ok (.istore_n 3, 1) := by decide +kernel
theorem dX4_unlikeAt_35 : decode cX4_unlikeAt 35 = .ok (.iinc 4 1, 3) := by decide +kernel
theorem dX4_unlikeAt_38 : decode cX4_unlikeAt 38 = .ok (.goto (-33), 3) := by decide +kernel
theorem dX4_unlikeAt_41 : decode cX4_unlikeAt 41 = .ok (.iload_n 3, 1) := by decide +kernel
theorem dX4_unlikeAt_42 : decode cX4_unlikeAt 42 = .ok (.ireturn, 1) := by decide +kernel
theorem dX5_init_0 : decode cX5_init 0 = .ok (.aload_n 0, 1) := by decide +kernel
theorem dX5_init_1 : decode cX5_init 1 = .ok (.invokespecial 3, 3) := by decide +kernel
theorem dX5_init_4 : decode cX5_init 4 = .ok (.aload_n 0, 1) := by decide +kernel
theorem dX5_init_5 : decode cX5_init 5 = .ok (.bipush 60, 2) := by decide +kernel
theorem dX5_init_7 : decode cX5_init 7 = .ok (.newarray .int, 2) := by decide +kernel
theorem dX5_init_9 : decode cX5_init 9 = .ok (.putfield 9, 3) := by decide +kernel
theorem dX5_init_12 : decode cX5_init 12 = .ok (.return_, 1) := by decide +kernel
theorem dX5_empty_0 : decode cX5_empty 0 = .ok (.aload_n 0, 1) := by decide +kernel
theorem dX5_empty_1 : decode cX5_empty 1 = .ok (.iconst 0, 1) := by decide +kernel
theorem dX5_empty_2 : decode cX5_empty 2 = .ok (.putfield 15, 3) := by decide +kernel
theorem dX5_empty_5 : decode cX5_empty 5 = .ok (.return_, 1) := by decide +kernel
theorem dX5_size_0 : decode cX5_size 0 = .ok (.aload_n 0, 1) := by decide +kernel
theorem dX5_size_1 : decode cX5_size 1 = .ok (.getfield 15, 3) := by decide +kernel
theorem dX5_size_4 : decode cX5_size 4 = .ok (.ireturn, 1) := by decide +kernel
theorem dX5_at_0 : decode cX5_at 0 = .ok (.iload_n 1, 1) := by decide +kernel
theorem dX5_at_1 : decode cX5_at 1 = .ok (.ifCond .lt 20, 3) := by decide +kernel
theorem dX5_at_4 : decode cX5_at 4 = .ok (.iload_n 1, 1) := by decide +kernel
theorem dX5_at_5 : decode cX5_at 5 = .ok (.aload_n 0, 1) := by decide +kernel
theorem dX5_at_6 : decode cX5_at 6 = .ok (.getfield 15, 3) := by decide +kernel
theorem dX5_at_9 : decode cX5_at 9 = .ok (.if_icmp .ge 12, 3) := by decide +kernel
theorem dX5_at_12 : decode cX5_at 12 = .ok (.aload_n 0, 1) := by decide +kernel
theorem dX5_at_13 : decode cX5_at 13 = .ok (.getfield 9, 3) := by decide +kernel
theorem dX5_at_16 : decode cX5_at 16 = .ok (.iload_n 1, 1) := by decide +kernel
theorem dX5_at_17 : decode cX5_at 17 = .ok (.iaload, 1) := by decide +kernel
theorem dX5_at_18 : decode cX5_at 18 = .ok (.goto 4, 3) := by decide +kernel
theorem dX5_at_21 : decode cX5_at 21 = .ok (.iconst (-1), 1) := by decide +kernel
theorem dX5_at_22 : decode cX5_at 22 = .ok (.ireturn, 1) := by decide +kernel
theorem dX5_strikes_0 : decode cX5_strikes 0 = .ok (.aload_n 0, 1) := by decide +kernel
theorem dX5_strikes_1 : decode cX5_strikes 1 = .ok (.getfield 15, 3) := by decide +kernel
theorem dX5_strikes_4 : decode cX5_strikes 4 = .ok (.ifCond .le 24, 3) := by decide +kernel
theorem dX5_strikes_7 : decode cX5_strikes 7 = .ok (.aload_n 0, 1) := by decide +kernel
theorem dX5_strikes_8 : decode cX5_strikes 8 = .ok (.getfield 9, 3) := by decide +kernel
theorem dX5_strikes_11 : decode cX5_strikes 11 = .ok (.aload_n 0, 1) := by decide +kernel
theorem dX5_strikes_12 : decode cX5_strikes 12 = .ok (.getfield 15, 3) := by decide +kernel
theorem dX5_strikes_15 : decode cX5_strikes 15 = .ok (.iconst 1, 1) := by decide +kernel
theorem dX5_strikes_16 : decode cX5_strikes 16 = .ok (.isub, 1) := by decide +kernel
theorem dX5_strikes_17 : decode cX5_strikes 17 = .ok (.iaload, 1) := by decide +kernel
theorem dX5_strikes_18 : decode cX5_strikes 18 = .ok (.iload_n 1, 1) := by decide +kernel
theorem dX5_strikes_19 : decode cX5_strikes 19 = .ok (.iconst 1, 1) := by decide +kernel
theorem dX5_strikes_20 : decode cX5_strikes 20 = .ok (.ixor, 1) := by decide +kernel
theorem dX5_strikes_21 : decode cX5_strikes 21 = .ok (.if_icmp .ne 7, 3) := by decide +kernel
theorem dX5_strikes_24 : decode cX5_strikes 24 = .ok (.iconst 1, 1) := by decide +kernel
theorem dX5_strikes_25 : decode cX5_strikes 25 = .ok (.goto 4, 3) := by decide +kernel
theorem dX5_strikes_28 : decode cX5_strikes 28 = .ok (.iconst 0, 1) := by decide +kernel
theorem dX5_strikes_29 : decode cX5_strikes 29 = .ok (.ireturn, 1) := by decide +kernel
theorem dX5_stamp_0 : decode cX5_stamp 0 = .ok (.aload_n 0, 1) := by decide +kernel
theorem dX5_stamp_1 : decode cX5_stamp 1 = .ok (.iload_n 1, 1) := by decide +kernel
theorem dX5_stamp_2 : decode cX5_stamp 2 = .ok (.invokevirtual 19, 3) := by decide +kernel
theorem dX5_stamp_5 : decode cX5_stamp 5 = .ok (.ifCond .eq 16, 3) := by decide +kernel
theorem dX5_stamp_8 : decode cX5_stamp 8 = .ok (.aload_n 0, 1) := by decide +kernel
theorem dX5_stamp_9 : decode cX5_stamp 9 = .ok (.dup, 1) := by decide +kernel
theorem dX5_stamp_10 : decode cX5_stamp 10 = .ok (.getfield 15, 3) := by decide +kernel
theorem dX5_stamp_13 : decode cX5_stamp 13 = .ok (.iconst 1, 1) := by decide +kernel
theorem dX5_stamp_14 : decode cX5_stamp 14 = .ok (.isub, 1) := by decide +kernel
theorem dX5_stamp_15 : decode cX5_stamp 15 = .ok (.putfield 15, 3) := by decide +kernel
theorem dX5_stamp_18 : decode cX5_stamp 18 = .ok (.goto 32, 3) := by decide +kernel
theorem dX5_stamp_21 : decode cX5_stamp 21 = .ok (.aload_n 0, 1) := by decide +kernel
theorem dX5_stamp_22 : decode cX5_stamp 22 = .ok (.getfield 15, 3) := by decide +kernel
theorem dX5_stamp_25 : decode cX5_stamp 25 = .ok (.bipush 60, 2) := by decide +kernel
theorem dX5_stamp_27 : decode cX5_stamp 27 = .ok (.if_icmp .ge 23, 3) := by decide +kernel
theorem dX5_stamp_30 : decode cX5_stamp 30 = .ok (.aload_n 0, 1) := by decide +kernel
theorem dX5_stamp_31 : decode cX5_stamp 31 = .ok (.getfield 9, 3) := by decide +kernel
theorem dX5_stamp_34 : decode cX5_stamp 34 = .ok (.aload_n 0, 1) := by decide +kernel
theorem dX5_stamp_35 : decode cX5_stamp 35 = .ok (.getfield 15, 3) := by decide +kernel
theorem dX5_stamp_38 : decode cX5_stamp 38 = .ok (.iload_n 1, 1) := by decide +kernel
theorem dX5_stamp_39 : decode cX5_stamp 39 = .ok (.iastore, 1) := by decide +kernel
theorem dX5_stamp_40 : decode cX5_stamp 40 = .ok (.aload_n 0, 1) := by decide +kernel
theorem dX5_stamp_41 : decode cX5_stamp 41 = .ok (.dup, 1) := by decide +kernel
theorem dX5_stamp_42 : decode cX5_stamp 42 = .ok (.getfield 15, 3) := by decide +kernel
theorem dX5_stamp_45 : decode cX5_stamp 45 = .ok (.iconst 1, 1) := by decide +kernel
theorem dX5_stamp_46 : decode cX5_stamp 46 = .ok (.iadd, 1) := by decide +kernel
theorem dX5_stamp_47 : decode cX5_stamp 47 = .ok (.putfield 15, 3) := by decide +kernel
theorem dX5_stamp_50 : decode cX5_stamp 50 = .ok (.return_, 1) := by decide +kernel
theorem dX5_alike_0 : decode cX5_alike 0 = .ok (.aload_n 0, 1) := by decide +kernel
theorem dX5_alike_1 : decode cX5_alike 1 = .ok (.getfield 15, 3) := by decide +kernel
theorem dX5_alike_4 : decode cX5_alike 4 = .ok (.aload_n 1, 1) := by decide +kernel
theorem dX5_alike_5 : decode cX5_alike 5 = .ok (.invokevirtual 23, 3) := by decide +kernel
theorem dX5_alike_8 : decode cX5_alike 8 = .ok (.invokestatic 26, 3) := by decide +kernel
theorem dX5_alike_11 : decode cX5_alike 11 = .ok (.istore_n 2, 1) := by decide +kernel
theorem dX5_alike_12 : decode cX5_alike 12 = .ok (.iconst 0, 1) := by decide +kernel
theorem dX5_alike_13 : decode cX5_alike 13 = .ok (.istore_n 3, 1) := by decide +kernel
theorem dX5_alike_14 : decode cX5_alike 14 = .ok (.iload_n 3, 1) := by decide +kernel
theorem dX5_alike_15 : decode cX5_alike 15 = .ok (.iload_n 2, 1) := by decide +kernel
theorem dX5_alike_16 : decode cX5_alike 16 = .ok (.if_icmp .ge 24, 3) := by decide +kernel
theorem dX5_alike_19 : decode cX5_alike 19 = .ok (.aload_n 0, 1) := by decide +kernel
theorem dX5_alike_20 : decode cX5_alike 20 = .ok (.iload_n 3, 1) := by decide +kernel
theorem dX5_alike_21 : decode cX5_alike 21 = .ok (.invokevirtual 32, 3) := by decide +kernel
theorem dX5_alike_24 : decode cX5_alike 24 = .ok (.aload_n 1, 1) := by decide +kernel
theorem dX5_alike_25 : decode cX5_alike 25 = .ok (.iload_n 3, 1) := by decide +kernel
theorem dX5_alike_26 : decode cX5_alike 26 = .ok (.invokevirtual 32, 3) := by decide +kernel
theorem dX5_alike_29 : decode cX5_alike 29 = .ok (.if_icmp .eq 5, 3) := by decide +kernel
theorem dX5_alike_32 : decode cX5_alike 32 = .ok (.iload_n 3, 1) := by decide +kernel
theorem dX5_alike_33 : decode cX5_alike 33 = .ok (.ireturn, 1) := by decide +kernel
theorem dX5_alike_34 : decode cX5_alike 34 = .ok (.iinc 3 1, 3) := by decide +kernel
theorem dX5_alike_37 : decode cX5_alike 37 = .ok (.goto (-23), 3) := by decide +kernel
theorem dX5_alike_40 : decode cX5_alike 40 = .ok (.iload_n 2, 1) := by decide +kernel
theorem dX5_alike_41 : decode cX5_alike 41 = .ok (.ireturn, 1) := by decide +kernel
theorem dX6_init_0 : decode cX6_init 0 = .ok (.aload_n 0, 1) := by decide +kernel
theorem dX6_init_1 : decode cX6_init 1 = .ok (.invokespecial 3, 3) := by decide +kernel
theorem dX6_init_4 : decode cX6_init 4 = .ok (.aload_n 0, 1) := by decide +kernel
theorem dX6_init_5 : decode cX6_init 5 = .ok (.new 9, 3) := by decide +kernel
theorem dX6_init_8 : decode cX6_init 8 = .ok (.dup, 1) := by decide +kernel
theorem dX6_init_9 : decode cX6_init 9 = .ok (.invokespecial 11, 3) := by decide +kernel
theorem dX6_init_12 : decode cX6_init 12 = .ok (.putfield 12, 3) := by decide +kernel
theorem dX6_init_15 : decode cX6_init 15 = .ok (.aload_n 0, 1) := by decide +kernel
theorem dX6_init_16 : decode cX6_init 16 = .ok (.bipush 120, 2) := by decide +kernel
theorem dX6_init_18 : decode cX6_init 18 = .ok (.newarray .int, 2) := by decide +kernel
theorem dX6_init_20 : decode cX6_init 20 = .ok (.putfield 18, 3) := by decide +kernel
theorem dX6_init_23 : decode cX6_init 23 = .ok (.aload_n 0, 1) := by decide +kernel
theorem dX6_init_24 : decode cX6_init 24 = .ok (.bipush 8, 2) := by decide +kernel
theorem dX6_init_26 : decode cX6_init 26 = .ok (.newarray .long, 2) := by decide +kernel
theorem dX6_init_28 : decode cX6_init 28 = .ok (.putfield 22, 3) := by decide +kernel
theorem dX6_init_31 : decode cX6_init 31 = .ok (.aload_n 0, 1) := by decide +kernel
theorem dX6_init_32 : decode cX6_init 32 = .ok (.bipush 8, 2) := by decide +kernel
theorem dX6_init_34 : decode cX6_init 34 = .ok (.newarray .long, 2) := by decide +kernel
theorem dX6_init_36 : decode cX6_init 36 = .ok (.putfield 26, 3) := by decide +kernel
theorem dX6_init_39 : decode cX6_init 39 = .ok (.aload_n 0, 1) := by decide +kernel
theorem dX6_init_40 : decode cX6_init 40 = .ok (.aload_n 1, 1) := by decide +kernel
theorem dX6_init_41 : decode cX6_init 41 = .ok (.putfield 29, 3) := by decide +kernel
theorem dX6_init_44 : decode cX6_init 44 = .ok (.return_, 1) := by decide +kernel
theorem dX6_plan_0 : decode cX6_plan 0 = .ok (.aload_n 0, 1) := by decide +kernel
theorem dX6_plan_1 : decode cX6_plan 1 = .ok (.getfield 12, 3) := by decide +kernel
theorem dX6_plan_4 : decode cX6_plan 4 = .ok (.aload_n 0, 1) := by decide +kernel
theorem dX6_plan_5 : decode cX6_plan 5 = .ok (.getfield 29, 3) := by decide +kernel
theorem dX6_plan_8 : decode cX6_plan 8 = .ok (.aload_n 0, 1) := by decide +kernel
theorem dX6_plan_9 : decode cX6_plan 9 = .ok (.getfield 29, 3) := by decide +kernel
theorem dX6_plan_12 : decode cX6_plan 12 = .ok (.invokevirtual 33, 3) := by decide +kernel
theorem dX6_plan_15 : decode cX6_plan 15 = .ok (.invokevirtual 39, 3) := by decide +kernel
theorem dX6_plan_18 : decode cX6_plan 18 = .ok (.aload_n 0, 1) := by decide +kernel
theorem dX6_plan_19 : decode cX6_plan 19 = .ok (.iconst 0, 1) := by decide +kernel
theorem dX6_plan_20 : decode cX6_plan 20 = .ok (.putfield 43, 3) := by decide +kernel
theorem dX6_plan_23 : decode cX6_plan 23 = .ok (.aload_n 1, 1) := by decide +kernel
theorem dX6_plan_24 : decode cX6_plan 24 = .ok (.aload_n 2, 1) := by decide +kernel
theorem dX6_plan_25 : decode cX6_plan 25 = .ok (.invokevirtual 47, 3) := by decide +kernel
theorem dX6_plan_28 : decode cX6_plan 28 = .ok (.istore_n 3, 1) := by decide +kernel
theorem dX6_plan_29 : decode cX6_plan 29 = .ok (.aload_n 1, 1) := by decide +kernel
theorem dX6_plan_30 : decode cX6_plan 30 = .ok (.invokevirtual 53, 3) := by decide +kernel
theorem dX6_plan_33 : decode cX6_plan 33 = .ok (.iconst 1, 1) := by decide +kernel
theorem dX6_plan_34 : decode cX6_plan 34 = .ok (.isub, 1) := by decide +kernel
theorem dX6_plan_35 : decode cX6_plan 35 = .ok (.istore 4, 2) := by decide +kernel
theorem dX6_plan_37 : decode cX6_plan 37 = .ok (.iload 4, 2) := by decide +kernel
theorem dX6_plan_39 : decode cX6_plan 39 = .ok (.iload_n 3, 1) := by decide +kernel
theorem dX6_plan_40 : decode cX6_plan 40 = .ok (.if_icmp .lt 21, 3) := by decide +kernel
theorem dX6_plan_43 : decode cX6_plan 43 = .ok (.aload_n 0, 1) := by decide +kernel
theorem dX6_plan_44 : decode cX6_plan 44 = .ok (.aload_n 1, 1) := by decide +kernel
theorem dX6_plan_45 : decode cX6_plan 45 = .ok (.iload 4, 2) := by decide +kernel
theorem dX6_plan_47 : decode cX6_plan 47 = .ok (.invokevirtual 55, 3) := by decide +kernel
theorem dX6_plan_50 : decode cX6_plan 50 = .ok (.iconst 1, 1) := by decide +kernel
theorem dX6_plan_51 : decode cX6_plan 51 = .ok (.ixor, 1) := by decide +kernel
theorem dX6_plan_52 : decode cX6_plan 52 = .ok (.invokevirtual 59, 3) := by decide +kernel
theorem dX6_plan_55 : decode cX6_plan 55 = .ok (.iinc 4 (-1), 3) := by decide +kernel
theorem dX6_plan_58 : decode cX6_plan 58 = .ok (.goto (-21), 3) := by decide +kernel
theorem dX6_plan_61 : decode cX6_plan 61 = .ok (.iload_n 3, 1) := by decide +kernel
theorem dX6_plan_62 : decode cX6_plan 62 = .ok (.istore 4, 2) := by decide +kernel
theorem dX6_plan_64 : decode cX6_plan 64 = .ok (.iload 4, 2) := by decide +kernel
theorem dX6_plan_66 : decode cX6_plan 66 = .ok (.aload_n 2, 1) := by decide +kernel
theorem dX6_plan_67 : decode cX6_plan 67 = .ok (.invokevirtual 53, 3) := by decide +kernel
theorem dX6_plan_70 : decode cX6_plan 70 = .ok (.if_icmp .ge 19, 3) := by decide +kernel
theorem dX6_plan_73 : decode cX6_plan 73 = .ok (.aload_n 0, 1) := by decide +kernel
theorem dX6_plan_74 : decode cX6_plan 74 = .ok (.aload_n 2, 1) := by decide +kernel
theorem dX6_plan_75 : decode cX6_plan 75 = .ok (.iload 4, 2) := by decide +kernel
theorem dX6_plan_77 : decode cX6_plan 77 = .ok (.invokevirtual 55, 3) := by decide +kernel
theorem dX6_plan_80 : decode cX6_plan 80 = .ok (.invokevirtual 59, 3) := by decide +kernel
theorem dX6_plan_83 : decode cX6_plan 83 = .ok (.iinc 4 1, 3) := by decide +kernel
theorem dX6_plan_86 : decode cX6_plan 86 = .ok (.goto (-22), 3) := by decide +kernel
theorem dX6_plan_89 : decode cX6_plan 89 = .ok (.return_, 1) := by decide +kernel
theorem dX6_need_0 : decode cX6_need 0 = .ok (.aload_n 0, 1) := by decide +kernel
theorem dX6_need_1 : decode cX6_need 1 = .ok (.getfield 43, 3) := by decide +kernel
theorem dX6_need_4 : decode cX6_need 4 = .ok (.bipush 120, 2) := by decide +kernel
theorem dX6_need_6 : decode cX6_need 6 = .ok (.if_icmp .ge 23, 3) := by decide +kernel
theorem dX6_need_9 : decode cX6_need 9 = .ok (.aload_n 0, 1) := by decide +kernel
theorem dX6_need_10 : decode cX6_need 10 = .ok (.getfield 18, 3) := by decide +kernel
theorem dX6_need_13 : decode cX6_need 13 = .ok (.aload_n 0, 1) := by decide +kernel
theorem dX6_need_14 : decode cX6_need 14 = .ok (.getfield 43, 3) := by decide +kernel
theorem dX6_need_17 : decode cX6_need 17 = .ok (.iload_n 1, 1) := by decide +kernel
theorem dX6_need_18 : decode cX6_need 18 = .ok (.iastore, 1) := by decide +kernel
theorem dX6_need_19 : decode cX6_need 19 = .ok (.aload_n 0, 1) := by decide +kernel
theorem dX6_need_20 : decode cX6_need 20 = .ok (.dup, 1) := by decide +kernel
theorem dX6_need_21 : decode cX6_need 21 = .ok (.getfield 43, 3) := by decide +kernel
theorem dX6_need_24 : decode cX6_need 24 = .ok (.iconst 1, 1) := by decide +kernel
theorem dX6_need_25 : decode cX6_need 25 = .ok (.iadd, 1) := by decide +kernel
theorem dX6_need_26 : decode cX6_need 26 = .ok (.putfield 43, 3) := by decide +kernel
theorem dX6_need_29 : decode cX6_need 29 = .ok (.return_, 1) := by decide +kernel
theorem dX6_needAt_0 : decode cX6_needAt 0 = .ok (.iload_n 1, 1) := by decide +kernel
theorem dX6_needAt_1 : decode cX6_needAt 1 = .ok (.ifCond .lt 20, 3) := by decide +kernel
theorem dX6_needAt_4 : decode cX6_needAt 4 = .ok (.iload_n 1, 1) := by decide +kernel
theorem dX6_needAt_5 : decode cX6_needAt 5 = .ok (.aload_n 0, 1) := by decide +kernel
theorem dX6_needAt_6 : decode cX6_needAt 6 = .ok (.getfield 43, 3) := by decide +kernel
theorem dX6_needAt_9 : decode cX6_needAt 9 = .ok (.if_icmp .ge 12, 3) := by decide +kernel
theorem dX6_needAt_12 : decode cX6_needAt 12 = .ok (.aload_n 0, 1) := by decide +kernel
theorem dX6_needAt_13 : decode cX6_needAt 13 = .ok (.getfield 18, 3) := by decide +kernel
theorem dX6_needAt_16 : decode cX6_needAt 16 = .ok (.iload_n 1, 1) := by decide +kernel
theorem dX6_needAt_17 : decode cX6_needAt 17 = .ok (.iaload, 1) := by decide +kernel
theorem dX6_needAt_18 : decode cX6_needAt 18 = .ok (.goto 4, 3) := by decide +kernel
theorem dX6_needAt_21 : decode cX6_needAt 21 = .ok (.iconst (-1), 1) := by decide +kernel
theorem dX6_needAt_22 : decode cX6_needAt 22 = .ok (.ireturn, 1) := by decide +kernel
theorem dX6_goal_0 : decode cX6_goal 0 = .ok (.iload_n 1, 1) := by decide +kernel
theorem dX6_goal_1 : decode cX6_goal 1 = .ok (.aload_n 0, 1) := by decide +kernel
theorem dX6_goal_2 : decode cX6_goal 2 = .ok (.getfield 43, 3) := by decide +kernel
theorem dX6_goal_5 : decode cX6_goal 5 = .ok (.if_icmp .ge 18, 3) := by decide +kernel
theorem dX6_goal_8 : decode cX6_goal 8 = .ok (.aload_n 0, 1) := by decide +kernel
theorem dX6_goal_9 : decode cX6_goal 9 = .ok (.getfield 29, 3) := by decide +kernel
theorem dX6_goal_12 : decode cX6_goal 12 = .ok (.aload_n 0, 1) := by decide +kernel
theorem dX6_goal_13 : decode cX6_goal 13 = .ok (.iload_n 1, 1) := by decide +kernel
theorem dX6_goal_14 : decode cX6_goal 14 = .ok (.invokevirtual 63, 3) := by decide +kernel
theorem dX6_goal_17 : decode cX6_goal 17 = .ok (.invokevirtual 66, 3) := by decide +kernel
theorem dX6_goal_20 : decode cX6_goal 20 = .ok (.goto 4, 3) := by decide +kernel
theorem dX6_goal_23 : decode cX6_goal 23 = .ok (.iload_n 2, 1) := by decide +kernel
theorem dX6_goal_24 : decode cX6_goal 24 = .ok (.ireturn, 1) := by decide +kernel
theorem dX6_origin_0 : decode cX6_origin 0 = .ok (.iload_n 1, 1) := by decide +kernel
theorem dX6_origin_1 : decode cX6_origin 1 = .ok (.ifCond .ne 7, 3) := by decide +kernel
theorem dX6_origin_4 : decode cX6_origin 4 = .ok (.iload_n 2, 1) := by decide +kernel
theorem dX6_origin_5 : decode cX6_origin 5 = .ok (.goto 17, 3) := by decide +kernel
theorem dX6_origin_8 : decode cX6_origin 8 = .ok (.aload_n 0, 1) := by decide +kernel
theorem dX6_origin_9 : decode cX6_origin 9 = .ok (.getfield 29, 3) := by decide +kernel
theorem dX6_origin_12 : decode cX6_origin 12 = .ok (.aload_n 0, 1) := by decide +kernel
theorem dX6_origin_13 : decode cX6_origin 13 = .ok (.iload_n 1, 1) := by decide +kernel
theorem dX6_origin_14 : decode cX6_origin 14 = .ok (.iconst 1, 1) := by decide +kernel
theorem dX6_origin_15 : decode cX6_origin 15 = .ok (.isub, 1) := by decide +kernel
theorem dX6_origin_16 : decode cX6_origin 16 = .ok (.invokevirtual 63, 3) := by decide +kernel
theorem dX6_origin_19 : decode cX6_origin 19 = .ok (.invokevirtual 69, 3) := by decide +kernel
theorem dX6_origin_22 : decode cX6_origin 22 = .ok (.ireturn, 1) := by decide +kernel
theorem dX6_gatesBetween_0 : decode cX6_gatesBetween 0 = .ok (.aload_n 0, 1) := by decide +kernel
theorem dX6_gatesBetween_1 : decode cX6_gatesBetween 1 = .ok (.getfield 43, 3) := by decide +kernel
theorem dX6_gatesBetween_4 : decode cX6_gatesBetween 4 = .ok (.istore_n 3, 1) := by decide +kernel
theorem dX6_gatesBetween_5 : decode cX6_gatesBetween 5 = .ok (.iconst 0, 1) := by decide +kernel
theorem dX6_gatesBetween_6 : decode cX6_gatesBetween 6 = .ok (.istore 4, 2) := by decide +kernel
theorem dX6_gatesBetween_8 : decode cX6_gatesBetween 8 = .ok (.iload 4, 2) := by decide +kernel
theorem dX6_gatesBetween_10 : decode cX6_gatesBetween 10 = .ok (.aload_n 0, 1) := by decide +kernel
theorem dX6_gatesBetween_11 : decode cX6_gatesBetween 11 = .ok (.getfield 43, 3) := by decide +kernel
theorem dX6_gatesBetween_14 : decode cX6_gatesBetween 14 = .ok (.if_icmp .gt 70, 3) := by decide +kernel
theorem dX6_gatesBetween_17 : decode cX6_gatesBetween 17 = .ok (.aload_n 0, 1) := by decide +kernel
theorem dX6_gatesBetween_18 : decode cX6_gatesBetween 18 = .ok (.getfield 12, 3) := by decide +kernel
theorem dX6_gatesBetween_21 : decode cX6_gatesBetween 21 = .ok (.aload_n 0, 1) := by decide +kernel
theorem dX6_gatesBetween_22 : decode cX6_gatesBetween 22 = .ok (.iload 4, 2) := by decide +kernel
theorem dX6_gatesBetween_24 : decode cX6_gatesBetween 24 = .ok (.iload_n 1, 1) := by decide +kernel
theorem dX6_gatesBetween_25 : decode cX6_gatesBetween 25 = .ok (.invokevirtual 72, 3) := by decide +kernel
theorem dX6_gatesBetween_28 : decode cX6_gatesBetween 28 = .ok (.aload_n 0, 1) := by decide +kernel
theorem dX6_gatesBetween_29 : decode cX6_gatesBetween 29 = .ok (.iload 4, 2) := by decide +kernel
theorem dX6_gatesBetween_31 : decode cX6_gatesBetween 31 = .ok (.iload_n 2, 1) := by decide +kernel
theorem dX6_gatesBetween_32 : decode cX6_gatesBetween 32 = .ok (.invokevirtual 76, 3) := by decide +kernel
theorem dX6_gatesBetween_35 : decode cX6_gatesBetween 35 = .ok (.invokevirtual 79, 3) := by decide +kernel
theorem dX6_gatesBetween_38 : decode cX6_gatesBetween 38 = .ok (.istore 5, 2) := by decide +kernel
theorem dX6_gatesBetween_40 : decode cX6_gatesBetween 40 = .ok (.iload 5, 2) := by decide +kernel
theorem dX6_gatesBetween_42 : decode cX6_gatesBetween 42 = .ok (.iconst (-1), 1) := by decide +kernel
theorem dX6_gatesBetween_43 : decode cX6_gatesBetween 43 = .ok (.if_icmp .eq 28, 3) := by decide +kernel
theorem dX6_gatesBetween_46 : decode cX6_gatesBetween 46 = .ok (.iload 4, 2) := by decide +kernel
theorem dX6_gatesBetween_48 : decode cX6_gatesBetween 48 = .ok (.aload_n 0, 1) := by decide +kernel
theorem dX6_gatesBetween_49 : decode cX6_gatesBetween 49 = .ok (.getfield 43, 3) := by decide +kernel
theorem dX6_gatesBetween_52 : decode cX6_gatesBetween 52 = .ok (.if_icmp .ge 21, 3) := by decide +kernel
theorem dX6_gatesBetween_55 : decode cX6_gatesBetween 55 = .ok (.aload_n 0, 1) := by decide +kernel
theorem dX6_gatesBetween_56 : decode cX6_gatesBetween 56 = .ok (.getfield 29, 3) := by decide +kernel
theorem dX6_gatesBetween_59 : decode cX6_gatesBetween 59 = .ok (.aload_n 0, 1) := by decide +kernel
theorem dX6_gatesBetween_60 : decode cX6_gatesBetween 60 = .ok (.iload 4, 2) := by decide +kernel
theorem dX6_gatesBetween_62 : decode cX6_gatesBetween 62 = .ok (.invokevirtual 63, 3) := by decide +kernel
theorem dX6_gatesBetween_65 : decode cX6_gatesBetween 65 = .ok (.invokevirtual 82, 3) := by decide +kernel
theorem dX6_gatesBetween_68 : decode cX6_gatesBetween 68 = .ok (.ifCond .ne 5, 3) := by decide +kernel
theorem dX6_gatesBetween_71 : decode cX6_gatesBetween 71 = .ok (.iconst (-1), 1) := by decide +kernel
theorem dX6_gatesBetween_72 : decode cX6_gatesBetween 72 = .ok (.ireturn, 1) := by decide +kernel
theorem dX6_gatesBetween_73 : decode cX6_gatesBetween 73 = .ok (.iload_n 3, 1) := by decide +kernel
theorem dX6_gatesBetween_74 : decode cX6_gatesBetween 74 = .ok (.iload 5, 2) := by decide +kernel
theorem dX6_gatesBetween_76 : decode cX6_gatesBetween 76 = .ok (.iadd, 1) := by decide +kernel
theorem dX6_gatesBetween_77 : decode cX6_gatesBetween 77 = .ok (.istore_n 3, 1) := by decide +kernel
theorem dX6_gatesBetween_78 : decode cX6_gatesBetween 78 = .ok (.iinc 4 1, 3) := by decide +kernel
theorem dX6_gatesBetween_81 : decode cX6_gatesBetween 81 = .ok (.goto (-73), 3) := by decide +kernel
theorem dX6_gatesBetween_84 : decode cX6_gatesBetween 84 = .ok (.iload_n 3, 1) := by decide +kernel
theorem dX6_gatesBetween_85 : decode cX6_gatesBetween 85 = .ok (.ireturn, 1) := by decide +kernel
theorem dX6_ways_0 : decode cX6_ways 0 = .ok (.lconst 1, 1) := by decide +kernel
theorem dX6_ways_1 : decode cX6_ways 1 = .ok (.lstore_n 3, 1) := by decide +kernel
theorem dX6_ways_2 : decode cX6_ways 2 = .ok (.iconst 0, 1) := by decide +kernel
theorem dX6_ways_3 : decode cX6_ways 3 = .ok (.istore 5, 2) := by decide +kernel
theorem dX6_ways_5 : decode cX6_ways 5 = .ok (.iload 5, 2) := by decide +kernel
theorem dX6_ways_7 : decode cX6_ways 7 = .ok (.aload_n 0, 1) := by decide +kernel
theorem dX6_ways_8 : decode cX6_ways 8 = .ok (.getfield 43, 3) := by decide +kernel
theorem dX6_ways_11 : decode cX6_ways 11 = .ok (.if_icmp .gt 30, 3) := by decide +kernel
theorem dX6_ways_14 : decode cX6_ways 14 = .ok (.lload_n 3, 1) := by decide +kernel
theorem dX6_ways_15 : decode cX6_ways 15 = .ok (.aload_n 0, 1) := by decide +kernel
theorem dX6_ways_16 : decode cX6_ways 16 = .ok (.aload_n 0, 1) := by decide +kernel
theorem dX6_ways_17 : decode cX6_ways 17 = .ok (.iload 5, 2) := by decide +kernel
theorem dX6_ways_19 : decode cX6_ways 19 = .ok (.iload_n 1, 1) := by decide +kernel
theorem dX6_ways_20 : decode cX6_ways 20 = .ok (.invokevirtual 72, 3) := by decide +kernel
theorem dX6_ways_23 : decode cX6_ways 23 = .ok (.aload_n 0, 1) := by decide +kernel
theorem dX6_ways_24 : decode cX6_ways 24 = .ok (.iload 5, 2) := by decide +kernel
theorem dX6_ways_26 : decode cX6_ways 26 = .ok (.iload_n 2, 1) := by decide +kernel
theorem dX6_ways_27 : decode cX6_ways 27 = .ok (.invokevirtual 76, 3) := by decide +kernel
theorem dX6_ways_30 : decode cX6_ways 30 = .ok (.invokevirtual 86, 3) := by decide +kernel
theorem dX6_ways_33 : decode cX6_ways 33 = .ok (.lmul, 1) := by decide +kernel
theorem dX6_ways_34 : decode cX6_ways 34 = .ok (.lstore_n 3, 1) := by decide +kernel
theorem dX6_ways_35 : decode cX6_ways 35 = .ok (.iinc 5 1, 3) := by decide +kernel
theorem dX6_ways_38 : decode cX6_ways 38 = .ok (.goto (-33), 3) := by decide +kernel
theorem dX6_ways_41 : decode cX6_ways 41 = .ok (.lload_n 3, 1) := by decide +kernel
theorem dX6_ways_42 : decode cX6_ways 42 = .ok (.lreturn, 1) := by decide +kernel
theorem dX6_laneWays_0 : decode cX6_laneWays 0 = .ok (.aload_n 0, 1) := by decide +kernel
theorem dX6_laneWays_1 : decode cX6_laneWays 1 = .ok (.getfield 22, 3) := by decide +kernel
theorem dX6_laneWays_4 : decode cX6_laneWays 4 = .ok (.lconst 0, 1) := by decide +kernel
theorem dX6_laneWays_5 : decode cX6_laneWays 5 = .ok (.invokestatic 90, 3) := by decide +kernel
theorem dX6_laneWays_8 : decode cX6_laneWays 8 = .ok (.iload_n 1, 1) := by decide +kernel
theorem dX6_laneWays_9 : decode cX6_laneWays 9 = .ok (.invokestatic 96, 3) := by decide +kernel
theorem dX6_laneWays_12 : decode cX6_laneWays 12 = .ok (.ifCond .eq 10, 3) := by decide +kernel
theorem dX6_laneWays_15 : decode cX6_laneWays 15 = .ok (.iload_n 2, 1) := by decide +kernel
theorem dX6_laneWays_16 : decode cX6_laneWays 16 = .ok (.invokestatic 96, 3) := by decide +kernel
theorem dX6_laneWays_19 : decode cX6_laneWays 19 = .ok (.ifCond .ne 5, 3) := by decide +kernel
theorem dX6_laneWays_22 : decode cX6_laneWays 22 = .ok (.lconst 0, 1) := by decide +kernel
theorem dX6_laneWays_23 : decode cX6_laneWays 23 = .ok (.lreturn, 1) := by decide +kernel
theorem dX6_laneWays_24 : decode cX6_laneWays 24 = .ok (.aload_n 0, 1) := by decide +kernel
theorem dX6_laneWays_25 : decode cX6_laneWays 25 = .ok (.getfield 22, 3) := by decide +kernel
theorem dX6_laneWays_28 : decode cX6_laneWays 28 = .ok (.iload_n 1, 1) := by decide +kernel
theorem dX6_laneWays_29 : decode cX6_laneWays 29 = .ok (.lconst 1, 1) := by decide +kernel
theorem dX6_laneWays_30 : decode cX6_laneWays 30 = .ok (.lastore, 1) := by decide +kernel
theorem dX6_laneWays_31 : decode cX6_laneWays 31 = .ok (.aload_n 0, 1) := by decide +kernel
theorem dX6_laneWays_32 : decode cX6_laneWays 32 = .ok (.getfield 12, 3) := by decide +kernel
theorem dX6_laneWays_35 : decode cX6_laneWays 35 = .ok (.iload_n 1, 1) := by decide +kernel
theorem dX6_laneWays_36 : decode cX6_laneWays 36 = .ok (.iload_n 2, 1) := by decide +kernel
theorem dX6_laneWays_37 : decode cX6_laneWays 37 = .ok (.invokevirtual 79, 3) := by decide +kernel
theorem dX6_laneWays_40 : decode cX6_laneWays 40 = .ok (.istore_n 3, 1) := by decide +kernel
theorem dX6_laneWays_41 : decode cX6_laneWays 41 = .ok (.iload_n 3, 1) := by decide +kernel
theorem dX6_laneWays_42 : decode cX6_laneWays 42 = .ok (.ifCond .le 15, 3) := by decide +kernel
theorem dX6_laneWays_45 : decode cX6_laneWays 45 = .ok (.aload_n 0, 1) := by decide +kernel
theorem dX6_laneWays_46 : decode cX6_laneWays 46 = .ok (.iload_n 2, 1) := by decide +kernel
theorem dX6_laneWays_47 : decode cX6_laneWays 47 = .ok (.iload_n 3, 1) := by decide +kernel
theorem dX6_laneWays_48 : decode cX6_laneWays 48 = .ok (.invokevirtual 99, 3) := by decide +kernel
theorem dX6_laneWays_51 : decode cX6_laneWays 51 = .ok (.iinc 3 (-1), 3) := by decide +kernel
theorem dX6_laneWays_54 : decode cX6_laneWays 54 = .ok (.goto (-13), 3) := by decide +kernel
theorem dX6_laneWays_57 : decode cX6_laneWays 57 = .ok (.aload_n 0, 1) := by decide +kernel
theorem dX6_laneWays_58 : decode cX6_laneWays 58 = .ok (.getfield 22, 3) := by decide +kernel
theorem dX6_laneWays_61 : decode cX6_laneWays 61 = .ok (.iload_n 2, 1) := by decide +kernel
theorem dX6_laneWays_62 : decode cX6_laneWays 62 = .ok (.laload, 1) := by decide +kernel
theorem dX6_laneWays_63 : decode cX6_laneWays 63 = .ok (.lreturn, 1) := by decide +kernel
theorem dX6_stepNearer_0 : decode cX6_stepNearer 0 = .ok (.aload_n 0, 1) := by decide +kernel
theorem dX6_stepNearer_1 : decode cX6_stepNearer 1 = .ok (.getfield 26, 3) := by decide +kernel
theorem dX6_stepNearer_4 : decode cX6_stepNearer 4 = .ok (.lconst 0, 1) := by decide +kernel
theorem dX6_stepNearer_5 : decode cX6_stepNearer 5 = .ok (.invokestatic 90, 3) := by decide +kernel
theorem dX6_stepNearer_8 : decode cX6_stepNearer 8 = .ok (.iconst 0, 1) := by decide +kernel
theorem dX6_stepNearer_9 : decode cX6_stepNearer 9 = .ok (.istore_n 3, 1) := by decide +kernel
theorem dX6_stepNearer_10 : decode cX6_stepNearer 10 = .ok (.iload_n 3, 1) := by decide +kernel
theorem dX6_stepNearer_11 : decode cX6_stepNearer 11 = .ok (.aload_n 0, 1) := by decide +kernel
theorem dX6_stepNearer_12 : decode cX6_stepNearer 12 = .ok (.getfield 29, 3) := by decide +kernel
theorem dX6_stepNearer_15 : decode cX6_stepNearer 15 = .ok (.invokevirtual 103, 3) := by decide +kernel
theorem dX6_stepNearer_18 : decode cX6_stepNearer 18 = .ok (.if_icmp .ge 84, 3) := by decide +kernel
theorem dX6_stepNearer_21 : decode cX6_stepNearer 21 = .ok (.aload_n 0, 1) := by decide +kernel
theorem dX6_stepNearer_22 : decode cX6_stepNearer 22 = .ok (.getfield 29, 3) := by decide +kernel
theorem dX6_stepNearer_25 : decode cX6_stepNearer 25 = .ok (.iload_n 3, 1) := by decide +kernel
theorem dX6_stepNearer_26 : decode cX6_stepNearer 26 = .ok (.invokevirtual 66, 3) := by decide +kernel
theorem dX6_stepNearer_29 : decode cX6_stepNearer 29 = .ok (.istore 4, 2) := by decide +kernel
theorem dX6_stepNearer_31 : decode cX6_stepNearer 31 = .ok (.aload_n 0, 1) := by decide +kernel
theorem dX6_stepNearer_32 : decode cX6_stepNearer 32 = .ok (.getfield 29, 3) := by decide +kernel
theorem dX6_stepNearer_35 : decode cX6_stepNearer 35 = .ok (.iload_n 3, 1) := by decide +kernel
theorem dX6_stepNearer_36 : decode cX6_stepNearer 36 = .ok (.invokevirtual 69, 3) := by decide +kernel
theorem dX6_stepNearer_39 : decode cX6_stepNearer 39 = .ok (.istore 5, 2) := by decide +kernel
theorem dX6_stepNearer_41 : decode cX6_stepNearer 41 = .ok (.aload_n 0, 1) := by decide +kernel
theorem dX6_stepNearer_42 : decode cX6_stepNearer 42 = .ok (.iload_n 3, 1) := by decide +kernel
theorem dX6_stepNearer_43 : decode cX6_stepNearer 43 = .ok (.invokevirtual 106, 3) := by decide +kernel
theorem dX6_stepNearer_46 : decode cX6_stepNearer 46 = .ok (.ifCond .eq 50, 3) := by decide +kernel
theorem dX6_stepNearer_49 : decode cX6_stepNearer 49 = .ok (.aload_n 0, 1) := by decide +kernel
theorem dX6_stepNearer_50 : decode cX6_stepNearer 50 = .ok (.getfield 12, 3) := by decide +kernel
theorem dX6_stepNearer_53 : decode cX6_stepNearer 53 = .ok (.iload 4, 2) := by decide +kernel
theorem dX6_stepNearer_55 : decode cX6_stepNearer 55 = .ok (.iload_n 1, 1) := by decide +kernel
theorem dX6_stepNearer_56 : decode cX6_stepNearer 56 = .ok (.invokevirtual 79, 3) := by decide +kernel
theorem dX6_stepNearer_59 : decode cX6_stepNearer 59 = .ok (.iload_n 2, 1) := by decide +kernel
theorem dX6_stepNearer_60 : decode cX6_stepNearer 60 = .ok (.if_icmp .ne 36, 3) := by decide +kernel
theorem dX6_stepNearer_63 : decode cX6_stepNearer 63 = .ok (.aload_n 0, 1) := by decide +kernel
theorem dX6_stepNearer_64 : decode cX6_stepNearer 64 = .ok (.getfield 12, 3) := by decide +kernel
theorem dX6_stepNearer_67 : decode cX6_stepNearer 67 = .ok (.iload 5, 2) := by decide +kernel
theorem dX6_stepNearer_69 : decode cX6_stepNearer 69 = .ok (.iload_n 1, 1) := by decide +kernel
theorem dX6_stepNearer_70 : decode cX6_stepNearer 70 = .ok (.invokevirtual 79, 3) := by decide +kernel
theorem dX6_stepNearer_73 : decode cX6_stepNearer 73 = .ok (.iload_n 2, 1) := by decide +kernel
theorem dX6_stepNearer_74 : decode cX6_stepNearer 74 = .ok (.iconst 1, 1) := by decide +kernel
theorem dX6_stepNearer_75 : decode cX6_stepNearer 75 = .ok (.isub, 1) := by decide +kernel
theorem dX6_stepNearer_76 : decode cX6_stepNearer 76 = .ok (.if_icmp .ne 20, 3) := by decide +kernel
theorem dX6_stepNearer_79 : decode cX6_stepNearer 79 = .ok (.aload_n 0, 1) := by decide +kernel
theorem dX6_stepNearer_80 : decode cX6_stepNearer 80 = .ok (.getfield 26, 3) := by decide +kernel
theorem dX6_stepNearer_83 : decode cX6_stepNearer 83 = .ok (.iload 5, 2) := by decide +kernel
theorem dX6_stepNearer_85 : decode cX6_stepNearer 85 = .ok (.dup2, 1) := by decide +kernel
theorem dX6_stepNearer_86 : decode cX6_stepNearer 86 = .ok (.laload, 1) := by decide +kernel
theorem dX6_stepNearer_87 : decode cX6_stepNearer 87 = .ok (.aload_n 0, 1) := by decide +kernel
theorem dX6_stepNearer_88 : decode cX6_stepNearer 88 = .ok (.getfield 22, 3) := by decide +kernel
theorem dX6_stepNearer_91 : decode cX6_stepNearer 91 = .ok (.iload 4, 2) := by decide +kernel
theorem dX6_stepNearer_93 : decode cX6_stepNearer 93 = .ok (.laload, 1) := by decide +kernel
theorem dX6_stepNearer_94 : decode cX6_stepNearer 94 = .ok (.ladd, 1) := by decide +kernel
theorem dX6_stepNearer_95 : decode cX6_stepNearer 95 = .ok (.lastore, 1) := by decide +kernel
theorem dX6_stepNearer_96 : decode cX6_stepNearer 96 = .ok (.iinc 3 1, 3) := by decide +kernel
theorem dX6_stepNearer_99 : decode cX6_stepNearer 99 = .ok (.goto (-89), 3) := by decide +kernel
theorem dX6_stepNearer_102 : decode cX6_stepNearer 102 = .ok (.aload_n 0, 1) := by decide +kernel
theorem dX6_stepNearer_103 : decode cX6_stepNearer 103 = .ok (.getfield 26, 3) := by decide +kernel
theorem dX6_stepNearer_106 : decode cX6_stepNearer 106 = .ok (.iconst 0, 1) := by decide +kernel
theorem dX6_stepNearer_107 : decode cX6_stepNearer 107 = .ok (.aload_n 0, 1) := by decide +kernel
theorem dX6_stepNearer_108 : decode cX6_stepNearer 108 = .ok (.getfield 22, 3) := by decide +kernel
theorem dX6_stepNearer_111 : decode cX6_stepNearer 111 = .ok (.iconst 0, 1) := by decide +kernel
theorem dX6_stepNearer_112 : decode cX6_stepNearer 112 = .ok (.bipush 8, 2) := by decide +kernel
theorem dX6_stepNearer_114 : decode cX6_stepNearer 114 = .ok (.invokestatic 109, 3) := by decide +kernel
theorem dX6_stepNearer_117 : decode cX6_stepNearer 117 = .ok (.return_, 1) := by decide +kernel
theorem dX6_isLane_0 : decode cX6_isLane 0 = .ok (.aload_n 0, 1) := by decide +kernel
theorem dX6_isLane_1 : decode cX6_isLane 1 = .ok (.getfield 29, 3) := by decide +kernel
theorem dX6_isLane_4 : decode cX6_isLane 4 = .ok (.iload_n 1, 1) := by decide +kernel
theorem dX6_isLane_5 : decode cX6_isLane 5 = .ok (.invokevirtual 82, 3) := by decide +kernel
theorem dX6_isLane_8 : decode cX6_isLane 8 = .ok (.ifCond .eq 18, 3) := by decide +kernel
theorem dX6_isLane_11 : decode cX6_isLane 11 = .ok (.aload_n 0, 1) := by decide +kernel
theorem dX6_isLane_12 : decode cX6_isLane 12 = .ok (.getfield 29, 3) := by decide +kernel
theorem dX6_isLane_15 : decode cX6_isLane 15 = .ok (.iload_n 1, 1) := by decide +kernel
theorem dX6_isLane_16 : decode cX6_isLane 16 = .ok (.invokevirtual 115, 3) := by decide +kernel
theorem dX6_isLane_19 : decode cX6_isLane 19 = .ok (.ifCond .ne 7, 3) := by decide +kernel
theorem dX6_isLane_22 : decode cX6_isLane 22 = .ok (.iconst 1, 1) := by decide +kernel
theorem dX6_isLane_23 : decode cX6_isLane 23 = .ok (.goto 4, 3) := by decide +kernel
theorem dX6_isLane_26 : decode cX6_isLane 26 = .ok (.iconst 0, 1) := by decide +kernel
theorem dX6_isLane_27 : decode cX6_isLane 27 = .ok (.ireturn, 1) := by decide +kernel
theorem dX6_leastLetter_0 : decode cX6_leastLetter 0 = .ok (.iload_n 3, 1) := by decide +kernel
theorem dX6_leastLetter_1 : decode cX6_leastLetter 1 = .ok (.istore 4, 2) := by decide +kernel
theorem dX6_leastLetter_3 : decode cX6_leastLetter 3 = .ok (.iconst 0, 1) := by decide +kernel
theorem dX6_leastLetter_4 : decode cX6_leastLetter 4 = .ok (.istore 5, 2) := by decide +kernel
theorem dX6_leastLetter_6 : decode cX6_leastLetter 6 = .ok (.iload 5, 2) := by decide +kernel
theorem dX6_leastLetter_8 : decode cX6_leastLetter 8 = .ok (.aload_n 0, 1) := by decide +kernel
theorem dX6_leastLetter_9 : decode cX6_leastLetter 9 = .ok (.getfield 43, 3) := by decide +kernel
theorem dX6_leastLetter_12 : decode cX6_leastLetter 12 = .ok (.if_icmp .gt 81, 3) := by decide +kernel
theorem dX6_leastLetter_15 : decode cX6_leastLetter 15 = .ok (.aload_n 0, 1) := by decide +kernel
theorem dX6_leastLetter_16 : decode cX6_leastLetter 16 = .ok (.iload 5, 2) := by decide +kernel
theorem dX6_leastLetter_18 : decode cX6_leastLetter 18 = .ok (.iload_n 1, 1) := by decide +kernel
theorem dX6_leastLetter_19 : decode cX6_leastLetter 19 = .ok (.invokevirtual 72, 3) := by decide +kernel
theorem dX6_leastLetter_22 : decode cX6_leastLetter 22 = .ok (.istore 6, 2) := by decide +kernel
theorem dX6_leastLetter_24 : decode cX6_leastLetter 24 = .ok (.aload_n 0, 1) := by decide +kernel
theorem dX6_leastLetter_25 : decode cX6_leastLetter 25 = .ok (.iload 5, 2) := by decide +kernel
theorem dX6_leastLetter_27 : decode cX6_leastLetter 27 = .ok (.iload_n 2, 1) := by decide +kernel
theorem dX6_leastLetter_28 : decode cX6_leastLetter 28 = .ok (.invokevirtual 76, 3) := by decide +kernel
theorem dX6_leastLetter_31 : decode cX6_leastLetter 31 = .ok (.istore 7, 2) := by decide +kernel
theorem dX6_leastLetter_33 : decode cX6_leastLetter 33 = .ok (.aload_n 0, 1) := by decide +kernel
theorem dX6_leastLetter_34 : decode cX6_leastLetter 34 = .ok (.getfield 12, 3) := by decide +kernel
theorem dX6_leastLetter_37 : decode cX6_leastLetter 37 = .ok (.iload 6, 2) := by decide +kernel
theorem dX6_leastLetter_39 : decode cX6_leastLetter 39 = .ok (.iload 7, 2) := by decide +kernel
theorem dX6_leastLetter_41 : decode cX6_leastLetter 41 = .ok (.invokevirtual 79, 3) := by decide +kernel
theorem dX6_leastLetter_44 : decode cX6_leastLetter 44 = .ok (.istore 8, 2) := by decide +kernel
theorem dX6_leastLetter_46 : decode cX6_leastLetter 46 = .ok (.iload 4, 2) := by decide +kernel
theorem dX6_leastLetter_48 : decode cX6_leastLetter 48 = .ok (.iload 8, 2) := by decide +kernel
theorem dX6_leastLetter_50 : decode cX6_leastLetter 50 = .ok (.if_icmp .ge 14, 3) := by decide +kernel
theorem dX6_leastLetter_53 : decode cX6_leastLetter 53 = .ok (.aload_n 0, 1) := by decide +kernel
theorem dX6_leastLetter_54 : decode cX6_leastLetter 54 = .ok (.iload 6, 2) := by decide +kernel
theorem dX6_leastLetter_56 : decode cX6_leastLetter 56 = .ok (.iload 7, 2) := by decide +kernel
theorem dX6_leastLetter_58 : decode cX6_leastLetter 58 = .ok (.iload 4, 2) := by decide +kernel
theorem dX6_leastLetter_60 : decode cX6_leastLetter 60 = .ok (.invokevirtual 118, 3) := by decide +kernel
theorem dX6_leastLetter_63 : decode cX6_leastLetter 63 = .ok (.ireturn, 1) := by decide +kernel
theorem dX6_leastLetter_64 : decode cX6_leastLetter 64 = .ok (.iload 4, 2) := by decide +kernel
theorem dX6_leastLetter_66 : decode cX6_leastLetter 66 = .ok (.iload 8, 2) := by decide +kernel
theorem dX6_leastLetter_68 : decode cX6_leastLetter 68 = .ok (.if_icmp .ne 10, 3) := by decide +kernel
theorem dX6_leastLetter_71 : decode cX6_leastLetter 71 = .ok (.aload_n 0, 1) := by decide +kernel
theorem dX6_leastLetter_72 : decode cX6_leastLetter 72 = .ok (.iload 5, 2) := by decide +kernel
theorem dX6_leastLetter_74 : decode cX6_leastLetter 74 = .ok (.invokevirtual 63, 3) := by decide +kernel
theorem dX6_leastLetter_77 : decode cX6_leastLetter 77 = .ok (.ireturn, 1) := by decide +kernel
theorem dX6_leastLetter_78 : decode cX6_leastLetter 78 = .ok (.iload 4, 2) := by decide +kernel
theorem dX6_leastLetter_80 : decode cX6_leastLetter 80 = .ok (.iload 8, 2) := by decide +kernel
theorem dX6_leastLetter_82 : decode cX6_leastLetter 82 = .ok (.iconst 1, 1) := by decide +kernel
theorem dX6_leastLetter_83 : decode cX6_leastLetter 83 = .ok (.iadd, 1) := by decide +kernel
theorem dX6_leastLetter_84 : decode cX6_leastLetter 84 = .ok (.isub, 1) := by decide +kernel
theorem dX6_leastLetter_85 : decode cX6_leastLetter 85 = .ok (.istore 4, 2) := by decide +kernel
theorem dX6_leastLetter_87 : decode cX6_leastLetter 87 = .ok (.iinc 5 1, 3) := by decide +kernel
theorem dX6_leastLetter_90 : decode cX6_leastLetter 90 = .ok (.goto (-84), 3) := by decide +kernel
theorem dX6_leastLetter_93 : decode cX6_leastLetter 93 = .ok (.iconst (-1), 1) := by decide +kernel
theorem dX6_leastLetter_94 : decode cX6_leastLetter 94 = .ok (.ireturn, 1) := by decide +kernel
theorem dX6_leastLaneLetter_0 : decode cX6_leastLaneLetter 0 = .ok (.iload_n 1, 1) := by decide +kernel
theorem dX6_leastLaneLetter_1 : decode cX6_leastLaneLetter 1 = .ok (.istore 4, 2) := by decide +kernel
theorem dX6_leastLaneLetter_3 : decode cX6_leastLaneLetter 3 = .ok (.iconst (-1), 1) := by decide +kernel
theorem dX6_leastLaneLetter_4 : decode cX6_leastLaneLetter 4 = .ok (.istore 5, 2) := by decide +kernel
theorem dX6_leastLaneLetter_6 : decode cX6_leastLaneLetter 6 = .ok (.iconst 0, 1) := by decide +kernel
theorem dX6_leastLaneLetter_7 : decode cX6_leastLaneLetter 7 = .ok (.istore 6, 2) := by decide +kernel
theorem dX6_leastLaneLetter_9 : decode cX6_leastLaneLetter 9 = .ok (.iload 6, 2) := by decide +kernel
theorem dX6_leastLaneLetter_11 : decode cX6_leastLaneLetter 11 = .ok (.iload_n 3, 1) := by decide +kernel
theorem dX6_leastLaneLetter_12 : decode cX6_leastLaneLetter 12 = .ok (.if_icmp .gt 29, 3) := by decide +kernel
theorem dX6_leastLaneLetter_15 : decode cX6_leastLaneLetter 15 = .ok (.aload_n 0, 1) := by decide +kernel
theorem dX6_leastLaneLetter_16 : decode cX6_leastLaneLetter 16 = .ok (.iload 4, 2) := by decide +kernel
theorem dX6_leastLaneLetter_18 : decode cX6_leastLaneLetter 18 = .ok (.iload_n 2, 1) := by decide +kernel
theorem dX6_leastLaneLetter_19 : decode cX6_leastLaneLetter 19 = .ok (.invokevirtual 122, 3) := by decide +kernel
theorem dX6_leastLaneLetter_22 : decode cX6_leastLaneLetter 22 = .ok (.istore 5, 2) := by decide +kernel
theorem dX6_leastLaneLetter_24 : decode cX6_leastLaneLetter 24 = .ok (.aload_n 0, 1) := by decide +kernel
theorem dX6_leastLaneLetter_25 : decode cX6_leastLaneLetter 25 = .ok (.getfield 29, 3) := by decide +kernel
theorem dX6_leastLaneLetter_28 : decode cX6_leastLaneLetter 28 = .ok (.iload 5, 2) := by decide +kernel
theorem dX6_leastLaneLetter_30 : decode cX6_leastLaneLetter 30 = .ok (.invokevirtual 69, 3) := by decide +kernel
theorem dX6_leastLaneLetter_33 : decode cX6_leastLaneLetter 33 = .ok (.istore 4, 2) := by decide +kernel
theorem dX6_leastLaneLetter_35 : decode cX6_leastLaneLetter 35 = .ok (.iinc 6 1, 3) := by decide +kernel
theorem dX6_leastLaneLetter_38 : decode cX6_leastLaneLetter 38 = .ok (.goto (-29), 3) := by decide +kernel
theorem dX6_leastLaneLetter_41 : decode cX6_leastLaneLetter 41 = .ok (.iload 5, 2) := by decide +kernel
theorem dX6_leastLaneLetter_43 : decode cX6_leastLaneLetter 43 = .ok (.ireturn, 1) := by decide +kernel
theorem dX6_leastNearer_0 : decode cX6_leastNearer 0 = .ok (.aload_n 0, 1) := by decide +kernel
theorem dX6_leastNearer_1 : decode cX6_leastNearer 1 = .ok (.getfield 12, 3) := by decide +kernel
theorem dX6_leastNearer_4 : decode cX6_leastNearer 4 = .ok (.iload_n 1, 1) := by decide +kernel
theorem dX6_leastNearer_5 : decode cX6_leastNearer 5 = .ok (.iload_n 2, 1) := by decide +kernel
theorem dX6_leastNearer_6 : decode cX6_leastNearer 6 = .ok (.invokevirtual 79, 3) := by decide +kernel
theorem dX6_leastNearer_9 : decode cX6_leastNearer 9 = .ok (.iconst 1, 1) := by decide +kernel
theorem dX6_leastNearer_10 : decode cX6_leastNearer 10 = .ok (.isub, 1) := by decide +kernel
theorem dX6_leastNearer_11 : decode cX6_leastNearer 11 = .ok (.istore_n 3, 1) := by decide +kernel
theorem dX6_leastNearer_12 : decode cX6_leastNearer 12 = .ok (.iconst 1, 1) := by decide +kernel
theorem dX6_leastNearer_13 : decode cX6_leastNearer 13 = .ok (.istore 4, 2) := by decide +kernel
theorem dX6_leastNearer_15 : decode cX6_leastNearer 15 = .ok (.iload 4, 2) := by decide +kernel
theorem dX6_leastNearer_17 : decode cX6_leastNearer 17 = .ok (.ifCond .lt 77, 3) := by decide +kernel
theorem dX6_leastNearer_20 : decode cX6_leastNearer 20 = .ok (.iload 4, 2) := by decide +kernel
theorem dX6_leastNearer_22 : decode cX6_leastNearer 22 = .ok (.istore 5, 2) := by decide +kernel
theorem dX6_leastNearer_24 : decode cX6_leastNearer 24 = .ok (.iload 5, 2) := by decide +kernel
theorem dX6_leastNearer_26 : decode cX6_leastNearer 26 = .ok (.aload_n 0, 1) := by decide +kernel
theorem dX6_leastNearer_27 : decode cX6_leastNearer 27 = .ok (.getfield 29, 3) := by decide +kernel
theorem dX6_leastNearer_30 : decode cX6_leastNearer 30 = .ok (.invokevirtual 103, 3) := by decide +kernel
theorem dX6_leastNearer_33 : decode cX6_leastNearer 33 = .ok (.if_icmp .ge 55, 3) := by decide +kernel
theorem dX6_leastNearer_36 : decode cX6_leastNearer 36 = .ok (.aload_n 0, 1) := by decide +kernel
theorem dX6_leastNearer_37 : decode cX6_leastNearer 37 = .ok (.iload 5, 2) := by decide +kernel
theorem dX6_leastNearer_39 : decode cX6_leastNearer 39 = .ok (.invokevirtual 106, 3) := by decide +kernel
theorem dX6_leastNearer_42 : decode cX6_leastNearer 42 = .ok (.ifCond .eq 40, 3) := by decide +kernel
theorem dX6_leastNearer_45 : decode cX6_leastNearer 45 = .ok (.aload_n 0, 1) := by decide +kernel
theorem dX6_leastNearer_46 : decode cX6_leastNearer 46 = .ok (.getfield 29, 3) := by decide +kernel
theorem dX6_leastNearer_49 : decode cX6_leastNearer 49 = .ok (.iload 5, 2) := by decide +kernel
theorem dX6_leastNearer_51 : decode cX6_leastNearer 51 = .ok (.invokevirtual 66, 3) := by decide +kernel
theorem dX6_leastNearer_54 : decode cX6_leastNearer 54 = .ok (.iload_n 1, 1) := by decide +kernel
theorem dX6_leastNearer_55 : decode cX6_leastNearer 55 = .ok (.if_icmp .ne 27, 3) := by decide +kernel
theorem dX6_leastNearer_58 : decode cX6_leastNearer 58 = .ok (.aload_n 0, 1) := by decide +kernel
theorem dX6_leastNearer_59 : decode cX6_leastNearer 59 = .ok (.getfield 12, 3) := by decide +kernel
theorem dX6_leastNearer_62 : decode cX6_leastNearer 62 = .ok (.aload_n 0, 1) := by decide +kernel
theorem dX6_leastNearer_63 : decode cX6_leastNearer 63 = .ok (.getfield 29, 3) := by decide +kernel
theorem dX6_leastNearer_66 : decode cX6_leastNearer 66 = .ok (.iload 5, 2) := by decide +kernel
theorem dX6_leastNearer_68 : decode cX6_leastNearer 68 = .ok (.invokevirtual 69, 3) := by decide +kernel
theorem dX6_leastNearer_71 : decode cX6_leastNearer 71 = .ok (.iload_n 2, 1) := by decide +kernel
theorem dX6_leastNearer_72 : decode cX6_leastNearer 72 = .ok (.invokevirtual 79, 3) := by decide +kernel
theorem dX6_leastNearer_75 : decode cX6_leastNearer 75 = .ok (.iload_n 3, 1) := by decide +kernel
theorem dX6_leastNearer_76 : decode cX6_leastNearer 76 = .ok (.if_icmp .ne 6, 3) := by decide +kernel
theorem dX6_leastNearer_79 : decode cX6_leastNearer 79 = .ok (.iload 5, 2) := by decide +kernel
theorem dX6_leastNearer_81 : decode cX6_leastNearer 81 = .ok (.ireturn, 1) := by decide +kernel
theorem dX6_leastNearer_82 : decode cX6_leastNearer 82 = .ok (.iinc 5 2, 3) := by decide +kernel
theorem dX6_leastNearer_85 : decode cX6_leastNearer 85 = .ok (.goto (-61), 3) := by decide +kernel
theorem dX6_leastNearer_88 : decode cX6_leastNearer 88 = .ok (.iinc 4 (-1), 3) := by decide +kernel
theorem dX6_leastNearer_91 : decode cX6_leastNearer 91 = .ok (.goto (-76), 3) := by decide +kernel
theorem dX6_leastNearer_94 : decode cX6_leastNearer 94 = .ok (.iconst (-1), 1) := by decide +kernel
theorem dX6_leastNearer_95 : decode cX6_leastNearer 95 = .ok (.ireturn, 1) := by decide +kernel
theorem dX6_starts_0 : decode cX6_starts 0 = .ok (.aload_n 0, 1) := by decide +kernel
theorem dX6_starts_1 : decode cX6_starts 1 = .ok (.getfield 43, 3) := by decide +kernel
theorem dX6_starts_4 : decode cX6_starts 4 = .ok (.ifCond .ne 7, 3) := by decide +kernel
theorem dX6_starts_7 : decode cX6_starts 7 = .ok (.sipush 255, 3) := by decide +kernel
theorem dX6_starts_10 : decode cX6_starts 10 = .ok (.ireturn, 1) := by decide +kernel
theorem dX6_starts_11 : decode cX6_starts 11 = .ok (.aload_n 0, 1) := by decide +kernel
theorem dX6_starts_12 : decode cX6_starts 12 = .ok (.invokevirtual 125, 3) := by decide +kernel
theorem dX6_starts_15 : decode cX6_starts 15 = .ok (.ifCond .eq 25, 3) := by decide +kernel
theorem dX6_starts_18 : decode cX6_starts 18 = .ok (.aload_n 0, 1) := by decide +kernel
theorem dX6_starts_19 : decode cX6_starts 19 = .ok (.getfield 12, 3) := by decide +kernel
theorem dX6_starts_22 : decode cX6_starts 22 = .ok (.aload_n 0, 1) := by decide +kernel
theorem dX6_starts_23 : decode cX6_starts 23 = .ok (.getfield 29, 3) := by decide +kernel
theorem dX6_starts_26 : decode cX6_starts 26 = .ok (.aload_n 0, 1) := by decide +kernel
theorem dX6_starts_27 : decode cX6_starts 27 = .ok (.iconst 0, 1) := by decide +kernel
theorem dX6_starts_28 : decode cX6_starts 28 = .ok (.invokevirtual 63, 3) := by decide +kernel
theorem dX6_starts_31 : decode cX6_starts 31 = .ok (.invokevirtual 66, 3) := by decide +kernel
theorem dX6_starts_34 : decode cX6_starts 34 = .ok (.invokevirtual 129, 3) := by decide +kernel
theorem dX6_starts_37 : decode cX6_starts 37 = .ok (.goto 4, 3) := by decide +kernel
theorem dX6_starts_40 : decode cX6_starts 40 = .ok (.iconst 0, 1) := by decide +kernel
theorem dX6_starts_41 : decode cX6_starts 41 = .ok (.ireturn, 1) := by decide +kernel
theorem dX6_ends_0 : decode cX6_ends 0 = .ok (.aload_n 0, 1) := by decide +kernel
theorem dX6_ends_1 : decode cX6_ends 1 = .ok (.getfield 43, 3) := by decide +kernel
theorem dX6_ends_4 : decode cX6_ends 4 = .ok (.ifCond .ne 7, 3) := by decide +kernel
theorem dX6_ends_7 : decode cX6_ends 7 = .ok (.sipush 255, 3) := by decide +kernel
theorem dX6_ends_10 : decode cX6_ends 10 = .ok (.ireturn, 1) := by decide +kernel
theorem dX6_ends_11 : decode cX6_ends 11 = .ok (.aload_n 0, 1) := by decide +kernel
theorem dX6_ends_12 : decode cX6_ends 12 = .ok (.invokevirtual 125, 3) := by decide +kernel
theorem dX6_ends_15 : decode cX6_ends 15 = .ok (.ifCond .eq 30, 3) := by decide +kernel
theorem dX6_ends_18 : decode cX6_ends 18 = .ok (.aload_n 0, 1) := by decide +kernel
theorem dX6_ends_19 : decode cX6_ends 19 = .ok (.getfield 12, 3) := by decide +kernel
theorem dX6_ends_22 : decode cX6_ends 22 = .ok (.aload_n 0, 1) := by decide +kernel
theorem dX6_ends_23 : decode cX6_ends 23 = .ok (.getfield 29, 3) := by decide +kernel
theorem dX6_ends_26 : decode cX6_ends 26 = .ok (.aload_n 0, 1) := by decide +kernel
theorem dX6_ends_27 : decode cX6_ends 27 = .ok (.aload_n 0, 1) := by decide +kernel
theorem dX6_ends_28 : decode cX6_ends 28 = .ok (.getfield 43, 3) := by decide +kernel
theorem dX6_ends_31 : decode cX6_ends 31 = .ok (.iconst 1, 1) := by decide +kernel
theorem dX6_ends_32 : decode cX6_ends 32 = .ok (.isub, 1) := by decide +kernel
theorem dX6_ends_33 : decode cX6_ends 33 = .ok (.invokevirtual 63, 3) := by decide +kernel
theorem dX6_ends_36 : decode cX6_ends 36 = .ok (.invokevirtual 69, 3) := by decide +kernel
theorem dX6_ends_39 : decode cX6_ends 39 = .ok (.invokevirtual 129, 3) := by decide +kernel
theorem dX6_ends_42 : decode cX6_ends 42 = .ok (.goto 4, 3) := by decide +kernel
theorem dX6_ends_45 : decode cX6_ends 45 = .ok (.iconst 0, 1) := by decide +kernel
theorem dX6_ends_46 : decode cX6_ends 46 = .ok (.ireturn, 1) := by decide +kernel
theorem dX6_isChained_0 : decode cX6_isChained 0 = .ok (.aload_n 0, 1) := by decide +kernel
theorem dX6_isChained_1 : decode cX6_isChained 1 = .ok (.aload_n 0, 1) := by decide +kernel
theorem dX6_isChained_2 : decode cX6_isChained 2 = .ok (.getfield 29, 3) := by decide +kernel
theorem dX6_isChained_5 : decode cX6_isChained 5 = .ok (.aload_n 0, 1) := by decide +kernel
theorem dX6_isChained_6 : decode cX6_isChained 6 = .ok (.iconst 0, 1) := by decide +kernel
theorem dX6_isChained_7 : decode cX6_isChained 7 = .ok (.invokevirtual 63, 3) := by decide +kernel
theorem dX6_isChained_10 : decode cX6_isChained 10 = .ok (.invokevirtual 66, 3) := by decide +kernel
theorem dX6_isChained_13 : decode cX6_isChained 13 = .ok (.aload_n 0, 1) := by decide +kernel
theorem dX6_isChained_14 : decode cX6_isChained 14 = .ok (.getfield 29, 3) := by decide +kernel
theorem dX6_isChained_17 : decode cX6_isChained 17 = .ok (.aload_n 0, 1) := by decide +kernel
theorem dX6_isChained_18 : decode cX6_isChained 18 = .ok (.aload_n 0, 1) := by decide +kernel
theorem dX6_isChained_19 : decode cX6_isChained 19 = .ok (.getfield 43, 3) := by decide +kernel
theorem dX6_isChained_22 : decode cX6_isChained 22 = .ok (.iconst 1, 1) := by decide +kernel
theorem dX6_isChained_23 : decode cX6_isChained 23 = .ok (.isub, 1) := by decide +kernel
theorem dX6_isChained_24 : decode cX6_isChained 24 = .ok (.invokevirtual 63, 3) := by decide +kernel
theorem dX6_isChained_27 : decode cX6_isChained 27 = .ok (.invokevirtual 69, 3) := by decide +kernel
theorem dX6_isChained_30 : decode cX6_isChained 30 = .ok (.invokevirtual 132, 3) := by decide +kernel
theorem dX6_isChained_33 : decode cX6_isChained 33 = .ok (.iconst (-1), 1) := by decide +kernel
theorem dX6_isChained_34 : decode cX6_isChained 34 = .ok (.if_icmp .eq 7, 3) := by decide +kernel
theorem dX6_isChained_37 : decode cX6_isChained 37 = .ok (.iconst 1, 1) := by decide +kernel
theorem dX6_isChained_38 : decode cX6_isChained 38 = .ok (.goto 4, 3) := by decide +kernel
theorem dX6_isChained_41 : decode cX6_isChained 41 = .ok (.iconst 0, 1) := by decide +kernel
theorem dX6_isChained_42 : decode cX6_isChained 42 = .ok (.ireturn, 1) := by decide +kernel
theorem dX7_init_0 : decode cX7_init 0 = .ok (.aload_n 0, 1) := by decide +kernel
theorem dX7_init_1 : decode cX7_init 1 = .ok (.invokespecial 3, 3) := by decide +kernel
theorem dX7_init_4 : decode cX7_init 4 = .ok (.aload_n 0, 1) := by decide +kernel
theorem dX7_init_5 : decode cX7_init 5 = .ok (.iconst 4, 1) := by decide +kernel
theorem dX7_init_6 : decode cX7_init 6 = .ok (.bipush 60, 2) := by decide +kernel
theorem dX7_init_8 : decode cX7_init 8 = .ok (.multianewarray 9 2, 4) := by decide +kernel
theorem dX7_init_12 : decode cX7_init 12 = .ok (.putfield 11, 3) := by decide +kernel
theorem dX7_init_15 : decode cX7_init 15 = .ok (.aload_n 0, 1) := by decide +kernel
theorem dX7_init_16 : decode cX7_init 16 = .ok (.iconst 4, 1) := by decide +kernel
theorem dX7_init_17 : decode cX7_init 17 = .ok (.newarray .int, 2) := by decide +kernel
theorem dX7_init_19 : decode cX7_init 19 = .ok (.putfield 16, 3) := by decide +kernel
theorem dX7_init_22 : decode cX7_init 22 = .ok (.aload_n 0, 1) := by decide +kernel
theorem dX7_init_23 : decode cX7_init 23 = .ok (.iconst 4, 1) := by decide +kernel
theorem dX7_init_24 : decode cX7_init 24 = .ok (.newarray .int, 2) := by decide +kernel
theorem dX7_init_26 : decode cX7_init 26 = .ok (.putfield 20, 3) := by decide +kernel
theorem dX7_init_29 : decode cX7_init 29 = .ok (.aload_n 0, 1) := by decide +kernel
theorem dX7_init_30 : decode cX7_init 30 = .ok (.getfield 20, 3) := by decide +kernel
theorem dX7_init_33 : decode cX7_init 33 = .ok (.iconst (-1), 1) := by decide +kernel
theorem dX7_init_34 : decode cX7_init 34 = .ok (.invokestatic 23, 3) := by decide +kernel
theorem dX7_init_37 : decode cX7_init 37 = .ok (.return_, 1) := by decide +kernel
theorem dX7_find_0 : decode cX7_find 0 = .ok (.aload_n 0, 1) := by decide +kernel
theorem dX7_find_1 : decode cX7_find 1 = .ok (.iload_n 1, 1) := by decide +kernel
theorem dX7_find_2 : decode cX7_find 2 = .ok (.putfield 29, 3) := by decide +kernel
theorem dX7_find_5 : decode cX7_find 5 = .ok (.bipush (-10), 2) := by decide +kernel
theorem dX7_find_7 : decode cX7_find 7 = .ok (.iload_n 1, 1) := by decide +kernel
theorem dX7_find_8 : decode cX7_find 8 = .ok (.isub, 1) := by decide +kernel
theorem dX7_find_9 : decode cX7_find 9 = .ok (.ireturn, 1) := by decide +kernel
theorem dX7_latestFinding_0 : decode cX7_latestFinding 0 = .ok (.aload_n 0, 1) := by decide +kernel
theorem dX7_latestFinding_1 : decode cX7_latestFinding 1 = .ok (.getfield 29, 3) := by decide +kernel
theorem dX7_latestFinding_4 : decode cX7_latestFinding 4 = .ok (.ireturn, 1) := by decide +kernel
theorem dX7_isLost_0 : decode cX7_isLost 0 = .ok (.aload_n 0, 1) := by decide +kernel
theorem dX7_isLost_1 : decode cX7_isLost 1 = .ok (.getfield 20, 3) := by decide +kernel
theorem dX7_isLost_4 : decode cX7_isLost 4 = .ok (.iload_n 1, 1) := by decide +kernel
theorem dX7_isLost_5 : decode cX7_isLost 5 = .ok (.iaload, 1) := by decide +kernel
theorem dX7_isLost_6 : decode cX7_isLost 6 = .ok (.iconst (-1), 1) := by decide +kernel
theorem dX7_isLost_7 : decode cX7_isLost 7 = .ok (.if_icmp .ne 7, 3) := by decide +kernel
theorem dX7_isLost_10 : decode cX7_isLost 10 = .ok (.iconst 1, 1) := by decide +kernel
theorem dX7_isLost_11 : decode cX7_isLost 11 = .ok (.goto 4, 3) := by decide +kernel
theorem dX7_isLost_14 : decode cX7_isLost 14 = .ok (.iconst 0, 1) := by decide +kernel
theorem dX7_isLost_15 : decode cX7_isLost 15 = .ok (.ireturn, 1) := by decide +kernel
theorem dX7_size_0 : decode cX7_size 0 = .ok (.aload_n 0, 1) := by decide +kernel
theorem dX7_size_1 : decode cX7_size 1 = .ok (.getfield 16, 3) := by decide +kernel
theorem dX7_size_4 : decode cX7_size 4 = .ok (.iload_n 1, 1) := by decide +kernel
theorem dX7_size_5 : decode cX7_size 5 = .ok (.iaload, 1) := by decide +kernel
theorem dX7_size_6 : decode cX7_size 6 = .ok (.ireturn, 1) := by decide +kernel
theorem dX7_make_0 : decode cX7_make 0 = .ok (.aload_n 0, 1) := by decide +kernel
theorem dX7_make_1 : decode cX7_make 1 = .ok (.getfield 20, 3) := by decide +kernel
theorem dX7_make_4 : decode cX7_make 4 = .ok (.iload_n 1, 1) := by decide +kernel
theorem dX7_make_5 : decode cX7_make 5 = .ok (.iload_n 2, 1) := by decide +kernel
theorem dX7_make_6 : decode cX7_make 6 = .ok (.iastore, 1) := by decide +kernel
theorem dX7_make_7 : decode cX7_make 7 = .ok (.aload_n 0, 1) := by decide +kernel
theorem dX7_make_8 : decode cX7_make 8 = .ok (.getfield 16, 3) := by decide +kernel
theorem dX7_make_11 : decode cX7_make 11 = .ok (.iload_n 1, 1) := by decide +kernel
theorem dX7_make_12 : decode cX7_make 12 = .ok (.iload_n 3, 1) := by decide +kernel
theorem dX7_make_13 : decode cX7_make 13 = .ok (.iastore, 1) := by decide +kernel
theorem dX7_make_14 : decode cX7_make 14 = .ok (.aload_n 0, 1) := by decide +kernel
theorem dX7_make_15 : decode cX7_make 15 = .ok (.getfield 11, 3) := by decide +kernel
theorem dX7_make_18 : decode cX7_make 18 = .ok (.iload_n 1, 1) := by decide +kernel
theorem dX7_make_19 : decode cX7_make 19 = .ok (.aaload, 1) := by decide +kernel
theorem dX7_make_20 : decode cX7_make 20 = .ok (.iconst 0, 1) := by decide +kernel
theorem dX7_make_21 : decode cX7_make 21 = .ok (.invokestatic 23, 3) := by decide +kernel
theorem dX7_make_24 : decode cX7_make 24 = .ok (.return_, 1) := by decide +kernel
theorem dX7_drop_0 : decode cX7_drop 0 = .ok (.aload_n 0, 1) := by decide +kernel
theorem dX7_drop_1 : decode cX7_drop 1 = .ok (.getfield 20, 3) := by decide +kernel
theorem dX7_drop_4 : decode cX7_drop 4 = .ok (.iload_n 1, 1) := by decide +kernel
theorem dX7_drop_5 : decode cX7_drop 5 = .ok (.iconst (-1), 1) := by decide +kernel
theorem dX7_drop_6 : decode cX7_drop 6 = .ok (.iastore, 1) := by decide +kernel
theorem dX7_drop_7 : decode cX7_drop 7 = .ok (.aload_n 0, 1) := by decide +kernel
theorem dX7_drop_8 : decode cX7_drop 8 = .ok (.getfield 16, 3) := by decide +kernel
theorem dX7_drop_11 : decode cX7_drop 11 = .ok (.iload_n 1, 1) := by decide +kernel
theorem dX7_drop_12 : decode cX7_drop 12 = .ok (.iconst 0, 1) := by decide +kernel
theorem dX7_drop_13 : decode cX7_drop 13 = .ok (.iastore, 1) := by decide +kernel
theorem dX7_drop_14 : decode cX7_drop 14 = .ok (.return_, 1) := by decide +kernel
theorem dX7_findingAt_0 : decode cX7_findingAt 0 = .ok (.aload_n 0, 1) := by decide +kernel
theorem dX7_findingAt_1 : decode cX7_findingAt 1 = .ok (.iload_n 1, 1) := by decide +kernel
theorem dX7_findingAt_2 : decode cX7_findingAt 2 = .ok (.invokevirtual 33, 3) := by decide +kernel
theorem dX7_findingAt_5 : decode cX7_findingAt 5 = .ok (.ifCond .eq 5, 3) := by decide +kernel
theorem dX7_findingAt_8 : decode cX7_findingAt 8 = .ok (.iconst 1, 1) := by decide +kernel
theorem dX7_findingAt_9 : decode cX7_findingAt 9 = .ok (.ireturn, 1) := by decide +kernel
theorem dX7_findingAt_10 : decode cX7_findingAt 10 = .ok (.aload_n 0, 1) := by decide +kernel
theorem dX7_findingAt_11 : decode cX7_findingAt 11 = .ok (.getfield 20, 3) := by decide +kernel
theorem dX7_findingAt_14 : decode cX7_findingAt 14 = .ok (.iload_n 1, 1) := by decide +kernel
theorem dX7_findingAt_15 : decode cX7_findingAt 15 = .ok (.iaload, 1) := by decide +kernel
theorem dX7_findingAt_16 : decode cX7_findingAt 16 = .ok (.iload_n 2, 1) := by decide +kernel
theorem dX7_findingAt_17 : decode cX7_findingAt 17 = .ok (.if_icmp .eq 5, 3) := by decide +kernel
theorem dX7_findingAt_20 : decode cX7_findingAt 20 = .ok (.iconst 3, 1) := by decide +kernel
theorem dX7_findingAt_21 : decode cX7_findingAt 21 = .ok (.ireturn, 1) := by decide +kernel
theorem dX7_findingAt_22 : decode cX7_findingAt 22 = .ok (.iload_n 3, 1) := by decide +kernel
theorem dX7_findingAt_23 : decode cX7_findingAt 23 = .ok (.ifCond .lt 13, 3) := by decide +kernel
theorem dX7_findingAt_26 : decode cX7_findingAt 26 = .ok (.iload_n 3, 1) := by decide +kernel
theorem dX7_findingAt_27 : decode cX7_findingAt 27 = .ok (.aload_n 0, 1) := by decide +kernel
theorem dX7_findingAt_28 : decode cX7_findingAt 28 = .ok (.getfield 16, 3) := by decide +kernel
theorem dX7_findingAt_31 : decode cX7_findingAt 31 = .ok (.iload_n 1, 1) := by decide +kernel
theorem dX7_findingAt_32 : decode cX7_findingAt 32 = .ok (.iaload, 1) := by decide +kernel
theorem dX7_findingAt_33 : decode cX7_findingAt 33 = .ok (.if_icmp .lt 7, 3) := by decide +kernel
theorem dX7_findingAt_36 : decode cX7_findingAt 36 = .ok (.iconst 2, 1) := by decide +kernel
theorem dX7_findingAt_37 : decode cX7_findingAt 37 = .ok (.goto 4, 3) := by decide +kernel
theorem dX7_findingAt_40 : decode cX7_findingAt 40 = .ok (.iconst 0, 1) := by decide +kernel
theorem dX7_findingAt_41 : decode cX7_findingAt 41 = .ok (.ireturn, 1) := by decide +kernel
theorem dX7_findingOfCopy_0 : decode cX7_findingOfCopy 0 = .ok (.aload_n 0, 1) := by decide +kernel
theorem dX7_findingOfCopy_1 : decode cX7_findingOfCopy 1 = .ok (.iload_n 1, 1) := by decide +kernel
theorem dX7_findingOfCopy_2 : decode cX7_findingOfCopy 2 = .ok (.invokevirtual 33, 3) := by decide +kernel
theorem dX7_findingOfCopy_5 : decode cX7_findingOfCopy 5 = .ok (.ifCond .ne 11, 3) := by decide +kernel
theorem dX7_findingOfCopy_8 : decode cX7_findingOfCopy 8 = .ok (.aload_n 0, 1) := by decide +kernel
theorem dX7_findingOfCopy_9 : decode cX7_findingOfCopy 9 = .ok (.iload_n 3, 1) := by decide +kernel
theorem dX7_findingOfCopy_10 : decode cX7_findingOfCopy 10 = .ok (.invokevirtual 33, 3) := by decide +kernel
theorem dX7_findingOfCopy_13 : decode cX7_findingOfCopy 13 = .ok (.ifCond .eq 5, 3) := by decide +kernel
theorem dX7_findingOfCopy_16 : decode cX7_findingOfCopy 16 = .ok (.iconst 1, 1) := by decide +kernel
theorem dX7_findingOfCopy_17 : decode cX7_findingOfCopy 17 = .ok (.ireturn, 1) := by decide +kernel
theorem dX7_findingOfCopy_18 : decode cX7_findingOfCopy 18 = .ok (.aload_n 0, 1) := by decide +kernel
theorem dX7_findingOfCopy_19 : decode cX7_findingOfCopy 19 = .ok (.getfield 20, 3) := by decide +kernel
theorem dX7_findingOfCopy_22 : decode cX7_findingOfCopy 22 = .ok (.iload_n 1, 1) := by decide +kernel
theorem dX7_findingOfCopy_23 : decode cX7_findingOfCopy 23 = .ok (.iaload, 1) := by decide +kernel
theorem dX7_findingOfCopy_24 : decode cX7_findingOfCopy 24 = .ok (.aload_n 0, 1) := by decide +kernel
theorem dX7_findingOfCopy_25 : decode cX7_findingOfCopy 25 = .ok (.getfield 20, 3) := by decide +kernel
theorem dX7_findingOfCopy_28 : decode cX7_findingOfCopy 28 = .ok (.iload_n 3, 1) := by decide +kernel
theorem dX7_findingOfCopy_29 : decode cX7_findingOfCopy 29 = .ok (.iaload, 1) := by decide +kernel
theorem dX7_findingOfCopy_30 : decode cX7_findingOfCopy 30 = .ok (.if_icmp .eq 5, 3) := by decide +kernel
theorem dX7_findingOfCopy_33 : decode cX7_findingOfCopy 33 = .ok (.iconst 4, 1) := by decide +kernel
theorem dX7_findingOfCopy_34 : decode cX7_findingOfCopy 34 = .ok (.ireturn, 1) := by decide +kernel
theorem dX7_findingOfCopy_35 : decode cX7_findingOfCopy 35 = .ok (.aload_n 0, 1) := by decide +kernel
theorem dX7_findingOfCopy_36 : decode cX7_findingOfCopy 36 = .ok (.iload_n 1, 1) := by decide +kernel
theorem dX7_findingOfCopy_37 : decode cX7_findingOfCopy 37 = .ok (.iload_n 2, 1) := by decide +kernel
theorem dX7_findingOfCopy_38 : decode cX7_findingOfCopy 38 = .ok (.iload 5, 2) := by decide +kernel
theorem dX7_findingOfCopy_40 : decode cX7_findingOfCopy 40 = .ok (.invokevirtual 37, 3) := by decide +kernel
theorem dX7_findingOfCopy_43 : decode cX7_findingOfCopy 43 = .ok (.ifCond .eq 19, 3) := by decide +kernel
theorem dX7_findingOfCopy_46 : decode cX7_findingOfCopy 46 = .ok (.aload_n 0, 1) := by decide +kernel
theorem dX7_findingOfCopy_47 : decode cX7_findingOfCopy 47 = .ok (.iload_n 3, 1) := by decide +kernel
theorem dX7_findingOfCopy_48 : decode cX7_findingOfCopy 48 = .ok (.iload 4, 2) := by decide +kernel
theorem dX7_findingOfCopy_50 : decode cX7_findingOfCopy 50 = .ok (.iload 5, 2) := by decide +kernel
theorem dX7_findingOfCopy_52 : decode cX7_findingOfCopy 52 = .ok (.invokevirtual 37, 3) := by decide +kernel
theorem dX7_findingOfCopy_55 : decode cX7_findingOfCopy 55 = .ok (.ifCond .eq 7, 3) := by decide +kernel
theorem dX7_findingOfCopy_58 : decode cX7_findingOfCopy 58 = .ok (.iconst 0, 1) := by decide +kernel
theorem dX7_findingOfCopy_59 : decode cX7_findingOfCopy 59 = .ok (.goto 4, 3) := by decide +kernel
theorem dX7_findingOfCopy_62 : decode cX7_findingOfCopy 62 = .ok (.iconst 2, 1) := by decide +kernel
theorem dX7_findingOfCopy_63 : decode cX7_findingOfCopy 63 = .ok (.ireturn, 1) := by decide +kernel
theorem dX7_hasRun_0 : decode cX7_hasRun 0 = .ok (.iload_n 2, 1) := by decide +kernel
theorem dX7_hasRun_1 : decode cX7_hasRun 1 = .ok (.ifCond .lt 33, 3) := by decide +kernel
theorem dX7_hasRun_4 : decode cX7_hasRun 4 = .ok (.iload_n 3, 1) := by decide +kernel
theorem dX7_hasRun_5 : decode cX7_hasRun 5 = .ok (.ifCond .lt 29, 3) := by decide +kernel
theorem dX7_hasRun_8 : decode cX7_hasRun 8 = .ok (.iload_n 2, 1) := by decide +kernel
theorem dX7_hasRun_9 : decode cX7_hasRun 9 = .ok (.aload_n 0, 1) := by decide +kernel
theorem dX7_hasRun_10 : decode cX7_hasRun 10 = .ok (.getfield 16, 3) := by decide +kernel
theorem dX7_hasRun_13 : decode cX7_hasRun 13 = .ok (.iload_n 1, 1) := by decide +kernel
theorem dX7_hasRun_14 : decode cX7_hasRun 14 = .ok (.iaload, 1) := by decide +kernel
theorem dX7_hasRun_15 : decode cX7_hasRun 15 = .ok (.if_icmp .gt 19, 3) := by decide +kernel
theorem dX7_hasRun_18 : decode cX7_hasRun 18 = .ok (.iload_n 3, 1) := by decide +kernel
theorem dX7_hasRun_19 : decode cX7_hasRun 19 = .ok (.aload_n 0, 1) := by decide +kernel
theorem dX7_hasRun_20 : decode cX7_hasRun 20 = .ok (.getfield 16, 3) := by decide +kernel
theorem dX7_hasRun_23 : decode cX7_hasRun 23 = .ok (.iload_n 1, 1) := by decide +kernel
theorem dX7_hasRun_24 : decode cX7_hasRun 24 = .ok (.iaload, 1) := by decide +kernel
theorem dX7_hasRun_25 : decode cX7_hasRun 25 = .ok (.iload_n 2, 1) := by decide +kernel
theorem dX7_hasRun_26 : decode cX7_hasRun 26 = .ok (.isub, 1) := by decide +kernel
theorem dX7_hasRun_27 : decode cX7_hasRun 27 = .ok (.if_icmp .gt 7, 3) := by decide +kernel
theorem dX7_hasRun_30 : decode cX7_hasRun 30 = .ok (.iconst 1, 1) := by decide +kernel
theorem dX7_hasRun_31 : decode cX7_hasRun 31 = .ok (.goto 4, 3) := by decide +kernel
theorem dX7_hasRun_34 : decode cX7_hasRun 34 = .ok (.iconst 0, 1) := by decide +kernel
theorem dX7_hasRun_35 : decode cX7_hasRun 35 = .ok (.ireturn, 1) := by decide +kernel
theorem dX7_item_0 : decode cX7_item 0 = .ok (.iload_n 2, 1) := by decide +kernel
theorem dX7_item_1 : decode cX7_item 1 = .ok (.ifCond .lt 24, 3) := by decide +kernel
theorem dX7_item_4 : decode cX7_item 4 = .ok (.iload_n 2, 1) := by decide +kernel
theorem dX7_item_5 : decode cX7_item 5 = .ok (.aload_n 0, 1) := by decide +kernel
theorem dX7_item_6 : decode cX7_item 6 = .ok (.getfield 16, 3) := by decide +kernel
theorem dX7_item_9 : decode cX7_item 9 = .ok (.iload_n 1, 1) := by decide +kernel
theorem dX7_item_10 : decode cX7_item 10 = .ok (.iaload, 1) := by decide +kernel
theorem dX7_item_11 : decode cX7_item 11 = .ok (.if_icmp .ge 14, 3) := by decide +kernel
theorem dX7_item_14 : decode cX7_item 14 = .ok (.aload_n 0, 1) := by decide +kernel
theorem dX7_item_15 : decode cX7_item 15 = .ok (.getfield 11, 3) := by decide +kernel
theorem dX7_item_18 : decode cX7_item 18 = .ok (.iload_n 1, 1) := by decide +kernel
theorem dX7_item_19 : decode cX7_item 19 = .ok (.aaload, 1) := by decide +kernel
theorem dX7_item_20 : decode cX7_item 20 = .ok (.iload_n 2, 1) := by decide +kernel
theorem dX7_item_21 : decode cX7_item 21 = .ok (.iaload, 1) := by decide +kernel
theorem dX7_item_22 : decode cX7_item 22 = .ok (.goto 4, 3) := by decide +kernel
theorem dX7_item_25 : decode cX7_item 25 = .ok (.iconst 0, 1) := by decide +kernel
theorem dX7_item_26 : decode cX7_item 26 = .ok (.ireturn, 1) := by decide +kernel
theorem dX7_put_0 : decode cX7_put 0 = .ok (.iload_n 2, 1) := by decide +kernel
theorem dX7_put_1 : decode cX7_put 1 = .ok (.ifCond .lt 13, 3) := by decide +kernel
theorem dX7_put_4 : decode cX7_put 4 = .ok (.iload_n 2, 1) := by decide +kernel
theorem dX7_put_5 : decode cX7_put 5 = .ok (.aload_n 0, 1) := by decide +kernel
theorem dX7_put_6 : decode cX7_put 6 = .ok (.getfield 16, 3) := by decide +kernel
theorem dX7_put_9 : decode cX7_put 9 = .ok (.iload_n 1, 1) := by decide +kernel
theorem dX7_put_10 : decode cX7_put 10 = .ok (.iaload, 1) := by decide +kernel
theorem dX7_put_11 : decode cX7_put 11 = .ok (.if_icmp .lt 4, 3) := by decide +kernel
theorem dX7_put_14 : decode cX7_put 14 = .ok (.return_, 1) := by decide +kernel
theorem dX7_put_15 : decode cX7_put 15 = .ok (.aload_n 0, 1) := by decide +kernel
theorem dX7_put_16 : decode cX7_put 16 = .ok (.getfield 20, 3) := by decide +kernel
theorem dX7_put_19 : decode cX7_put 19 = .ok (.iload_n 1, 1) := by decide +kernel
theorem dX7_put_20 : decode cX7_put 20 = .ok (.iaload, 1) := by decide +kernel
theorem dX7_put_21 : decode cX7_put 21 = .ok (.ifCond .ne 16, 3) := by decide +kernel
theorem dX7_put_24 : decode cX7_put 24 = .ok (.aload_n 0, 1) := by decide +kernel
theorem dX7_put_25 : decode cX7_put 25 = .ok (.getfield 11, 3) := by decide +kernel
theorem dX7_put_28 : decode cX7_put 28 = .ok (.iload_n 1, 1) := by decide +kernel
theorem dX7_put_29 : decode cX7_put 29 = .ok (.aaload, 1) := by decide +kernel
theorem dX7_put_30 : decode cX7_put 30 = .ok (.iload_n 2, 1) := by decide +kernel
theorem dX7_put_31 : decode cX7_put 31 = .ok (.iload_n 3, 1) := by decide +kernel
theorem dX7_put_32 : decode cX7_put 32 = .ok (.i2b, 1) := by decide +kernel
theorem dX7_put_33 : decode cX7_put 33 = .ok (.iastore, 1) := by decide +kernel
theorem dX7_put_34 : decode cX7_put 34 = .ok (.goto 35, 3) := by decide +kernel
theorem dX7_put_37 : decode cX7_put 37 = .ok (.aload_n 0, 1) := by decide +kernel
theorem dX7_put_38 : decode cX7_put 38 = .ok (.getfield 20, 3) := by decide +kernel
theorem dX7_put_41 : decode cX7_put 41 = .ok (.iload_n 1, 1) := by decide +kernel
theorem dX7_put_42 : decode cX7_put 42 = .ok (.iaload, 1) := by decide +kernel
theorem dX7_put_43 : decode cX7_put 43 = .ok (.iconst 1, 1) := by decide +kernel
theorem dX7_put_44 : decode cX7_put 44 = .ok (.if_icmp .ne 16, 3) := by decide +kernel
theorem dX7_put_47 : decode cX7_put 47 = .ok (.aload_n 0, 1) := by decide +kernel
theorem dX7_put_48 : decode cX7_put 48 = .ok (.getfield 11, 3) := by decide +kernel
theorem dX7_put_51 : decode cX7_put 51 = .ok (.iload_n 1, 1) := by decide +kernel
theorem dX7_put_52 : decode cX7_put 52 = .ok (.aaload, 1) := by decide +kernel
theorem dX7_put_53 : decode cX7_put 53 = .ok (.iload_n 2, 1) := by decide +kernel
theorem dX7_put_54 : decode cX7_put 54 = .ok (.iload_n 3, 1) := by decide +kernel
theorem dX7_put_55 : decode cX7_put 55 = .ok (.i2s, 1) := by decide +kernel
theorem dX7_put_56 : decode cX7_put 56 = .ok (.iastore, 1) := by decide +kernel
theorem dX7_put_57 : decode cX7_put 57 = .ok (.goto 12, 3) := by decide +kernel
theorem dX7_put_60 : decode cX7_put 60 = .ok (.aload_n 0, 1) := by decide +kernel
theorem dX7_put_61 : decode cX7_put 61 = .ok (.getfield 11, 3) := by decide +kernel
theorem dX7_put_64 : decode cX7_put 64 = .ok (.iload_n 1, 1) := by decide +kernel
theorem dX7_put_65 : decode cX7_put 65 = .ok (.aaload, 1) := by decide +kernel
theorem dX7_put_66 : decode cX7_put 66 = .ok (.iload_n 2, 1) := by decide +kernel
theorem dX7_put_67 : decode cX7_put 67 = .ok (.iload_n 3, 1) := by decide +kernel
theorem dX7_put_68 : decode cX7_put 68 = .ok (.iastore, 1) := by decide +kernel
theorem dX7_put_69 : decode cX7_put 69 = .ok (.return_, 1) := by decide +kernel
theorem dX7_move_0 : decode cX7_move 0 = .ok (.aload_n 0, 1) := by decide +kernel
theorem dX7_move_1 : decode cX7_move 1 = .ok (.iload_n 1, 1) := by decide +kernel
theorem dX7_move_2 : decode cX7_move 2 = .ok (.iload_n 2, 1) := by decide +kernel
theorem dX7_move_3 : decode cX7_move 3 = .ok (.iload 5, 2) := by decide +kernel
theorem dX7_move_5 : decode cX7_move 5 = .ok (.invokevirtual 37, 3) := by decide +kernel
theorem dX7_move_8 : decode cX7_move 8 = .ok (.ifCond .eq 35, 3) := by decide +kernel
theorem dX7_move_11 : decode cX7_move 11 = .ok (.aload_n 0, 1) := by decide +kernel
theorem dX7_move_12 : decode cX7_move 12 = .ok (.iload_n 3, 1) := by decide +kernel
theorem dX7_move_13 : decode cX7_move 13 = .ok (.iload 4, 2) := by decide +kernel
theorem dX7_move_15 : decode cX7_move 15 = .ok (.iload 5, 2) := by decide +kernel
theorem dX7_move_17 : decode cX7_move 17 = .ok (.invokevirtual 37, 3) := by decide +kernel
theorem dX7_move_20 : decode cX7_move 20 = .ok (.ifCond .eq 23, 3) := by decide +kernel
theorem dX7_move_23 : decode cX7_move 23 = .ok (.aload_n 0, 1) := by decide +kernel
theorem dX7_move_24 : decode cX7_move 24 = .ok (.getfield 11, 3) := by decide +kernel
theorem dX7_move_27 : decode cX7_move 27 = .ok (.iload_n 1, 1) := by decide +kernel
theorem dX7_move_28 : decode cX7_move 28 = .ok (.aaload, 1) := by decide +kernel
theorem dX7_move_29 : decode cX7_move 29 = .ok (.iload_n 2, 1) := by decide +kernel
theorem dX7_move_30 : decode cX7_move 30 = .ok (.aload_n 0, 1) := by decide +kernel
theorem dX7_move_31 : decode cX7_move 31 = .ok (.getfield 11, 3) := by decide +kernel
theorem dX7_move_34 : decode cX7_move 34 = .ok (.iload_n 3, 1) := by decide +kernel
theorem dX7_move_35 : decode cX7_move 35 = .ok (.aaload, 1) := by decide +kernel
theorem dX7_move_36 : decode cX7_move 36 = .ok (.iload 4, 2) := by decide +kernel
theorem dX7_move_38 : decode cX7_move 38 = .ok (.iload 5, 2) := by decide +kernel
theorem dX7_move_40 : decode cX7_move 40 = .ok (.invokestatic 41, 3) := by decide +kernel
theorem dX7_move_43 : decode cX7_move 43 = .ok (.return_, 1) := by decide +kernel
theorem dX8_init_0 : decode cX8_init 0 = .ok (.aload_n 0, 1) := by decide +kernel
theorem dX8_init_1 : decode cX8_init 1 = .ok (.invokespecial 3, 3) := by decide +kernel
theorem dX8_init_4 : decode cX8_init 4 = .ok (.aload_n 0, 1) := by decide +kernel
theorem dX8_init_5 : decode cX8_init 5 = .ok (.bipush 50, 2) := by decide +kernel
theorem dX8_init_7 : decode cX8_init 7 = .ok (.newarray .int, 2) := by decide +kernel
theorem dX8_init_9 : decode cX8_init 9 = .ok (.putfield 9, 3) := by decide +kernel
theorem dX8_init_12 : decode cX8_init 12 = .ok (.aload_n 0, 1) := by decide +kernel
theorem dX8_init_13 : decode cX8_init 13 = .ok (.iload_n 1, 1) := by decide +kernel
theorem dX8_init_14 : decode cX8_init 14 = .ok (.bipush 50, 2) := by decide +kernel
theorem dX8_init_16 : decode cX8_init 16 = .ok (.invokestatic 15, 3) := by decide +kernel
theorem dX8_init_19 : decode cX8_init 19 = .ok (.putfield 21, 3) := by decide +kernel
theorem dX8_init_22 : decode cX8_init 22 = .ok (.return_, 1) := by decide +kernel
theorem dX8_isFull_0 : decode cX8_isFull 0 = .ok (.aload_n 0, 1) := by decide +kernel
theorem dX8_isFull_1 : decode cX8_isFull 1 = .ok (.getfield 25, 3) := by decide +kernel
theorem dX8_isFull_4 : decode cX8_isFull 4 = .ok (.aload_n 0, 1) := by decide +kernel
theorem dX8_isFull_5 : decode cX8_isFull 5 = .ok (.getfield 21, 3) := by decide +kernel
theorem dX8_isFull_8 : decode cX8_isFull 8 = .ok (.if_icmp .lt 7, 3) := by decide +kernel
theorem dX8_isFull_11 : decode cX8_isFull 11 = .ok (.iconst 1, 1) := by decide +kernel
theorem dX8_isFull_12 : decode cX8_isFull 12 = .ok (.goto 4, 3) := by decide +kernel
theorem dX8_isFull_15 : decode cX8_isFull 15 = .ok (.iconst 0, 1) := by decide +kernel
theorem dX8_isFull_16 : decode cX8_isFull 16 = .ok (.ireturn, 1) := by decide +kernel
theorem dX8_append_0 : decode cX8_append 0 = .ok (.aload_n 0, 1) := by decide +kernel
theorem dX8_append_1 : decode cX8_append 1 = .ok (.getfield 25, 3) := by decide +kernel
theorem dX8_append_4 : decode cX8_append 4 = .ok (.aload_n 0, 1) := by decide +kernel
theorem dX8_append_5 : decode cX8_append 5 = .ok (.getfield 21, 3) := by decide +kernel
theorem dX8_append_8 : decode cX8_append 8 = .ok (.if_icmp .ge 23, 3) := by decide +kernel
theorem dX8_append_11 : decode cX8_append 11 = .ok (.aload_n 0, 1) := by decide +kernel
theorem dX8_append_12 : decode cX8_append 12 = .ok (.getfield 9, 3) := by decide +kernel
theorem dX8_append_15 : decode cX8_append 15 = .ok (.aload_n 0, 1) := by decide +kernel
theorem dX8_append_16 : decode cX8_append 16 = .ok (.getfield 25, 3) := by decide +kernel
theorem dX8_append_19 : decode cX8_append 19 = .ok (.iload_n 1, 1) := by decide +kernel
theorem dX8_append_20 : decode cX8_append 20 = .ok (.iastore, 1) := by decide +kernel
theorem dX8_append_21 : decode cX8_append 21 = .ok (.aload_n 0, 1) := by decide +kernel
theorem dX8_append_22 : decode cX8_append 22 = .ok (.dup, 1) := by decide +kernel
theorem dX8_append_23 : decode cX8_append 23 = .ok (.getfield 25, 3) := by decide +kernel
theorem dX8_append_26 : decode cX8_append 26 = .ok (.iconst 1, 1) := by decide +kernel
theorem dX8_append_27 : decode cX8_append 27 = .ok (.iadd, 1) := by decide +kernel
theorem dX8_append_28 : decode cX8_append 28 = .ok (.putfield 25, 3) := by decide +kernel
theorem dX8_append_31 : decode cX8_append 31 = .ok (.return_, 1) := by decide +kernel
theorem dX8_empty_0 : decode cX8_empty 0 = .ok (.aload_n 0, 1) := by decide +kernel
theorem dX8_empty_1 : decode cX8_empty 1 = .ok (.iconst 0, 1) := by decide +kernel
theorem dX8_empty_2 : decode cX8_empty 2 = .ok (.putfield 25, 3) := by decide +kernel
theorem dX8_empty_5 : decode cX8_empty 5 = .ok (.return_, 1) := by decide +kernel
theorem dX8_size_0 : decode cX8_size 0 = .ok (.aload_n 0, 1) := by decide +kernel
theorem dX8_size_1 : decode cX8_size 1 = .ok (.getfield 25, 3) := by decide +kernel
theorem dX8_size_4 : decode cX8_size 4 = .ok (.ireturn, 1) := by decide +kernel
theorem dX8_at_0 : decode cX8_at 0 = .ok (.iload_n 1, 1) := by decide +kernel
theorem dX8_at_1 : decode cX8_at 1 = .ok (.ifCond .lt 20, 3) := by decide +kernel
theorem dX8_at_4 : decode cX8_at 4 = .ok (.iload_n 1, 1) := by decide +kernel
theorem dX8_at_5 : decode cX8_at 5 = .ok (.aload_n 0, 1) := by decide +kernel
theorem dX8_at_6 : decode cX8_at 6 = .ok (.getfield 25, 3) := by decide +kernel
theorem dX8_at_9 : decode cX8_at 9 = .ok (.if_icmp .ge 12, 3) := by decide +kernel
theorem dX8_at_12 : decode cX8_at 12 = .ok (.aload_n 0, 1) := by decide +kernel
theorem dX8_at_13 : decode cX8_at 13 = .ok (.getfield 9, 3) := by decide +kernel
theorem dX8_at_16 : decode cX8_at 16 = .ok (.iload_n 1, 1) := by decide +kernel
theorem dX8_at_17 : decode cX8_at 17 = .ok (.iaload, 1) := by decide +kernel
theorem dX8_at_18 : decode cX8_at 18 = .ok (.goto 4, 3) := by decide +kernel
theorem dX8_at_21 : decode cX8_at 21 = .ok (.iconst (-1), 1) := by decide +kernel
theorem dX8_at_22 : decode cX8_at 22 = .ok (.ireturn, 1) := by decide +kernel
theorem dX9_init_0 : decode cX9_init 0 = .ok (.aload_n 0, 1) := by decide +kernel
theorem dX9_init_1 : decode cX9_init 1 = .ok (.invokespecial 3, 3) := by decide +kernel
