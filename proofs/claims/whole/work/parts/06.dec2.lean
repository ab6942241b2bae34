theorem dX11_get_40 : decode cX11_get 40 = .ok (.iload_n 3, 1) := by decide +kernel
theorem dX11_get_41 : decode cX11_get 41 = .ok (.iadd, 1) := by decide +kernel
theorem dX11_get_42 : decode cX11_get 42 = .ok (.iaload, 1) := by decide +kernel
theorem dX11_get_43 : decode cX11_get 43 = .ok (.ireturn, 1) := by decide +kernel
theorem dX11_copy_0 : decode cX11_copy 0 = .ok (.iload_n 1, 1) := by decide +kernel
theorem dX11_copy_1 : decode cX11_copy 1 = .ok (.invokestatic 98, 3) := by decide +kernel
theorem dX11_copy_4 : decode cX11_copy 4 = .ok (.ifCond .eq 10, 3) := by decide +kernel
theorem dX11_copy_7 : decode cX11_copy 7 = .ok (.iload_n 3, 1) := by decide +kernel
theorem dX11_copy_8 : decode cX11_copy 8 = .ok (.invokestatic 98, 3) := by decide +kernel
theorem dX11_copy_11 : decode cX11_copy 11 = .ok (.ifCond .ne 6, 3) := by decide +kernel
theorem dX11_copy_14 : decode cX11_copy 14 = .ok (.bipush (-2), 2) := by decide +kernel
theorem dX11_copy_16 : decode cX11_copy 16 = .ok (.ireturn, 1) := by decide +kernel
theorem dX11_copy_17 : decode cX11_copy 17 = .ok (.aload_n 0, 1) := by decide +kernel
theorem dX11_copy_18 : decode cX11_copy 18 = .ok (.getfield 7, 3) := by decide +kernel
theorem dX11_copy_21 : decode cX11_copy 21 = .ok (.iload_n 1, 1) := by decide +kernel
theorem dX11_copy_22 : decode cX11_copy 22 = .ok (.iaload, 1) := by decide +kernel
theorem dX11_copy_23 : decode cX11_copy 23 = .ok (.ifCond .lt 12, 3) := by decide +kernel
theorem dX11_copy_26 : decode cX11_copy 26 = .ok (.aload_n 0, 1) := by decide +kernel
theorem dX11_copy_27 : decode cX11_copy 27 = .ok (.getfield 7, 3) := by decide +kernel
theorem dX11_copy_30 : decode cX11_copy 30 = .ok (.iload_n 3, 1) := by decide +kernel
theorem dX11_copy_31 : decode cX11_copy 31 = .ok (.iaload, 1) := by decide +kernel
theorem dX11_copy_32 : decode cX11_copy 32 = .ok (.ifCond .ge 9, 3) := by decide +kernel
theorem dX11_copy_35 : decode cX11_copy 35 = .ok (.aload_n 0, 1) := by decide +kernel
theorem dX11_copy_36 : decode cX11_copy 36 = .ok (.iconst 1, 1) := by decide +kernel
theorem dX11_copy_37 : decode cX11_copy 37 = .ok (.invokevirtual 104, 3) := by decide +kernel
theorem dX11_copy_40 : decode cX11_copy 40 = .ok (.ireturn, 1) := by decide +kernel
theorem dX11_copy_41 : decode cX11_copy 41 = .ok (.aload_n 0, 1) := by decide +kernel
theorem dX11_copy_42 : decode cX11_copy 42 = .ok (.getfield 7, 3) := by decide +kernel
theorem dX11_copy_45 : decode cX11_copy 45 = .ok (.iload_n 1, 1) := by decide +kernel
theorem dX11_copy_46 : decode cX11_copy 46 = .ok (.iaload, 1) := by decide +kernel
theorem dX11_copy_47 : decode cX11_copy 47 = .ok (.aload_n 0, 1) := by decide +kernel
theorem dX11_copy_48 : decode cX11_copy 48 = .ok (.getfield 7, 3) := by decide +kernel
theorem dX11_copy_51 : decode cX11_copy 51 = .ok (.iload_n 3, 1) := by decide +kernel
theorem dX11_copy_52 : decode cX11_copy 52 = .ok (.iaload, 1) := by decide +kernel
theorem dX11_copy_53 : decode cX11_copy 53 = .ok (.if_icmp .eq 9, 3) := by decide +kernel
theorem dX11_copy_56 : decode cX11_copy 56 = .ok (.aload_n 0, 1) := by decide +kernel
theorem dX11_copy_57 : decode cX11_copy 57 = .ok (.iconst 4, 1) := by decide +kernel
theorem dX11_copy_58 : decode cX11_copy 58 = .ok (.invokevirtual 104, 3) := by decide +kernel
theorem dX11_copy_61 : decode cX11_copy 61 = .ok (.ireturn, 1) := by decide +kernel
theorem dX11_copy_62 : decode cX11_copy 62 = .ok (.iload_n 2, 1) := by decide +kernel
theorem dX11_copy_63 : decode cX11_copy 63 = .ok (.ifCond .lt 48, 3) := by decide +kernel
theorem dX11_copy_66 : decode cX11_copy 66 = .ok (.iload 4, 2) := by decide +kernel
theorem dX11_copy_68 : decode cX11_copy 68 = .ok (.ifCond .lt 43, 3) := by decide +kernel
theorem dX11_copy_71 : decode cX11_copy 71 = .ok (.iload 5, 2) := by decide +kernel
theorem dX11_copy_73 : decode cX11_copy 73 = .ok (.ifCond .lt 38, 3) := by decide +kernel
theorem dX11_copy_76 : decode cX11_copy 76 = .ok (.iload_n 2, 1) := by decide +kernel
theorem dX11_copy_77 : decode cX11_copy 77 = .ok (.i2l, 1) := by decide +kernel
theorem dX11_copy_78 : decode cX11_copy 78 = .ok (.iload 5, 2) := by decide +kernel
theorem dX11_copy_80 : decode cX11_copy 80 = .ok (.i2l, 1) := by decide +kernel
theorem dX11_copy_81 : decode cX11_copy 81 = .ok (.ladd, 1) := by decide +kernel
theorem dX11_copy_82 : decode cX11_copy 82 = .ok (.aload_n 0, 1) := by decide +kernel
theorem dX11_copy_83 : decode cX11_copy 83 = .ok (.getfield 13, 3) := by decide +kernel
theorem dX11_copy_86 : decode cX11_copy 86 = .ok (.iload_n 1, 1) := by decide +kernel
theorem dX11_copy_87 : decode cX11_copy 87 = .ok (.iaload, 1) := by decide +kernel
theorem dX11_copy_88 : decode cX11_copy 88 = .ok (.i2l, 1) := by decide +kernel
theorem dX11_copy_89 : decode cX11_copy 89 = .ok (.lcmp, 1) := by decide +kernel
theorem dX11_copy_90 : decode cX11_copy 90 = .ok (.ifCond .gt 21, 3) := by decide +kernel
theorem dX11_copy_93 : decode cX11_copy 93 = .ok (.iload 4, 2) := by decide +kernel
theorem dX11_copy_95 : decode cX11_copy 95 = .ok (.i2l, 1) := by decide +kernel
theorem dX11_copy_96 : decode cX11_copy 96 = .ok (.iload 5, 2) := by decide +kernel
theorem dX11_copy_98 : decode cX11_copy 98 = .ok (.i2l, 1) := by decide +kernel
theorem dX11_copy_99 : decode cX11_copy 99 = .ok (.ladd, 1) := by decide +kernel
theorem dX11_copy_100 : decode cX11_copy 100 = .ok (.aload_n 0, 1) := by decide +kernel
theorem dX11_copy_101 : decode cX11_copy 101 = .ok (.getfield 13, 3) := by decide +kernel
theorem dX11_copy_104 : decode cX11_copy 104 = .ok (.iload_n 3, 1) := by decide +kernel
theorem dX11_copy_105 : decode cX11_copy 105 = .ok (.iaload, 1) := by decide +kernel
theorem dX11_copy_106 : decode cX11_copy 106 = .ok (.i2l, 1) := by decide +kernel
theorem dX11_copy_107 : decode cX11_copy 107 = .ok (.lcmp, 1) := by decide +kernel
theorem dX11_copy_108 : decode cX11_copy 108 = .ok (.ifCond .le 9, 3) := by decide +kernel
theorem dX11_copy_111 : decode cX11_copy 111 = .ok (.aload_n 0, 1) := by decide +kernel
theorem dX11_copy_112 : decode cX11_copy 112 = .ok (.iconst 2, 1) := by decide +kernel
theorem dX11_copy_113 : decode cX11_copy 113 = .ok (.invokevirtual 104, 3) := by decide +kernel
theorem dX11_copy_116 : decode cX11_copy 116 = .ok (.ireturn, 1) := by decide +kernel
theorem dX11_copy_117 : decode cX11_copy 117 = .ok (.iconst 0, 1) := by decide +kernel
theorem dX11_copy_118 : decode cX11_copy 118 = .ok (.istore 6, 2) := by decide +kernel
theorem dX11_copy_120 : decode cX11_copy 120 = .ok (.iload 6, 2) := by decide +kernel
theorem dX11_copy_122 : decode cX11_copy 122 = .ok (.iload 5, 2) := by decide +kernel
theorem dX11_copy_124 : decode cX11_copy 124 = .ok (.if_icmp .ge 30, 3) := by decide +kernel
theorem dX11_copy_127 : decode cX11_copy 127 = .ok (.aload_n 0, 1) := by decide +kernel
theorem dX11_copy_128 : decode cX11_copy 128 = .ok (.getfield 19, 3) := by decide +kernel
theorem dX11_copy_131 : decode cX11_copy 131 = .ok (.iload 6, 2) := by decide +kernel
theorem dX11_copy_133 : decode cX11_copy 133 = .ok (.aload_n 0, 1) := by decide +kernel
theorem dX11_copy_134 : decode cX11_copy 134 = .ok (.getfield 16, 3) := by decide +kernel
theorem dX11_copy_137 : decode cX11_copy 137 = .ok (.bipush 60, 2) := by decide +kernel
theorem dX11_copy_139 : decode cX11_copy 139 = .ok (.iload_n 1, 1) := by decide +kernel
theorem dX11_copy_140 : decode cX11_copy 140 = .ok (.imul, 1) := by decide +kernel
theorem dX11_copy_141 : decode cX11_copy 141 = .ok (.iload_n 2, 1) := by decide +kernel
theorem dX11_copy_142 : decode cX11_copy 142 = .ok (.iadd, 1) := by decide +kernel
theorem dX11_copy_143 : decode cX11_copy 143 = .ok (.iload 6, 2) := by decide +kernel
theorem dX11_copy_145 : decode cX11_copy 145 = .ok (.iadd, 1) := by decide +kernel
theorem dX11_copy_146 : decode cX11_copy 146 = .ok (.iaload, 1) := by decide +kernel
theorem dX11_copy_147 : decode cX11_copy 147 = .ok (.iastore, 1) := by decide +kernel
theorem dX11_copy_148 : decode cX11_copy 148 = .ok (.iinc 6 1, 3) := by decide +kernel
theorem dX11_copy_151 : decode cX11_copy 151 = .ok (.goto (-31), 3) := by decide +kernel
theorem dX11_copy_154 : decode cX11_copy 154 = .ok (.iconst 0, 1) := by decide +kernel
theorem dX11_copy_155 : decode cX11_copy 155 = .ok (.istore 6, 2) := by decide +kernel
theorem dX11_copy_157 : decode cX11_copy 157 = .ok (.iload 6, 2) := by decide +kernel
theorem dX11_copy_159 : decode cX11_copy 159 = .ok (.iload 5, 2) := by decide +kernel
theorem dX11_copy_161 : decode cX11_copy 161 = .ok (.if_icmp .ge 31, 3) := by decide +kernel
theorem dX11_copy_164 : decode cX11_copy 164 = .ok (.aload_n 0, 1) := by decide +kernel
theorem dX11_copy_165 : decode cX11_copy 165 = .ok (.getfield 16, 3) := by decide +kernel
theorem dX11_copy_168 : decode cX11_copy 168 = .ok (.bipush 60, 2) := by decide +kernel
theorem dX11_copy_170 : decode cX11_copy 170 = .ok (.iload_n 3, 1) := by decide +kernel
theorem dX11_copy_171 : decode cX11_copy 171 = .ok (.imul, 1) := by decide +kernel
theorem dX11_copy_172 : decode cX11_copy 172 = .ok (.iload 4, 2) := by decide +kernel
theorem dX11_copy_174 : decode cX11_copy 174 = .ok (.iadd, 1) := by decide +kernel
theorem dX11_copy_175 : decode cX11_copy 175 = .ok (.iload 6, 2) := by decide +kernel
theorem dX11_copy_177 : decode cX11_copy 177 = .ok (.iadd, 1) := by decide +kernel
theorem dX11_copy_178 : decode cX11_copy 178 = .ok (.aload_n 0, 1) := by decide +kernel
theorem dX11_copy_179 : decode cX11_copy 179 = .ok (.getfield 19, 3) := by decide +kernel
theorem dX11_copy_182 : decode cX11_copy 182 = .ok (.iload 6, 2) := by decide +kernel
theorem dX11_copy_184 : decode cX11_copy 184 = .ok (.iaload, 1) := by decide +kernel
theorem dX11_copy_185 : decode cX11_copy 185 = .ok (.iastore, 1) := by decide +kernel
theorem dX11_copy_186 : decode cX11_copy 186 = .ok (.iinc 6 1, 3) := by decide +kernel
theorem dX11_copy_189 : decode cX11_copy 189 = .ok (.goto (-32), 3) := by decide +kernel
theorem dX11_copy_192 : decode cX11_copy 192 = .ok (.iconst 1, 1) := by decide +kernel
theorem dX11_copy_193 : decode cX11_copy 193 = .ok (.ireturn, 1) := by decide +kernel
theorem dX11_isText_0 : decode cX11_isText 0 = .ok (.iload_n 0, 1) := by decide +kernel
theorem dX11_isText_1 : decode cX11_isText 1 = .ok (.i2l, 1) := by decide +kernel
theorem dX11_isText_2 : decode cX11_isText 2 = .ok (.lconst 0, 1) := by decide +kernel
theorem dX11_isText_3 : decode cX11_isText 3 = .ok (.ldc2_w 96, 3) := by decide +kernel
theorem dX11_isText_6 : decode cX11_isText 6 = .ok (.invokestatic 86, 3) := by decide +kernel
theorem dX11_isText_9 : decode cX11_isText 9 = .ok (.ireturn, 1) := by decide +kernel
theorem dX11_isWay_0 : decode cX11_isWay 0 = .ok (.iload_n 0, 1) := by decide +kernel
theorem dX11_isWay_1 : decode cX11_isWay 1 = .ok (.i2l, 1) := by decide +kernel
theorem dX11_isWay_2 : decode cX11_isWay 2 = .ok (.lconst 1, 1) := by decide +kernel
theorem dX11_isWay_3 : decode cX11_isWay 3 = .ok (.ldc2_w 96, 3) := by decide +kernel
theorem dX11_isWay_6 : decode cX11_isWay 6 = .ok (.invokestatic 86, 3) := by decide +kernel
theorem dX11_isWay_9 : decode cX11_isWay 9 = .ok (.ireturn, 1) := by decide +kernel
theorem dX11_from_0 : decode cX11_from 0 = .ok (.iload_n 0, 1) := by decide +kernel
theorem dX11_from_1 : decode cX11_from 1 = .ok (.ifCond .ne 7, 3) := by decide +kernel
theorem dX11_from_4 : decode cX11_from 4 = .ok (.iconst 0, 1) := by decide +kernel
theorem dX11_from_5 : decode cX11_from 5 = .ok (.goto 10, 3) := by decide +kernel
theorem dX11_from_8 : decode cX11_from 8 = .ok (.bipush 20, 2) := by decide +kernel
theorem dX11_from_10 : decode cX11_from 10 = .ok (.bipush 30, 2) := by decide +kernel
theorem dX11_from_12 : decode cX11_from 12 = .ok (.iload_n 0, 1) := by decide +kernel
theorem dX11_from_13 : decode cX11_from 13 = .ok (.imul, 1) := by decide +kernel
theorem dX11_from_14 : decode cX11_from 14 = .ok (.iadd, 1) := by decide +kernel
theorem dX11_from_15 : decode cX11_from 15 = .ok (.ireturn, 1) := by decide +kernel
theorem dX11_type_0 : decode cX11_type 0 = .ok (.iload_n 1, 1) := by decide +kernel
theorem dX11_type_1 : decode cX11_type 1 = .ok (.invokestatic 117, 3) := by decide +kernel
theorem dX11_type_4 : decode cX11_type 4 = .ok (.ifCond .eq 15, 3) := by decide +kernel
theorem dX11_type_7 : decode cX11_type 7 = .ok (.iload_n 2, 1) := by decide +kernel
theorem dX11_type_8 : decode cX11_type 8 = .ok (.i2l, 1) := by decide +kernel
theorem dX11_type_9 : decode cX11_type 9 = .ok (.lconst 0, 1) := by decide +kernel
theorem dX11_type_10 : decode cX11_type 10 = .ok (.ldc2_w 120, 3) := by decide +kernel
theorem dX11_type_13 : decode cX11_type 13 = .ok (.invokestatic 86, 3) := by decide +kernel
theorem dX11_type_16 : decode cX11_type 16 = .ok (.ifCond .ne 6, 3) := by decide +kernel
theorem dX11_type_19 : decode cX11_type 19 = .ok (.bipush (-2), 2) := by decide +kernel
theorem dX11_type_21 : decode cX11_type 21 = .ok (.ireturn, 1) := by decide +kernel
theorem dX11_type_22 : decode cX11_type 22 = .ok (.aload_n 0, 1) := by decide +kernel
theorem dX11_type_23 : decode cX11_type 23 = .ok (.getfield 25, 3) := by decide +kernel
theorem dX11_type_26 : decode cX11_type 26 = .ok (.iload_n 1, 1) := by decide +kernel
theorem dX11_type_27 : decode cX11_type 27 = .ok (.iaload, 1) := by decide +kernel
theorem dX11_type_28 : decode cX11_type 28 = .ok (.iload_n 1, 1) := by decide +kernel
theorem dX11_type_29 : decode cX11_type 29 = .ok (.ifCond .ne 8, 3) := by decide +kernel
theorem dX11_type_32 : decode cX11_type 32 = .ok (.bipush 50, 2) := by decide +kernel
theorem dX11_type_34 : decode cX11_type 34 = .ok (.goto 5, 3) := by decide +kernel
theorem dX11_type_37 : decode cX11_type 37 = .ok (.bipush 30, 2) := by decide +kernel
theorem dX11_type_39 : decode cX11_type 39 = .ok (.if_icmp .ne 6, 3) := by decide +kernel
theorem dX11_type_42 : decode cX11_type 42 = .ok (.bipush (-4), 2) := by decide +kernel
theorem dX11_type_44 : decode cX11_type 44 = .ok (.ireturn, 1) := by decide +kernel
theorem dX11_type_45 : decode cX11_type 45 = .ok (.aload_n 0, 1) := by decide +kernel
theorem dX11_type_46 : decode cX11_type 46 = .ok (.getfield 22, 3) := by decide +kernel
theorem dX11_type_49 : decode cX11_type 49 = .ok (.iload_n 1, 1) := by decide +kernel
theorem dX11_type_50 : decode cX11_type 50 = .ok (.invokestatic 122, 3) := by decide +kernel
theorem dX11_type_53 : decode cX11_type 53 = .ok (.aload_n 0, 1) := by decide +kernel
theorem dX11_type_54 : decode cX11_type 54 = .ok (.getfield 25, 3) := by decide +kernel
theorem dX11_type_57 : decode cX11_type 57 = .ok (.iload_n 1, 1) := by decide +kernel
theorem dX11_type_58 : decode cX11_type 58 = .ok (.iaload, 1) := by decide +kernel
theorem dX11_type_59 : decode cX11_type 59 = .ok (.iadd, 1) := by decide +kernel
theorem dX11_type_60 : decode cX11_type 60 = .ok (.iload_n 2, 1) := by decide +kernel
theorem dX11_type_61 : decode cX11_type 61 = .ok (.iastore, 1) := by decide +kernel
theorem dX11_type_62 : decode cX11_type 62 = .ok (.aload_n 0, 1) := by decide +kernel
theorem dX11_type_63 : decode cX11_type 63 = .ok (.getfield 25, 3) := by decide +kernel
theorem dX11_type_66 : decode cX11_type 66 = .ok (.iload_n 1, 1) := by decide +kernel
theorem dX11_type_67 : decode cX11_type 67 = .ok (.dup2, 1) := by decide +kernel
theorem dX11_type_68 : decode cX11_type 68 = .ok (.iaload, 1) := by decide +kernel
theorem dX11_type_69 : decode cX11_type 69 = .ok (.iconst 1, 1) := by decide +kernel
theorem dX11_type_70 : decode cX11_type 70 = .ok (.iadd, 1) := by decide +kernel
theorem dX11_type_71 : decode cX11_type 71 = .ok (.iastore, 1) := by decide +kernel
theorem dX11_type_72 : decode cX11_type 72 = .ok (.aload_n 0, 1) := by decide +kernel
theorem dX11_type_73 : decode cX11_type 73 = .ok (.getfield 25, 3) := by decide +kernel
theorem dX11_type_76 : decode cX11_type 76 = .ok (.iload_n 1, 1) := by decide +kernel
theorem dX11_type_77 : decode cX11_type 77 = .ok (.iaload, 1) := by decide +kernel
theorem dX11_type_78 : decode cX11_type 78 = .ok (.ireturn, 1) := by decide +kernel
theorem dX11_wipe_0 : decode cX11_wipe 0 = .ok (.iload_n 1, 1) := by decide +kernel
theorem dX11_wipe_1 : decode cX11_wipe 1 = .ok (.invokestatic 117, 3) := by decide +kernel
theorem dX11_wipe_4 : decode cX11_wipe 4 = .ok (.ifCond .ne 6, 3) := by decide +kernel
theorem dX11_wipe_7 : decode cX11_wipe 7 = .ok (.bipush (-2), 2) := by decide +kernel
theorem dX11_wipe_9 : decode cX11_wipe 9 = .ok (.ireturn, 1) := by decide +kernel
theorem dX11_wipe_10 : decode cX11_wipe 10 = .ok (.aload_n 0, 1) := by decide +kernel
theorem dX11_wipe_11 : decode cX11_wipe 11 = .ok (.getfield 25, 3) := by decide +kernel
theorem dX11_wipe_14 : decode cX11_wipe 14 = .ok (.iload_n 1, 1) := by decide +kernel
theorem dX11_wipe_15 : decode cX11_wipe 15 = .ok (.iaload, 1) := by decide +kernel
theorem dX11_wipe_16 : decode cX11_wipe 16 = .ok (.istore_n 2, 1) := by decide +kernel
theorem dX11_wipe_17 : decode cX11_wipe 17 = .ok (.aload_n 0, 1) := by decide +kernel
theorem dX11_wipe_18 : decode cX11_wipe 18 = .ok (.getfield 25, 3) := by decide +kernel
theorem dX11_wipe_21 : decode cX11_wipe 21 = .ok (.iload_n 1, 1) := by decide +kernel
theorem dX11_wipe_22 : decode cX11_wipe 22 = .ok (.iconst 0, 1) := by decide +kernel
theorem dX11_wipe_23 : decode cX11_wipe 23 = .ok (.iastore, 1) := by decide +kernel
theorem dX11_wipe_24 : decode cX11_wipe 24 = .ok (.iload_n 2, 1) := by decide +kernel
theorem dX11_wipe_25 : decode cX11_wipe 25 = .ok (.ireturn, 1) := by decide +kernel
theorem dX11_here_0 : decode cX11_here 0 = .ok (.aload_n 0, 1) := by decide +kernel
theorem dX11_here_1 : decode cX11_here 1 = .ok (.getfield 125, 3) := by decide +kernel
theorem dX11_here_4 : decode cX11_here 4 = .ok (.aload_n 0, 1) := by decide +kernel
theorem dX11_here_5 : decode cX11_here 5 = .ok (.getfield 25, 3) := by decide +kernel
theorem dX11_here_8 : decode cX11_here 8 = .ok (.iconst 0, 1) := by decide +kernel
theorem dX11_here_9 : decode cX11_here 9 = .ok (.iaload, 1) := by decide +kernel
theorem dX11_here_10 : decode cX11_here 10 = .ok (.if_icmp .ge 15, 3) := by decide +kernel
theorem dX11_here_13 : decode cX11_here 13 = .ok (.aload_n 0, 1) := by decide +kernel
theorem dX11_here_14 : decode cX11_here 14 = .ok (.getfield 22, 3) := by decide +kernel
theorem dX11_here_17 : decode cX11_here 17 = .ok (.aload_n 0, 1) := by decide +kernel
theorem dX11_here_18 : decode cX11_here 18 = .ok (.getfield 125, 3) := by decide +kernel
theorem dX11_here_21 : decode cX11_here 21 = .ok (.iaload, 1) := by decide +kernel
theorem dX11_here_22 : decode cX11_here 22 = .ok (.goto 4, 3) := by decide +kernel
theorem dX11_here_25 : decode cX11_here 25 = .ok (.iconst (-1), 1) := by decide +kernel
theorem dX11_here_26 : decode cX11_here 26 = .ok (.ireturn, 1) := by decide +kernel
theorem dX11_clears_0 : decode cX11_clears 0 = .ok (.aload_n 0, 1) := by decide +kernel
theorem dX11_clears_1 : decode cX11_clears 1 = .ok (.iconst 0, 1) := by decide +kernel
theorem dX11_clears_2 : decode cX11_clears 2 = .ok (.putfield 128, 3) := by decide +kernel
theorem dX11_clears_5 : decode cX11_clears 5 = .ok (.aload_n 0, 1) := by decide +kernel
theorem dX11_clears_6 : decode cX11_clears 6 = .ok (.bipush 11, 2) := by decide +kernel
theorem dX11_clears_8 : decode cX11_clears 8 = .ok (.putfield 131, 3) := by decide +kernel
theorem dX11_clears_11 : decode cX11_clears 11 = .ok (.return_, 1) := by decide +kernel
theorem dX11_readsRoom_0 : decode cX11_readsRoom 0 = .ok (.aload_n 0, 1) := by decide +kernel
theorem dX11_readsRoom_1 : decode cX11_readsRoom 1 = .ok (.dup, 1) := by decide +kernel
theorem dX11_readsRoom_2 : decode cX11_readsRoom 2 = .ok (.getfield 125, 3) := by decide +kernel
theorem dX11_readsRoom_5 : decode cX11_readsRoom 5 = .ok (.iconst 1, 1) := by decide +kernel
theorem dX11_readsRoom_6 : decode cX11_readsRoom 6 = .ok (.iadd, 1) := by decide +kernel
theorem dX11_readsRoom_7 : decode cX11_readsRoom 7 = .ok (.putfield 125, 3) := by decide +kernel
theorem dX11_readsRoom_10 : decode cX11_readsRoom 10 = .ok (.aload_n 0, 1) := by decide +kernel
theorem dX11_readsRoom_11 : decode cX11_readsRoom 11 = .ok (.getfield 125, 3) := by decide +kernel
theorem dX11_readsRoom_14 : decode cX11_readsRoom 14 = .ok (.istore_n 1, 1) := by decide +kernel
theorem dX11_readsRoom_15 : decode cX11_readsRoom 15 = .ok (.iconst 0, 1) := by decide +kernel
theorem dX11_readsRoom_16 : decode cX11_readsRoom 16 = .ok (.istore_n 2, 1) := by decide +kernel
theorem dX11_readsRoom_17 : decode cX11_readsRoom 17 = .ok (.aload_n 0, 1) := by decide +kernel
theorem dX11_readsRoom_18 : decode cX11_readsRoom 18 = .ok (.getfield 125, 3) := by decide +kernel
theorem dX11_readsRoom_21 : decode cX11_readsRoom 21 = .ok (.iload_n 1, 1) := by decide +kernel
theorem dX11_readsRoom_22 : decode cX11_readsRoom 22 = .ok (.iconst 2, 1) := by decide +kernel
theorem dX11_readsRoom_23 : decode cX11_readsRoom 23 = .ok (.iadd, 1) := by decide +kernel
theorem dX11_readsRoom_24 : decode cX11_readsRoom 24 = .ok (.if_icmp .ge 46, 3) := by decide +kernel
theorem dX11_readsRoom_27 : decode cX11_readsRoom 27 = .ok (.aload_n 0, 1) := by decide +kernel
theorem dX11_readsRoom_28 : decode cX11_readsRoom 28 = .ok (.invokevirtual 134, 3) := by decide +kernel
theorem dX11_readsRoom_31 : decode cX11_readsRoom 31 = .ok (.i2l, 1) := by decide +kernel
theorem dX11_readsRoom_32 : decode cX11_readsRoom 32 = .ok (.ldc2_w 138, 3) := by decide +kernel
theorem dX11_readsRoom_35 : decode cX11_readsRoom 35 = .ok (.ldc2_w 140, 3) := by decide +kernel
theorem dX11_readsRoom_38 : decode cX11_readsRoom 38 = .ok (.invokestatic 86, 3) := by decide +kernel
theorem dX11_readsRoom_41 : decode cX11_readsRoom 41 = .ok (.ifCond .eq 29, 3) := by decide +kernel
theorem dX11_readsRoom_44 : decode cX11_readsRoom 44 = .ok (.bipush 10, 2) := by decide +kernel
theorem dX11_readsRoom_46 : decode cX11_readsRoom 46 = .ok (.iload_n 2, 1) := by decide +kernel
theorem dX11_readsRoom_47 : decode cX11_readsRoom 47 = .ok (.imul, 1) := by decide +kernel
theorem dX11_readsRoom_48 : decode cX11_readsRoom 48 = .ok (.aload_n 0, 1) := by decide +kernel
theorem dX11_readsRoom_49 : decode cX11_readsRoom 49 = .ok (.invokevirtual 134, 3) := by decide +kernel
theorem dX11_readsRoom_52 : decode cX11_readsRoom 52 = .ok (.iadd, 1) := by decide +kernel
theorem dX11_readsRoom_53 : decode cX11_readsRoom 53 = .ok (.bipush 48, 2) := by decide +kernel
theorem dX11_readsRoom_55 : decode cX11_readsRoom 55 = .ok (.isub, 1) := by decide +kernel
theorem dX11_readsRoom_56 : decode cX11_readsRoom 56 = .ok (.istore_n 2, 1) := by decide +kernel
theorem dX11_readsRoom_57 : decode cX11_readsRoom 57 = .ok (.aload_n 0, 1) := by decide +kernel
theorem dX11_readsRoom_58 : decode cX11_readsRoom 58 = .ok (.dup, 1) := by decide +kernel
theorem dX11_readsRoom_59 : decode cX11_readsRoom 59 = .ok (.getfield 125, 3) := by decide +kernel
theorem dX11_readsRoom_62 : decode cX11_readsRoom 62 = .ok (.iconst 1, 1) := by decide +kernel
theorem dX11_readsRoom_63 : decode cX11_readsRoom 63 = .ok (.iadd, 1) := by decide +kernel
theorem dX11_readsRoom_64 : decode cX11_readsRoom 64 = .ok (.putfield 125, 3) := by decide +kernel
theorem dX11_readsRoom_67 : decode cX11_readsRoom 67 = .ok (.goto (-50), 3) := by decide +kernel
theorem dX11_readsRoom_70 : decode cX11_readsRoom 70 = .ok (.aload_n 0, 1) := by decide +kernel
theorem dX11_readsRoom_71 : decode cX11_readsRoom 71 = .ok (.getfield 125, 3) := by decide +kernel
theorem dX11_readsRoom_74 : decode cX11_readsRoom 74 = .ok (.iload_n 1, 1) := by decide +kernel
theorem dX11_readsRoom_75 : decode cX11_readsRoom 75 = .ok (.if_icmp .le 22, 3) := by decide +kernel
theorem dX11_readsRoom_78 : decode cX11_readsRoom 78 = .ok (.iload_n 2, 1) := by decide +kernel
theorem dX11_readsRoom_79 : decode cX11_readsRoom 79 = .ok (.i2l, 1) := by decide +kernel
theorem dX11_readsRoom_80 : decode cX11_readsRoom 80 = .ok (.lconst 1, 1) := by decide +kernel
theorem dX11_readsRoom_81 : decode cX11_readsRoom 81 = .ok (.ldc2_w 142, 3) := by decide +kernel
theorem dX11_readsRoom_84 : decode cX11_readsRoom 84 = .ok (.invokestatic 86, 3) := by decide +kernel
theorem dX11_readsRoom_87 : decode cX11_readsRoom 87 = .ok (.ifCond .eq 10, 3) := by decide +kernel
theorem dX11_readsRoom_90 : decode cX11_readsRoom 90 = .ok (.aload_n 0, 1) := by decide +kernel
theorem dX11_readsRoom_91 : decode cX11_readsRoom 91 = .ok (.iload_n 2, 1) := by decide +kernel
theorem dX11_readsRoom_92 : decode cX11_readsRoom 92 = .ok (.putfield 131, 3) := by decide +kernel
theorem dX11_readsRoom_95 : decode cX11_readsRoom 95 = .ok (.iconst 1, 1) := by decide +kernel
theorem dX11_readsRoom_96 : decode cX11_readsRoom 96 = .ok (.ireturn, 1) := by decide +kernel
theorem dX11_readsRoom_97 : decode cX11_readsRoom 97 = .ok (.aload_n 0, 1) := by decide +kernel
theorem dX11_readsRoom_98 : decode cX11_readsRoom 98 = .ok (.iload_n 1, 1) := by decide +kernel
theorem dX11_readsRoom_99 : decode cX11_readsRoom 99 = .ok (.putfield 125, 3) := by decide +kernel
theorem dX11_readsRoom_102 : decode cX11_readsRoom 102 = .ok (.iconst 0, 1) := by decide +kernel
theorem dX11_readsRoom_103 : decode cX11_readsRoom 103 = .ok (.ireturn, 1) := by decide +kernel
theorem dX11_readsPart_0 : decode cX11_readsPart 0 = .ok (.aload_n 0, 1) := by decide +kernel
theorem dX11_readsPart_1 : decode cX11_readsPart 1 = .ok (.invokevirtual 134, 3) := by decide +kernel
theorem dX11_readsPart_4 : decode cX11_readsPart 4 = .ok (.bipush 114, 2) := by decide +kernel
theorem dX11_readsPart_6 : decode cX11_readsPart 6 = .ok (.if_icmp .ne 8, 3) := by decide +kernel
theorem dX11_readsPart_9 : decode cX11_readsPart 9 = .ok (.aload_n 0, 1) := by decide +kernel
theorem dX11_readsPart_10 : decode cX11_readsPart 10 = .ok (.invokevirtual 144, 3) := by decide +kernel
theorem dX11_readsPart_13 : decode cX11_readsPart 13 = .ok (.ireturn, 1) := by decide +kernel
theorem dX11_readsPart_14 : decode cX11_readsPart 14 = .ok (.aload_n 0, 1) := by decide +kernel
theorem dX11_readsPart_15 : decode cX11_readsPart 15 = .ok (.invokevirtual 134, 3) := by decide +kernel
theorem dX11_readsPart_18 : decode cX11_readsPart 18 = .ok (.bipush 48, 2) := by decide +kernel
theorem dX11_readsPart_20 : decode cX11_readsPart 20 = .ok (.isub, 1) := by decide +kernel
theorem dX11_readsPart_21 : decode cX11_readsPart 21 = .ok (.istore_n 1, 1) := by decide +kernel
theorem dX11_readsPart_22 : decode cX11_readsPart 22 = .ok (.iload_n 1, 1) := by decide +kernel
theorem dX11_readsPart_23 : decode cX11_readsPart 23 = .ok (.invokestatic 148, 3) := by decide +kernel
theorem dX11_readsPart_26 : decode cX11_readsPart 26 = .ok (.ifCond .eq 12, 3) := by decide +kernel
theorem dX11_readsPart_29 : decode cX11_readsPart 29 = .ok (.aload_n 0, 1) := by decide +kernel
theorem dX11_readsPart_30 : decode cX11_readsPart 30 = .ok (.getfield 128, 3) := by decide +kernel
theorem dX11_readsPart_33 : decode cX11_readsPart 33 = .ok (.bipush 9, 2) := by decide +kernel
theorem dX11_readsPart_35 : decode cX11_readsPart 35 = .ok (.if_icmp .ne 5, 3) := by decide +kernel
theorem dX11_readsPart_38 : decode cX11_readsPart 38 = .ok (.iconst 0, 1) := by decide +kernel
theorem dX11_readsPart_39 : decode cX11_readsPart 39 = .ok (.ireturn, 1) := by decide +kernel
theorem dX11_readsPart_40 : decode cX11_readsPart 40 = .ok (.aload_n 0, 1) := by decide +kernel
theorem dX11_readsPart_41 : decode cX11_readsPart 41 = .ok (.dup, 1) := by decide +kernel
theorem dX11_readsPart_42 : decode cX11_readsPart 42 = .ok (.getfield 125, 3) := by decide +kernel
theorem dX11_readsPart_45 : decode cX11_readsPart 45 = .ok (.iconst 1, 1) := by decide +kernel
theorem dX11_readsPart_46 : decode cX11_readsPart 46 = .ok (.iadd, 1) := by decide +kernel
theorem dX11_readsPart_47 : decode cX11_readsPart 47 = .ok (.putfield 125, 3) := by decide +kernel
theorem dX11_readsPart_50 : decode cX11_readsPart 50 = .ok (.aload_n 0, 1) := by decide +kernel
theorem dX11_readsPart_51 : decode cX11_readsPart 51 = .ok (.invokevirtual 134, 3) := by decide +kernel
theorem dX11_readsPart_54 : decode cX11_readsPart 54 = .ok (.bipush 48, 2) := by decide +kernel
theorem dX11_readsPart_56 : decode cX11_readsPart 56 = .ok (.isub, 1) := by decide +kernel
theorem dX11_readsPart_57 : decode cX11_readsPart 57 = .ok (.istore_n 2, 1) := by decide +kernel
theorem dX11_readsPart_58 : decode cX11_readsPart 58 = .ok (.iload_n 2, 1) := by decide +kernel
theorem dX11_readsPart_59 : decode cX11_readsPart 59 = .ok (.invokestatic 148, 3) := by decide +kernel
theorem dX11_readsPart_62 : decode cX11_readsPart 62 = .ok (.ifCond .ne 5, 3) := by decide +kernel
theorem dX11_readsPart_65 : decode cX11_readsPart 65 = .ok (.iconst 0, 1) := by decide +kernel
theorem dX11_readsPart_66 : decode cX11_readsPart 66 = .ok (.ireturn, 1) := by decide +kernel
theorem dX11_readsPart_67 : decode cX11_readsPart 67 = .ok (.aload_n 0, 1) := by decide +kernel
theorem dX11_readsPart_68 : decode cX11_readsPart 68 = .ok (.dup, 1) := by decide +kernel
theorem dX11_readsPart_69 : decode cX11_readsPart 69 = .ok (.getfield 125, 3) := by decide +kernel
theorem dX11_readsPart_72 : decode cX11_readsPart 72 = .ok (.iconst 1, 1) := by decide +kernel
theorem dX11_readsPart_73 : decode cX11_readsPart 73 = .ok (.iadd, 1) := by decide +kernel
theorem dX11_readsPart_74 : decode cX11_readsPart 74 = .ok (.putfield 125, 3) := by decide +kernel
theorem dX11_readsPart_77 : decode cX11_readsPart 77 = .ok (.aload_n 0, 1) := by decide +kernel
theorem dX11_readsPart_78 : decode cX11_readsPart 78 = .ok (.getfield 28, 3) := by decide +kernel
theorem dX11_readsPart_81 : decode cX11_readsPart 81 = .ok (.aload_n 0, 1) := by decide +kernel
theorem dX11_readsPart_82 : decode cX11_readsPart 82 = .ok (.getfield 128, 3) := by decide +kernel
theorem dX11_readsPart_85 : decode cX11_readsPart 85 = .ok (.iload_n 1, 1) := by decide +kernel
theorem dX11_readsPart_86 : decode cX11_readsPart 86 = .ok (.iastore, 1) := by decide +kernel
theorem dX11_readsPart_87 : decode cX11_readsPart 87 = .ok (.aload_n 0, 1) := by decide +kernel
theorem dX11_readsPart_88 : decode cX11_readsPart 88 = .ok (.getfield 31, 3) := by decide +kernel
theorem dX11_readsPart_91 : decode cX11_readsPart 91 = .ok (.aload_n 0, 1) := by decide +kernel
theorem dX11_readsPart_92 : decode cX11_readsPart 92 = .ok (.getfield 128, 3) := by decide +kernel
theorem dX11_readsPart_95 : decode cX11_readsPart 95 = .ok (.iload_n 2, 1) := by decide +kernel
theorem dX11_readsPart_96 : decode cX11_readsPart 96 = .ok (.iastore, 1) := by decide +kernel
theorem dX11_readsPart_97 : decode cX11_readsPart 97 = .ok (.aload_n 0, 1) := by decide +kernel
theorem dX11_readsPart_98 : decode cX11_readsPart 98 = .ok (.getfield 34, 3) := by decide +kernel
theorem dX11_readsPart_101 : decode cX11_readsPart 101 = .ok (.aload_n 0, 1) := by decide +kernel
theorem dX11_readsPart_102 : decode cX11_readsPart 102 = .ok (.getfield 128, 3) := by decide +kernel
theorem dX11_readsPart_105 : decode cX11_readsPart 105 = .ok (.aload_n 0, 1) := by decide +kernel
theorem dX11_readsPart_106 : decode cX11_readsPart 106 = .ok (.invokevirtual 134, 3) := by decide +kernel
theorem dX11_readsPart_109 : decode cX11_readsPart 109 = .ok (.bipush 117, 2) := by decide +kernel
theorem dX11_readsPart_111 : decode cX11_readsPart 111 = .ok (.if_icmp .eq 7, 3) := by decide +kernel
theorem dX11_readsPart_114 : decode cX11_readsPart 114 = .ok (.iconst 1, 1) := by decide +kernel
theorem dX11_readsPart_115 : decode cX11_readsPart 115 = .ok (.goto 4, 3) := by decide +kernel
theorem dX11_readsPart_118 : decode cX11_readsPart 118 = .ok (.iconst 0, 1) := by decide +kernel
theorem dX11_readsPart_119 : decode cX11_readsPart 119 = .ok (.bastore, 1) := by decide +kernel
theorem dX11_readsPart_120 : decode cX11_readsPart 120 = .ok (.aload_n 0, 1) := by decide +kernel
theorem dX11_readsPart_121 : decode cX11_readsPart 121 = .ok (.dup, 1) := by decide +kernel
theorem dX11_readsPart_122 : decode cX11_readsPart 122 = .ok (.getfield 125, 3) := by decide +kernel
theorem dX11_readsPart_125 : decode cX11_readsPart 125 = .ok (.aload_n 0, 1) := by decide +kernel
theorem dX11_readsPart_126 : decode cX11_readsPart 126 = .ok (.invokevirtual 134, 3) := by decide +kernel
theorem dX11_readsPart_129 : decode cX11_readsPart 129 = .ok (.bipush 117, 2) := by decide +kernel
theorem dX11_readsPart_131 : decode cX11_readsPart 131 = .ok (.if_icmp .ne 7, 3) := by decide +kernel
theorem dX11_readsPart_134 : decode cX11_readsPart 134 = .ok (.iconst 1, 1) := by decide +kernel
theorem dX11_readsPart_135 : decode cX11_readsPart 135 = .ok (.goto 4, 3) := by decide +kernel
theorem dX11_readsPart_138 : decode cX11_readsPart 138 = .ok (.iconst 0, 1) := by decide +kernel
theorem dX11_readsPart_139 : decode cX11_readsPart 139 = .ok (.iadd, 1) := by decide +kernel
theorem dX11_readsPart_140 : decode cX11_readsPart 140 = .ok (.putfield 125, 3) := by decide +kernel
theorem dX11_readsPart_143 : decode cX11_readsPart 143 = .ok (.aload_n 0, 1) := by decide +kernel
theorem dX11_readsPart_144 : decode cX11_readsPart 144 = .ok (.dup, 1) := by decide +kernel
theorem dX11_readsPart_145 : decode cX11_readsPart 145 = .ok (.getfield 128, 3) := by decide +kernel
theorem dX11_readsPart_148 : decode cX11_readsPart 148 = .ok (.iconst 1, 1) := by decide +kernel
theorem dX11_readsPart_149 : decode cX11_readsPart 149 = .ok (.iadd, 1) := by decide +kernel
theorem dX11_readsPart_150 : decode cX11_readsPart 150 = .ok (.putfield 128, 3) := by decide +kernel
theorem dX11_readsPart_153 : decode cX11_readsPart 153 = .ok (.iconst 1, 1) := by decide +kernel
theorem dX11_readsPart_154 : decode cX11_readsPart 154 = .ok (.ireturn, 1) := by decide +kernel
theorem dX11_readsLand_0 : decode cX11_readsLand 0 = .ok (.aload_n 0, 1) := by decide +kernel
theorem dX11_readsLand_1 : decode cX11_readsLand 1 = .ok (.iconst 0, 1) := by decide +kernel
theorem dX11_readsLand_2 : decode cX11_readsLand 2 = .ok (.putfield 125, 3) := by decide +kernel
theorem dX11_readsLand_5 : decode cX11_readsLand 5 = .ok (.aload_n 0, 1) := by decide +kernel
theorem dX11_readsLand_6 : decode cX11_readsLand 6 = .ok (.invokevirtual 151, 3) := by decide +kernel
theorem dX11_readsLand_9 : decode cX11_readsLand 9 = .ok (.aload_n 0, 1) := by decide +kernel
theorem dX11_readsLand_10 : decode cX11_readsLand 10 = .ok (.getfield 25, 3) := by decide +kernel
theorem dX11_readsLand_13 : decode cX11_readsLand 13 = .ok (.iconst 0, 1) := by decide +kernel
theorem dX11_readsLand_14 : decode cX11_readsLand 14 = .ok (.iaload, 1) := by decide +kernel
theorem dX11_readsLand_15 : decode cX11_readsLand 15 = .ok (.ifCond .le 7, 3) := by decide +kernel
theorem dX11_readsLand_18 : decode cX11_readsLand 18 = .ok (.iconst 1, 1) := by decide +kernel
theorem dX11_readsLand_19 : decode cX11_readsLand 19 = .ok (.goto 4, 3) := by decide +kernel
theorem dX11_readsLand_22 : decode cX11_readsLand 22 = .ok (.iconst 0, 1) := by decide +kernel
theorem dX11_readsLand_23 : decode cX11_readsLand 23 = .ok (.istore_n 1, 1) := by decide +kernel
theorem dX11_readsLand_24 : decode cX11_readsLand 24 = .ok (.iload_n 1, 1) := by decide +kernel
theorem dX11_readsLand_25 : decode cX11_readsLand 25 = .ok (.ifCond .eq 81, 3) := by decide +kernel
theorem dX11_readsLand_28 : decode cX11_readsLand 28 = .ok (.aload_n 0, 1) := by decide +kernel
theorem dX11_readsLand_29 : decode cX11_readsLand 29 = .ok (.invokevirtual 154, 3) := by decide +kernel
theorem dX11_readsLand_32 : decode cX11_readsLand 32 = .ok (.ifCond .ne 12, 3) := by decide +kernel
theorem dX11_readsLand_35 : decode cX11_readsLand 35 = .ok (.aload_n 0, 1) := by decide +kernel
theorem dX11_readsLand_36 : decode cX11_readsLand 36 = .ok (.invokevirtual 151, 3) := by decide +kernel
theorem dX11_readsLand_39 : decode cX11_readsLand 39 = .ok (.aload_n 0, 1) := by decide +kernel
theorem dX11_readsLand_40 : decode cX11_readsLand 40 = .ok (.getfield 125, 3) := by decide +kernel
theorem dX11_readsLand_43 : decode cX11_readsLand 43 = .ok (.ireturn, 1) := by decide +kernel
theorem dX11_readsLand_44 : decode cX11_readsLand 44 = .ok (.aload_n 0, 1) := by decide +kernel
theorem dX11_readsLand_45 : decode cX11_readsLand 45 = .ok (.getfield 125, 3) := by decide +kernel
theorem dX11_readsLand_48 : decode cX11_readsLand 48 = .ok (.aload_n 0, 1) := by decide +kernel
theorem dX11_readsLand_49 : decode cX11_readsLand 49 = .ok (.getfield 25, 3) := by decide +kernel
theorem dX11_readsLand_52 : decode cX11_readsLand 52 = .ok (.iconst 0, 1) := by decide +kernel
theorem dX11_readsLand_53 : decode cX11_readsLand 53 = .ok (.iaload, 1) := by decide +kernel
theorem dX11_readsLand_54 : decode cX11_readsLand 54 = .ok (.if_icmp .ge 7, 3) := by decide +kernel
theorem dX11_readsLand_57 : decode cX11_readsLand 57 = .ok (.iconst 1, 1) := by decide +kernel
theorem dX11_readsLand_58 : decode cX11_readsLand 58 = .ok (.goto 4, 3) := by decide +kernel
theorem dX11_readsLand_61 : decode cX11_readsLand 61 = .ok (.iconst 0, 1) := by decide +kernel
theorem dX11_readsLand_62 : decode cX11_readsLand 62 = .ok (.istore_n 1, 1) := by decide +kernel
theorem dX11_readsLand_63 : decode cX11_readsLand 63 = .ok (.iload_n 1, 1) := by decide +kernel
theorem dX11_readsLand_64 : decode cX11_readsLand 64 = .ok (.ifCond .eq 21, 3) := by decide +kernel
theorem dX11_readsLand_67 : decode cX11_readsLand 67 = .ok (.aload_n 0, 1) := by decide +kernel
theorem dX11_readsLand_68 : decode cX11_readsLand 68 = .ok (.invokevirtual 134, 3) := by decide +kernel
theorem dX11_readsLand_71 : decode cX11_readsLand 71 = .ok (.bipush 59, 2) := by decide +kernel
theorem dX11_readsLand_73 : decode cX11_readsLand 73 = .ok (.if_icmp .eq 12, 3) := by decide +kernel
theorem dX11_readsLand_76 : decode cX11_readsLand 76 = .ok (.aload_n 0, 1) := by decide +kernel
theorem dX11_readsLand_77 : decode cX11_readsLand 77 = .ok (.invokevirtual 151, 3) := by decide +kernel
theorem dX11_readsLand_80 : decode cX11_readsLand 80 = .ok (.aload_n 0, 1) := by decide +kernel
theorem dX11_readsLand_81 : decode cX11_readsLand 81 = .ok (.getfield 125, 3) := by decide +kernel
theorem dX11_readsLand_84 : decode cX11_readsLand 84 = .ok (.ireturn, 1) := by decide +kernel
theorem dX11_readsLand_85 : decode cX11_readsLand 85 = .ok (.aload_n 0, 1) := by decide +kernel
theorem dX11_readsLand_86 : decode cX11_readsLand 86 = .ok (.dup, 1) := by decide +kernel
theorem dX11_readsLand_87 : decode cX11_readsLand 87 = .ok (.getfield 125, 3) := by decide +kernel
theorem dX11_readsLand_90 : decode cX11_readsLand 90 = .ok (.iload_n 1, 1) := by decide +kernel
theorem dX11_readsLand_91 : decode cX11_readsLand 91 = .ok (.ifCond .eq 7, 3) := by decide +kernel
theorem dX11_readsLand_94 : decode cX11_readsLand 94 = .ok (.iconst 1, 1) := by decide +kernel
theorem dX11_readsLand_95 : decode cX11_readsLand 95 = .ok (.goto 4, 3) := by decide +kernel
theorem dX11_readsLand_98 : decode cX11_readsLand 98 = .ok (.iconst 0, 1) := by decide +kernel
theorem dX11_readsLand_99 : decode cX11_readsLand 99 = .ok (.iadd, 1) := by decide +kernel
theorem dX11_readsLand_100 : decode cX11_readsLand 100 = .ok (.putfield 125, 3) := by decide +kernel
theorem dX11_readsLand_103 : decode cX11_readsLand 103 = .ok (.goto (-79), 3) := by decide +kernel
theorem dX11_readsLand_106 : decode cX11_readsLand 106 = .ok (.iconst (-1), 1) := by decide +kernel
theorem dX11_readsLand_107 : decode cX11_readsLand 107 = .ok (.ireturn, 1) := by decide +kernel
theorem dX11_letterOf_0 : decode cX11_letterOf 0 = .ok (.iload_n 1, 1) := by decide +kernel
theorem dX11_letterOf_1 : decode cX11_letterOf 1 = .ok (.bipush 97, 2) := by decide +kernel
theorem dX11_letterOf_3 : decode cX11_letterOf 3 = .ok (.isub, 1) := by decide +kernel
theorem dX11_letterOf_4 : decode cX11_letterOf 4 = .ok (.istore_n 2, 1) := by decide +kernel
theorem dX11_letterOf_5 : decode cX11_letterOf 5 = .ok (.iload_n 1, 1) := by decide +kernel
theorem dX11_letterOf_6 : decode cX11_letterOf 6 = .ok (.bipush 65, 2) := by decide +kernel
theorem dX11_letterOf_8 : decode cX11_letterOf 8 = .ok (.isub, 1) := by decide +kernel
theorem dX11_letterOf_9 : decode cX11_letterOf 9 = .ok (.istore_n 3, 1) := by decide +kernel
theorem dX11_letterOf_10 : decode cX11_letterOf 10 = .ok (.iload_n 2, 1) := by decide +kernel
theorem dX11_letterOf_11 : decode cX11_letterOf 11 = .ok (.i2l, 1) := by decide +kernel
theorem dX11_letterOf_12 : decode cX11_letterOf 12 = .ok (.lconst 0, 1) := by decide +kernel
theorem dX11_letterOf_13 : decode cX11_letterOf 13 = .ok (.aload_n 0, 1) := by decide +kernel
theorem dX11_letterOf_14 : decode cX11_letterOf 14 = .ok (.getfield 128, 3) := by decide +kernel
theorem dX11_letterOf_17 : decode cX11_letterOf 17 = .ok (.iconst 1, 1) := by decide +kernel
theorem dX11_letterOf_18 : decode cX11_letterOf 18 = .ok (.isub, 1) := by decide +kernel
theorem dX11_letterOf_19 : decode cX11_letterOf 19 = .ok (.i2l, 1) := by decide +kernel
theorem dX11_letterOf_20 : decode cX11_letterOf 20 = .ok (.invokestatic 86, 3) := by decide +kernel
theorem dX11_letterOf_23 : decode cX11_letterOf 23 = .ok (.ifCond .eq 9, 3) := by decide +kernel
theorem dX11_letterOf_26 : decode cX11_letterOf 26 = .ok (.iconst 2, 1) := by decide +kernel
theorem dX11_letterOf_27 : decode cX11_letterOf 27 = .ok (.iload_n 2, 1) := by decide +kernel
theorem dX11_letterOf_28 : decode cX11_letterOf 28 = .ok (.imul, 1) := by decide +kernel
theorem dX11_letterOf_29 : decode cX11_letterOf 29 = .ok (.goto 28, 3) := by decide +kernel
theorem dX11_letterOf_32 : decode cX11_letterOf 32 = .ok (.iload_n 3, 1) := by decide +kernel
theorem dX11_letterOf_33 : decode cX11_letterOf 33 = .ok (.i2l, 1) := by decide +kernel
theorem dX11_letterOf_34 : decode cX11_letterOf 34 = .ok (.lconst 0, 1) := by decide +kernel
theorem dX11_letterOf_35 : decode cX11_letterOf 35 = .ok (.aload_n 0, 1) := by decide +kernel
theorem dX11_letterOf_36 : decode cX11_letterOf 36 = .ok (.getfield 128, 3) := by decide +kernel
theorem dX11_letterOf_39 : decode cX11_letterOf 39 = .ok (.iconst 1, 1) := by decide +kernel
theorem dX11_letterOf_40 : decode cX11_letterOf 40 = .ok (.isub, 1) := by decide +kernel
theorem dX11_letterOf_41 : decode cX11_letterOf 41 = .ok (.i2l, 1) := by decide +kernel
theorem dX11_letterOf_42 : decode cX11_letterOf 42 = .ok (.invokestatic 86, 3) := by decide +kernel
theorem dX11_letterOf_45 : decode cX11_letterOf 45 = .ok (.ifCond .eq 11, 3) := by decide +kernel
theorem dX11_letterOf_48 : decode cX11_letterOf 48 = .ok (.iconst 2, 1) := by decide +kernel
theorem dX11_letterOf_49 : decode cX11_letterOf 49 = .ok (.iload_n 3, 1) := by decide +kernel
theorem dX11_letterOf_50 : decode cX11_letterOf 50 = .ok (.imul, 1) := by decide +kernel
theorem dX11_letterOf_51 : decode cX11_letterOf 51 = .ok (.iconst 1, 1) := by decide +kernel
theorem dX11_letterOf_52 : decode cX11_letterOf 52 = .ok (.iadd, 1) := by decide +kernel
theorem dX11_letterOf_53 : decode cX11_letterOf 53 = .ok (.goto 4, 3) := by decide +kernel
theorem dX11_letterOf_56 : decode cX11_letterOf 56 = .ok (.iconst (-1), 1) := by decide +kernel
theorem dX11_letterOf_57 : decode cX11_letterOf 57 = .ok (.ireturn, 1) := by decide +kernel
theorem dX11_byteOf_0 : decode cX11_byteOf 0 = .ok (.iload_n 0, 1) := by decide +kernel
theorem dX11_byteOf_1 : decode cX11_byteOf 1 = .ok (.iconst 2, 1) := by decide +kernel
theorem dX11_byteOf_2 : decode cX11_byteOf 2 = .ok (.irem, 1) := by decide +kernel
theorem dX11_byteOf_3 : decode cX11_byteOf 3 = .ok (.ifCond .ne 12, 3) := by decide +kernel
theorem dX11_byteOf_6 : decode cX11_byteOf 6 = .ok (.bipush 97, 2) := by decide +kernel
theorem dX11_byteOf_8 : decode cX11_byteOf 8 = .ok (.iload_n 0, 1) := by decide +kernel
theorem dX11_byteOf_9 : decode cX11_byteOf 9 = .ok (.iconst 2, 1) := by decide +kernel
theorem dX11_byteOf_10 : decode cX11_byteOf 10 = .ok (.idiv, 1) := by decide +kernel
theorem dX11_byteOf_11 : decode cX11_byteOf 11 = .ok (.iadd, 1) := by decide +kernel
theorem dX11_byteOf_12 : decode cX11_byteOf 12 = .ok (.goto 9, 3) := by decide +kernel
theorem dX11_byteOf_15 : decode cX11_byteOf 15 = .ok (.bipush 65, 2) := by decide +kernel
theorem dX11_byteOf_17 : decode cX11_byteOf 17 = .ok (.iload_n 0, 1) := by decide +kernel
theorem dX11_byteOf_18 : decode cX11_byteOf 18 = .ok (.iconst 2, 1) := by decide +kernel
theorem dX11_byteOf_19 : decode cX11_byteOf 19 = .ok (.idiv, 1) := by decide +kernel
theorem dX11_byteOf_20 : decode cX11_byteOf 20 = .ok (.iadd, 1) := by decide +kernel
theorem dX11_byteOf_21 : decode cX11_byteOf 21 = .ok (.ireturn, 1) := by decide +kernel
theorem dX11_faultOf_0 : decode cX11_faultOf 0 = .ok (.aload_n 0, 1) := by decide +kernel
theorem dX11_faultOf_1 : decode cX11_faultOf 1 = .ok (.invokevirtual 157, 3) := by decide +kernel
theorem dX11_faultOf_4 : decode cX11_faultOf 4 = .ok (.istore_n 2, 1) := by decide +kernel
theorem dX11_faultOf_5 : decode cX11_faultOf 5 = .ok (.iload_n 1, 1) := by decide +kernel
theorem dX11_faultOf_6 : decode cX11_faultOf 6 = .ok (.ifCond .ne 5, 3) := by decide +kernel
theorem dX11_faultOf_9 : decode cX11_faultOf 9 = .ok (.iload_n 2, 1) := by decide +kernel
theorem dX11_faultOf_10 : decode cX11_faultOf 10 = .ok (.ireturn, 1) := by decide +kernel
theorem dX11_faultOf_11 : decode cX11_faultOf 11 = .ok (.iconst 0, 1) := by decide +kernel
theorem dX11_faultOf_12 : decode cX11_faultOf 12 = .ok (.istore_n 3, 1) := by decide +kernel
theorem dX11_faultOf_13 : decode cX11_faultOf 13 = .ok (.iload_n 3, 1) := by decide +kernel
theorem dX11_faultOf_14 : decode cX11_faultOf 14 = .ok (.aload_n 0, 1) := by decide +kernel
theorem dX11_faultOf_15 : decode cX11_faultOf 15 = .ok (.getfield 25, 3) := by decide +kernel
theorem dX11_faultOf_18 : decode cX11_faultOf 18 = .ok (.iload_n 1, 1) := by decide +kernel
theorem dX11_faultOf_19 : decode cX11_faultOf 19 = .ok (.iaload, 1) := by decide +kernel
theorem dX11_faultOf_20 : decode cX11_faultOf 20 = .ok (.if_icmp .ge 30, 3) := by decide +kernel
theorem dX11_faultOf_23 : decode cX11_faultOf 23 = .ok (.aload_n 0, 1) := by decide +kernel
theorem dX11_faultOf_24 : decode cX11_faultOf 24 = .ok (.aload_n 0, 1) := by decide +kernel
theorem dX11_faultOf_25 : decode cX11_faultOf 25 = .ok (.getfield 22, 3) := by decide +kernel
theorem dX11_faultOf_28 : decode cX11_faultOf 28 = .ok (.iload_n 1, 1) := by decide +kernel
theorem dX11_faultOf_29 : decode cX11_faultOf 29 = .ok (.invokestatic 122, 3) := by decide +kernel
theorem dX11_faultOf_32 : decode cX11_faultOf 32 = .ok (.iload_n 3, 1) := by decide +kernel
theorem dX11_faultOf_33 : decode cX11_faultOf 33 = .ok (.iadd, 1) := by decide +kernel
theorem dX11_faultOf_34 : decode cX11_faultOf 34 = .ok (.iaload, 1) := by decide +kernel
theorem dX11_faultOf_35 : decode cX11_faultOf 35 = .ok (.invokevirtual 160, 3) := by decide +kernel
theorem dX11_faultOf_38 : decode cX11_faultOf 38 = .ok (.iconst (-1), 1) := by decide +kernel
theorem dX11_faultOf_39 : decode cX11_faultOf 39 = .ok (.if_icmp .ne 5, 3) := by decide +kernel
theorem dX11_faultOf_42 : decode cX11_faultOf 42 = .ok (.iload_n 3, 1) := by decide +kernel
theorem dX11_faultOf_43 : decode cX11_faultOf 43 = .ok (.ireturn, 1) := by decide +kernel
theorem dX11_faultOf_44 : decode cX11_faultOf 44 = .ok (.iinc 3 1, 3) := by decide +kernel
theorem dX11_faultOf_47 : decode cX11_faultOf 47 = .ok (.goto (-34), 3) := by decide +kernel
theorem dX11_faultOf_50 : decode cX11_faultOf 50 = .ok (.iconst (-1), 1) := by decide +kernel
theorem dX11_faultOf_51 : decode cX11_faultOf 51 = .ok (.ireturn, 1) := by decide +kernel
theorem dX11_fault_0 : decode cX11_fault 0 = .ok (.iload_n 1, 1) := by decide +kernel
theorem dX11_fault_1 : decode cX11_fault 1 = .ok (.invokestatic 117, 3) := by decide +kernel
theorem dX11_fault_4 : decode cX11_fault 4 = .ok (.ifCond .eq 11, 3) := by decide +kernel
theorem dX11_fault_7 : decode cX11_fault 7 = .ok (.aload_n 0, 1) := by decide +kernel
theorem dX11_fault_8 : decode cX11_fault 8 = .ok (.iload_n 1, 1) := by decide +kernel
theorem dX11_fault_9 : decode cX11_fault 9 = .ok (.invokevirtual 163, 3) := by decide +kernel
theorem dX11_fault_12 : decode cX11_fault 12 = .ok (.goto 5, 3) := by decide +kernel
theorem dX11_fault_15 : decode cX11_fault 15 = .ok (.bipush (-2), 2) := by decide +kernel
theorem dX11_fault_17 : decode cX11_fault 17 = .ok (.ireturn, 1) := by decide +kernel
theorem dX11_start_0 : decode cX11_start 0 = .ok (.iload_n 1, 1) := by decide +kernel
theorem dX11_start_1 : decode cX11_start 1 = .ok (.iconst 2, 1) := by decide +kernel
theorem dX11_start_2 : decode cX11_start 2 = .ok (.irem, 1) := by decide +kernel
theorem dX11_start_3 : decode cX11_start 3 = .ok (.ifCond .ne 14, 3) := by decide +kernel
theorem dX11_start_6 : decode cX11_start 6 = .ok (.aload_n 0, 1) := by decide +kernel
theorem dX11_start_7 : decode cX11_start 7 = .ok (.getfield 28, 3) := by decide +kernel
theorem dX11_start_10 : decode cX11_start 10 = .ok (.iload_n 1, 1) := by decide +kernel
theorem dX11_start_11 : decode cX11_start 11 = .ok (.iconst 2, 1) := by decide +kernel
theorem dX11_start_12 : decode cX11_start 12 = .ok (.idiv, 1) := by decide +kernel
theorem dX11_start_13 : decode cX11_start 13 = .ok (.iaload, 1) := by decide +kernel
theorem dX11_start_14 : decode cX11_start 14 = .ok (.goto 11, 3) := by decide +kernel
theorem dX11_start_17 : decode cX11_start 17 = .ok (.aload_n 0, 1) := by decide +kernel
theorem dX11_start_18 : decode cX11_start 18 = .ok (.getfield 31, 3) := by decide +kernel
theorem dX11_start_21 : decode cX11_start 21 = .ok (.iload_n 1, 1) := by decide +kernel
theorem dX11_start_22 : decode cX11_start 22 = .ok (.iconst 2, 1) := by decide +kernel
theorem dX11_start_23 : decode cX11_start 23 = .ok (.idiv, 1) := by decide +kernel
theorem dX11_start_24 : decode cX11_start 24 = .ok (.iaload, 1) := by decide +kernel
theorem dX11_start_25 : decode cX11_start 25 = .ok (.ireturn, 1) := by decide +kernel
theorem dX11_end_0 : decode cX11_end 0 = .ok (.aload_n 0, 1) := by decide +kernel
theorem dX11_end_1 : decode cX11_end 1 = .ok (.iload_n 1, 1) := by decide +kernel
theorem dX11_end_2 : decode cX11_end 2 = .ok (.iconst 2, 1) := by decide +kernel
theorem dX11_end_3 : decode cX11_end 3 = .ok (.irem, 1) := by decide +kernel
theorem dX11_end_4 : decode cX11_end 4 = .ok (.ifCond .ne 9, 3) := by decide +kernel
theorem dX11_end_7 : decode cX11_end 7 = .ok (.iload_n 1, 1) := by decide +kernel
theorem dX11_end_8 : decode cX11_end 8 = .ok (.iconst 1, 1) := by decide +kernel
theorem dX11_end_9 : decode cX11_end 9 = .ok (.iadd, 1) := by decide +kernel
theorem dX11_end_10 : decode cX11_end 10 = .ok (.goto 6, 3) := by decide +kernel
theorem dX11_end_13 : decode cX11_end 13 = .ok (.iload_n 1, 1) := by decide +kernel
theorem dX11_end_14 : decode cX11_end 14 = .ok (.iconst 1, 1) := by decide +kernel
theorem dX11_end_15 : decode cX11_end 15 = .ok (.isub, 1) := by decide +kernel
theorem dX11_end_16 : decode cX11_end 16 = .ok (.invokevirtual 166, 3) := by decide +kernel
theorem dX11_end_19 : decode cX11_end 19 = .ok (.ireturn, 1) := by decide +kernel
theorem dX11_back_0 : decode cX11_back 0 = .ok (.iload_n 0, 1) := by decide +kernel
theorem dX11_back_1 : decode cX11_back 1 = .ok (.iconst 2, 1) := by decide +kernel
theorem dX11_back_2 : decode cX11_back 2 = .ok (.irem, 1) := by decide +kernel
theorem dX11_back_3 : decode cX11_back 3 = .ok (.ifCond .ne 9, 3) := by decide +kernel
theorem dX11_back_6 : decode cX11_back 6 = .ok (.iload_n 0, 1) := by decide +kernel
theorem dX11_back_7 : decode cX11_back 7 = .ok (.iconst 1, 1) := by decide +kernel
theorem dX11_back_8 : decode cX11_back 8 = .ok (.iadd, 1) := by decide +kernel
theorem dX11_back_9 : decode cX11_back 9 = .ok (.goto 6, 3) := by decide +kernel
theorem dX11_back_12 : decode cX11_back 12 = .ok (.iload_n 0, 1) := by decide +kernel
theorem dX11_back_13 : decode cX11_back 13 = .ok (.iconst 1, 1) := by decide +kernel
theorem dX11_back_14 : decode cX11_back 14 = .ok (.isub, 1) := by decide +kernel
theorem dX11_back_15 : decode cX11_back 15 = .ok (.ireturn, 1) := by decide +kernel
theorem dX11_isShut_0 : decode cX11_isShut 0 = .ok (.aload_n 0, 1) := by decide +kernel
theorem dX11_isShut_1 : decode cX11_isShut 1 = .ok (.getfield 169, 3) := by decide +kernel
theorem dX11_isShut_4 : decode cX11_isShut 4 = .ok (.iload_n 1, 1) := by decide +kernel
theorem dX11_isShut_5 : decode cX11_isShut 5 = .ok (.ishr, 1) := by decide +kernel
theorem dX11_isShut_6 : decode cX11_isShut 6 = .ok (.iconst 1, 1) := by decide +kernel
theorem dX11_isShut_7 : decode cX11_isShut 7 = .ok (.iand, 1) := by decide +kernel
theorem dX11_isShut_8 : decode cX11_isShut 8 = .ok (.iconst 1, 1) := by decide +kernel
theorem dX11_isShut_9 : decode cX11_isShut 9 = .ok (.if_icmp .ne 7, 3) := by decide +kernel
theorem dX11_isShut_12 : decode cX11_isShut 12 = .ok (.iconst 1, 1) := by decide +kernel
theorem dX11_isShut_13 : decode cX11_isShut 13 = .ok (.goto 4, 3) := by decide +kernel
theorem dX11_isShut_16 : decode cX11_isShut 16 = .ok (.iconst 0, 1) := by decide +kernel
theorem dX11_isShut_17 : decode cX11_isShut 17 = .ok (.ireturn, 1) := by decide +kernel
theorem dX11_gate_0 : decode cX11_gate 0 = .ok (.aload_n 0, 1) := by decide +kernel
theorem dX11_gate_1 : decode cX11_gate 1 = .ok (.invokevirtual 157, 3) := by decide +kernel
theorem dX11_gate_4 : decode cX11_gate 4 = .ok (.pop, 1) := by decide +kernel
theorem dX11_gate_5 : decode cX11_gate 5 = .ok (.iload_n 1, 1) := by decide +kernel
theorem dX11_gate_6 : decode cX11_gate 6 = .ok (.i2l, 1) := by decide +kernel
theorem dX11_gate_7 : decode cX11_gate 7 = .ok (.lconst 0, 1) := by decide +kernel
theorem dX11_gate_8 : decode cX11_gate 8 = .ok (.aload_n 0, 1) := by decide +kernel
theorem dX11_gate_9 : decode cX11_gate 9 = .ok (.getfield 128, 3) := by decide +kernel
theorem dX11_gate_12 : decode cX11_gate 12 = .ok (.iconst 1, 1) := by decide +kernel
theorem dX11_gate_13 : decode cX11_gate 13 = .ok (.isub, 1) := by decide +kernel
theorem dX11_gate_14 : decode cX11_gate 14 = .ok (.i2l, 1) := by decide +kernel
theorem dX11_gate_15 : decode cX11_gate 15 = .ok (.invokestatic 86, 3) := by decide +kernel
theorem dX11_gate_18 : decode cX11_gate 18 = .ok (.ifCond .eq 15, 3) := by decide +kernel
theorem dX11_gate_21 : decode cX11_gate 21 = .ok (.iload_n 2, 1) := by decide +kernel
theorem dX11_gate_22 : decode cX11_gate 22 = .ok (.i2l, 1) := by decide +kernel
theorem dX11_gate_23 : decode cX11_gate 23 = .ok (.lconst 0, 1) := by decide +kernel
theorem dX11_gate_24 : decode cX11_gate 24 = .ok (.ldc2_w 96, 3) := by decide +kernel
theorem dX11_gate_27 : decode cX11_gate 27 = .ok (.invokestatic 86, 3) := by decide +kernel
theorem dX11_gate_30 : decode cX11_gate 30 = .ok (.ifCond .ne 6, 3) := by decide +kernel
theorem dX11_gate_33 : decode cX11_gate 33 = .ok (.bipush (-2), 2) := by decide +kernel
theorem dX11_gate_35 : decode cX11_gate 35 = .ok (.ireturn, 1) := by decide +kernel
theorem dX11_gate_36 : decode cX11_gate 36 = .ok (.iload_n 2, 1) := by decide +kernel
theorem dX11_gate_37 : decode cX11_gate 37 = .ok (.ifCond .ne 12, 3) := by decide +kernel
theorem dX11_gate_40 : decode cX11_gate 40 = .ok (.aload_n 0, 1) := by decide +kernel
theorem dX11_gate_41 : decode cX11_gate 41 = .ok (.getfield 28, 3) := by decide +kernel
theorem dX11_gate_44 : decode cX11_gate 44 = .ok (.iload_n 1, 1) := by decide +kernel
theorem dX11_gate_45 : decode cX11_gate 45 = .ok (.iaload, 1) := by decide +kernel
theorem dX11_gate_46 : decode cX11_gate 46 = .ok (.goto 47, 3) := by decide +kernel
theorem dX11_gate_49 : decode cX11_gate 49 = .ok (.iload_n 2, 1) := by decide +kernel
theorem dX11_gate_50 : decode cX11_gate 50 = .ok (.iconst 1, 1) := by decide +kernel
theorem dX11_gate_51 : decode cX11_gate 51 = .ok (.if_icmp .ne 12, 3) := by decide +kernel
theorem dX11_gate_54 : decode cX11_gate 54 = .ok (.aload_n 0, 1) := by decide +kernel
theorem dX11_gate_55 : decode cX11_gate 55 = .ok (.getfield 31, 3) := by decide +kernel
theorem dX11_gate_58 : decode cX11_gate 58 = .ok (.iload_n 1, 1) := by decide +kernel
theorem dX11_gate_59 : decode cX11_gate 59 = .ok (.iaload, 1) := by decide +kernel
theorem dX11_gate_60 : decode cX11_gate 60 = .ok (.goto 33, 3) := by decide +kernel
theorem dX11_gate_63 : decode cX11_gate 63 = .ok (.iload_n 2, 1) := by decide +kernel
theorem dX11_gate_64 : decode cX11_gate 64 = .ok (.iconst 2, 1) := by decide +kernel
theorem dX11_gate_65 : decode cX11_gate 65 = .ok (.if_icmp .ne 15, 3) := by decide +kernel
theorem dX11_gate_68 : decode cX11_gate 68 = .ok (.aload_n 0, 1) := by decide +kernel
theorem dX11_gate_69 : decode cX11_gate 69 = .ok (.getfield 34, 3) := by decide +kernel
theorem dX11_gate_72 : decode cX11_gate 72 = .ok (.iload_n 1, 1) := by decide +kernel
theorem dX11_gate_73 : decode cX11_gate 73 = .ok (.baload, 1) := by decide +kernel
theorem dX11_gate_74 : decode cX11_gate 74 = .ok (.ifCond .eq 18, 3) := by decide +kernel
theorem dX11_gate_77 : decode cX11_gate 77 = .ok (.goto 11, 3) := by decide +kernel
theorem dX11_gate_80 : decode cX11_gate 80 = .ok (.aload_n 0, 1) := by decide +kernel
theorem dX11_gate_81 : decode cX11_gate 81 = .ok (.iload_n 1, 1) := by decide +kernel
theorem dX11_gate_82 : decode cX11_gate 82 = .ok (.invokevirtual 172, 3) := by decide +kernel
theorem dX11_gate_85 : decode cX11_gate 85 = .ok (.ifCond .eq 7, 3) := by decide +kernel
theorem dX11_gate_88 : decode cX11_gate 88 = .ok (.iconst 1, 1) := by decide +kernel
theorem dX11_gate_89 : decode cX11_gate 89 = .ok (.goto 4, 3) := by decide +kernel
theorem dX11_gate_92 : decode cX11_gate 92 = .ok (.iconst 0, 1) := by decide +kernel
theorem dX11_gate_93 : decode cX11_gate 93 = .ok (.ireturn, 1) := by decide +kernel
theorem dX11_room_0 : decode cX11_room 0 = .ok (.aload_n 0, 1) := by decide +kernel
theorem dX11_room_1 : decode cX11_room 1 = .ok (.invokevirtual 157, 3) := by decide +kernel
theorem dX11_room_4 : decode cX11_room 4 = .ok (.pop, 1) := by decide +kernel
theorem dX11_room_5 : decode cX11_room 5 = .ok (.aload_n 0, 1) := by decide +kernel
theorem dX11_room_6 : decode cX11_room 6 = .ok (.getfield 131, 3) := by decide +kernel
theorem dX11_room_9 : decode cX11_room 9 = .ok (.ireturn, 1) := by decide +kernel
theorem dX11_shut_0 : decode cX11_shut 0 = .ok (.iload_n 1, 1) := by decide +kernel
theorem dX11_shut_1 : decode cX11_shut 1 = .ok (.i2l, 1) := by decide +kernel
theorem dX11_shut_2 : decode cX11_shut 2 = .ok (.lconst 0, 1) := by decide +kernel
theorem dX11_shut_3 : decode cX11_shut 3 = .ok (.ldc2_w 175, 3) := by decide +kernel
theorem dX11_shut_6 : decode cX11_shut 6 = .ok (.invokestatic 86, 3) := by decide +kernel
theorem dX11_shut_9 : decode cX11_shut 9 = .ok (.ifCond .ne 6, 3) := by decide +kernel
theorem dX11_shut_12 : decode cX11_shut 12 = .ok (.bipush (-2), 2) := by decide +kernel
theorem dX11_shut_14 : decode cX11_shut 14 = .ok (.ireturn, 1) := by decide +kernel
theorem dX11_shut_15 : decode cX11_shut 15 = .ok (.aload_n 0, 1) := by decide +kernel
theorem dX11_shut_16 : decode cX11_shut 16 = .ok (.getfield 169, 3) := by decide +kernel
theorem dX11_shut_19 : decode cX11_shut 19 = .ok (.istore_n 2, 1) := by decide +kernel
theorem dX11_shut_20 : decode cX11_shut 20 = .ok (.aload_n 0, 1) := by decide +kernel
theorem dX11_shut_21 : decode cX11_shut 21 = .ok (.iload_n 1, 1) := by decide +kernel
theorem dX11_shut_22 : decode cX11_shut 22 = .ok (.putfield 169, 3) := by decide +kernel
theorem dX11_shut_25 : decode cX11_shut 25 = .ok (.iload_n 2, 1) := by decide +kernel
theorem dX11_shut_26 : decode cX11_shut 26 = .ok (.ireturn, 1) := by decide +kernel
theorem dX11_stamp_0 : decode cX11_stamp 0 = .ok (.aload_n 0, 1) := by decide +kernel
theorem dX11_stamp_1 : decode cX11_stamp 1 = .ok (.getfield 34, 3) := by decide +kernel
theorem dX11_stamp_4 : decode cX11_stamp 4 = .ok (.iload_n 2, 1) := by decide +kernel
theorem dX11_stamp_5 : decode cX11_stamp 5 = .ok (.iconst 2, 1) := by decide +kernel
theorem dX11_stamp_6 : decode cX11_stamp 6 = .ok (.idiv, 1) := by decide +kernel
theorem dX11_stamp_7 : decode cX11_stamp 7 = .ok (.baload, 1) := by decide +kernel
theorem dX11_stamp_8 : decode cX11_stamp 8 = .ok (.ifCond .ne 4, 3) := by decide +kernel
theorem dX11_stamp_11 : decode cX11_stamp 11 = .ok (.return_, 1) := by decide +kernel
theorem dX11_stamp_12 : decode cX11_stamp 12 = .ok (.aload_n 0, 1) := by decide +kernel
theorem dX11_stamp_13 : decode cX11_stamp 13 = .ok (.getfield 41, 3) := by decide +kernel
theorem dX11_stamp_16 : decode cX11_stamp 16 = .ok (.iload_n 1, 1) := by decide +kernel
theorem dX11_stamp_17 : decode cX11_stamp 17 = .ok (.iaload, 1) := by decide +kernel
theorem dX11_stamp_18 : decode cX11_stamp 18 = .ok (.istore_n 3, 1) := by decide +kernel
theorem dX11_stamp_19 : decode cX11_stamp 19 = .ok (.iload_n 3, 1) := by decide +kernel
theorem dX11_stamp_20 : decode cX11_stamp 20 = .ok (.ifCond .le 46, 3) := by decide +kernel
theorem dX11_stamp_23 : decode cX11_stamp 23 = .ok (.aload_n 0, 1) := by decide +kernel
theorem dX11_stamp_24 : decode cX11_stamp 24 = .ok (.getfield 38, 3) := by decide +kernel
theorem dX11_stamp_27 : decode cX11_stamp 27 = .ok (.bipush 60, 2) := by decide +kernel
theorem dX11_stamp_29 : decode cX11_stamp 29 = .ok (.iload_n 1, 1) := by decide +kernel
theorem dX11_stamp_30 : decode cX11_stamp 30 = .ok (.imul, 1) := by decide +kernel
theorem dX11_stamp_31 : decode cX11_stamp 31 = .ok (.iload_n 3, 1) := by decide +kernel
theorem dX11_stamp_32 : decode cX11_stamp 32 = .ok (.iadd, 1) := by decide +kernel
theorem dX11_stamp_33 : decode cX11_stamp 33 = .ok (.iconst 1, 1) := by decide +kernel
theorem dX11_stamp_34 : decode cX11_stamp 34 = .ok (.isub, 1) := by decide +kernel
theorem dX11_stamp_35 : decode cX11_stamp 35 = .ok (.iaload, 1) := by decide +kernel
theorem dX11_stamp_36 : decode cX11_stamp 36 = .ok (.iload_n 2, 1) := by decide +kernel
theorem dX11_stamp_37 : decode cX11_stamp 37 = .ok (.invokestatic 177, 3) := by decide +kernel
theorem dX11_stamp_40 : decode cX11_stamp 40 = .ok (.if_icmp .ne 26, 3) := by decide +kernel
theorem dX11_stamp_43 : decode cX11_stamp 43 = .ok (.aload_n 0, 1) := by decide +kernel
theorem dX11_stamp_44 : decode cX11_stamp 44 = .ok (.getfield 41, 3) := by decide +kernel
theorem dX11_stamp_47 : decode cX11_stamp 47 = .ok (.iload_n 1, 1) := by decide +kernel
theorem dX11_stamp_48 : decode cX11_stamp 48 = .ok (.dup2, 1) := by decide +kernel
theorem dX11_stamp_49 : decode cX11_stamp 49 = .ok (.iaload, 1) := by decide +kernel
theorem dX11_stamp_50 : decode cX11_stamp 50 = .ok (.iconst 1, 1) := by decide +kernel
theorem dX11_stamp_51 : decode cX11_stamp 51 = .ok (.isub, 1) := by decide +kernel
theorem dX11_stamp_52 : decode cX11_stamp 52 = .ok (.iastore, 1) := by decide +kernel
theorem dX11_stamp_53 : decode cX11_stamp 53 = .ok (.aload_n 0, 1) := by decide +kernel
theorem dX11_stamp_54 : decode cX11_stamp 54 = .ok (.dup, 1) := by decide +kernel
theorem dX11_stamp_55 : decode cX11_stamp 55 = .ok (.getfield 180, 3) := by decide +kernel
theorem dX11_stamp_58 : decode cX11_stamp 58 = .ok (.iconst 1, 1) := by decide +kernel
theorem dX11_stamp_59 : decode cX11_stamp 59 = .ok (.iadd, 1) := by decide +kernel
theorem dX11_stamp_60 : decode cX11_stamp 60 = .ok (.putfield 180, 3) := by decide +kernel
theorem dX11_stamp_63 : decode cX11_stamp 63 = .ok (.goto 25, 3) := by decide +kernel
theorem dX11_stamp_66 : decode cX11_stamp 66 = .ok (.aload_n 0, 1) := by decide +kernel
theorem dX11_stamp_67 : decode cX11_stamp 67 = .ok (.getfield 38, 3) := by decide +kernel
theorem dX11_stamp_70 : decode cX11_stamp 70 = .ok (.bipush 60, 2) := by decide +kernel
theorem dX11_stamp_72 : decode cX11_stamp 72 = .ok (.iload_n 1, 1) := by decide +kernel
theorem dX11_stamp_73 : decode cX11_stamp 73 = .ok (.imul, 1) := by decide +kernel
theorem dX11_stamp_74 : decode cX11_stamp 74 = .ok (.iload_n 3, 1) := by decide +kernel
theorem dX11_stamp_75 : decode cX11_stamp 75 = .ok (.iadd, 1) := by decide +kernel
theorem dX11_stamp_76 : decode cX11_stamp 76 = .ok (.iload_n 2, 1) := by decide +kernel
theorem dX11_stamp_77 : decode cX11_stamp 77 = .ok (.iastore, 1) := by decide +kernel
theorem dX11_stamp_78 : decode cX11_stamp 78 = .ok (.aload_n 0, 1) := by decide +kernel
theorem dX11_stamp_79 : decode cX11_stamp 79 = .ok (.getfield 41, 3) := by decide +kernel
theorem dX11_stamp_82 : decode cX11_stamp 82 = .ok (.iload_n 1, 1) := by decide +kernel
theorem dX11_stamp_83 : decode cX11_stamp 83 = .ok (.dup2, 1) := by decide +kernel
theorem dX11_stamp_84 : decode cX11_stamp 84 = .ok (.iaload, 1) := by decide +kernel
theorem dX11_stamp_85 : decode cX11_stamp 85 = .ok (.iconst 1, 1) := by decide +kernel
theorem dX11_stamp_86 : decode cX11_stamp 86 = .ok (.iadd, 1) := by decide +kernel
theorem dX11_stamp_87 : decode cX11_stamp 87 = .ok (.iastore, 1) := by decide +kernel
theorem dX11_stamp_88 : decode cX11_stamp 88 = .ok (.return_, 1) := by decide +kernel
theorem dX11_lengthOf_0 : decode cX11_lengthOf 0 = .ok (.aload_n 0, 1) := by decide +kernel
theorem dX11_lengthOf_1 : decode cX11_lengthOf 1 = .ok (.iload_n 1, 1) := by decide +kernel
theorem dX11_lengthOf_2 : decode cX11_lengthOf 2 = .ok (.invokevirtual 163, 3) := by decide +kernel
theorem dX11_lengthOf_5 : decode cX11_lengthOf 5 = .ok (.iconst (-1), 1) := by decide +kernel
theorem dX11_lengthOf_6 : decode cX11_lengthOf 6 = .ok (.if_icmp .ne 12, 3) := by decide +kernel
theorem dX11_lengthOf_9 : decode cX11_lengthOf 9 = .ok (.aload_n 0, 1) := by decide +kernel
theorem dX11_lengthOf_10 : decode cX11_lengthOf 10 = .ok (.getfield 25, 3) := by decide +kernel
theorem dX11_lengthOf_13 : decode cX11_lengthOf 13 = .ok (.iload_n 1, 1) := by decide +kernel
theorem dX11_lengthOf_14 : decode cX11_lengthOf 14 = .ok (.iaload, 1) := by decide +kernel
theorem dX11_lengthOf_15 : decode cX11_lengthOf 15 = .ok (.goto 4, 3) := by decide +kernel
theorem dX11_lengthOf_18 : decode cX11_lengthOf 18 = .ok (.iconst 0, 1) := by decide +kernel
theorem dX11_lengthOf_19 : decode cX11_lengthOf 19 = .ok (.ireturn, 1) := by decide +kernel
theorem dX11_letterAt_0 : decode cX11_letterAt 0 = .ok (.aload_n 0, 1) := by decide +kernel
theorem dX11_letterAt_1 : decode cX11_letterAt 1 = .ok (.aload_n 0, 1) := by decide +kernel
theorem dX11_letterAt_2 : decode cX11_letterAt 2 = .ok (.getfield 22, 3) := by decide +kernel
theorem dX11_letterAt_5 : decode cX11_letterAt 5 = .ok (.iload_n 1, 1) := by decide +kernel
theorem dX11_letterAt_6 : decode cX11_letterAt 6 = .ok (.invokestatic 122, 3) := by decide +kernel
theorem dX11_letterAt_9 : decode cX11_letterAt 9 = .ok (.iload_n 2, 1) := by decide +kernel
theorem dX11_letterAt_10 : decode cX11_letterAt 10 = .ok (.iadd, 1) := by decide +kernel
theorem dX11_letterAt_11 : decode cX11_letterAt 11 = .ok (.iaload, 1) := by decide +kernel
theorem dX11_letterAt_12 : decode cX11_letterAt 12 = .ok (.invokevirtual 160, 3) := by decide +kernel
theorem dX11_letterAt_15 : decode cX11_letterAt 15 = .ok (.ireturn, 1) := by decide +kernel
theorem dX11_findPaper_0 : decode cX11_findPaper 0 = .ok (.aload_n 0, 1) := by decide +kernel
theorem dX11_findPaper_1 : decode cX11_findPaper 1 = .ok (.invokevirtual 157, 3) := by decide +kernel
theorem dX11_findPaper_4 : decode cX11_findPaper 4 = .ok (.pop, 1) := by decide +kernel
theorem dX11_findPaper_5 : decode cX11_findPaper 5 = .ok (.aload_n 0, 1) := by decide +kernel
theorem dX11_findPaper_6 : decode cX11_findPaper 6 = .ok (.getfield 41, 3) := by decide +kernel
theorem dX11_findPaper_9 : decode cX11_findPaper 9 = .ok (.iload_n 1, 1) := by decide +kernel
theorem dX11_findPaper_10 : decode cX11_findPaper 10 = .ok (.iconst 0, 1) := by decide +kernel
theorem dX11_findPaper_11 : decode cX11_findPaper 11 = .ok (.iastore, 1) := by decide +kernel
theorem dX11_findPaper_12 : decode cX11_findPaper 12 = .ok (.iload_n 2, 1) := by decide +kernel
theorem dX11_findPaper_13 : decode cX11_findPaper 13 = .ok (.ifCond .ne 7, 3) := by decide +kernel
theorem dX11_findPaper_16 : decode cX11_findPaper 16 = .ok (.iconst 0, 1) := by decide +kernel
theorem dX11_findPaper_17 : decode cX11_findPaper 17 = .ok (.goto 8, 3) := by decide +kernel
theorem dX11_findPaper_20 : decode cX11_findPaper 20 = .ok (.aload_n 0, 1) := by decide +kernel
theorem dX11_findPaper_21 : decode cX11_findPaper 21 = .ok (.iload_n 2, 1) := by decide +kernel
theorem dX11_findPaper_22 : decode cX11_findPaper 22 = .ok (.invokevirtual 183, 3) := by decide +kernel
theorem dX11_findPaper_25 : decode cX11_findPaper 25 = .ok (.istore_n 3, 1) := by decide +kernel
theorem dX11_findPaper_26 : decode cX11_findPaper 26 = .ok (.iconst 0, 1) := by decide +kernel
theorem dX11_findPaper_27 : decode cX11_findPaper 27 = .ok (.istore 4, 2) := by decide +kernel
theorem dX11_findPaper_29 : decode cX11_findPaper 29 = .ok (.iload 4, 2) := by decide +kernel
theorem dX11_findPaper_31 : decode cX11_findPaper 31 = .ok (.iload_n 3, 1) := by decide +kernel
theorem dX11_findPaper_32 : decode cX11_findPaper 32 = .ok (.if_icmp .ge 21, 3) := by decide +kernel
theorem dX11_findPaper_35 : decode cX11_findPaper 35 = .ok (.aload_n 0, 1) := by decide +kernel
theorem dX11_findPaper_36 : decode cX11_findPaper 36 = .ok (.iload_n 1, 1) := by decide +kernel
theorem dX11_findPaper_37 : decode cX11_findPaper 37 = .ok (.aload_n 0, 1) := by decide +kernel
theorem dX11_findPaper_38 : decode cX11_findPaper 38 = .ok (.iload_n 2, 1) := by decide +kernel
theorem dX11_findPaper_39 : decode cX11_findPaper 39 = .ok (.iload 4, 2) := by decide +kernel
theorem dX11_findPaper_41 : decode cX11_findPaper 41 = .ok (.invokevirtual 186, 3) := by decide +kernel
theorem dX11_findPaper_44 : decode cX11_findPaper 44 = .ok (.invokevirtual 189, 3) := by decide +kernel
theorem dX11_findPaper_47 : decode cX11_findPaper 47 = .ok (.iinc 4 1, 3) := by decide +kernel
theorem dX11_findPaper_50 : decode cX11_findPaper 50 = .ok (.goto (-21), 3) := by decide +kernel
theorem dX11_findPaper_53 : decode cX11_findPaper 53 = .ok (.return_, 1) := by decide +kernel
theorem dX11_paper_0 : decode cX11_paper 0 = .ok (.iload_n 1, 1) := by decide +kernel
theorem dX11_paper_1 : decode cX11_paper 1 = .ok (.invokestatic 193, 3) := by decide +kernel
theorem dX11_paper_4 : decode cX11_paper 4 = .ok (.ifCond .eq 8, 3) := by decide +kernel
theorem dX11_paper_7 : decode cX11_paper 7 = .ok (.iload_n 2, 1) := by decide +kernel
theorem dX11_paper_8 : decode cX11_paper 8 = .ok (.iconst (-1), 1) := by decide +kernel
theorem dX11_paper_9 : decode cX11_paper 9 = .ok (.if_icmp .ge 6, 3) := by decide +kernel
theorem dX11_paper_12 : decode cX11_paper 12 = .ok (.bipush (-2), 2) := by decide +kernel
theorem dX11_paper_14 : decode cX11_paper 14 = .ok (.ireturn, 1) := by decide +kernel
theorem dX11_paper_15 : decode cX11_paper 15 = .ok (.aload_n 0, 1) := by decide +kernel
theorem dX11_paper_16 : decode cX11_paper 16 = .ok (.iconst 0, 1) := by decide +kernel
theorem dX11_paper_17 : decode cX11_paper 17 = .ok (.iload_n 1, 1) := by decide +kernel
theorem dX11_paper_18 : decode cX11_paper 18 = .ok (.invokevirtual 196, 3) := by decide +kernel
theorem dX11_paper_21 : decode cX11_paper 21 = .ok (.iload_n 2, 1) := by decide +kernel
theorem dX11_paper_22 : decode cX11_paper 22 = .ok (.iconst (-1), 1) := by decide +kernel
theorem dX11_paper_23 : decode cX11_paper 23 = .ok (.if_icmp .ne 12, 3) := by decide +kernel
theorem dX11_paper_26 : decode cX11_paper 26 = .ok (.aload_n 0, 1) := by decide +kernel
theorem dX11_paper_27 : decode cX11_paper 27 = .ok (.getfield 41, 3) := by decide +kernel
theorem dX11_paper_30 : decode cX11_paper 30 = .ok (.iconst 0, 1) := by decide +kernel
theorem dX11_paper_31 : decode cX11_paper 31 = .ok (.iaload, 1) := by decide +kernel
theorem dX11_paper_32 : decode cX11_paper 32 = .ok (.goto 26, 3) := by decide +kernel
theorem dX11_paper_35 : decode cX11_paper 35 = .ok (.iload_n 2, 1) := by decide +kernel
theorem dX11_paper_36 : decode cX11_paper 36 = .ok (.aload_n 0, 1) := by decide +kernel
theorem dX11_paper_37 : decode cX11_paper 37 = .ok (.getfield 41, 3) := by decide +kernel
theorem dX11_paper_40 : decode cX11_paper 40 = .ok (.iconst 0, 1) := by decide +kernel
theorem dX11_paper_41 : decode cX11_paper 41 = .ok (.iaload, 1) := by decide +kernel
theorem dX11_paper_42 : decode cX11_paper 42 = .ok (.if_icmp .ge 15, 3) := by decide +kernel
theorem dX11_paper_45 : decode cX11_paper 45 = .ok (.aload_n 0, 1) := by decide +kernel
theorem dX11_paper_46 : decode cX11_paper 46 = .ok (.getfield 38, 3) := by decide +kernel
theorem dX11_paper_49 : decode cX11_paper 49 = .ok (.iload_n 2, 1) := by decide +kernel
theorem dX11_paper_50 : decode cX11_paper 50 = .ok (.iaload, 1) := by decide +kernel
theorem dX11_paper_51 : decode cX11_paper 51 = .ok (.invokestatic 199, 3) := by decide +kernel
theorem dX11_paper_54 : decode cX11_paper 54 = .ok (.goto 4, 3) := by decide +kernel
theorem dX11_paper_57 : decode cX11_paper 57 = .ok (.iconst (-1), 1) := by decide +kernel
theorem dX11_paper_58 : decode cX11_paper 58 = .ok (.ireturn, 1) := by decide +kernel
theorem dX11_isBegun_0 : decode cX11_isBegun 0 = .ok (.iload_n 1, 1) := by decide +kernel
theorem dX11_isBegun_1 : decode cX11_isBegun 1 = .ok (.i2l, 1) := by decide +kernel
theorem dX11_isBegun_2 : decode cX11_isBegun 2 = .ok (.lconst 0, 1) := by decide +kernel
theorem dX11_isBegun_3 : decode cX11_isBegun 3 = .ok (.ldc2_w 96, 3) := by decide +kernel
theorem dX11_isBegun_6 : decode cX11_isBegun 6 = .ok (.invokestatic 86, 3) := by decide +kernel
theorem dX11_isBegun_9 : decode cX11_isBegun 9 = .ok (.ireturn, 1) := by decide +kernel
theorem dX11_judgedOf_0 : decode cX11_judgedOf 0 = .ok (.aload_n 0, 1) := by decide +kernel
theorem dX11_judgedOf_1 : decode cX11_judgedOf 1 = .ok (.iconst 0, 1) := by decide +kernel
theorem dX11_judgedOf_2 : decode cX11_judgedOf 2 = .ok (.iload_n 3, 1) := by decide +kernel
theorem dX11_judgedOf_3 : decode cX11_judgedOf 3 = .ok (.invokevirtual 196, 3) := by decide +kernel
theorem dX11_judgedOf_6 : decode cX11_judgedOf 6 = .ok (.aload_n 0, 1) := by decide +kernel
theorem dX11_judgedOf_7 : decode cX11_judgedOf 7 = .ok (.iconst 0, 1) := by decide +kernel
theorem dX11_judgedOf_8 : decode cX11_judgedOf 8 = .ok (.putfield 180, 3) := by decide +kernel
theorem dX11_judgedOf_11 : decode cX11_judgedOf 11 = .ok (.iload_n 2, 1) := by decide +kernel
theorem dX11_judgedOf_12 : decode cX11_judgedOf 12 = .ok (.istore 5, 2) := by decide +kernel
theorem dX11_judgedOf_14 : decode cX11_judgedOf 14 = .ok (.aload_n 0, 1) := by decide +kernel
theorem dX11_judgedOf_15 : decode cX11_judgedOf 15 = .ok (.getfield 41, 3) := by decide +kernel
theorem dX11_judgedOf_18 : decode cX11_judgedOf 18 = .ok (.iconst 0, 1) := by decide +kernel
theorem dX11_judgedOf_19 : decode cX11_judgedOf 19 = .ok (.iaload, 1) := by decide +kernel
theorem dX11_judgedOf_20 : decode cX11_judgedOf 20 = .ok (.istore 6, 2) := by decide +kernel
theorem dX11_judgedOf_22 : decode cX11_judgedOf 22 = .ok (.iconst (-1), 1) := by decide +kernel
theorem dX11_judgedOf_23 : decode cX11_judgedOf 23 = .ok (.istore 7, 2) := by decide +kernel
theorem dX11_judgedOf_25 : decode cX11_judgedOf 25 = .ok (.aload_n 0, 1) := by decide +kernel
theorem dX11_judgedOf_26 : decode cX11_judgedOf 26 = .ok (.iload_n 1, 1) := by decide +kernel
theorem dX11_judgedOf_27 : decode cX11_judgedOf 27 = .ok (.invokevirtual 183, 3) := by decide +kernel
theorem dX11_judgedOf_30 : decode cX11_judgedOf 30 = .ok (.istore 8, 2) := by decide +kernel
theorem dX11_judgedOf_32 : decode cX11_judgedOf 32 = .ok (.iconst 0, 1) := by decide +kernel
theorem dX11_judgedOf_33 : decode cX11_judgedOf 33 = .ok (.istore 9, 2) := by decide +kernel
theorem dX11_judgedOf_35 : decode cX11_judgedOf 35 = .ok (.iload 9, 2) := by decide +kernel
theorem dX11_judgedOf_37 : decode cX11_judgedOf 37 = .ok (.iload 8, 2) := by decide +kernel
theorem dX11_judgedOf_39 : decode cX11_judgedOf 39 = .ok (.if_icmp .ge 171, 3) := by decide +kernel
theorem dX11_judgedOf_42 : decode cX11_judgedOf 42 = .ok (.iload 7, 2) := by decide +kernel
theorem dX11_judgedOf_44 : decode cX11_judgedOf 44 = .ok (.iconst (-1), 1) := by decide +kernel
theorem dX11_judgedOf_45 : decode cX11_judgedOf 45 = .ok (.if_icmp .ne 165, 3) := by decide +kernel
theorem dX11_judgedOf_48 : decode cX11_judgedOf 48 = .ok (.aload_n 0, 1) := by decide +kernel
theorem dX11_judgedOf_49 : decode cX11_judgedOf 49 = .ok (.iload_n 1, 1) := by decide +kernel
theorem dX11_judgedOf_50 : decode cX11_judgedOf 50 = .ok (.iload 9, 2) := by decide +kernel
theorem dX11_judgedOf_52 : decode cX11_judgedOf 52 = .ok (.invokevirtual 186, 3) := by decide +kernel
theorem dX11_judgedOf_55 : decode cX11_judgedOf 55 = .ok (.istore 10, 2) := by decide +kernel
theorem dX11_judgedOf_57 : decode cX11_judgedOf 57 = .ok (.aload_n 0, 1) := by decide +kernel
theorem dX11_judgedOf_58 : decode cX11_judgedOf 58 = .ok (.getfield 41, 3) := by decide +kernel
theorem dX11_judgedOf_61 : decode cX11_judgedOf 61 = .ok (.iconst 0, 1) := by decide +kernel
theorem dX11_judgedOf_62 : decode cX11_judgedOf 62 = .ok (.iaload, 1) := by decide +kernel
theorem dX11_judgedOf_63 : decode cX11_judgedOf 63 = .ok (.ifCond .le 28, 3) := by decide +kernel
theorem dX11_judgedOf_66 : decode cX11_judgedOf 66 = .ok (.aload_n 0, 1) := by decide +kernel
theorem dX11_judgedOf_67 : decode cX11_judgedOf 67 = .ok (.getfield 38, 3) := by decide +kernel
theorem dX11_judgedOf_70 : decode cX11_judgedOf 70 = .ok (.aload_n 0, 1) := by decide +kernel
theorem dX11_judgedOf_71 : decode cX11_judgedOf 71 = .ok (.getfield 41, 3) := by decide +kernel
theorem dX11_judgedOf_74 : decode cX11_judgedOf 74 = .ok (.iconst 0, 1) := by decide +kernel
theorem dX11_judgedOf_75 : decode cX11_judgedOf 75 = .ok (.iaload, 1) := by decide +kernel
theorem dX11_judgedOf_76 : decode cX11_judgedOf 76 = .ok (.iconst 1, 1) := by decide +kernel
theorem dX11_judgedOf_77 : decode cX11_judgedOf 77 = .ok (.isub, 1) := by decide +kernel
theorem dX11_judgedOf_78 : decode cX11_judgedOf 78 = .ok (.iaload, 1) := by decide +kernel
theorem dX11_judgedOf_79 : decode cX11_judgedOf 79 = .ok (.iload 10, 2) := by decide +kernel
theorem dX11_judgedOf_81 : decode cX11_judgedOf 81 = .ok (.invokestatic 177, 3) := by decide +kernel
theorem dX11_judgedOf_84 : decode cX11_judgedOf 84 = .ok (.if_icmp .ne 7, 3) := by decide +kernel
theorem dX11_judgedOf_87 : decode cX11_judgedOf 87 = .ok (.iconst 1, 1) := by decide +kernel
theorem dX11_judgedOf_88 : decode cX11_judgedOf 88 = .ok (.goto 4, 3) := by decide +kernel
theorem dX11_judgedOf_91 : decode cX11_judgedOf 91 = .ok (.iconst 0, 1) := by decide +kernel
theorem dX11_judgedOf_92 : decode cX11_judgedOf 92 = .ok (.istore 11, 2) := by decide +kernel
theorem dX11_judgedOf_94 : decode cX11_judgedOf 94 = .ok (.aload_n 0, 1) := by decide +kernel
theorem dX11_judgedOf_95 : decode cX11_judgedOf 95 = .ok (.getfield 34, 3) := by decide +kernel
theorem dX11_judgedOf_98 : decode cX11_judgedOf 98 = .ok (.iload 10, 2) := by decide +kernel
theorem dX11_judgedOf_100 : decode cX11_judgedOf 100 = .ok (.iconst 2, 1) := by decide +kernel
theorem dX11_judgedOf_101 : decode cX11_judgedOf 101 = .ok (.idiv, 1) := by decide +kernel
theorem dX11_judgedOf_102 : decode cX11_judgedOf 102 = .ok (.baload, 1) := by decide +kernel
theorem dX11_judgedOf_103 : decode cX11_judgedOf 103 = .ok (.ifCond .eq 21, 3) := by decide +kernel
theorem dX11_judgedOf_106 : decode cX11_judgedOf 106 = .ok (.iload 11, 2) := by decide +kernel
theorem dX11_judgedOf_108 : decode cX11_judgedOf 108 = .ok (.ifCond .ne 16, 3) := by decide +kernel
theorem dX11_judgedOf_111 : decode cX11_judgedOf 111 = .ok (.aload_n 0, 1) := by decide +kernel
theorem dX11_judgedOf_112 : decode cX11_judgedOf 112 = .ok (.getfield 41, 3) := by decide +kernel
theorem dX11_judgedOf_115 : decode cX11_judgedOf 115 = .ok (.iconst 0, 1) := by decide +kernel
theorem dX11_judgedOf_116 : decode cX11_judgedOf 116 = .ok (.iaload, 1) := by decide +kernel
theorem dX11_judgedOf_117 : decode cX11_judgedOf 117 = .ok (.aload_n 0, 1) := by decide +kernel
theorem dX11_judgedOf_118 : decode cX11_judgedOf 118 = .ok (.getfield 131, 3) := by decide +kernel
theorem dX11_judgedOf_121 : decode cX11_judgedOf 121 = .ok (.if_icmp .ge 7, 3) := by decide +kernel
theorem dX11_judgedOf_124 : decode cX11_judgedOf 124 = .ok (.iconst 1, 1) := by decide +kernel
theorem dX11_judgedOf_125 : decode cX11_judgedOf 125 = .ok (.goto 4, 3) := by decide +kernel
theorem dX11_judgedOf_128 : decode cX11_judgedOf 128 = .ok (.iconst 0, 1) := by decide +kernel
theorem dX11_judgedOf_129 : decode cX11_judgedOf 129 = .ok (.istore 12, 2) := by decide +kernel
theorem dX11_judgedOf_131 : decode cX11_judgedOf 131 = .ok (.aload_n 0, 1) := by decide +kernel
theorem dX11_judgedOf_132 : decode cX11_judgedOf 132 = .ok (.iload 10, 2) := by decide +kernel
theorem dX11_judgedOf_134 : decode cX11_judgedOf 134 = .ok (.invokevirtual 166, 3) := by decide +kernel
theorem dX11_judgedOf_137 : decode cX11_judgedOf 137 = .ok (.iload 5, 2) := by decide +kernel
theorem dX11_judgedOf_139 : decode cX11_judgedOf 139 = .ok (.if_icmp .ne 19, 3) := by decide +kernel
theorem dX11_judgedOf_142 : decode cX11_judgedOf 142 = .ok (.aload_n 0, 1) := by decide +kernel
theorem dX11_judgedOf_143 : decode cX11_judgedOf 143 = .ok (.iload 10, 2) := by decide +kernel
theorem dX11_judgedOf_145 : decode cX11_judgedOf 145 = .ok (.iconst 2, 1) := by decide +kernel
theorem dX11_judgedOf_146 : decode cX11_judgedOf 146 = .ok (.idiv, 1) := by decide +kernel
theorem dX11_judgedOf_147 : decode cX11_judgedOf 147 = .ok (.invokevirtual 172, 3) := by decide +kernel
theorem dX11_judgedOf_150 : decode cX11_judgedOf 150 = .ok (.ifCond .ne 8, 3) := by decide +kernel
theorem dX11_judgedOf_153 : decode cX11_judgedOf 153 = .ok (.iload 12, 2) := by decide +kernel
theorem dX11_judgedOf_155 : decode cX11_judgedOf 155 = .ok (.ifCond .ne 10, 3) := by decide +kernel
theorem dX11_judgedOf_158 : decode cX11_judgedOf 158 = .ok (.iload 9, 2) := by decide +kernel
theorem dX11_judgedOf_160 : decode cX11_judgedOf 160 = .ok (.istore 7, 2) := by decide +kernel
theorem dX11_judgedOf_162 : decode cX11_judgedOf 162 = .ok (.goto 42, 3) := by decide +kernel
theorem dX11_judgedOf_165 : decode cX11_judgedOf 165 = .ok (.aload_n 0, 1) := by decide +kernel
theorem dX11_judgedOf_166 : decode cX11_judgedOf 166 = .ok (.iconst 0, 1) := by decide +kernel
theorem dX11_judgedOf_167 : decode cX11_judgedOf 167 = .ok (.iload 10, 2) := by decide +kernel
theorem dX11_judgedOf_169 : decode cX11_judgedOf 169 = .ok (.invokevirtual 189, 3) := by decide +kernel
theorem dX11_judgedOf_172 : decode cX11_judgedOf 172 = .ok (.aload_n 0, 1) := by decide +kernel
theorem dX11_judgedOf_173 : decode cX11_judgedOf 173 = .ok (.iload 10, 2) := by decide +kernel
theorem dX11_judgedOf_175 : decode cX11_judgedOf 175 = .ok (.invokevirtual 202, 3) := by decide +kernel
theorem dX11_judgedOf_178 : decode cX11_judgedOf 178 = .ok (.istore 5, 2) := by decide +kernel
theorem dX11_judgedOf_180 : decode cX11_judgedOf 180 = .ok (.aload_n 0, 1) := by decide +kernel
theorem dX11_judgedOf_181 : decode cX11_judgedOf 181 = .ok (.getfield 41, 3) := by decide +kernel
theorem dX11_judgedOf_184 : decode cX11_judgedOf 184 = .ok (.iconst 0, 1) := by decide +kernel
theorem dX11_judgedOf_185 : decode cX11_judgedOf 185 = .ok (.iaload, 1) := by decide +kernel
theorem dX11_judgedOf_186 : decode cX11_judgedOf 186 = .ok (.iload 6, 2) := by decide +kernel
theorem dX11_judgedOf_188 : decode cX11_judgedOf 188 = .ok (.if_icmp .le 12, 3) := by decide +kernel
theorem dX11_judgedOf_191 : decode cX11_judgedOf 191 = .ok (.aload_n 0, 1) := by decide +kernel
theorem dX11_judgedOf_192 : decode cX11_judgedOf 192 = .ok (.getfield 41, 3) := by decide +kernel
theorem dX11_judgedOf_195 : decode cX11_judgedOf 195 = .ok (.iconst 0, 1) := by decide +kernel
theorem dX11_judgedOf_196 : decode cX11_judgedOf 196 = .ok (.iaload, 1) := by decide +kernel
theorem dX11_judgedOf_197 : decode cX11_judgedOf 197 = .ok (.goto 5, 3) := by decide +kernel
theorem dX11_judgedOf_200 : decode cX11_judgedOf 200 = .ok (.iload 6, 2) := by decide +kernel
theorem dX11_judgedOf_202 : decode cX11_judgedOf 202 = .ok (.istore 6, 2) := by decide +kernel
theorem dX11_judgedOf_204 : decode cX11_judgedOf 204 = .ok (.iinc 9 1, 3) := by decide +kernel
theorem dX11_judgedOf_207 : decode cX11_judgedOf 207 = .ok (.goto (-172), 3) := by decide +kernel
theorem dX11_judgedOf_210 : decode cX11_judgedOf 210 = .ok (.iload 4, 2) := by decide +kernel
theorem dX11_judgedOf_212 : decode cX11_judgedOf 212 = .ok (.ifCond .ne 8, 3) := by decide +kernel
theorem dX11_judgedOf_215 : decode cX11_judgedOf 215 = .ok (.iload 7, 2) := by decide +kernel
theorem dX11_judgedOf_217 : decode cX11_judgedOf 217 = .ok (.goto 44, 3) := by decide +kernel
theorem dX11_judgedOf_220 : decode cX11_judgedOf 220 = .ok (.iload 4, 2) := by decide +kernel
theorem dX11_judgedOf_222 : decode cX11_judgedOf 222 = .ok (.iconst 1, 1) := by decide +kernel
theorem dX11_judgedOf_223 : decode cX11_judgedOf 223 = .ok (.if_icmp .ne 8, 3) := by decide +kernel
theorem dX11_judgedOf_226 : decode cX11_judgedOf 226 = .ok (.iload 5, 2) := by decide +kernel
theorem dX11_judgedOf_228 : decode cX11_judgedOf 228 = .ok (.goto 33, 3) := by decide +kernel
theorem dX11_judgedOf_231 : decode cX11_judgedOf 231 = .ok (.iload 4, 2) := by decide +kernel
theorem dX11_judgedOf_233 : decode cX11_judgedOf 233 = .ok (.iconst 2, 1) := by decide +kernel
theorem dX11_judgedOf_234 : decode cX11_judgedOf 234 = .ok (.if_icmp .ne 8, 3) := by decide +kernel
theorem dX11_judgedOf_237 : decode cX11_judgedOf 237 = .ok (.iload 6, 2) := by decide +kernel
theorem dX11_judgedOf_239 : decode cX11_judgedOf 239 = .ok (.goto 22, 3) := by decide +kernel
theorem dX11_judgedOf_242 : decode cX11_judgedOf 242 = .ok (.iload 4, 2) := by decide +kernel
theorem dX11_judgedOf_244 : decode cX11_judgedOf 244 = .ok (.iconst 3, 1) := by decide +kernel
theorem dX11_judgedOf_245 : decode cX11_judgedOf 245 = .ok (.if_icmp .ne 12, 3) := by decide +kernel
theorem dX11_judgedOf_248 : decode cX11_judgedOf 248 = .ok (.aload_n 0, 1) := by decide +kernel
theorem dX11_judgedOf_249 : decode cX11_judgedOf 249 = .ok (.getfield 41, 3) := by decide +kernel
theorem dX11_judgedOf_252 : decode cX11_judgedOf 252 = .ok (.iconst 0, 1) := by decide +kernel
theorem dX11_judgedOf_253 : decode cX11_judgedOf 253 = .ok (.iaload, 1) := by decide +kernel
theorem dX11_judgedOf_254 : decode cX11_judgedOf 254 = .ok (.goto 7, 3) := by decide +kernel
theorem dX11_judgedOf_257 : decode cX11_judgedOf 257 = .ok (.aload_n 0, 1) := by decide +kernel
theorem dX11_judgedOf_258 : decode cX11_judgedOf 258 = .ok (.getfield 180, 3) := by decide +kernel
theorem dX11_judgedOf_261 : decode cX11_judgedOf 261 = .ok (.ireturn, 1) := by decide +kernel
theorem dX11_judged_0 : decode cX11_judged 0 = .ok (.iload_n 1, 1) := by decide +kernel
theorem dX11_judged_1 : decode cX11_judged 1 = .ok (.invokestatic 193, 3) := by decide +kernel
theorem dX11_judged_4 : decode cX11_judged 4 = .ok (.ifCond .eq 43, 3) := by decide +kernel
theorem dX11_judged_7 : decode cX11_judged 7 = .ok (.iload_n 2, 1) := by decide +kernel
theorem dX11_judged_8 : decode cX11_judged 8 = .ok (.invokestatic 148, 3) := by decide +kernel
theorem dX11_judged_11 : decode cX11_judged 11 = .ok (.ifCond .eq 36, 3) := by decide +kernel
theorem dX11_judged_14 : decode cX11_judged 14 = .ok (.aload_n 0, 1) := by decide +kernel
theorem dX11_judged_15 : decode cX11_judged 15 = .ok (.iload_n 3, 1) := by decide +kernel
theorem dX11_judged_16 : decode cX11_judged 16 = .ok (.invokevirtual 205, 3) := by decide +kernel
theorem dX11_judged_19 : decode cX11_judged 19 = .ok (.ifCond .eq 28, 3) := by decide +kernel
theorem dX11_judged_22 : decode cX11_judged 22 = .ok (.iload 4, 2) := by decide +kernel
theorem dX11_judged_24 : decode cX11_judged 24 = .ok (.i2l, 1) := by decide +kernel
theorem dX11_judged_25 : decode cX11_judged 25 = .ok (.lconst 0, 1) := by decide +kernel
theorem dX11_judged_26 : decode cX11_judged 26 = .ok (.ldc2_w 208, 3) := by decide +kernel
theorem dX11_judged_29 : decode cX11_judged 29 = .ok (.invokestatic 86, 3) := by decide +kernel
theorem dX11_judged_32 : decode cX11_judged 32 = .ok (.ifCond .eq 15, 3) := by decide +kernel
theorem dX11_judged_35 : decode cX11_judged 35 = .ok (.aload_n 0, 1) := by decide +kernel
theorem dX11_judged_36 : decode cX11_judged 36 = .ok (.iload_n 1, 1) := by decide +kernel
theorem dX11_judged_37 : decode cX11_judged 37 = .ok (.iload_n 2, 1) := by decide +kernel
theorem dX11_judged_38 : decode cX11_judged 38 = .ok (.iload_n 3, 1) := by decide +kernel
theorem dX11_judged_39 : decode cX11_judged 39 = .ok (.iload 4, 2) := by decide +kernel
theorem dX11_judged_41 : decode cX11_judged 41 = .ok (.invokevirtual 210, 3) := by decide +kernel
theorem dX11_judged_44 : decode cX11_judged 44 = .ok (.goto 5, 3) := by decide +kernel
theorem dX11_judged_47 : decode cX11_judged 47 = .ok (.bipush (-2), 2) := by decide +kernel
theorem dX11_judged_49 : decode cX11_judged 49 = .ok (.ireturn, 1) := by decide +kernel
theorem dX11_alike_0 : decode cX11_alike 0 = .ok (.iconst 0, 1) := by decide +kernel
theorem dX11_alike_1 : decode cX11_alike 1 = .ok (.istore_n 1, 1) := by decide +kernel
theorem dX11_alike_2 : decode cX11_alike 2 = .ok (.iload_n 1, 1) := by decide +kernel
theorem dX11_alike_3 : decode cX11_alike 3 = .ok (.aload_n 0, 1) := by decide +kernel
theorem dX11_alike_4 : decode cX11_alike 4 = .ok (.getfield 41, 3) := by decide +kernel
theorem dX11_alike_7 : decode cX11_alike 7 = .ok (.iconst 0, 1) := by decide +kernel
theorem dX11_alike_8 : decode cX11_alike 8 = .ok (.iaload, 1) := by decide +kernel
theorem dX11_alike_9 : decode cX11_alike 9 = .ok (.if_icmp .ge 37, 3) := by decide +kernel
theorem dX11_alike_12 : decode cX11_alike 12 = .ok (.iload_n 1, 1) := by decide +kernel
theorem dX11_alike_13 : decode cX11_alike 13 = .ok (.aload_n 0, 1) := by decide +kernel
theorem dX11_alike_14 : decode cX11_alike 14 = .ok (.getfield 41, 3) := by decide +kernel
theorem dX11_alike_17 : decode cX11_alike 17 = .ok (.iconst 1, 1) := by decide +kernel
theorem dX11_alike_18 : decode cX11_alike 18 = .ok (.iaload, 1) := by decide +kernel
theorem dX11_alike_19 : decode cX11_alike 19 = .ok (.if_icmp .ge 27, 3) := by decide +kernel
theorem dX11_alike_22 : decode cX11_alike 22 = .ok (.aload_n 0, 1) := by decide +kernel
theorem dX11_alike_23 : decode cX11_alike 23 = .ok (.getfield 38, 3) := by decide +kernel
theorem dX11_alike_26 : decode cX11_alike 26 = .ok (.iload_n 1, 1) := by decide +kernel
theorem dX11_alike_27 : decode cX11_alike 27 = .ok (.iaload, 1) := by decide +kernel
theorem dX11_alike_28 : decode cX11_alike 28 = .ok (.aload_n 0, 1) := by decide +kernel
theorem dX11_alike_29 : decode cX11_alike 29 = .ok (.getfield 38, 3) := by decide +kernel
theorem dX11_alike_32 : decode cX11_alike 32 = .ok (.bipush 60, 2) := by decide +kernel
theorem dX11_alike_34 : decode cX11_alike 34 = .ok (.iload_n 1, 1) := by decide +kernel
theorem dX11_alike_35 : decode cX11_alike 35 = .ok (.iadd, 1) := by decide +kernel
theorem dX11_alike_36 : decode cX11_alike 36 = .ok (.iaload, 1) := by decide +kernel
theorem dX11_alike_37 : decode cX11_alike 37 = .ok (.if_icmp .ne 9, 3) := by decide +kernel
theorem dX11_alike_40 : decode cX11_alike 40 = .ok (.iinc 1 1, 3) := by decide +kernel
theorem dX11_alike_43 : decode cX11_alike 43 = .ok (.goto (-41), 3) := by decide +kernel
theorem dX11_alike_46 : decode cX11_alike 46 = .ok (.iload_n 1, 1) := by decide +kernel
theorem dX11_alike_47 : decode cX11_alike 47 = .ok (.ireturn, 1) := by decide +kernel
theorem dX11_sameOf_0 : decode cX11_sameOf 0 = .ok (.aload_n 0, 1) := by decide +kernel
theorem dX11_sameOf_1 : decode cX11_sameOf 1 = .ok (.iconst 0, 1) := by decide +kernel
theorem dX11_sameOf_2 : decode cX11_sameOf 2 = .ok (.iload_n 1, 1) := by decide +kernel
theorem dX11_sameOf_3 : decode cX11_sameOf 3 = .ok (.invokevirtual 196, 3) := by decide +kernel
theorem dX11_sameOf_6 : decode cX11_sameOf 6 = .ok (.aload_n 0, 1) := by decide +kernel
theorem dX11_sameOf_7 : decode cX11_sameOf 7 = .ok (.iconst 1, 1) := by decide +kernel
theorem dX11_sameOf_8 : decode cX11_sameOf 8 = .ok (.iload_n 2, 1) := by decide +kernel
theorem dX11_sameOf_9 : decode cX11_sameOf 9 = .ok (.invokevirtual 196, 3) := by decide +kernel
theorem dX11_sameOf_12 : decode cX11_sameOf 12 = .ok (.aload_n 0, 1) := by decide +kernel
theorem dX11_sameOf_13 : decode cX11_sameOf 13 = .ok (.getfield 41, 3) := by decide +kernel
theorem dX11_sameOf_16 : decode cX11_sameOf 16 = .ok (.iconst 0, 1) := by decide +kernel
theorem dX11_sameOf_17 : decode cX11_sameOf 17 = .ok (.iaload, 1) := by decide +kernel
theorem dX11_sameOf_18 : decode cX11_sameOf 18 = .ok (.aload_n 0, 1) := by decide +kernel
theorem dX11_sameOf_19 : decode cX11_sameOf 19 = .ok (.getfield 41, 3) := by decide +kernel
theorem dX11_sameOf_22 : decode cX11_sameOf 22 = .ok (.iconst 1, 1) := by decide +kernel
theorem dX11_sameOf_23 : decode cX11_sameOf 23 = .ok (.iaload, 1) := by decide +kernel
theorem dX11_sameOf_24 : decode cX11_sameOf 24 = .ok (.if_icmp .ne 20, 3) := by decide +kernel
theorem dX11_sameOf_27 : decode cX11_sameOf 27 = .ok (.aload_n 0, 1) := by decide +kernel
theorem dX11_sameOf_28 : decode cX11_sameOf 28 = .ok (.invokevirtual 214, 3) := by decide +kernel
theorem dX11_sameOf_31 : decode cX11_sameOf 31 = .ok (.aload_n 0, 1) := by decide +kernel
theorem dX11_sameOf_32 : decode cX11_sameOf 32 = .ok (.getfield 41, 3) := by decide +kernel
theorem dX11_sameOf_35 : decode cX11_sameOf 35 = .ok (.iconst 0, 1) := by decide +kernel
theorem dX11_sameOf_36 : decode cX11_sameOf 36 = .ok (.iaload, 1) := by decide +kernel
theorem dX11_sameOf_37 : decode cX11_sameOf 37 = .ok (.if_icmp .ne 7, 3) := by decide +kernel
theorem dX11_sameOf_40 : decode cX11_sameOf 40 = .ok (.iconst 1, 1) := by decide +kernel
theorem dX11_sameOf_41 : decode cX11_sameOf 41 = .ok (.goto 4, 3) := by decide +kernel
theorem dX11_sameOf_44 : decode cX11_sameOf 44 = .ok (.iconst 0, 1) := by decide +kernel
theorem dX11_sameOf_45 : decode cX11_sameOf 45 = .ok (.ireturn, 1) := by decide +kernel
theorem dX11_same_0 : decode cX11_same 0 = .ok (.iload_n 1, 1) := by decide +kernel
theorem dX11_same_1 : decode cX11_same 1 = .ok (.invokestatic 193, 3) := by decide +kernel
theorem dX11_same_4 : decode cX11_same 4 = .ok (.ifCond .eq 19, 3) := by decide +kernel
theorem dX11_same_7 : decode cX11_same 7 = .ok (.iload_n 2, 1) := by decide +kernel
theorem dX11_same_8 : decode cX11_same 8 = .ok (.invokestatic 193, 3) := by decide +kernel
theorem dX11_same_11 : decode cX11_same 11 = .ok (.ifCond .eq 12, 3) := by decide +kernel
theorem dX11_same_14 : decode cX11_same 14 = .ok (.aload_n 0, 1) := by decide +kernel
theorem dX11_same_15 : decode cX11_same 15 = .ok (.iload_n 1, 1) := by decide +kernel
theorem dX11_same_16 : decode cX11_same 16 = .ok (.iload_n 2, 1) := by decide +kernel
theorem dX11_same_17 : decode cX11_same 17 = .ok (.invokevirtual 217, 3) := by decide +kernel
theorem dX11_same_20 : decode cX11_same 20 = .ok (.goto 5, 3) := by decide +kernel
theorem dX11_same_23 : decode cX11_same 23 = .ok (.bipush (-2), 2) := by decide +kernel
theorem dX11_same_25 : decode cX11_same 25 = .ok (.ireturn, 1) := by decide +kernel
theorem dX11_isUnseen_0 : decode cX11_isUnseen 0 = .ok (.aload_n 0, 1) := by decide +kernel
theorem dX11_isUnseen_1 : decode cX11_isUnseen 1 = .ok (.getfield 34, 3) := by decide +kernel
theorem dX11_isUnseen_4 : decode cX11_isUnseen 4 = .ok (.iload_n 1, 1) := by decide +kernel
theorem dX11_isUnseen_5 : decode cX11_isUnseen 5 = .ok (.iconst 2, 1) := by decide +kernel
theorem dX11_isUnseen_6 : decode cX11_isUnseen 6 = .ok (.idiv, 1) := by decide +kernel
theorem dX11_isUnseen_7 : decode cX11_isUnseen 7 = .ok (.baload, 1) := by decide +kernel
theorem dX11_isUnseen_8 : decode cX11_isUnseen 8 = .ok (.ifCond .ne 17, 3) := by decide +kernel
theorem dX11_isUnseen_11 : decode cX11_isUnseen 11 = .ok (.aload_n 0, 1) := by decide +kernel
theorem dX11_isUnseen_12 : decode cX11_isUnseen 12 = .ok (.iload_n 1, 1) := by decide +kernel
theorem dX11_isUnseen_13 : decode cX11_isUnseen 13 = .ok (.iconst 2, 1) := by decide +kernel
theorem dX11_isUnseen_14 : decode cX11_isUnseen 14 = .ok (.idiv, 1) := by decide +kernel
theorem dX11_isUnseen_15 : decode cX11_isUnseen 15 = .ok (.invokevirtual 172, 3) := by decide +kernel
theorem dX11_isUnseen_18 : decode cX11_isUnseen 18 = .ok (.ifCond .ne 7, 3) := by decide +kernel
theorem dX11_isUnseen_21 : decode cX11_isUnseen 21 = .ok (.iconst 1, 1) := by decide +kernel
theorem dX11_isUnseen_22 : decode cX11_isUnseen 22 = .ok (.goto 4, 3) := by decide +kernel
theorem dX11_isUnseen_25 : decode cX11_isUnseen 25 = .ok (.iconst 0, 1) := by decide +kernel
theorem dX11_isUnseen_26 : decode cX11_isUnseen 26 = .ok (.ireturn, 1) := by decide +kernel
theorem dX11_findUnseen_0 : decode cX11_findUnseen 0 = .ok (.iconst 0, 1) := by decide +kernel
theorem dX11_findUnseen_1 : decode cX11_findUnseen 1 = .ok (.istore_n 1, 1) := by decide +kernel
theorem dX11_findUnseen_2 : decode cX11_findUnseen 2 = .ok (.iload_n 1, 1) := by decide +kernel
theorem dX11_findUnseen_3 : decode cX11_findUnseen 3 = .ok (.bipush 8, 2) := by decide +kernel
theorem dX11_findUnseen_5 : decode cX11_findUnseen 5 = .ok (.if_icmp .ge 196, 3) := by decide +kernel
theorem dX11_findUnseen_8 : decode cX11_findUnseen 8 = .ok (.iconst 0, 1) := by decide +kernel
theorem dX11_findUnseen_9 : decode cX11_findUnseen 9 = .ok (.istore_n 2, 1) := by decide +kernel
theorem dX11_findUnseen_10 : decode cX11_findUnseen 10 = .ok (.iload_n 2, 1) := by decide +kernel
theorem dX11_findUnseen_11 : decode cX11_findUnseen 11 = .ok (.bipush 8, 2) := by decide +kernel
theorem dX11_findUnseen_13 : decode cX11_findUnseen 13 = .ok (.if_icmp .ge 53, 3) := by decide +kernel
theorem dX11_findUnseen_16 : decode cX11_findUnseen 16 = .ok (.aload_n 0, 1) := by decide +kernel
theorem dX11_findUnseen_17 : decode cX11_findUnseen 17 = .ok (.getfield 44, 3) := by decide +kernel
theorem dX11_findUnseen_20 : decode cX11_findUnseen 20 = .ok (.bipush 8, 2) := by decide +kernel
theorem dX11_findUnseen_22 : decode cX11_findUnseen 22 = .ok (.iload_n 1, 1) := by decide +kernel
theorem dX11_findUnseen_23 : decode cX11_findUnseen 23 = .ok (.imul, 1) := by decide +kernel
theorem dX11_findUnseen_24 : decode cX11_findUnseen 24 = .ok (.iload_n 2, 1) := by decide +kernel
theorem dX11_findUnseen_25 : decode cX11_findUnseen 25 = .ok (.iadd, 1) := by decide +kernel
theorem dX11_findUnseen_26 : decode cX11_findUnseen 26 = .ok (.iload_n 1, 1) := by decide +kernel
theorem dX11_findUnseen_27 : decode cX11_findUnseen 27 = .ok (.iload_n 2, 1) := by decide +kernel
theorem dX11_findUnseen_28 : decode cX11_findUnseen 28 = .ok (.if_icmp .ne 7, 3) := by decide +kernel
theorem dX11_findUnseen_31 : decode cX11_findUnseen 31 = .ok (.iconst 0, 1) := by decide +kernel
theorem dX11_findUnseen_32 : decode cX11_findUnseen 32 = .ok (.goto 6, 3) := by decide +kernel
theorem dX11_findUnseen_35 : decode cX11_findUnseen 35 = .ok (.sipush 1000, 3) := by decide +kernel
theorem dX11_findUnseen_38 : decode cX11_findUnseen 38 = .ok (.iastore, 1) := by decide +kernel
theorem dX11_findUnseen_39 : decode cX11_findUnseen 39 = .ok (.aload_n 0, 1) := by decide +kernel
theorem dX11_findUnseen_40 : decode cX11_findUnseen 40 = .ok (.getfield 47, 3) := by decide +kernel
theorem dX11_findUnseen_43 : decode cX11_findUnseen 43 = .ok (.bipush 8, 2) := by decide +kernel
theorem dX11_findUnseen_45 : decode cX11_findUnseen 45 = .ok (.iload_n 1, 1) := by decide +kernel
theorem dX11_findUnseen_46 : decode cX11_findUnseen 46 = .ok (.imul, 1) := by decide +kernel
theorem dX11_findUnseen_47 : decode cX11_findUnseen 47 = .ok (.iload_n 2, 1) := by decide +kernel
theorem dX11_findUnseen_48 : decode cX11_findUnseen 48 = .ok (.iadd, 1) := by decide +kernel
theorem dX11_findUnseen_49 : decode cX11_findUnseen 49 = .ok (.iload_n 1, 1) := by decide +kernel
theorem dX11_findUnseen_50 : decode cX11_findUnseen 50 = .ok (.iload_n 2, 1) := by decide +kernel
theorem dX11_findUnseen_51 : decode cX11_findUnseen 51 = .ok (.if_icmp .ne 7, 3) := by decide +kernel
theorem dX11_findUnseen_54 : decode cX11_findUnseen 54 = .ok (.lconst 1, 1) := by decide +kernel
theorem dX11_findUnseen_55 : decode cX11_findUnseen 55 = .ok (.goto 4, 3) := by decide +kernel
theorem dX11_findUnseen_58 : decode cX11_findUnseen 58 = .ok (.lconst 0, 1) := by decide +kernel
theorem dX11_findUnseen_59 : decode cX11_findUnseen 59 = .ok (.lastore, 1) := by decide +kernel
theorem dX11_findUnseen_60 : decode cX11_findUnseen 60 = .ok (.iinc 2 1, 3) := by decide +kernel
theorem dX11_findUnseen_63 : decode cX11_findUnseen 63 = .ok (.goto (-53), 3) := by decide +kernel
theorem dX11_findUnseen_66 : decode cX11_findUnseen 66 = .ok (.iconst 1, 1) := by decide +kernel
theorem dX11_findUnseen_67 : decode cX11_findUnseen 67 = .ok (.istore_n 2, 1) := by decide +kernel
theorem dX11_findUnseen_68 : decode cX11_findUnseen 68 = .ok (.iload_n 2, 1) := by decide +kernel
theorem dX11_findUnseen_69 : decode cX11_findUnseen 69 = .ok (.bipush 8, 2) := by decide +kernel
theorem dX11_findUnseen_71 : decode cX11_findUnseen 71 = .ok (.if_icmp .ge 124, 3) := by decide +kernel
theorem dX11_findUnseen_74 : decode cX11_findUnseen 74 = .ok (.iconst 0, 1) := by decide +kernel
theorem dX11_findUnseen_75 : decode cX11_findUnseen 75 = .ok (.istore_n 3, 1) := by decide +kernel
theorem dX11_findUnseen_76 : decode cX11_findUnseen 76 = .ok (.iload_n 3, 1) := by decide +kernel
theorem dX11_findUnseen_77 : decode cX11_findUnseen 77 = .ok (.iconst 2, 1) := by decide +kernel
theorem dX11_findUnseen_78 : decode cX11_findUnseen 78 = .ok (.aload_n 0, 1) := by decide +kernel
theorem dX11_findUnseen_79 : decode cX11_findUnseen 79 = .ok (.getfield 128, 3) := by decide +kernel
theorem dX11_findUnseen_82 : decode cX11_findUnseen 82 = .ok (.imul, 1) := by decide +kernel
theorem dX11_findUnseen_83 : decode cX11_findUnseen 83 = .ok (.if_icmp .ge 106, 3) := by decide +kernel
theorem dX11_findUnseen_86 : decode cX11_findUnseen 86 = .ok (.aload_n 0, 1) := by decide +kernel
theorem dX11_findUnseen_87 : decode cX11_findUnseen 87 = .ok (.iload_n 3, 1) := by decide +kernel
theorem dX11_findUnseen_88 : decode cX11_findUnseen 88 = .ok (.invokevirtual 220, 3) := by decide +kernel
theorem dX11_findUnseen_91 : decode cX11_findUnseen 91 = .ok (.ifCond .eq 28, 3) := by decide +kernel
theorem dX11_findUnseen_94 : decode cX11_findUnseen 94 = .ok (.aload_n 0, 1) := by decide +kernel
theorem dX11_findUnseen_95 : decode cX11_findUnseen 95 = .ok (.getfield 44, 3) := by decide +kernel
theorem dX11_findUnseen_98 : decode cX11_findUnseen 98 = .ok (.bipush 8, 2) := by decide +kernel
theorem dX11_findUnseen_100 : decode cX11_findUnseen 100 = .ok (.iload_n 1, 1) := by decide +kernel
theorem dX11_findUnseen_101 : decode cX11_findUnseen 101 = .ok (.imul, 1) := by decide +kernel
theorem dX11_findUnseen_102 : decode cX11_findUnseen 102 = .ok (.aload_n 0, 1) := by decide +kernel
theorem dX11_findUnseen_103 : decode cX11_findUnseen 103 = .ok (.iload_n 3, 1) := by decide +kernel
theorem dX11_findUnseen_104 : decode cX11_findUnseen 104 = .ok (.invokevirtual 166, 3) := by decide +kernel
theorem dX11_findUnseen_107 : decode cX11_findUnseen 107 = .ok (.iadd, 1) := by decide +kernel
theorem dX11_findUnseen_108 : decode cX11_findUnseen 108 = .ok (.iaload, 1) := by decide +kernel
theorem dX11_findUnseen_109 : decode cX11_findUnseen 109 = .ok (.iload_n 2, 1) := by decide +kernel
theorem dX11_findUnseen_110 : decode cX11_findUnseen 110 = .ok (.iconst 1, 1) := by decide +kernel
theorem dX11_findUnseen_111 : decode cX11_findUnseen 111 = .ok (.isub, 1) := by decide +kernel
theorem dX11_findUnseen_112 : decode cX11_findUnseen 112 = .ok (.if_icmp .ne 7, 3) := by decide +kernel
theorem dX11_findUnseen_115 : decode cX11_findUnseen 115 = .ok (.iconst 1, 1) := by decide +kernel
theorem dX11_findUnseen_116 : decode cX11_findUnseen 116 = .ok (.goto 4, 3) := by decide +kernel
theorem dX11_findUnseen_119 : decode cX11_findUnseen 119 = .ok (.iconst 0, 1) := by decide +kernel
theorem dX11_findUnseen_120 : decode cX11_findUnseen 120 = .ok (.istore 4, 2) := by decide +kernel
theorem dX11_findUnseen_122 : decode cX11_findUnseen 122 = .ok (.bipush 8, 2) := by decide +kernel
theorem dX11_findUnseen_124 : decode cX11_findUnseen 124 = .ok (.iload_n 1, 1) := by decide +kernel
theorem dX11_findUnseen_125 : decode cX11_findUnseen 125 = .ok (.imul, 1) := by decide +kernel
theorem dX11_findUnseen_126 : decode cX11_findUnseen 126 = .ok (.aload_n 0, 1) := by decide +kernel
theorem dX11_findUnseen_127 : decode cX11_findUnseen 127 = .ok (.iload_n 3, 1) := by decide +kernel
theorem dX11_findUnseen_128 : decode cX11_findUnseen 128 = .ok (.invokevirtual 202, 3) := by decide +kernel
theorem dX11_findUnseen_131 : decode cX11_findUnseen 131 = .ok (.iadd, 1) := by decide +kernel
theorem dX11_findUnseen_132 : decode cX11_findUnseen 132 = .ok (.istore 5, 2) := by decide +kernel
theorem dX11_findUnseen_134 : decode cX11_findUnseen 134 = .ok (.iload 4, 2) := by decide +kernel
theorem dX11_findUnseen_136 : decode cX11_findUnseen 136 = .ok (.ifCond .eq 47, 3) := by decide +kernel
theorem dX11_findUnseen_139 : decode cX11_findUnseen 139 = .ok (.aload_n 0, 1) := by decide +kernel
theorem dX11_findUnseen_140 : decode cX11_findUnseen 140 = .ok (.getfield 44, 3) := by decide +kernel
theorem dX11_findUnseen_143 : decode cX11_findUnseen 143 = .ok (.iload 5, 2) := by decide +kernel
theorem dX11_findUnseen_145 : decode cX11_findUnseen 145 = .ok (.iaload, 1) := by decide +kernel
theorem dX11_findUnseen_146 : decode cX11_findUnseen 146 = .ok (.iload_n 2, 1) := by decide +kernel
theorem dX11_findUnseen_147 : decode cX11_findUnseen 147 = .ok (.if_icmp .lt 36, 3) := by decide +kernel
theorem dX11_findUnseen_150 : decode cX11_findUnseen 150 = .ok (.aload_n 0, 1) := by decide +kernel
theorem dX11_findUnseen_151 : decode cX11_findUnseen 151 = .ok (.getfield 44, 3) := by decide +kernel
theorem dX11_findUnseen_154 : decode cX11_findUnseen 154 = .ok (.iload 5, 2) := by decide +kernel
theorem dX11_findUnseen_156 : decode cX11_findUnseen 156 = .ok (.iload_n 2, 1) := by decide +kernel
theorem dX11_findUnseen_157 : decode cX11_findUnseen 157 = .ok (.iastore, 1) := by decide +kernel
theorem dX11_findUnseen_158 : decode cX11_findUnseen 158 = .ok (.aload_n 0, 1) := by decide +kernel
theorem dX11_findUnseen_159 : decode cX11_findUnseen 159 = .ok (.getfield 47, 3) := by decide +kernel
theorem dX11_findUnseen_162 : decode cX11_findUnseen 162 = .ok (.iload 5, 2) := by decide +kernel
theorem dX11_findUnseen_164 : decode cX11_findUnseen 164 = .ok (.dup2, 1) := by decide +kernel
theorem dX11_findUnseen_165 : decode cX11_findUnseen 165 = .ok (.laload, 1) := by decide +kernel
theorem dX11_findUnseen_166 : decode cX11_findUnseen 166 = .ok (.aload_n 0, 1) := by decide +kernel
theorem dX11_findUnseen_167 : decode cX11_findUnseen 167 = .ok (.getfield 47, 3) := by decide +kernel
theorem dX11_findUnseen_170 : decode cX11_findUnseen 170 = .ok (.bipush 8, 2) := by decide +kernel
theorem dX11_findUnseen_172 : decode cX11_findUnseen 172 = .ok (.iload_n 1, 1) := by decide +kernel
theorem dX11_findUnseen_173 : decode cX11_findUnseen 173 = .ok (.imul, 1) := by decide +kernel
theorem dX11_findUnseen_174 : decode cX11_findUnseen 174 = .ok (.aload_n 0, 1) := by decide +kernel
theorem dX11_findUnseen_175 : decode cX11_findUnseen 175 = .ok (.iload_n 3, 1) := by decide +kernel
theorem dX11_findUnseen_176 : decode cX11_findUnseen 176 = .ok (.invokevirtual 166, 3) := by decide +kernel
theorem dX11_findUnseen_179 : decode cX11_findUnseen 179 = .ok (.iadd, 1) := by decide +kernel
theorem dX11_findUnseen_180 : decode cX11_findUnseen 180 = .ok (.laload, 1) := by decide +kernel
theorem dX11_findUnseen_181 : decode cX11_findUnseen 181 = .ok (.ladd, 1) := by decide +kernel
theorem dX11_findUnseen_182 : decode cX11_findUnseen 182 = .ok (.lastore, 1) := by decide +kernel
theorem dX11_findUnseen_183 : decode cX11_findUnseen 183 = .ok (.iinc 3 1, 3) := by decide +kernel
theorem dX11_findUnseen_186 : decode cX11_findUnseen 186 = .ok (.goto (-110), 3) := by decide +kernel
theorem dX11_findUnseen_189 : decode cX11_findUnseen 189 = .ok (.iinc 2 1, 3) := by decide +kernel
theorem dX11_findUnseen_192 : decode cX11_findUnseen 192 = .ok (.goto (-124), 3) := by decide +kernel
theorem dX11_findUnseen_195 : decode cX11_findUnseen 195 = .ok (.iinc 1 1, 3) := by decide +kernel
theorem dX11_findUnseen_198 : decode cX11_findUnseen 198 = .ok (.goto (-196), 3) := by decide +kernel
theorem dX11_findUnseen_201 : decode cX11_findUnseen 201 = .ok (.return_, 1) := by decide +kernel
theorem dX11_findBetween_0 : decode cX11_findBetween 0 = .ok (.aload_n 0, 1) := by decide +kernel
theorem dX11_findBetween_1 : decode cX11_findBetween 1 = .ok (.invokevirtual 214, 3) := by decide +kernel
theorem dX11_findBetween_4 : decode cX11_findBetween 4 = .ok (.istore_n 1, 1) := by decide +kernel
theorem dX11_findBetween_5 : decode cX11_findBetween 5 = .ok (.aload_n 0, 1) := by decide +kernel
theorem dX11_findBetween_6 : decode cX11_findBetween 6 = .ok (.iconst 0, 1) := by decide +kernel
theorem dX11_findBetween_7 : decode cX11_findBetween 7 = .ok (.putfield 223, 3) := by decide +kernel
theorem dX11_findBetween_10 : decode cX11_findBetween 10 = .ok (.aload_n 0, 1) := by decide +kernel
theorem dX11_findBetween_11 : decode cX11_findBetween 11 = .ok (.getfield 41, 3) := by decide +kernel
theorem dX11_findBetween_14 : decode cX11_findBetween 14 = .ok (.iconst 0, 1) := by decide +kernel
theorem dX11_findBetween_15 : decode cX11_findBetween 15 = .ok (.iaload, 1) := by decide +kernel
theorem dX11_findBetween_16 : decode cX11_findBetween 16 = .ok (.iconst 1, 1) := by decide +kernel
theorem dX11_findBetween_17 : decode cX11_findBetween 17 = .ok (.isub, 1) := by decide +kernel
theorem dX11_findBetween_18 : decode cX11_findBetween 18 = .ok (.istore_n 2, 1) := by decide +kernel
theorem dX11_findBetween_19 : decode cX11_findBetween 19 = .ok (.iload_n 2, 1) := by decide +kernel
theorem dX11_findBetween_20 : decode cX11_findBetween 20 = .ok (.iload_n 1, 1) := by decide +kernel
theorem dX11_findBetween_21 : decode cX11_findBetween 21 = .ok (.if_icmp .lt 37, 3) := by decide +kernel
theorem dX11_findBetween_24 : decode cX11_findBetween 24 = .ok (.aload_n 0, 1) := by decide +kernel
theorem dX11_findBetween_25 : decode cX11_findBetween 25 = .ok (.getfield 51, 3) := by decide +kernel
theorem dX11_findBetween_28 : decode cX11_findBetween 28 = .ok (.aload_n 0, 1) := by decide +kernel
theorem dX11_findBetween_29 : decode cX11_findBetween 29 = .ok (.getfield 223, 3) := by decide +kernel
theorem dX11_findBetween_32 : decode cX11_findBetween 32 = .ok (.aload_n 0, 1) := by decide +kernel
theorem dX11_findBetween_33 : decode cX11_findBetween 33 = .ok (.getfield 38, 3) := by decide +kernel
theorem dX11_findBetween_36 : decode cX11_findBetween 36 = .ok (.iload_n 2, 1) := by decide +kernel
theorem dX11_findBetween_37 : decode cX11_findBetween 37 = .ok (.iaload, 1) := by decide +kernel
theorem dX11_findBetween_38 : decode cX11_findBetween 38 = .ok (.invokestatic 177, 3) := by decide +kernel
theorem dX11_findBetween_41 : decode cX11_findBetween 41 = .ok (.iastore, 1) := by decide +kernel
theorem dX11_findBetween_42 : decode cX11_findBetween 42 = .ok (.aload_n 0, 1) := by decide +kernel
theorem dX11_findBetween_43 : decode cX11_findBetween 43 = .ok (.dup, 1) := by decide +kernel
theorem dX11_findBetween_44 : decode cX11_findBetween 44 = .ok (.getfield 223, 3) := by decide +kernel
theorem dX11_findBetween_47 : decode cX11_findBetween 47 = .ok (.iconst 1, 1) := by decide +kernel
theorem dX11_findBetween_48 : decode cX11_findBetween 48 = .ok (.iadd, 1) := by decide +kernel
theorem dX11_findBetween_49 : decode cX11_findBetween 49 = .ok (.putfield 223, 3) := by decide +kernel
theorem dX11_findBetween_52 : decode cX11_findBetween 52 = .ok (.iinc 2 (-1), 3) := by decide +kernel
theorem dX11_findBetween_55 : decode cX11_findBetween 55 = .ok (.goto (-36), 3) := by decide +kernel
theorem dX11_findBetween_58 : decode cX11_findBetween 58 = .ok (.iload_n 1, 1) := by decide +kernel
theorem dX11_findBetween_59 : decode cX11_findBetween 59 = .ok (.istore_n 2, 1) := by decide +kernel
theorem dX11_findBetween_60 : decode cX11_findBetween 60 = .ok (.iload_n 2, 1) := by decide +kernel
theorem dX11_findBetween_61 : decode cX11_findBetween 61 = .ok (.aload_n 0, 1) := by decide +kernel
theorem dX11_findBetween_62 : decode cX11_findBetween 62 = .ok (.getfield 41, 3) := by decide +kernel
theorem dX11_findBetween_65 : decode cX11_findBetween 65 = .ok (.iconst 1, 1) := by decide +kernel
theorem dX11_findBetween_66 : decode cX11_findBetween 66 = .ok (.iaload, 1) := by decide +kernel
theorem dX11_findBetween_67 : decode cX11_findBetween 67 = .ok (.if_icmp .ge 37, 3) := by decide +kernel
theorem dX11_findBetween_70 : decode cX11_findBetween 70 = .ok (.aload_n 0, 1) := by decide +kernel
theorem dX11_findBetween_71 : decode cX11_findBetween 71 = .ok (.getfield 51, 3) := by decide +kernel
theorem dX11_findBetween_74 : decode cX11_findBetween 74 = .ok (.aload_n 0, 1) := by decide +kernel
theorem dX11_findBetween_75 : decode cX11_findBetween 75 = .ok (.getfield 223, 3) := by decide +kernel
theorem dX11_findBetween_78 : decode cX11_findBetween 78 = .ok (.aload_n 0, 1) := by decide +kernel
theorem dX11_findBetween_79 : decode cX11_findBetween 79 = .ok (.getfield 38, 3) := by decide +kernel
theorem dX11_findBetween_82 : decode cX11_findBetween 82 = .ok (.bipush 60, 2) := by decide +kernel
theorem dX11_findBetween_84 : decode cX11_findBetween 84 = .ok (.iload_n 2, 1) := by decide +kernel
theorem dX11_findBetween_85 : decode cX11_findBetween 85 = .ok (.iadd, 1) := by decide +kernel
theorem dX11_findBetween_86 : decode cX11_findBetween 86 = .ok (.iaload, 1) := by decide +kernel
theorem dX11_findBetween_87 : decode cX11_findBetween 87 = .ok (.iastore, 1) := by decide +kernel
theorem dX11_findBetween_88 : decode cX11_findBetween 88 = .ok (.aload_n 0, 1) := by decide +kernel
theorem dX11_findBetween_89 : decode cX11_findBetween 89 = .ok (.dup, 1) := by decide +kernel
theorem dX11_findBetween_90 : decode cX11_findBetween 90 = .ok (.getfield 223, 3) := by decide +kernel
theorem dX11_findBetween_93 : decode cX11_findBetween 93 = .ok (.iconst 1, 1) := by decide +kernel
theorem dX11_findBetween_94 : decode cX11_findBetween 94 = .ok (.iadd, 1) := by decide +kernel
theorem dX11_findBetween_95 : decode cX11_findBetween 95 = .ok (.putfield 223, 3) := by decide +kernel
theorem dX11_findBetween_98 : decode cX11_findBetween 98 = .ok (.iinc 2 1, 3) := by decide +kernel
theorem dX11_findBetween_101 : decode cX11_findBetween 101 = .ok (.goto (-41), 3) := by decide +kernel
theorem dX11_findBetween_104 : decode cX11_findBetween 104 = .ok (.return_, 1) := by decide +kernel
theorem dX11_findShortest_0 : decode cX11_findShortest 0 = .ok (.aload_n 0, 1) := by decide +kernel
theorem dX11_findShortest_1 : decode cX11_findShortest 1 = .ok (.iconst 0, 1) := by decide +kernel
theorem dX11_findShortest_2 : decode cX11_findShortest 2 = .ok (.iload_n 2, 1) := by decide +kernel
theorem dX11_findShortest_3 : decode cX11_findShortest 3 = .ok (.invokevirtual 196, 3) := by decide +kernel
theorem dX11_findShortest_6 : decode cX11_findShortest 6 = .ok (.aload_n 0, 1) := by decide +kernel
theorem dX11_findShortest_7 : decode cX11_findShortest 7 = .ok (.iconst 1, 1) := by decide +kernel
theorem dX11_findShortest_8 : decode cX11_findShortest 8 = .ok (.iload 4, 2) := by decide +kernel
theorem dX11_findShortest_10 : decode cX11_findShortest 10 = .ok (.invokevirtual 196, 3) := by decide +kernel
theorem dX11_findShortest_13 : decode cX11_findShortest 13 = .ok (.aload_n 0, 1) := by decide +kernel
theorem dX11_findShortest_14 : decode cX11_findShortest 14 = .ok (.invokevirtual 226, 3) := by decide +kernel
theorem dX11_findShortest_17 : decode cX11_findShortest 17 = .ok (.aload_n 0, 1) := by decide +kernel
theorem dX11_findShortest_18 : decode cX11_findShortest 18 = .ok (.invokevirtual 229, 3) := by decide +kernel
theorem dX11_findShortest_21 : decode cX11_findShortest 21 = .ok (.aload_n 0, 1) := by decide +kernel
theorem dX11_findShortest_22 : decode cX11_findShortest 22 = .ok (.iconst 0, 1) := by decide +kernel
theorem dX11_findShortest_23 : decode cX11_findShortest 23 = .ok (.putfield 232, 3) := by decide +kernel
theorem dX11_findShortest_26 : decode cX11_findShortest 26 = .ok (.aload_n 0, 1) := by decide +kernel
theorem dX11_findShortest_27 : decode cX11_findShortest 27 = .ok (.aload_n 0, 1) := by decide +kernel
theorem dX11_findShortest_28 : decode cX11_findShortest 28 = .ok (.getfield 41, 3) := by decide +kernel
theorem dX11_findShortest_31 : decode cX11_findShortest 31 = .ok (.iconst 0, 1) := by decide +kernel
theorem dX11_findShortest_32 : decode cX11_findShortest 32 = .ok (.iaload, 1) := by decide +kernel
theorem dX11_findShortest_33 : decode cX11_findShortest 33 = .ok (.aload_n 0, 1) := by decide +kernel
theorem dX11_findShortest_34 : decode cX11_findShortest 34 = .ok (.getfield 131, 3) := by decide +kernel
theorem dX11_findShortest_37 : decode cX11_findShortest 37 = .ok (.if_icmp .gt 20, 3) := by decide +kernel
theorem dX11_findShortest_40 : decode cX11_findShortest 40 = .ok (.aload_n 0, 1) := by decide +kernel
theorem dX11_findShortest_41 : decode cX11_findShortest 41 = .ok (.getfield 41, 3) := by decide +kernel
theorem dX11_findShortest_44 : decode cX11_findShortest 44 = .ok (.iconst 1, 1) := by decide +kernel
theorem dX11_findShortest_45 : decode cX11_findShortest 45 = .ok (.iaload, 1) := by decide +kernel
theorem dX11_findShortest_46 : decode cX11_findShortest 46 = .ok (.aload_n 0, 1) := by decide +kernel
theorem dX11_findShortest_47 : decode cX11_findShortest 47 = .ok (.getfield 131, 3) := by decide +kernel
theorem dX11_findShortest_50 : decode cX11_findShortest 50 = .ok (.if_icmp .gt 7, 3) := by decide +kernel
theorem dX11_findShortest_53 : decode cX11_findShortest 53 = .ok (.iconst 1, 1) := by decide +kernel
theorem dX11_findShortest_54 : decode cX11_findShortest 54 = .ok (.goto 4, 3) := by decide +kernel
theorem dX11_findShortest_57 : decode cX11_findShortest 57 = .ok (.iconst 0, 1) := by decide +kernel
theorem dX11_findShortest_58 : decode cX11_findShortest 58 = .ok (.putfield 235, 3) := by decide +kernel
theorem dX11_findShortest_61 : decode cX11_findShortest 61 = .ok (.aload_n 0, 1) := by decide +kernel
theorem dX11_findShortest_62 : decode cX11_findShortest 62 = .ok (.lconst 1, 1) := by decide +kernel
theorem dX11_findShortest_63 : decode cX11_findShortest 63 = .ok (.putfield 239, 3) := by decide +kernel
theorem dX11_findShortest_66 : decode cX11_findShortest 66 = .ok (.iload_n 1, 1) := by decide +kernel
theorem dX11_findShortest_67 : decode cX11_findShortest 67 = .ok (.istore 5, 2) := by decide +kernel
theorem dX11_findShortest_69 : decode cX11_findShortest 69 = .ok (.iconst 0, 1) := by decide +kernel
theorem dX11_findShortest_70 : decode cX11_findShortest 70 = .ok (.istore 6, 2) := by decide +kernel
theorem dX11_findShortest_72 : decode cX11_findShortest 72 = .ok (.iload 6, 2) := by decide +kernel
theorem dX11_findShortest_74 : decode cX11_findShortest 74 = .ok (.aload_n 0, 1) := by decide +kernel
theorem dX11_findShortest_75 : decode cX11_findShortest 75 = .ok (.getfield 223, 3) := by decide +kernel
theorem dX11_findShortest_78 : decode cX11_findShortest 78 = .ok (.if_icmp .ge 75, 3) := by decide +kernel
theorem dX11_findShortest_81 : decode cX11_findShortest 81 = .ok (.aload_n 0, 1) := by decide +kernel
theorem dX11_findShortest_82 : decode cX11_findShortest 82 = .ok (.getfield 51, 3) := by decide +kernel
theorem dX11_findShortest_85 : decode cX11_findShortest 85 = .ok (.iload 6, 2) := by decide +kernel
theorem dX11_findShortest_87 : decode cX11_findShortest 87 = .ok (.iaload, 1) := by decide +kernel
theorem dX11_findShortest_88 : decode cX11_findShortest 88 = .ok (.istore 7, 2) := by decide +kernel
theorem dX11_findShortest_90 : decode cX11_findShortest 90 = .ok (.aload_n 0, 1) := by decide +kernel
theorem dX11_findShortest_91 : decode cX11_findShortest 91 = .ok (.iload 5, 2) := by decide +kernel
theorem dX11_findShortest_93 : decode cX11_findShortest 93 = .ok (.aload_n 0, 1) := by decide +kernel
theorem dX11_findShortest_94 : decode cX11_findShortest 94 = .ok (.iload 7, 2) := by decide +kernel
theorem dX11_findShortest_96 : decode cX11_findShortest 96 = .ok (.invokevirtual 166, 3) := by decide +kernel
theorem dX11_findShortest_99 : decode cX11_findShortest 99 = .ok (.invokevirtual 243, 3) := by decide +kernel
theorem dX11_findShortest_102 : decode cX11_findShortest 102 = .ok (.aload_n 0, 1) := by decide +kernel
theorem dX11_findShortest_103 : decode cX11_findShortest 103 = .ok (.aload_n 0, 1) := by decide +kernel
theorem dX11_findShortest_104 : decode cX11_findShortest 104 = .ok (.getfield 235, 3) := by decide +kernel
theorem dX11_findShortest_107 : decode cX11_findShortest 107 = .ok (.ifCond .eq 18, 3) := by decide +kernel
theorem dX11_findShortest_110 : decode cX11_findShortest 110 = .ok (.aload_n 0, 1) := by decide +kernel
theorem dX11_findShortest_111 : decode cX11_findShortest 111 = .ok (.iload 7, 2) := by decide +kernel
theorem dX11_findShortest_113 : decode cX11_findShortest 113 = .ok (.iconst 2, 1) := by decide +kernel
theorem dX11_findShortest_114 : decode cX11_findShortest 114 = .ok (.idiv, 1) := by decide +kernel
theorem dX11_findShortest_115 : decode cX11_findShortest 115 = .ok (.invokevirtual 172, 3) := by decide +kernel
theorem dX11_findShortest_118 : decode cX11_findShortest 118 = .ok (.ifCond .ne 7, 3) := by decide +kernel
theorem dX11_findShortest_121 : decode cX11_findShortest 121 = .ok (.iconst 1, 1) := by decide +kernel
theorem dX11_findShortest_122 : decode cX11_findShortest 122 = .ok (.goto 4, 3) := by decide +kernel
theorem dX11_findShortest_125 : decode cX11_findShortest 125 = .ok (.iconst 0, 1) := by decide +kernel
theorem dX11_findShortest_126 : decode cX11_findShortest 126 = .ok (.putfield 235, 3) := by decide +kernel
theorem dX11_findShortest_129 : decode cX11_findShortest 129 = .ok (.aload_n 0, 1) := by decide +kernel
theorem dX11_findShortest_130 : decode cX11_findShortest 130 = .ok (.dup, 1) := by decide +kernel
theorem dX11_findShortest_131 : decode cX11_findShortest 131 = .ok (.getfield 232, 3) := by decide +kernel
theorem dX11_findShortest_134 : decode cX11_findShortest 134 = .ok (.iconst 1, 1) := by decide +kernel
theorem dX11_findShortest_135 : decode cX11_findShortest 135 = .ok (.iadd, 1) := by decide +kernel
theorem dX11_findShortest_136 : decode cX11_findShortest 136 = .ok (.putfield 232, 3) := by decide +kernel
theorem dX11_findShortest_139 : decode cX11_findShortest 139 = .ok (.aload_n 0, 1) := by decide +kernel
theorem dX11_findShortest_140 : decode cX11_findShortest 140 = .ok (.iload 7, 2) := by decide +kernel
theorem dX11_findShortest_142 : decode cX11_findShortest 142 = .ok (.invokevirtual 202, 3) := by decide +kernel
theorem dX11_findShortest_145 : decode cX11_findShortest 145 = .ok (.istore 5, 2) := by decide +kernel
theorem dX11_findShortest_147 : decode cX11_findShortest 147 = .ok (.iinc 6 1, 3) := by decide +kernel
theorem dX11_findShortest_150 : decode cX11_findShortest 150 = .ok (.goto (-78), 3) := by decide +kernel
theorem dX11_findShortest_153 : decode cX11_findShortest 153 = .ok (.aload_n 0, 1) := by decide +kernel
theorem dX11_findShortest_154 : decode cX11_findShortest 154 = .ok (.iload 5, 2) := by decide +kernel
theorem dX11_findShortest_156 : decode cX11_findShortest 156 = .ok (.iload_n 3, 1) := by decide +kernel
theorem dX11_findShortest_157 : decode cX11_findShortest 157 = .ok (.invokevirtual 243, 3) := by decide +kernel
theorem dX11_findShortest_160 : decode cX11_findShortest 160 = .ok (.return_, 1) := by decide +kernel
theorem dX11_goesOn_0 : decode cX11_goesOn 0 = .ok (.aload_n 0, 1) := by decide +kernel
theorem dX11_goesOn_1 : decode cX11_goesOn 1 = .ok (.aload_n 0, 1) := by decide +kernel
theorem dX11_goesOn_2 : decode cX11_goesOn 2 = .ok (.getfield 235, 3) := by decide +kernel
theorem dX11_goesOn_5 : decode cX11_goesOn 5 = .ok (.ifCond .eq 24, 3) := by decide +kernel
theorem dX11_goesOn_8 : decode cX11_goesOn 8 = .ok (.aload_n 0, 1) := by decide +kernel
theorem dX11_goesOn_9 : decode cX11_goesOn 9 = .ok (.getfield 44, 3) := by decide +kernel
theorem dX11_goesOn_12 : decode cX11_goesOn 12 = .ok (.bipush 8, 2) := by decide +kernel
theorem dX11_goesOn_14 : decode cX11_goesOn 14 = .ok (.iload_n 1, 1) := by decide +kernel
theorem dX11_goesOn_15 : decode cX11_goesOn 15 = .ok (.imul, 1) := by decide +kernel
theorem dX11_goesOn_16 : decode cX11_goesOn 16 = .ok (.iload_n 2, 1) := by decide +kernel
theorem dX11_goesOn_17 : decode cX11_goesOn 17 = .ok (.iadd, 1) := by decide +kernel
theorem dX11_goesOn_18 : decode cX11_goesOn 18 = .ok (.iaload, 1) := by decide +kernel
theorem dX11_goesOn_19 : decode cX11_goesOn 19 = .ok (.sipush 1000, 3) := by decide +kernel
theorem dX11_goesOn_22 : decode cX11_goesOn 22 = .ok (.if_icmp .ge 7, 3) := by decide +kernel
theorem dX11_goesOn_25 : decode cX11_goesOn 25 = .ok (.iconst 1, 1) := by decide +kernel
theorem dX11_goesOn_26 : decode cX11_goesOn 26 = .ok (.goto 4, 3) := by decide +kernel
theorem dX11_goesOn_29 : decode cX11_goesOn 29 = .ok (.iconst 0, 1) := by decide +kernel
theorem dX11_goesOn_30 : decode cX11_goesOn 30 = .ok (.putfield 235, 3) := by decide +kernel
theorem dX11_goesOn_33 : decode cX11_goesOn 33 = .ok (.aload_n 0, 1) := by decide +kernel
theorem dX11_goesOn_34 : decode cX11_goesOn 34 = .ok (.dup, 1) := by decide +kernel
theorem dX11_goesOn_35 : decode cX11_goesOn 35 = .ok (.getfield 232, 3) := by decide +kernel
theorem dX11_goesOn_38 : decode cX11_goesOn 38 = .ok (.aload_n 0, 1) := by decide +kernel
theorem dX11_goesOn_39 : decode cX11_goesOn 39 = .ok (.getfield 44, 3) := by decide +kernel
theorem dX11_goesOn_42 : decode cX11_goesOn 42 = .ok (.bipush 8, 2) := by decide +kernel
theorem dX11_goesOn_44 : decode cX11_goesOn 44 = .ok (.iload_n 1, 1) := by decide +kernel
theorem dX11_goesOn_45 : decode cX11_goesOn 45 = .ok (.imul, 1) := by decide +kernel
theorem dX11_goesOn_46 : decode cX11_goesOn 46 = .ok (.iload_n 2, 1) := by decide +kernel
theorem dX11_goesOn_47 : decode cX11_goesOn 47 = .ok (.iadd, 1) := by decide +kernel
theorem dX11_goesOn_48 : decode cX11_goesOn 48 = .ok (.iaload, 1) := by decide +kernel
theorem dX11_goesOn_49 : decode cX11_goesOn 49 = .ok (.iadd, 1) := by decide +kernel
theorem dX11_goesOn_50 : decode cX11_goesOn 50 = .ok (.putfield 232, 3) := by decide +kernel
theorem dX11_goesOn_53 : decode cX11_goesOn 53 = .ok (.aload_n 0, 1) := by decide +kernel
theorem dX11_goesOn_54 : decode cX11_goesOn 54 = .ok (.dup, 1) := by decide +kernel
theorem dX11_goesOn_55 : decode cX11_goesOn 55 = .ok (.getfield 239, 3) := by decide +kernel
theorem dX11_goesOn_58 : decode cX11_goesOn 58 = .ok (.aload_n 0, 1) := by decide +kernel
theorem dX11_goesOn_59 : decode cX11_goesOn 59 = .ok (.getfield 47, 3) := by decide +kernel
theorem dX11_goesOn_62 : decode cX11_goesOn 62 = .ok (.bipush 8, 2) := by decide +kernel
theorem dX11_goesOn_64 : decode cX11_goesOn 64 = .ok (.iload_n 1, 1) := by decide +kernel
theorem dX11_goesOn_65 : decode cX11_goesOn 65 = .ok (.imul, 1) := by decide +kernel
theorem dX11_goesOn_66 : decode cX11_goesOn 66 = .ok (.iload_n 2, 1) := by decide +kernel
theorem dX11_goesOn_67 : decode cX11_goesOn 67 = .ok (.iadd, 1) := by decide +kernel
theorem dX11_goesOn_68 : decode cX11_goesOn 68 = .ok (.laload, 1) := by decide +kernel
theorem dX11_goesOn_69 : decode cX11_goesOn 69 = .ok (.lmul, 1) := by decide +kernel
theorem dX11_goesOn_70 : decode cX11_goesOn 70 = .ok (.putfield 239, 3) := by decide +kernel
theorem dX11_goesOn_73 : decode cX11_goesOn 73 = .ok (.return_, 1) := by decide +kernel
theorem dX11_shortestOf_0 : decode cX11_shortestOf 0 = .ok (.aload_n 0, 1) := by decide +kernel
theorem dX11_shortestOf_1 : decode cX11_shortestOf 1 = .ok (.iload_n 1, 1) := by decide +kernel
theorem dX11_shortestOf_2 : decode cX11_shortestOf 2 = .ok (.iload_n 2, 1) := by decide +kernel
theorem dX11_shortestOf_3 : decode cX11_shortestOf 3 = .ok (.iload_n 3, 1) := by decide +kernel
theorem dX11_shortestOf_4 : decode cX11_shortestOf 4 = .ok (.iload 4, 2) := by decide +kernel
theorem dX11_shortestOf_6 : decode cX11_shortestOf 6 = .ok (.invokevirtual 246, 3) := by decide +kernel
theorem dX11_shortestOf_9 : decode cX11_shortestOf 9 = .ok (.iload 5, 2) := by decide +kernel
theorem dX11_shortestOf_11 : decode cX11_shortestOf 11 = .ok (.iconst 1, 1) := by decide +kernel
theorem dX11_shortestOf_12 : decode cX11_shortestOf 12 = .ok (.if_icmp .ne 21, 3) := by decide +kernel
theorem dX11_shortestOf_15 : decode cX11_shortestOf 15 = .ok (.aload_n 0, 1) := by decide +kernel
theorem dX11_shortestOf_16 : decode cX11_shortestOf 16 = .ok (.getfield 235, 3) := by decide +kernel
theorem dX11_shortestOf_19 : decode cX11_shortestOf 19 = .ok (.ifCond .eq 10, 3) := by decide +kernel
theorem dX11_shortestOf_22 : decode cX11_shortestOf 22 = .ok (.aload_n 0, 1) := by decide +kernel
theorem dX11_shortestOf_23 : decode cX11_shortestOf 23 = .ok (.getfield 239, 3) := by decide +kernel
theorem dX11_shortestOf_26 : decode cX11_shortestOf 26 = .ok (.goto 25, 3) := by decide +kernel
theorem dX11_shortestOf_29 : decode cX11_shortestOf 29 = .ok (.lconst 0, 1) := by decide +kernel
theorem dX11_shortestOf_30 : decode cX11_shortestOf 30 = .ok (.goto 21, 3) := by decide +kernel
theorem dX11_shortestOf_33 : decode cX11_shortestOf 33 = .ok (.aload_n 0, 1) := by decide +kernel
theorem dX11_shortestOf_34 : decode cX11_shortestOf 34 = .ok (.getfield 235, 3) := by decide +kernel
theorem dX11_shortestOf_37 : decode cX11_shortestOf 37 = .ok (.ifCond .eq 11, 3) := by decide +kernel
theorem dX11_shortestOf_40 : decode cX11_shortestOf 40 = .ok (.aload_n 0, 1) := by decide +kernel
theorem dX11_shortestOf_41 : decode cX11_shortestOf 41 = .ok (.getfield 232, 3) := by decide +kernel
theorem dX11_shortestOf_44 : decode cX11_shortestOf 44 = .ok (.i2l, 1) := by decide +kernel
theorem dX11_shortestOf_45 : decode cX11_shortestOf 45 = .ok (.goto 6, 3) := by decide +kernel
theorem dX11_shortestOf_48 : decode cX11_shortestOf 48 = .ok (.ldc2_w 250, 3) := by decide +kernel
theorem dX11_shortestOf_51 : decode cX11_shortestOf 51 = .ok (.lreturn, 1) := by decide +kernel
theorem dX11_isAsked_0 : decode cX11_isAsked 0 = .ok (.iload_n 1, 1) := by decide +kernel
theorem dX11_isAsked_1 : decode cX11_isAsked 1 = .ok (.invokestatic 148, 3) := by decide +kernel
theorem dX11_isAsked_4 : decode cX11_isAsked 4 = .ok (.ifCond .eq 31, 3) := by decide +kernel
theorem dX11_isAsked_7 : decode cX11_isAsked 7 = .ok (.aload_n 0, 1) := by decide +kernel
theorem dX11_isAsked_8 : decode cX11_isAsked 8 = .ok (.iload_n 2, 1) := by decide +kernel
theorem dX11_isAsked_9 : decode cX11_isAsked 9 = .ok (.invokevirtual 205, 3) := by decide +kernel
theorem dX11_isAsked_12 : decode cX11_isAsked 12 = .ok (.ifCond .eq 23, 3) := by decide +kernel
theorem dX11_isAsked_15 : decode cX11_isAsked 15 = .ok (.iload_n 3, 1) := by decide +kernel
theorem dX11_isAsked_16 : decode cX11_isAsked 16 = .ok (.invokestatic 148, 3) := by decide +kernel
theorem dX11_isAsked_19 : decode cX11_isAsked 19 = .ok (.ifCond .eq 16, 3) := by decide +kernel
theorem dX11_isAsked_22 : decode cX11_isAsked 22 = .ok (.aload_n 0, 1) := by decide +kernel
theorem dX11_isAsked_23 : decode cX11_isAsked 23 = .ok (.iload 4, 2) := by decide +kernel
theorem dX11_isAsked_25 : decode cX11_isAsked 25 = .ok (.invokevirtual 205, 3) := by decide +kernel
theorem dX11_isAsked_28 : decode cX11_isAsked 28 = .ok (.ifCond .eq 7, 3) := by decide +kernel
theorem dX11_isAsked_31 : decode cX11_isAsked 31 = .ok (.iconst 1, 1) := by decide +kernel
theorem dX11_isAsked_32 : decode cX11_isAsked 32 = .ok (.goto 4, 3) := by decide +kernel
theorem dX11_isAsked_35 : decode cX11_isAsked 35 = .ok (.iconst 0, 1) := by decide +kernel
theorem dX11_isAsked_36 : decode cX11_isAsked 36 = .ok (.ireturn, 1) := by decide +kernel
theorem dX11_shortest_0 : decode cX11_shortest 0 = .ok (.aload_n 0, 1) := by decide +kernel
theorem dX11_shortest_1 : decode cX11_shortest 1 = .ok (.iload_n 1, 1) := by decide +kernel
theorem dX11_shortest_2 : decode cX11_shortest 2 = .ok (.iload_n 2, 1) := by decide +kernel
theorem dX11_shortest_3 : decode cX11_shortest 3 = .ok (.iload_n 3, 1) := by decide +kernel
theorem dX11_shortest_4 : decode cX11_shortest 4 = .ok (.iload 4, 2) := by decide +kernel
theorem dX11_shortest_6 : decode cX11_shortest 6 = .ok (.invokevirtual 252, 3) := by decide +kernel
theorem dX11_shortest_9 : decode cX11_shortest 9 = .ok (.ifCond .eq 25, 3) := by decide +kernel
theorem dX11_shortest_12 : decode cX11_shortest 12 = .ok (.iload 5, 2) := by decide +kernel
theorem dX11_shortest_14 : decode cX11_shortest 14 = .ok (.invokestatic 256, 3) := by decide +kernel
theorem dX11_shortest_17 : decode cX11_shortest 17 = .ok (.ifCond .eq 17, 3) := by decide +kernel
theorem dX11_shortest_20 : decode cX11_shortest 20 = .ok (.aload_n 0, 1) := by decide +kernel
theorem dX11_shortest_21 : decode cX11_shortest 21 = .ok (.iload_n 1, 1) := by decide +kernel
theorem dX11_shortest_22 : decode cX11_shortest 22 = .ok (.iload_n 2, 1) := by decide +kernel
theorem dX11_shortest_23 : decode cX11_shortest 23 = .ok (.iload_n 3, 1) := by decide +kernel
theorem dX11_shortest_24 : decode cX11_shortest 24 = .ok (.iload 4, 2) := by decide +kernel
theorem dX11_shortest_26 : decode cX11_shortest 26 = .ok (.iload 5, 2) := by decide +kernel
theorem dX11_shortest_28 : decode cX11_shortest 28 = .ok (.invokevirtual 259, 3) := by decide +kernel
theorem dX11_shortest_31 : decode cX11_shortest 31 = .ok (.goto 8, 3) := by decide +kernel
theorem dX11_shortest_34 : decode cX11_shortest 34 = .ok (.bipush (-2), 2) := by decide +kernel
theorem dX11_shortest_36 : decode cX11_shortest 36 = .ok (.invokestatic 263, 3) := by decide +kernel
theorem dX11_shortest_39 : decode cX11_shortest 39 = .ok (.lreturn, 1) := by decide +kernel
theorem dX11_leastUnseen_0 : decode cX11_leastUnseen 0 = .ok (.iconst (-1), 1) := by decide +kernel
theorem dX11_leastUnseen_1 : decode cX11_leastUnseen 1 = .ok (.istore_n 3, 1) := by decide +kernel
theorem dX11_leastUnseen_2 : decode cX11_leastUnseen 2 = .ok (.iconst 0, 1) := by decide +kernel
theorem dX11_leastUnseen_3 : decode cX11_leastUnseen 3 = .ok (.istore 4, 2) := by decide +kernel
theorem dX11_leastUnseen_5 : decode cX11_leastUnseen 5 = .ok (.iload 4, 2) := by decide +kernel
theorem dX11_leastUnseen_7 : decode cX11_leastUnseen 7 = .ok (.iconst 2, 1) := by decide +kernel
theorem dX11_leastUnseen_8 : decode cX11_leastUnseen 8 = .ok (.aload_n 0, 1) := by decide +kernel
theorem dX11_leastUnseen_9 : decode cX11_leastUnseen 9 = .ok (.getfield 128, 3) := by decide +kernel
theorem dX11_leastUnseen_12 : decode cX11_leastUnseen 12 = .ok (.imul, 1) := by decide +kernel
theorem dX11_leastUnseen_13 : decode cX11_leastUnseen 13 = .ok (.if_icmp .ge 96, 3) := by decide +kernel
theorem dX11_leastUnseen_16 : decode cX11_leastUnseen 16 = .ok (.aload_n 0, 1) := by decide +kernel
theorem dX11_leastUnseen_17 : decode cX11_leastUnseen 17 = .ok (.iload 4, 2) := by decide +kernel
theorem dX11_leastUnseen_19 : decode cX11_leastUnseen 19 = .ok (.invokevirtual 220, 3) := by decide +kernel
theorem dX11_leastUnseen_22 : decode cX11_leastUnseen 22 = .ok (.ifCond .eq 49, 3) := by decide +kernel
theorem dX11_leastUnseen_25 : decode cX11_leastUnseen 25 = .ok (.aload_n 0, 1) := by decide +kernel
theorem dX11_leastUnseen_26 : decode cX11_leastUnseen 26 = .ok (.iload 4, 2) := by decide +kernel
theorem dX11_leastUnseen_28 : decode cX11_leastUnseen 28 = .ok (.invokevirtual 166, 3) := by decide +kernel
theorem dX11_leastUnseen_31 : decode cX11_leastUnseen 31 = .ok (.iload_n 1, 1) := by decide +kernel
theorem dX11_leastUnseen_32 : decode cX11_leastUnseen 32 = .ok (.if_icmp .ne 39, 3) := by decide +kernel
theorem dX11_leastUnseen_35 : decode cX11_leastUnseen 35 = .ok (.aload_n 0, 1) := by decide +kernel
theorem dX11_leastUnseen_36 : decode cX11_leastUnseen 36 = .ok (.getfield 44, 3) := by decide +kernel
theorem dX11_leastUnseen_39 : decode cX11_leastUnseen 39 = .ok (.bipush 8, 2) := by decide +kernel
theorem dX11_leastUnseen_41 : decode cX11_leastUnseen 41 = .ok (.aload_n 0, 1) := by decide +kernel
theorem dX11_leastUnseen_42 : decode cX11_leastUnseen 42 = .ok (.iload 4, 2) := by decide +kernel
theorem dX11_leastUnseen_44 : decode cX11_leastUnseen 44 = .ok (.invokevirtual 202, 3) := by decide +kernel
theorem dX11_leastUnseen_47 : decode cX11_leastUnseen 47 = .ok (.imul, 1) := by decide +kernel
theorem dX11_leastUnseen_48 : decode cX11_leastUnseen 48 = .ok (.iload_n 2, 1) := by decide +kernel
theorem dX11_leastUnseen_49 : decode cX11_leastUnseen 49 = .ok (.iadd, 1) := by decide +kernel
theorem dX11_leastUnseen_50 : decode cX11_leastUnseen 50 = .ok (.iaload, 1) := by decide +kernel
theorem dX11_leastUnseen_51 : decode cX11_leastUnseen 51 = .ok (.aload_n 0, 1) := by decide +kernel
theorem dX11_leastUnseen_52 : decode cX11_leastUnseen 52 = .ok (.getfield 44, 3) := by decide +kernel
theorem dX11_leastUnseen_55 : decode cX11_leastUnseen 55 = .ok (.bipush 8, 2) := by decide +kernel
theorem dX11_leastUnseen_57 : decode cX11_leastUnseen 57 = .ok (.iload_n 1, 1) := by decide +kernel
theorem dX11_leastUnseen_58 : decode cX11_leastUnseen 58 = .ok (.imul, 1) := by decide +kernel
theorem dX11_leastUnseen_59 : decode cX11_leastUnseen 59 = .ok (.iload_n 2, 1) := by decide +kernel
theorem dX11_leastUnseen_60 : decode cX11_leastUnseen 60 = .ok (.iadd, 1) := by decide +kernel
theorem dX11_leastUnseen_61 : decode cX11_leastUnseen 61 = .ok (.iaload, 1) := by decide +kernel
theorem dX11_leastUnseen_62 : decode cX11_leastUnseen 62 = .ok (.iconst 1, 1) := by decide +kernel
theorem dX11_leastUnseen_63 : decode cX11_leastUnseen 63 = .ok (.isub, 1) := by decide +kernel
theorem dX11_leastUnseen_64 : decode cX11_leastUnseen 64 = .ok (.if_icmp .ne 7, 3) := by decide +kernel
theorem dX11_leastUnseen_67 : decode cX11_leastUnseen 67 = .ok (.iconst 1, 1) := by decide +kernel
theorem dX11_leastUnseen_68 : decode cX11_leastUnseen 68 = .ok (.goto 4, 3) := by decide +kernel
theorem dX11_leastUnseen_71 : decode cX11_leastUnseen 71 = .ok (.iconst 0, 1) := by decide +kernel
theorem dX11_leastUnseen_72 : decode cX11_leastUnseen 72 = .ok (.istore 5, 2) := by decide +kernel
theorem dX11_leastUnseen_74 : decode cX11_leastUnseen 74 = .ok (.iload 5, 2) := by decide +kernel
theorem dX11_leastUnseen_76 : decode cX11_leastUnseen 76 = .ok (.ifCond .eq 25, 3) := by decide +kernel
theorem dX11_leastUnseen_79 : decode cX11_leastUnseen 79 = .ok (.iload_n 3, 1) := by decide +kernel
theorem dX11_leastUnseen_80 : decode cX11_leastUnseen 80 = .ok (.iconst (-1), 1) := by decide +kernel
theorem dX11_leastUnseen_81 : decode cX11_leastUnseen 81 = .ok (.if_icmp .eq 15, 3) := by decide +kernel
theorem dX11_leastUnseen_84 : decode cX11_leastUnseen 84 = .ok (.iload 4, 2) := by decide +kernel
theorem dX11_leastUnseen_86 : decode cX11_leastUnseen 86 = .ok (.invokestatic 199, 3) := by decide +kernel
theorem dX11_leastUnseen_89 : decode cX11_leastUnseen 89 = .ok (.iload_n 3, 1) := by decide +kernel
theorem dX11_leastUnseen_90 : decode cX11_leastUnseen 90 = .ok (.invokestatic 199, 3) := by decide +kernel
theorem dX11_leastUnseen_93 : decode cX11_leastUnseen 93 = .ok (.if_icmp .ge 8, 3) := by decide +kernel
theorem dX11_leastUnseen_96 : decode cX11_leastUnseen 96 = .ok (.iload 4, 2) := by decide +kernel
theorem dX11_leastUnseen_98 : decode cX11_leastUnseen 98 = .ok (.goto 4, 3) := by decide +kernel
theorem dX11_leastUnseen_101 : decode cX11_leastUnseen 101 = .ok (.iload_n 3, 1) := by decide +kernel
theorem dX11_leastUnseen_102 : decode cX11_leastUnseen 102 = .ok (.istore_n 3, 1) := by decide +kernel
theorem dX11_leastUnseen_103 : decode cX11_leastUnseen 103 = .ok (.iinc 4 1, 3) := by decide +kernel
theorem dX11_leastUnseen_106 : decode cX11_leastUnseen 106 = .ok (.goto (-101), 3) := by decide +kernel
theorem dX11_leastUnseen_109 : decode cX11_leastUnseen 109 = .ok (.iload_n 3, 1) := by decide +kernel
theorem dX11_leastUnseen_110 : decode cX11_leastUnseen 110 = .ok (.ireturn, 1) := by decide +kernel
theorem dX11_letter_0 : decode cX11_letter 0 = .ok (.aload_n 0, 1) := by decide +kernel
theorem dX11_letter_1 : decode cX11_letter 1 = .ok (.iload_n 1, 1) := by decide +kernel
theorem dX11_letter_2 : decode cX11_letter 2 = .ok (.iload_n 2, 1) := by decide +kernel
theorem dX11_letter_3 : decode cX11_letter 3 = .ok (.iload_n 3, 1) := by decide +kernel
theorem dX11_letter_4 : decode cX11_letter 4 = .ok (.iload 4, 2) := by decide +kernel
theorem dX11_letter_6 : decode cX11_letter 6 = .ok (.invokevirtual 252, 3) := by decide +kernel
theorem dX11_letter_9 : decode cX11_letter 9 = .ok (.ifCond .eq 8, 3) := by decide +kernel
theorem dX11_letter_12 : decode cX11_letter 12 = .ok (.iload 5, 2) := by decide +kernel
theorem dX11_letter_14 : decode cX11_letter 14 = .ok (.ifCond .ge 6, 3) := by decide +kernel
theorem dX11_letter_17 : decode cX11_letter 17 = .ok (.bipush (-2), 2) := by decide +kernel
theorem dX11_letter_19 : decode cX11_letter 19 = .ok (.ireturn, 1) := by decide +kernel
theorem dX11_letter_20 : decode cX11_letter 20 = .ok (.aload_n 0, 1) := by decide +kernel
theorem dX11_letter_21 : decode cX11_letter 21 = .ok (.iload_n 1, 1) := by decide +kernel
theorem dX11_letter_22 : decode cX11_letter 22 = .ok (.iload_n 2, 1) := by decide +kernel
theorem dX11_letter_23 : decode cX11_letter 23 = .ok (.iload_n 3, 1) := by decide +kernel
theorem dX11_letter_24 : decode cX11_letter 24 = .ok (.iload 4, 2) := by decide +kernel
theorem dX11_letter_26 : decode cX11_letter 26 = .ok (.invokevirtual 246, 3) := by decide +kernel
theorem dX11_letter_29 : decode cX11_letter 29 = .ok (.aload_n 0, 1) := by decide +kernel
theorem dX11_letter_30 : decode cX11_letter 30 = .ok (.getfield 235, 3) := by decide +kernel
theorem dX11_letter_33 : decode cX11_letter 33 = .ok (.ifCond .eq 12, 3) := by decide +kernel
theorem dX11_letter_36 : decode cX11_letter 36 = .ok (.iload 5, 2) := by decide +kernel
theorem dX11_letter_38 : decode cX11_letter 38 = .ok (.aload_n 0, 1) := by decide +kernel
theorem dX11_letter_39 : decode cX11_letter 39 = .ok (.getfield 232, 3) := by decide +kernel
theorem dX11_letter_42 : decode cX11_letter 42 = .ok (.if_icmp .lt 5, 3) := by decide +kernel
theorem dX11_letter_45 : decode cX11_letter 45 = .ok (.iconst (-1), 1) := by decide +kernel
theorem dX11_letter_46 : decode cX11_letter 46 = .ok (.ireturn, 1) := by decide +kernel
theorem dX11_letter_47 : decode cX11_letter 47 = .ok (.iload_n 1, 1) := by decide +kernel
theorem dX11_letter_48 : decode cX11_letter 48 = .ok (.istore 6, 2) := by decide +kernel
theorem dX11_letter_50 : decode cX11_letter 50 = .ok (.iconst 0, 1) := by decide +kernel
theorem dX11_letter_51 : decode cX11_letter 51 = .ok (.istore 7, 2) := by decide +kernel
theorem dX11_letter_53 : decode cX11_letter 53 = .ok (.iconst (-1), 1) := by decide +kernel
theorem dX11_letter_54 : decode cX11_letter 54 = .ok (.istore 8, 2) := by decide +kernel
theorem dX11_letter_56 : decode cX11_letter 56 = .ok (.iconst 0, 1) := by decide +kernel
theorem dX11_letter_57 : decode cX11_letter 57 = .ok (.istore 9, 2) := by decide +kernel
theorem dX11_letter_59 : decode cX11_letter 59 = .ok (.iload 9, 2) := by decide +kernel
theorem dX11_letter_61 : decode cX11_letter 61 = .ok (.iload 5, 2) := by decide +kernel
theorem dX11_letter_63 : decode cX11_letter 63 = .ok (.if_icmp .gt 75, 3) := by decide +kernel
theorem dX11_letter_66 : decode cX11_letter 66 = .ok (.iload 7, 2) := by decide +kernel
theorem dX11_letter_68 : decode cX11_letter 68 = .ok (.aload_n 0, 1) := by decide +kernel
theorem dX11_letter_69 : decode cX11_letter 69 = .ok (.getfield 223, 3) := by decide +kernel
theorem dX11_letter_72 : decode cX11_letter 72 = .ok (.if_icmp .ge 17, 3) := by decide +kernel
theorem dX11_letter_75 : decode cX11_letter 75 = .ok (.aload_n 0, 1) := by decide +kernel
theorem dX11_letter_76 : decode cX11_letter 76 = .ok (.aload_n 0, 1) := by decide +kernel
theorem dX11_letter_77 : decode cX11_letter 77 = .ok (.getfield 51, 3) := by decide +kernel
theorem dX11_letter_80 : decode cX11_letter 80 = .ok (.iload 7, 2) := by decide +kernel
theorem dX11_letter_82 : decode cX11_letter 82 = .ok (.iaload, 1) := by decide +kernel
theorem dX11_letter_83 : decode cX11_letter 83 = .ok (.invokevirtual 166, 3) := by decide +kernel
theorem dX11_letter_86 : decode cX11_letter 86 = .ok (.goto 4, 3) := by decide +kernel
theorem dX11_letter_89 : decode cX11_letter 89 = .ok (.iload_n 3, 1) := by decide +kernel
theorem dX11_letter_90 : decode cX11_letter 90 = .ok (.istore 10, 2) := by decide +kernel
theorem dX11_letter_92 : decode cX11_letter 92 = .ok (.iload 6, 2) := by decide +kernel
theorem dX11_letter_94 : decode cX11_letter 94 = .ok (.iload 10, 2) := by decide +kernel
theorem dX11_letter_96 : decode cX11_letter 96 = .ok (.if_icmp .ne 18, 3) := by decide +kernel
theorem dX11_letter_99 : decode cX11_letter 99 = .ok (.aload_n 0, 1) := by decide +kernel
theorem dX11_letter_100 : decode cX11_letter 100 = .ok (.getfield 51, 3) := by decide +kernel
theorem dX11_letter_103 : decode cX11_letter 103 = .ok (.iload 7, 2) := by decide +kernel
theorem dX11_letter_105 : decode cX11_letter 105 = .ok (.iaload, 1) := by decide +kernel
theorem dX11_letter_106 : decode cX11_letter 106 = .ok (.istore 8, 2) := by decide +kernel
theorem dX11_letter_108 : decode cX11_letter 108 = .ok (.iinc 7 1, 3) := by decide +kernel
theorem dX11_letter_111 : decode cX11_letter 111 = .ok (.goto 13, 3) := by decide +kernel
theorem dX11_letter_114 : decode cX11_letter 114 = .ok (.aload_n 0, 1) := by decide +kernel
theorem dX11_letter_115 : decode cX11_letter 115 = .ok (.iload 6, 2) := by decide +kernel
theorem dX11_letter_117 : decode cX11_letter 117 = .ok (.iload 10, 2) := by decide +kernel
theorem dX11_letter_119 : decode cX11_letter 119 = .ok (.invokevirtual 267, 3) := by decide +kernel
theorem dX11_letter_122 : decode cX11_letter 122 = .ok (.istore 8, 2) := by decide +kernel
theorem dX11_letter_124 : decode cX11_letter 124 = .ok (.aload_n 0, 1) := by decide +kernel
theorem dX11_letter_125 : decode cX11_letter 125 = .ok (.iload 8, 2) := by decide +kernel
theorem dX11_letter_127 : decode cX11_letter 127 = .ok (.invokevirtual 202, 3) := by decide +kernel
theorem dX11_letter_130 : decode cX11_letter 130 = .ok (.istore 6, 2) := by decide +kernel
theorem dX11_letter_132 : decode cX11_letter 132 = .ok (.iinc 9 1, 3) := by decide +kernel
theorem dX11_letter_135 : decode cX11_letter 135 = .ok (.goto (-76), 3) := by decide +kernel
theorem dX11_letter_138 : decode cX11_letter 138 = .ok (.iload 8, 2) := by decide +kernel
theorem dX11_letter_140 : decode cX11_letter 140 = .ok (.invokestatic 199, 3) := by decide +kernel
theorem dX11_letter_143 : decode cX11_letter 143 = .ok (.ireturn, 1) := by decide +kernel
theorem dX11_findErrands_0 : decode cX11_findErrands 0 = .ok (.aload_n 0, 1) := by decide +kernel
theorem dX11_findErrands_1 : decode cX11_findErrands 1 = .ok (.invokevirtual 157, 3) := by decide +kernel
theorem dX11_findErrands_4 : decode cX11_findErrands 4 = .ok (.pop, 1) := by decide +kernel
theorem dX11_findErrands_5 : decode cX11_findErrands 5 = .ok (.iconst 0, 1) := by decide +kernel
theorem dX11_findErrands_6 : decode cX11_findErrands 6 = .ok (.istore_n 2, 1) := by decide +kernel
theorem dX11_findErrands_7 : decode cX11_findErrands 7 = .ok (.iload_n 2, 1) := by decide +kernel
theorem dX11_findErrands_8 : decode cX11_findErrands 8 = .ok (.bipush 96, 2) := by decide +kernel
theorem dX11_findErrands_10 : decode cX11_findErrands 10 = .ok (.if_icmp .ge 30, 3) := by decide +kernel
theorem dX11_findErrands_13 : decode cX11_findErrands 13 = .ok (.aload_n 0, 1) := by decide +kernel
theorem dX11_findErrands_14 : decode cX11_findErrands 14 = .ok (.getfield 54, 3) := by decide +kernel
theorem dX11_findErrands_17 : decode cX11_findErrands 17 = .ok (.iload_n 2, 1) := by decide +kernel
theorem dX11_findErrands_18 : decode cX11_findErrands 18 = .ok (.iload_n 2, 1) := by decide +kernel
theorem dX11_findErrands_19 : decode cX11_findErrands 19 = .ok (.bipush 8, 2) := by decide +kernel
theorem dX11_findErrands_21 : decode cX11_findErrands 21 = .ok (.irem, 1) := by decide +kernel
theorem dX11_findErrands_22 : decode cX11_findErrands 22 = .ok (.iload_n 1, 1) := by decide +kernel
theorem dX11_findErrands_23 : decode cX11_findErrands 23 = .ok (.if_icmp .ne 7, 3) := by decide +kernel
theorem dX11_findErrands_26 : decode cX11_findErrands 26 = .ok (.iconst 0, 1) := by decide +kernel
theorem dX11_findErrands_27 : decode cX11_findErrands 27 = .ok (.goto 6, 3) := by decide +kernel
theorem dX11_findErrands_30 : decode cX11_findErrands 30 = .ok (.sipush 1000, 3) := by decide +kernel
theorem dX11_findErrands_33 : decode cX11_findErrands 33 = .ok (.iastore, 1) := by decide +kernel
theorem dX11_findErrands_34 : decode cX11_findErrands 34 = .ok (.iinc 2 1, 3) := by decide +kernel
theorem dX11_findErrands_37 : decode cX11_findErrands 37 = .ok (.goto (-30), 3) := by decide +kernel
theorem dX11_findErrands_40 : decode cX11_findErrands 40 = .ok (.iconst 1, 1) := by decide +kernel
theorem dX11_findErrands_41 : decode cX11_findErrands 41 = .ok (.istore_n 2, 1) := by decide +kernel
theorem dX11_findErrands_42 : decode cX11_findErrands 42 = .ok (.iload_n 2, 1) := by decide +kernel
theorem dX11_findErrands_43 : decode cX11_findErrands 43 = .ok (.ifCond .eq 146, 3) := by decide +kernel
theorem dX11_findErrands_46 : decode cX11_findErrands 46 = .ok (.iconst 0, 1) := by decide +kernel
theorem dX11_findErrands_47 : decode cX11_findErrands 47 = .ok (.istore_n 2, 1) := by decide +kernel
theorem dX11_findErrands_48 : decode cX11_findErrands 48 = .ok (.iconst 0, 1) := by decide +kernel
theorem dX11_findErrands_49 : decode cX11_findErrands 49 = .ok (.istore_n 3, 1) := by decide +kernel
theorem dX11_findErrands_50 : decode cX11_findErrands 50 = .ok (.iload_n 3, 1) := by decide +kernel
theorem dX11_findErrands_51 : decode cX11_findErrands 51 = .ok (.bipush 96, 2) := by decide +kernel
theorem dX11_findErrands_53 : decode cX11_findErrands 53 = .ok (.if_icmp .ge 133, 3) := by decide +kernel
theorem dX11_findErrands_56 : decode cX11_findErrands 56 = .ok (.iconst 0, 1) := by decide +kernel
theorem dX11_findErrands_57 : decode cX11_findErrands 57 = .ok (.istore 4, 2) := by decide +kernel
theorem dX11_findErrands_59 : decode cX11_findErrands 59 = .ok (.iload 4, 2) := by decide +kernel
theorem dX11_findErrands_61 : decode cX11_findErrands 61 = .ok (.iconst 2, 1) := by decide +kernel
theorem dX11_findErrands_62 : decode cX11_findErrands 62 = .ok (.aload_n 0, 1) := by decide +kernel
theorem dX11_findErrands_63 : decode cX11_findErrands 63 = .ok (.getfield 128, 3) := by decide +kernel
theorem dX11_findErrands_66 : decode cX11_findErrands 66 = .ok (.imul, 1) := by decide +kernel
theorem dX11_findErrands_67 : decode cX11_findErrands 67 = .ok (.if_icmp .ge 113, 3) := by decide +kernel
theorem dX11_findErrands_70 : decode cX11_findErrands 70 = .ok (.aload_n 0, 1) := by decide +kernel
theorem dX11_findErrands_71 : decode cX11_findErrands 71 = .ok (.getfield 34, 3) := by decide +kernel
theorem dX11_findErrands_74 : decode cX11_findErrands 74 = .ok (.iload 4, 2) := by decide +kernel
theorem dX11_findErrands_76 : decode cX11_findErrands 76 = .ok (.iconst 2, 1) := by decide +kernel
theorem dX11_findErrands_77 : decode cX11_findErrands 77 = .ok (.idiv, 1) := by decide +kernel
theorem dX11_findErrands_78 : decode cX11_findErrands 78 = .ok (.baload, 1) := by decide +kernel
theorem dX11_findErrands_79 : decode cX11_findErrands 79 = .ok (.ifCond .eq 7, 3) := by decide +kernel
theorem dX11_findErrands_82 : decode cX11_findErrands 82 = .ok (.iconst 1, 1) := by decide +kernel
theorem dX11_findErrands_83 : decode cX11_findErrands 83 = .ok (.goto 4, 3) := by decide +kernel
theorem dX11_findErrands_86 : decode cX11_findErrands 86 = .ok (.iconst 0, 1) := by decide +kernel
theorem dX11_findErrands_87 : decode cX11_findErrands 87 = .ok (.istore 5, 2) := by decide +kernel
theorem dX11_findErrands_89 : decode cX11_findErrands 89 = .ok (.bipush 8, 2) := by decide +kernel
theorem dX11_findErrands_91 : decode cX11_findErrands 91 = .ok (.iload_n 3, 1) := by decide +kernel
theorem dX11_findErrands_92 : decode cX11_findErrands 92 = .ok (.bipush 8, 2) := by decide +kernel
theorem dX11_findErrands_94 : decode cX11_findErrands 94 = .ok (.idiv, 1) := by decide +kernel
theorem dX11_findErrands_95 : decode cX11_findErrands 95 = .ok (.iload 5, 2) := by decide +kernel
theorem dX11_findErrands_97 : decode cX11_findErrands 97 = .ok (.iadd, 1) := by decide +kernel
theorem dX11_findErrands_98 : decode cX11_findErrands 98 = .ok (.imul, 1) := by decide +kernel
theorem dX11_findErrands_99 : decode cX11_findErrands 99 = .ok (.aload_n 0, 1) := by decide +kernel
theorem dX11_findErrands_100 : decode cX11_findErrands 100 = .ok (.iload 4, 2) := by decide +kernel
theorem dX11_findErrands_102 : decode cX11_findErrands 102 = .ok (.invokevirtual 202, 3) := by decide +kernel
theorem dX11_findErrands_105 : decode cX11_findErrands 105 = .ok (.iadd, 1) := by decide +kernel
theorem dX11_findErrands_106 : decode cX11_findErrands 106 = .ok (.istore 6, 2) := by decide +kernel
theorem dX11_findErrands_108 : decode cX11_findErrands 108 = .ok (.aload_n 0, 1) := by decide +kernel
theorem dX11_findErrands_109 : decode cX11_findErrands 109 = .ok (.iload 4, 2) := by decide +kernel
theorem dX11_findErrands_111 : decode cX11_findErrands 111 = .ok (.iconst 2, 1) := by decide +kernel
theorem dX11_findErrands_112 : decode cX11_findErrands 112 = .ok (.idiv, 1) := by decide +kernel
theorem dX11_findErrands_113 : decode cX11_findErrands 113 = .ok (.invokevirtual 172, 3) := by decide +kernel
theorem dX11_findErrands_116 : decode cX11_findErrands 116 = .ok (.ifCond .ne 58, 3) := by decide +kernel
theorem dX11_findErrands_119 : decode cX11_findErrands 119 = .ok (.aload_n 0, 1) := by decide +kernel
theorem dX11_findErrands_120 : decode cX11_findErrands 120 = .ok (.iload 4, 2) := by decide +kernel
theorem dX11_findErrands_122 : decode cX11_findErrands 122 = .ok (.invokevirtual 166, 3) := by decide +kernel
theorem dX11_findErrands_125 : decode cX11_findErrands 125 = .ok (.iload_n 3, 1) := by decide +kernel
theorem dX11_findErrands_126 : decode cX11_findErrands 126 = .ok (.bipush 8, 2) := by decide +kernel
theorem dX11_findErrands_128 : decode cX11_findErrands 128 = .ok (.irem, 1) := by decide +kernel
theorem dX11_findErrands_129 : decode cX11_findErrands 129 = .ok (.if_icmp .ne 45, 3) := by decide +kernel
theorem dX11_findErrands_132 : decode cX11_findErrands 132 = .ok (.iload 6, 2) := by decide +kernel
theorem dX11_findErrands_134 : decode cX11_findErrands 134 = .ok (.bipush 96, 2) := by decide +kernel
theorem dX11_findErrands_136 : decode cX11_findErrands 136 = .ok (.if_icmp .ge 38, 3) := by decide +kernel
theorem dX11_findErrands_139 : decode cX11_findErrands 139 = .ok (.aload_n 0, 1) := by decide +kernel
theorem dX11_findErrands_140 : decode cX11_findErrands 140 = .ok (.getfield 54, 3) := by decide +kernel
theorem dX11_findErrands_143 : decode cX11_findErrands 143 = .ok (.iload_n 3, 1) := by decide +kernel
theorem dX11_findErrands_144 : decode cX11_findErrands 144 = .ok (.iaload, 1) := by decide +kernel
theorem dX11_findErrands_145 : decode cX11_findErrands 145 = .ok (.iconst 1, 1) := by decide +kernel
theorem dX11_findErrands_146 : decode cX11_findErrands 146 = .ok (.iadd, 1) := by decide +kernel
theorem dX11_findErrands_147 : decode cX11_findErrands 147 = .ok (.aload_n 0, 1) := by decide +kernel
theorem dX11_findErrands_148 : decode cX11_findErrands 148 = .ok (.getfield 54, 3) := by decide +kernel
theorem dX11_findErrands_151 : decode cX11_findErrands 151 = .ok (.iload 6, 2) := by decide +kernel
theorem dX11_findErrands_153 : decode cX11_findErrands 153 = .ok (.iaload, 1) := by decide +kernel
theorem dX11_findErrands_154 : decode cX11_findErrands 154 = .ok (.if_icmp .ge 20, 3) := by decide +kernel
theorem dX11_findErrands_157 : decode cX11_findErrands 157 = .ok (.aload_n 0, 1) := by decide +kernel
theorem dX11_findErrands_158 : decode cX11_findErrands 158 = .ok (.getfield 54, 3) := by decide +kernel
theorem dX11_findErrands_161 : decode cX11_findErrands 161 = .ok (.iload 6, 2) := by decide +kernel
theorem dX11_findErrands_163 : decode cX11_findErrands 163 = .ok (.aload_n 0, 1) := by decide +kernel
theorem dX11_findErrands_164 : decode cX11_findErrands 164 = .ok (.getfield 54, 3) := by decide +kernel
theorem dX11_findErrands_167 : decode cX11_findErrands 167 = .ok (.iload_n 3, 1) := by decide +kernel
theorem dX11_findErrands_168 : decode cX11_findErrands 168 = .ok (.iaload, 1) := by decide +kernel
theorem dX11_findErrands_169 : decode cX11_findErrands 169 = .ok (.iconst 1, 1) := by decide +kernel
theorem dX11_findErrands_170 : decode cX11_findErrands 170 = .ok (.iadd, 1) := by decide +kernel
theorem dX11_findErrands_171 : decode cX11_findErrands 171 = .ok (.iastore, 1) := by decide +kernel
theorem dX11_findErrands_172 : decode cX11_findErrands 172 = .ok (.iconst 1, 1) := by decide +kernel
theorem dX11_findErrands_173 : decode cX11_findErrands 173 = .ok (.istore_n 2, 1) := by decide +kernel
theorem dX11_findErrands_174 : decode cX11_findErrands 174 = .ok (.iinc 4 1, 3) := by decide +kernel
theorem dX11_findErrands_177 : decode cX11_findErrands 177 = .ok (.goto (-118), 3) := by decide +kernel
theorem dX11_findErrands_180 : decode cX11_findErrands 180 = .ok (.iinc 3 1, 3) := by decide +kernel
theorem dX11_findErrands_183 : decode cX11_findErrands 183 = .ok (.goto (-133), 3) := by decide +kernel
theorem dX11_findErrands_186 : decode cX11_findErrands 186 = .ok (.goto (-144), 3) := by decide +kernel
theorem dX11_findErrands_189 : decode cX11_findErrands 189 = .ok (.return_, 1) := by decide +kernel
theorem dX11_stampsTo_0 : decode cX11_stampsTo 0 = .ok (.iconst 0, 1) := by decide +kernel
theorem dX11_stampsTo_1 : decode cX11_stampsTo 1 = .ok (.istore_n 2, 1) := by decide +kernel
theorem dX11_stampsTo_2 : decode cX11_stampsTo 2 = .ok (.iload_n 2, 1) := by decide +kernel
theorem dX11_stampsTo_3 : decode cX11_stampsTo 3 = .ok (.bipush 11, 2) := by decide +kernel
theorem dX11_stampsTo_5 : decode cX11_stampsTo 5 = .ok (.if_icmp .gt 28, 3) := by decide +kernel
theorem dX11_stampsTo_8 : decode cX11_stampsTo 8 = .ok (.aload_n 0, 1) := by decide +kernel
theorem dX11_stampsTo_9 : decode cX11_stampsTo 9 = .ok (.getfield 54, 3) := by decide +kernel
theorem dX11_stampsTo_12 : decode cX11_stampsTo 12 = .ok (.bipush 8, 2) := by decide +kernel
theorem dX11_stampsTo_14 : decode cX11_stampsTo 14 = .ok (.iload_n 2, 1) := by decide +kernel
theorem dX11_stampsTo_15 : decode cX11_stampsTo 15 = .ok (.imul, 1) := by decide +kernel
theorem dX11_stampsTo_16 : decode cX11_stampsTo 16 = .ok (.iload_n 1, 1) := by decide +kernel
theorem dX11_stampsTo_17 : decode cX11_stampsTo 17 = .ok (.iadd, 1) := by decide +kernel
theorem dX11_stampsTo_18 : decode cX11_stampsTo 18 = .ok (.iaload, 1) := by decide +kernel
theorem dX11_stampsTo_19 : decode cX11_stampsTo 19 = .ok (.sipush 1000, 3) := by decide +kernel
theorem dX11_stampsTo_22 : decode cX11_stampsTo 22 = .ok (.if_icmp .ge 5, 3) := by decide +kernel
theorem dX11_stampsTo_25 : decode cX11_stampsTo 25 = .ok (.iload_n 2, 1) := by decide +kernel
theorem dX11_stampsTo_26 : decode cX11_stampsTo 26 = .ok (.ireturn, 1) := by decide +kernel
theorem dX11_stampsTo_27 : decode cX11_stampsTo 27 = .ok (.iinc 2 1, 3) := by decide +kernel
theorem dX11_stampsTo_30 : decode cX11_stampsTo 30 = .ok (.goto (-28), 3) := by decide +kernel
theorem dX11_stampsTo_33 : decode cX11_stampsTo 33 = .ok (.sipush 1000, 3) := by decide +kernel
theorem dX11_stampsTo_36 : decode cX11_stampsTo 36 = .ok (.ireturn, 1) := by decide +kernel
theorem dX11_errandsOf_0 : decode cX11_errandsOf 0 = .ok (.aload_n 0, 1) := by decide +kernel
theorem dX11_errandsOf_1 : decode cX11_errandsOf 1 = .ok (.iload_n 1, 1) := by decide +kernel
theorem dX11_errandsOf_2 : decode cX11_errandsOf 2 = .ok (.invokevirtual 270, 3) := by decide +kernel
theorem dX11_errandsOf_5 : decode cX11_errandsOf 5 = .ok (.iconst 0, 1) := by decide +kernel
theorem dX11_errandsOf_6 : decode cX11_errandsOf 6 = .ok (.istore 4, 2) := by decide +kernel
theorem dX11_errandsOf_8 : decode cX11_errandsOf 8 = .ok (.iconst 0, 1) := by decide +kernel
theorem dX11_errandsOf_9 : decode cX11_errandsOf 9 = .ok (.istore 5, 2) := by decide +kernel
theorem dX11_errandsOf_11 : decode cX11_errandsOf 11 = .ok (.iload 5, 2) := by decide +kernel
theorem dX11_errandsOf_13 : decode cX11_errandsOf 13 = .ok (.bipush 8, 2) := by decide +kernel
theorem dX11_errandsOf_15 : decode cX11_errandsOf 15 = .ok (.if_icmp .ge 55, 3) := by decide +kernel
theorem dX11_errandsOf_18 : decode cX11_errandsOf 18 = .ok (.iload_n 2, 1) := by decide +kernel
theorem dX11_errandsOf_19 : decode cX11_errandsOf 19 = .ok (.iload 5, 2) := by decide +kernel
theorem dX11_errandsOf_21 : decode cX11_errandsOf 21 = .ok (.ishr, 1) := by decide +kernel
theorem dX11_errandsOf_22 : decode cX11_errandsOf 22 = .ok (.iconst 1, 1) := by decide +kernel
theorem dX11_errandsOf_23 : decode cX11_errandsOf 23 = .ok (.iand, 1) := by decide +kernel
theorem dX11_errandsOf_24 : decode cX11_errandsOf 24 = .ok (.iconst 1, 1) := by decide +kernel
theorem dX11_errandsOf_25 : decode cX11_errandsOf 25 = .ok (.if_icmp .ne 18, 3) := by decide +kernel
theorem dX11_errandsOf_28 : decode cX11_errandsOf 28 = .ok (.aload_n 0, 1) := by decide +kernel
theorem dX11_errandsOf_29 : decode cX11_errandsOf 29 = .ok (.iload 5, 2) := by decide +kernel
theorem dX11_errandsOf_31 : decode cX11_errandsOf 31 = .ok (.invokevirtual 274, 3) := by decide +kernel
theorem dX11_errandsOf_34 : decode cX11_errandsOf 34 = .ok (.iload 4, 2) := by decide +kernel
theorem dX11_errandsOf_36 : decode cX11_errandsOf 36 = .ok (.if_icmp .le 7, 3) := by decide +kernel
theorem dX11_errandsOf_39 : decode cX11_errandsOf 39 = .ok (.iconst 1, 1) := by decide +kernel
theorem dX11_errandsOf_40 : decode cX11_errandsOf 40 = .ok (.goto 4, 3) := by decide +kernel
theorem dX11_errandsOf_43 : decode cX11_errandsOf 43 = .ok (.iconst 0, 1) := by decide +kernel
theorem dX11_errandsOf_44 : decode cX11_errandsOf 44 = .ok (.istore 6, 2) := by decide +kernel
theorem dX11_errandsOf_46 : decode cX11_errandsOf 46 = .ok (.iload 6, 2) := by decide +kernel
theorem dX11_errandsOf_48 : decode cX11_errandsOf 48 = .ok (.ifCond .eq 12, 3) := by decide +kernel
theorem dX11_errandsOf_51 : decode cX11_errandsOf 51 = .ok (.aload_n 0, 1) := by decide +kernel
theorem dX11_errandsOf_52 : decode cX11_errandsOf 52 = .ok (.iload 5, 2) := by decide +kernel
theorem dX11_errandsOf_54 : decode cX11_errandsOf 54 = .ok (.invokevirtual 274, 3) := by decide +kernel
theorem dX11_errandsOf_57 : decode cX11_errandsOf 57 = .ok (.goto 5, 3) := by decide +kernel
theorem dX11_errandsOf_60 : decode cX11_errandsOf 60 = .ok (.iload 4, 2) := by decide +kernel
theorem dX11_errandsOf_62 : decode cX11_errandsOf 62 = .ok (.istore 4, 2) := by decide +kernel
theorem dX11_errandsOf_64 : decode cX11_errandsOf 64 = .ok (.iinc 5 1, 3) := by decide +kernel
theorem dX11_errandsOf_67 : decode cX11_errandsOf 67 = .ok (.goto (-56), 3) := by decide +kernel
theorem dX11_errandsOf_70 : decode cX11_errandsOf 70 = .ok (.iload 4, 2) := by decide +kernel
theorem dX11_errandsOf_72 : decode cX11_errandsOf 72 = .ok (.aload_n 0, 1) := by decide +kernel
theorem dX11_errandsOf_73 : decode cX11_errandsOf 73 = .ok (.getfield 131, 3) := by decide +kernel
theorem dX11_errandsOf_76 : decode cX11_errandsOf 76 = .ok (.if_icmp .le 5, 3) := by decide +kernel
theorem dX11_errandsOf_79 : decode cX11_errandsOf 79 = .ok (.iconst (-1), 1) := by decide +kernel
theorem dX11_errandsOf_80 : decode cX11_errandsOf 80 = .ok (.ireturn, 1) := by decide +kernel
theorem dX11_errandsOf_81 : decode cX11_errandsOf 81 = .ok (.iconst 0, 1) := by decide +kernel
theorem dX11_errandsOf_82 : decode cX11_errandsOf 82 = .ok (.istore 5, 2) := by decide +kernel
theorem dX11_errandsOf_84 : decode cX11_errandsOf 84 = .ok (.iconst 0, 1) := by decide +kernel
theorem dX11_errandsOf_85 : decode cX11_errandsOf 85 = .ok (.istore 6, 2) := by decide +kernel
theorem dX11_errandsOf_87 : decode cX11_errandsOf 87 = .ok (.iload 6, 2) := by decide +kernel
theorem dX11_errandsOf_89 : decode cX11_errandsOf 89 = .ok (.bipush 8, 2) := by decide +kernel
theorem dX11_errandsOf_91 : decode cX11_errandsOf 91 = .ok (.if_icmp .ge 91, 3) := by decide +kernel
theorem dX11_errandsOf_94 : decode cX11_errandsOf 94 = .ok (.sipush 1000, 3) := by decide +kernel
theorem dX11_errandsOf_97 : decode cX11_errandsOf 97 = .ok (.istore 7, 2) := by decide +kernel
theorem dX11_errandsOf_99 : decode cX11_errandsOf 99 = .ok (.iconst 0, 1) := by decide +kernel
theorem dX11_errandsOf_100 : decode cX11_errandsOf 100 = .ok (.istore 8, 2) := by decide +kernel
theorem dX11_errandsOf_102 : decode cX11_errandsOf 102 = .ok (.iload 8, 2) := by decide +kernel
theorem dX11_errandsOf_104 : decode cX11_errandsOf 104 = .ok (.iload 4, 2) := by decide +kernel
theorem dX11_errandsOf_106 : decode cX11_errandsOf 106 = .ok (.if_icmp .gt 47, 3) := by decide +kernel
theorem dX11_errandsOf_109 : decode cX11_errandsOf 109 = .ok (.aload_n 0, 1) := by decide +kernel
theorem dX11_errandsOf_110 : decode cX11_errandsOf 110 = .ok (.getfield 54, 3) := by decide +kernel
theorem dX11_errandsOf_113 : decode cX11_errandsOf 113 = .ok (.bipush 8, 2) := by decide +kernel
theorem dX11_errandsOf_115 : decode cX11_errandsOf 115 = .ok (.iload 8, 2) := by decide +kernel
theorem dX11_errandsOf_117 : decode cX11_errandsOf 117 = .ok (.imul, 1) := by decide +kernel
theorem dX11_errandsOf_118 : decode cX11_errandsOf 118 = .ok (.iload 6, 2) := by decide +kernel
theorem dX11_errandsOf_120 : decode cX11_errandsOf 120 = .ok (.iadd, 1) := by decide +kernel
theorem dX11_errandsOf_121 : decode cX11_errandsOf 121 = .ok (.iaload, 1) := by decide +kernel
theorem dX11_errandsOf_122 : decode cX11_errandsOf 122 = .ok (.iload 7, 2) := by decide +kernel
theorem dX11_errandsOf_124 : decode cX11_errandsOf 124 = .ok (.if_icmp .ge 19, 3) := by decide +kernel
theorem dX11_errandsOf_127 : decode cX11_errandsOf 127 = .ok (.aload_n 0, 1) := by decide +kernel
theorem dX11_errandsOf_128 : decode cX11_errandsOf 128 = .ok (.getfield 54, 3) := by decide +kernel
theorem dX11_errandsOf_131 : decode cX11_errandsOf 131 = .ok (.bipush 8, 2) := by decide +kernel
theorem dX11_errandsOf_133 : decode cX11_errandsOf 133 = .ok (.iload 8, 2) := by decide +kernel
theorem dX11_errandsOf_135 : decode cX11_errandsOf 135 = .ok (.imul, 1) := by decide +kernel
theorem dX11_errandsOf_136 : decode cX11_errandsOf 136 = .ok (.iload 6, 2) := by decide +kernel
theorem dX11_errandsOf_138 : decode cX11_errandsOf 138 = .ok (.iadd, 1) := by decide +kernel
theorem dX11_errandsOf_139 : decode cX11_errandsOf 139 = .ok (.iaload, 1) := by decide +kernel
theorem dX11_errandsOf_140 : decode cX11_errandsOf 140 = .ok (.goto 5, 3) := by decide +kernel
theorem dX11_errandsOf_143 : decode cX11_errandsOf 143 = .ok (.iload 7, 2) := by decide +kernel
theorem dX11_errandsOf_145 : decode cX11_errandsOf 145 = .ok (.istore 7, 2) := by decide +kernel
theorem dX11_errandsOf_147 : decode cX11_errandsOf 147 = .ok (.iinc 8 1, 3) := by decide +kernel
theorem dX11_errandsOf_150 : decode cX11_errandsOf 150 = .ok (.goto (-48), 3) := by decide +kernel
theorem dX11_errandsOf_153 : decode cX11_errandsOf 153 = .ok (.iload 5, 2) := by decide +kernel
theorem dX11_errandsOf_155 : decode cX11_errandsOf 155 = .ok (.iload_n 2, 1) := by decide +kernel
theorem dX11_errandsOf_156 : decode cX11_errandsOf 156 = .ok (.iload 6, 2) := by decide +kernel
theorem dX11_errandsOf_158 : decode cX11_errandsOf 158 = .ok (.ishr, 1) := by decide +kernel
theorem dX11_errandsOf_159 : decode cX11_errandsOf 159 = .ok (.iconst 1, 1) := by decide +kernel
theorem dX11_errandsOf_160 : decode cX11_errandsOf 160 = .ok (.iand, 1) := by decide +kernel
theorem dX11_errandsOf_161 : decode cX11_errandsOf 161 = .ok (.iconst 1, 1) := by decide +kernel
theorem dX11_errandsOf_162 : decode cX11_errandsOf 162 = .ok (.if_icmp .ne 10, 3) := by decide +kernel
theorem dX11_errandsOf_165 : decode cX11_errandsOf 165 = .ok (.iconst 2, 1) := by decide +kernel
theorem dX11_errandsOf_166 : decode cX11_errandsOf 166 = .ok (.iload 7, 2) := by decide +kernel
theorem dX11_errandsOf_168 : decode cX11_errandsOf 168 = .ok (.imul, 1) := by decide +kernel
theorem dX11_errandsOf_169 : decode cX11_errandsOf 169 = .ok (.goto 4, 3) := by decide +kernel
theorem dX11_errandsOf_172 : decode cX11_errandsOf 172 = .ok (.iconst 0, 1) := by decide +kernel
theorem dX11_errandsOf_173 : decode cX11_errandsOf 173 = .ok (.iadd, 1) := by decide +kernel
theorem dX11_errandsOf_174 : decode cX11_errandsOf 174 = .ok (.istore 5, 2) := by decide +kernel
theorem dX11_errandsOf_176 : decode cX11_errandsOf 176 = .ok (.iinc 6 1, 3) := by decide +kernel
theorem dX11_errandsOf_179 : decode cX11_errandsOf 179 = .ok (.goto (-92), 3) := by decide +kernel
theorem dX11_errandsOf_182 : decode cX11_errandsOf 182 = .ok (.iload_n 3, 1) := by decide +kernel
theorem dX11_errandsOf_183 : decode cX11_errandsOf 183 = .ok (.ifCond .ne 8, 3) := by decide +kernel
theorem dX11_errandsOf_186 : decode cX11_errandsOf 186 = .ok (.iload 4, 2) := by decide +kernel
theorem dX11_errandsOf_188 : decode cX11_errandsOf 188 = .ok (.goto 5, 3) := by decide +kernel
theorem dX11_errandsOf_191 : decode cX11_errandsOf 191 = .ok (.iload 5, 2) := by decide +kernel
theorem dX11_errandsOf_193 : decode cX11_errandsOf 193 = .ok (.ireturn, 1) := by decide +kernel
theorem dX11_errands_0 : decode cX11_errands 0 = .ok (.iload_n 1, 1) := by decide +kernel
theorem dX11_errands_1 : decode cX11_errands 1 = .ok (.invokestatic 148, 3) := by decide +kernel
theorem dX11_errands_4 : decode cX11_errands 4 = .ok (.ifCond .eq 32, 3) := by decide +kernel
theorem dX11_errands_7 : decode cX11_errands 7 = .ok (.iload_n 2, 1) := by decide +kernel
theorem dX11_errands_8 : decode cX11_errands 8 = .ok (.i2l, 1) := by decide +kernel
theorem dX11_errands_9 : decode cX11_errands 9 = .ok (.lconst 0, 1) := by decide +kernel
theorem dX11_errands_10 : decode cX11_errands 10 = .ok (.ldc2_w 120, 3) := by decide +kernel
theorem dX11_errands_13 : decode cX11_errands 13 = .ok (.invokestatic 86, 3) := by decide +kernel
theorem dX11_errands_16 : decode cX11_errands 16 = .ok (.ifCond .eq 20, 3) := by decide +kernel
theorem dX11_errands_19 : decode cX11_errands 19 = .ok (.iload_n 3, 1) := by decide +kernel
theorem dX11_errands_20 : decode cX11_errands 20 = .ok (.invokestatic 256, 3) := by decide +kernel
theorem dX11_errands_23 : decode cX11_errands 23 = .ok (.ifCond .eq 13, 3) := by decide +kernel
theorem dX11_errands_26 : decode cX11_errands 26 = .ok (.aload_n 0, 1) := by decide +kernel
theorem dX11_errands_27 : decode cX11_errands 27 = .ok (.iload_n 1, 1) := by decide +kernel
theorem dX11_errands_28 : decode cX11_errands 28 = .ok (.iload_n 2, 1) := by decide +kernel
theorem dX11_errands_29 : decode cX11_errands 29 = .ok (.iload_n 3, 1) := by decide +kernel
theorem dX11_errands_30 : decode cX11_errands 30 = .ok (.invokevirtual 277, 3) := by decide +kernel
theorem dX11_errands_33 : decode cX11_errands 33 = .ok (.goto 5, 3) := by decide +kernel
theorem dX11_errands_36 : decode cX11_errands 36 = .ok (.bipush (-2), 2) := by decide +kernel
theorem dX11_errands_38 : decode cX11_errands 38 = .ok (.ireturn, 1) := by decide +kernel
theorem dX11_cleanOf_0 : decode cX11_cleanOf 0 = .ok (.aload_n 0, 1) := by decide +kernel
theorem dX11_cleanOf_1 : decode cX11_cleanOf 1 = .ok (.iload_n 1, 1) := by decide +kernel
theorem dX11_cleanOf_2 : decode cX11_cleanOf 2 = .ok (.invokevirtual 270, 3) := by decide +kernel
theorem dX11_cleanOf_5 : decode cX11_cleanOf 5 = .ok (.iconst 0, 1) := by decide +kernel
theorem dX11_cleanOf_6 : decode cX11_cleanOf 6 = .ok (.istore_n 2, 1) := by decide +kernel
theorem dX11_cleanOf_7 : decode cX11_cleanOf 7 = .ok (.iconst 0, 1) := by decide +kernel
theorem dX11_cleanOf_8 : decode cX11_cleanOf 8 = .ok (.istore_n 3, 1) := by decide +kernel
theorem dX11_cleanOf_9 : decode cX11_cleanOf 9 = .ok (.iload_n 3, 1) := by decide +kernel
theorem dX11_cleanOf_10 : decode cX11_cleanOf 10 = .ok (.bipush 8, 2) := by decide +kernel
theorem dX11_cleanOf_12 : decode cX11_cleanOf 12 = .ok (.if_icmp .ge 31, 3) := by decide +kernel
theorem dX11_cleanOf_15 : decode cX11_cleanOf 15 = .ok (.iload_n 2, 1) := by decide +kernel
theorem dX11_cleanOf_16 : decode cX11_cleanOf 16 = .ok (.aload_n 0, 1) := by decide +kernel
theorem dX11_cleanOf_17 : decode cX11_cleanOf 17 = .ok (.iload_n 3, 1) := by decide +kernel
theorem dX11_cleanOf_18 : decode cX11_cleanOf 18 = .ok (.invokevirtual 274, 3) := by decide +kernel
theorem dX11_cleanOf_21 : decode cX11_cleanOf 21 = .ok (.aload_n 0, 1) := by decide +kernel
theorem dX11_cleanOf_22 : decode cX11_cleanOf 22 = .ok (.getfield 131, 3) := by decide +kernel
theorem dX11_cleanOf_25 : decode cX11_cleanOf 25 = .ok (.if_icmp .gt 9, 3) := by decide +kernel
theorem dX11_cleanOf_28 : decode cX11_cleanOf 28 = .ok (.iconst 1, 1) := by decide +kernel
theorem dX11_cleanOf_29 : decode cX11_cleanOf 29 = .ok (.iload_n 3, 1) := by decide +kernel
theorem dX11_cleanOf_30 : decode cX11_cleanOf 30 = .ok (.ishl, 1) := by decide +kernel
theorem dX11_cleanOf_31 : decode cX11_cleanOf 31 = .ok (.goto 4, 3) := by decide +kernel
theorem dX11_cleanOf_34 : decode cX11_cleanOf 34 = .ok (.iconst 0, 1) := by decide +kernel
theorem dX11_cleanOf_35 : decode cX11_cleanOf 35 = .ok (.ior, 1) := by decide +kernel
theorem dX11_cleanOf_36 : decode cX11_cleanOf 36 = .ok (.istore_n 2, 1) := by decide +kernel
theorem dX11_cleanOf_37 : decode cX11_cleanOf 37 = .ok (.iinc 3 1, 3) := by decide +kernel
theorem dX11_cleanOf_40 : decode cX11_cleanOf 40 = .ok (.goto (-31), 3) := by decide +kernel
theorem dX11_cleanOf_43 : decode cX11_cleanOf 43 = .ok (.iload_n 2, 1) := by decide +kernel
theorem dX11_cleanOf_44 : decode cX11_cleanOf 44 = .ok (.ireturn, 1) := by decide +kernel
theorem dX11_clean_0 : decode cX11_clean 0 = .ok (.iload_n 1, 1) := by decide +kernel
theorem dX11_clean_1 : decode cX11_clean 1 = .ok (.invokestatic 148, 3) := by decide +kernel
theorem dX11_clean_4 : decode cX11_clean 4 = .ok (.ifCond .eq 11, 3) := by decide +kernel
theorem dX11_clean_7 : decode cX11_clean 7 = .ok (.aload_n 0, 1) := by decide +kernel
theorem dX11_clean_8 : decode cX11_clean 8 = .ok (.iload_n 1, 1) := by decide +kernel
theorem dX11_clean_9 : decode cX11_clean 9 = .ok (.invokevirtual 280, 3) := by decide +kernel
theorem dX11_clean_12 : decode cX11_clean 12 = .ok (.goto 5, 3) := by decide +kernel
theorem dX11_clean_15 : decode cX11_clean 15 = .ok (.bipush (-2), 2) := by decide +kernel
theorem dX11_clean_17 : decode cX11_clean 17 = .ok (.ireturn, 1) := by decide +kernel
theorem dX11_foundOf_0 : decode cX11_foundOf 0 = .ok (.aload_n 0, 1) := by decide +kernel
theorem dX11_foundOf_1 : decode cX11_foundOf 1 = .ok (.iconst 0, 1) := by decide +kernel
theorem dX11_foundOf_2 : decode cX11_foundOf 2 = .ok (.iload_n 1, 1) := by decide +kernel
theorem dX11_foundOf_3 : decode cX11_foundOf 3 = .ok (.invokevirtual 196, 3) := by decide +kernel
theorem dX11_foundOf_6 : decode cX11_foundOf 6 = .ok (.aload_n 0, 1) := by decide +kernel
theorem dX11_foundOf_7 : decode cX11_foundOf 7 = .ok (.invokevirtual 226, 3) := by decide +kernel
theorem dX11_foundOf_10 : decode cX11_foundOf 10 = .ok (.aload_n 0, 1) := by decide +kernel
theorem dX11_foundOf_11 : decode cX11_foundOf 11 = .ok (.getfield 41, 3) := by decide +kernel
theorem dX11_foundOf_14 : decode cX11_foundOf 14 = .ok (.iconst 0, 1) := by decide +kernel
theorem dX11_foundOf_15 : decode cX11_foundOf 15 = .ok (.iaload, 1) := by decide +kernel
theorem dX11_foundOf_16 : decode cX11_foundOf 16 = .ok (.istore_n 3, 1) := by decide +kernel
theorem dX11_foundOf_17 : decode cX11_foundOf 17 = .ok (.iload_n 3, 1) := by decide +kernel
theorem dX11_foundOf_18 : decode cX11_foundOf 18 = .ok (.ifCond .ne 7, 3) := by decide +kernel
theorem dX11_foundOf_21 : decode cX11_foundOf 21 = .ok (.sipush 255, 3) := by decide +kernel
theorem dX11_foundOf_24 : decode cX11_foundOf 24 = .ok (.ireturn, 1) := by decide +kernel
theorem dX11_foundOf_25 : decode cX11_foundOf 25 = .ok (.iconst 1, 1) := by decide +kernel
theorem dX11_foundOf_26 : decode cX11_foundOf 26 = .ok (.istore 4, 2) := by decide +kernel
theorem dX11_foundOf_28 : decode cX11_foundOf 28 = .ok (.iconst 0, 1) := by decide +kernel
theorem dX11_foundOf_29 : decode cX11_foundOf 29 = .ok (.istore 5, 2) := by decide +kernel
theorem dX11_foundOf_31 : decode cX11_foundOf 31 = .ok (.iload 5, 2) := by decide +kernel
theorem dX11_foundOf_33 : decode cX11_foundOf 33 = .ok (.iload_n 3, 1) := by decide +kernel
theorem dX11_foundOf_34 : decode cX11_foundOf 34 = .ok (.if_icmp .ge 81, 3) := by decide +kernel
theorem dX11_foundOf_37 : decode cX11_foundOf 37 = .ok (.iload 4, 2) := by decide +kernel
theorem dX11_foundOf_39 : decode cX11_foundOf 39 = .ok (.ifCond .eq 67, 3) := by decide +kernel
theorem dX11_foundOf_42 : decode cX11_foundOf 42 = .ok (.aload_n 0, 1) := by decide +kernel
theorem dX11_foundOf_43 : decode cX11_foundOf 43 = .ok (.aload_n 0, 1) := by decide +kernel
theorem dX11_foundOf_44 : decode cX11_foundOf 44 = .ok (.getfield 38, 3) := by decide +kernel
theorem dX11_foundOf_47 : decode cX11_foundOf 47 = .ok (.iload 5, 2) := by decide +kernel
theorem dX11_foundOf_49 : decode cX11_foundOf 49 = .ok (.iaload, 1) := by decide +kernel
theorem dX11_foundOf_50 : decode cX11_foundOf 50 = .ok (.iconst 2, 1) := by decide +kernel
theorem dX11_foundOf_51 : decode cX11_foundOf 51 = .ok (.idiv, 1) := by decide +kernel
theorem dX11_foundOf_52 : decode cX11_foundOf 52 = .ok (.invokevirtual 172, 3) := by decide +kernel
theorem dX11_foundOf_55 : decode cX11_foundOf 55 = .ok (.ifCond .ne 51, 3) := by decide +kernel
theorem dX11_foundOf_58 : decode cX11_foundOf 58 = .ok (.iload 5, 2) := by decide +kernel
theorem dX11_foundOf_60 : decode cX11_foundOf 60 = .ok (.ifCond .eq 42, 3) := by decide +kernel
theorem dX11_foundOf_63 : decode cX11_foundOf 63 = .ok (.aload_n 0, 1) := by decide +kernel
theorem dX11_foundOf_64 : decode cX11_foundOf 64 = .ok (.getfield 44, 3) := by decide +kernel
theorem dX11_foundOf_67 : decode cX11_foundOf 67 = .ok (.bipush 8, 2) := by decide +kernel
theorem dX11_foundOf_69 : decode cX11_foundOf 69 = .ok (.aload_n 0, 1) := by decide +kernel
theorem dX11_foundOf_70 : decode cX11_foundOf 70 = .ok (.aload_n 0, 1) := by decide +kernel
theorem dX11_foundOf_71 : decode cX11_foundOf 71 = .ok (.getfield 38, 3) := by decide +kernel
theorem dX11_foundOf_74 : decode cX11_foundOf 74 = .ok (.iload 5, 2) := by decide +kernel
theorem dX11_foundOf_76 : decode cX11_foundOf 76 = .ok (.iconst 1, 1) := by decide +kernel
theorem dX11_foundOf_77 : decode cX11_foundOf 77 = .ok (.isub, 1) := by decide +kernel
theorem dX11_foundOf_78 : decode cX11_foundOf 78 = .ok (.iaload, 1) := by decide +kernel
theorem dX11_foundOf_79 : decode cX11_foundOf 79 = .ok (.invokevirtual 202, 3) := by decide +kernel
theorem dX11_foundOf_82 : decode cX11_foundOf 82 = .ok (.imul, 1) := by decide +kernel
theorem dX11_foundOf_83 : decode cX11_foundOf 83 = .ok (.aload_n 0, 1) := by decide +kernel
theorem dX11_foundOf_84 : decode cX11_foundOf 84 = .ok (.aload_n 0, 1) := by decide +kernel
theorem dX11_foundOf_85 : decode cX11_foundOf 85 = .ok (.getfield 38, 3) := by decide +kernel
theorem dX11_foundOf_88 : decode cX11_foundOf 88 = .ok (.iload 5, 2) := by decide +kernel
theorem dX11_foundOf_90 : decode cX11_foundOf 90 = .ok (.iaload, 1) := by decide +kernel
theorem dX11_foundOf_91 : decode cX11_foundOf 91 = .ok (.invokevirtual 166, 3) := by decide +kernel
theorem dX11_foundOf_94 : decode cX11_foundOf 94 = .ok (.iadd, 1) := by decide +kernel
theorem dX11_foundOf_95 : decode cX11_foundOf 95 = .ok (.iaload, 1) := by decide +kernel
theorem dX11_foundOf_96 : decode cX11_foundOf 96 = .ok (.sipush 1000, 3) := by decide +kernel
theorem dX11_foundOf_99 : decode cX11_foundOf 99 = .ok (.if_icmp .ge 7, 3) := by decide +kernel
theorem dX11_foundOf_102 : decode cX11_foundOf 102 = .ok (.iconst 1, 1) := by decide +kernel
theorem dX11_foundOf_103 : decode cX11_foundOf 103 = .ok (.goto 4, 3) := by decide +kernel
theorem dX11_foundOf_106 : decode cX11_foundOf 106 = .ok (.iconst 0, 1) := by decide +kernel
theorem dX11_foundOf_107 : decode cX11_foundOf 107 = .ok (.istore 4, 2) := by decide +kernel
theorem dX11_foundOf_109 : decode cX11_foundOf 109 = .ok (.iinc 5 1, 3) := by decide +kernel
theorem dX11_foundOf_112 : decode cX11_foundOf 112 = .ok (.goto (-81), 3) := by decide +kernel
theorem dX11_foundOf_115 : decode cX11_foundOf 115 = .ok (.iload_n 2, 1) := by decide +kernel
theorem dX11_foundOf_116 : decode cX11_foundOf 116 = .ok (.ifCond .ne 16, 3) := by decide +kernel
theorem dX11_foundOf_119 : decode cX11_foundOf 119 = .ok (.aload_n 0, 1) := by decide +kernel
theorem dX11_foundOf_120 : decode cX11_foundOf 120 = .ok (.aload_n 0, 1) := by decide +kernel
theorem dX11_foundOf_121 : decode cX11_foundOf 121 = .ok (.getfield 38, 3) := by decide +kernel
theorem dX11_foundOf_124 : decode cX11_foundOf 124 = .ok (.iconst 0, 1) := by decide +kernel
theorem dX11_foundOf_125 : decode cX11_foundOf 125 = .ok (.iaload, 1) := by decide +kernel
theorem dX11_foundOf_126 : decode cX11_foundOf 126 = .ok (.invokevirtual 166, 3) := by decide +kernel
theorem dX11_foundOf_129 : decode cX11_foundOf 129 = .ok (.goto 15, 3) := by decide +kernel
theorem dX11_foundOf_132 : decode cX11_foundOf 132 = .ok (.aload_n 0, 1) := by decide +kernel
theorem dX11_foundOf_133 : decode cX11_foundOf 133 = .ok (.aload_n 0, 1) := by decide +kernel
theorem dX11_foundOf_134 : decode cX11_foundOf 134 = .ok (.getfield 38, 3) := by decide +kernel
theorem dX11_foundOf_137 : decode cX11_foundOf 137 = .ok (.iload_n 3, 1) := by decide +kernel
theorem dX11_foundOf_138 : decode cX11_foundOf 138 = .ok (.iconst 1, 1) := by decide +kernel
theorem dX11_foundOf_139 : decode cX11_foundOf 139 = .ok (.isub, 1) := by decide +kernel
theorem dX11_foundOf_140 : decode cX11_foundOf 140 = .ok (.iaload, 1) := by decide +kernel
theorem dX11_foundOf_141 : decode cX11_foundOf 141 = .ok (.invokevirtual 202, 3) := by decide +kernel
theorem dX11_foundOf_144 : decode cX11_foundOf 144 = .ok (.istore 5, 2) := by decide +kernel
theorem dX11_foundOf_146 : decode cX11_foundOf 146 = .ok (.iconst 0, 1) := by decide +kernel
theorem dX11_foundOf_147 : decode cX11_foundOf 147 = .ok (.istore 6, 2) := by decide +kernel
theorem dX11_foundOf_149 : decode cX11_foundOf 149 = .ok (.iconst 0, 1) := by decide +kernel
theorem dX11_foundOf_150 : decode cX11_foundOf 150 = .ok (.istore 7, 2) := by decide +kernel
theorem dX11_foundOf_152 : decode cX11_foundOf 152 = .ok (.iload 7, 2) := by decide +kernel
theorem dX11_foundOf_154 : decode cX11_foundOf 154 = .ok (.bipush 8, 2) := by decide +kernel
theorem dX11_foundOf_156 : decode cX11_foundOf 156 = .ok (.if_icmp .ge 46, 3) := by decide +kernel
theorem dX11_foundOf_159 : decode cX11_foundOf 159 = .ok (.iload 6, 2) := by decide +kernel
theorem dX11_foundOf_161 : decode cX11_foundOf 161 = .ok (.iload 4, 2) := by decide +kernel
theorem dX11_foundOf_163 : decode cX11_foundOf 163 = .ok (.ifCond .eq 29, 3) := by decide +kernel
theorem dX11_foundOf_166 : decode cX11_foundOf 166 = .ok (.aload_n 0, 1) := by decide +kernel
theorem dX11_foundOf_167 : decode cX11_foundOf 167 = .ok (.getfield 44, 3) := by decide +kernel
theorem dX11_foundOf_170 : decode cX11_foundOf 170 = .ok (.bipush 8, 2) := by decide +kernel
theorem dX11_foundOf_172 : decode cX11_foundOf 172 = .ok (.iload 5, 2) := by decide +kernel
theorem dX11_foundOf_174 : decode cX11_foundOf 174 = .ok (.imul, 1) := by decide +kernel
theorem dX11_foundOf_175 : decode cX11_foundOf 175 = .ok (.iload 7, 2) := by decide +kernel
theorem dX11_foundOf_177 : decode cX11_foundOf 177 = .ok (.iadd, 1) := by decide +kernel
theorem dX11_foundOf_178 : decode cX11_foundOf 178 = .ok (.iaload, 1) := by decide +kernel
theorem dX11_foundOf_179 : decode cX11_foundOf 179 = .ok (.sipush 1000, 3) := by decide +kernel
theorem dX11_foundOf_182 : decode cX11_foundOf 182 = .ok (.if_icmp .ge 10, 3) := by decide +kernel
theorem dX11_foundOf_185 : decode cX11_foundOf 185 = .ok (.iconst 1, 1) := by decide +kernel
theorem dX11_foundOf_186 : decode cX11_foundOf 186 = .ok (.iload 7, 2) := by decide +kernel
theorem dX11_foundOf_188 : decode cX11_foundOf 188 = .ok (.ishl, 1) := by decide +kernel
theorem dX11_foundOf_189 : decode cX11_foundOf 189 = .ok (.goto 4, 3) := by decide +kernel
theorem dX11_foundOf_192 : decode cX11_foundOf 192 = .ok (.iconst 0, 1) := by decide +kernel
theorem dX11_foundOf_193 : decode cX11_foundOf 193 = .ok (.ior, 1) := by decide +kernel
theorem dX11_foundOf_194 : decode cX11_foundOf 194 = .ok (.istore 6, 2) := by decide +kernel
theorem dX11_foundOf_196 : decode cX11_foundOf 196 = .ok (.iinc 7 1, 3) := by decide +kernel
theorem dX11_foundOf_199 : decode cX11_foundOf 199 = .ok (.goto (-47), 3) := by decide +kernel
theorem dX11_foundOf_202 : decode cX11_foundOf 202 = .ok (.iload 6, 2) := by decide +kernel
theorem dX11_foundOf_204 : decode cX11_foundOf 204 = .ok (.ireturn, 1) := by decide +kernel
theorem dX11_found_0 : decode cX11_found 0 = .ok (.iload_n 1, 1) := by decide +kernel
theorem dX11_found_1 : decode cX11_found 1 = .ok (.invokestatic 193, 3) := by decide +kernel
theorem dX11_found_4 : decode cX11_found 4 = .ok (.ifCond .eq 19, 3) := by decide +kernel
theorem dX11_found_7 : decode cX11_found 7 = .ok (.iload_n 2, 1) := by decide +kernel
theorem dX11_found_8 : decode cX11_found 8 = .ok (.invokestatic 256, 3) := by decide +kernel
theorem dX11_found_11 : decode cX11_found 11 = .ok (.ifCond .eq 12, 3) := by decide +kernel
theorem dX11_found_14 : decode cX11_found 14 = .ok (.aload_n 0, 1) := by decide +kernel
theorem dX11_found_15 : decode cX11_found 15 = .ok (.iload_n 1, 1) := by decide +kernel
theorem dX11_found_16 : decode cX11_found 16 = .ok (.iload_n 2, 1) := by decide +kernel
theorem dX11_found_17 : decode cX11_found 17 = .ok (.invokevirtual 283, 3) := by decide +kernel
theorem dX11_found_20 : decode cX11_found 20 = .ok (.goto 5, 3) := by decide +kernel
theorem dX11_found_23 : decode cX11_found 23 = .ok (.bipush (-2), 2) := by decide +kernel
theorem dX11_found_25 : decode cX11_found 25 = .ok (.ireturn, 1) := by decide +kernel
theorem dX11_index_0 : decode cX11_index 0 = .ok (.iload_n 0, 1) := by decide +kernel
theorem dX11_index_1 : decode cX11_index 1 = .ok (.bipush 8, 2) := by decide +kernel
theorem dX11_index_3 : decode cX11_index 3 = .ok (.imul, 1) := by decide +kernel
theorem dX11_index_4 : decode cX11_index 4 = .ok (.iload_n 1, 1) := by decide +kernel
theorem dX11_index_5 : decode cX11_index 5 = .ok (.iadd, 1) := by decide +kernel
theorem dX11_index_6 : decode cX11_index 6 = .ok (.bipush 8, 2) := by decide +kernel
theorem dX11_index_8 : decode cX11_index 8 = .ok (.imul, 1) := by decide +kernel
theorem dX11_index_9 : decode cX11_index 9 = .ok (.iload_n 2, 1) := by decide +kernel
theorem dX11_index_10 : decode cX11_index 10 = .ok (.iadd, 1) := by decide +kernel
theorem dX11_index_11 : decode cX11_index 11 = .ok (.bipush 13, 2) := by decide +kernel
theorem dX11_index_13 : decode cX11_index 13 = .ok (.imul, 1) := by decide +kernel
theorem dX11_index_14 : decode cX11_index 14 = .ok (.iload_n 3, 1) := by decide +kernel
theorem dX11_index_15 : decode cX11_index 15 = .ok (.iadd, 1) := by decide +kernel
theorem dX11_index_16 : decode cX11_index 16 = .ok (.ireturn, 1) := by decide +kernel
theorem dX11_findClosed_0 : decode cX11_findClosed 0 = .ok (.iconst 0, 1) := by decide +kernel
theorem dX11_findClosed_1 : decode cX11_findClosed 1 = .ok (.istore_n 2, 1) := by decide +kernel
theorem dX11_findClosed_2 : decode cX11_findClosed 2 = .ok (.iload_n 2, 1) := by decide +kernel
theorem dX11_findClosed_3 : decode cX11_findClosed 3 = .ok (.bipush 18, 2) := by decide +kernel
theorem dX11_findClosed_5 : decode cX11_findClosed 5 = .ok (.if_icmp .gt 154, 3) := by decide +kernel
theorem dX11_findClosed_8 : decode cX11_findClosed 8 = .ok (.iconst 0, 1) := by decide +kernel
theorem dX11_findClosed_9 : decode cX11_findClosed 9 = .ok (.istore_n 3, 1) := by decide +kernel
theorem dX11_findClosed_10 : decode cX11_findClosed 10 = .ok (.iload_n 3, 1) := by decide +kernel
theorem dX11_findClosed_11 : decode cX11_findClosed 11 = .ok (.bipush 8, 2) := by decide +kernel
theorem dX11_findClosed_13 : decode cX11_findClosed 13 = .ok (.if_icmp .ge 140, 3) := by decide +kernel
theorem dX11_findClosed_16 : decode cX11_findClosed 16 = .ok (.iconst 0, 1) := by decide +kernel
theorem dX11_findClosed_17 : decode cX11_findClosed 17 = .ok (.istore 4, 2) := by decide +kernel
theorem dX11_findClosed_19 : decode cX11_findClosed 19 = .ok (.iload 4, 2) := by decide +kernel
theorem dX11_findClosed_21 : decode cX11_findClosed 21 = .ok (.bipush 8, 2) := by decide +kernel
theorem dX11_findClosed_23 : decode cX11_findClosed 23 = .ok (.if_icmp .ge 124, 3) := by decide +kernel
theorem dX11_findClosed_26 : decode cX11_findClosed 26 = .ok (.iload_n 1, 1) := by decide +kernel
theorem dX11_findClosed_27 : decode cX11_findClosed 27 = .ok (.ifCond .ne 13, 3) := by decide +kernel
theorem dX11_findClosed_30 : decode cX11_findClosed 30 = .ok (.iload_n 3, 1) := by decide +kernel
theorem dX11_findClosed_31 : decode cX11_findClosed 31 = .ok (.iload 4, 2) := by decide +kernel
theorem dX11_findClosed_33 : decode cX11_findClosed 33 = .ok (.if_icmp .ne 7, 3) := by decide +kernel
theorem dX11_findClosed_36 : decode cX11_findClosed 36 = .ok (.lconst 1, 1) := by decide +kernel
theorem dX11_findClosed_37 : decode cX11_findClosed 37 = .ok (.goto 4, 3) := by decide +kernel
theorem dX11_findClosed_40 : decode cX11_findClosed 40 = .ok (.lconst 0, 1) := by decide +kernel
theorem dX11_findClosed_41 : decode cX11_findClosed 41 = .ok (.lstore 5, 2) := by decide +kernel
theorem dX11_findClosed_43 : decode cX11_findClosed 43 = .ok (.iconst 0, 1) := by decide +kernel
theorem dX11_findClosed_44 : decode cX11_findClosed 44 = .ok (.istore 7, 2) := by decide +kernel
theorem dX11_findClosed_46 : decode cX11_findClosed 46 = .ok (.iload 7, 2) := by decide +kernel
theorem dX11_findClosed_48 : decode cX11_findClosed 48 = .ok (.iconst 2, 1) := by decide +kernel
theorem dX11_findClosed_49 : decode cX11_findClosed 49 = .ok (.aload_n 0, 1) := by decide +kernel
theorem dX11_findClosed_50 : decode cX11_findClosed 50 = .ok (.getfield 128, 3) := by decide +kernel
theorem dX11_findClosed_53 : decode cX11_findClosed 53 = .ok (.imul, 1) := by decide +kernel
theorem dX11_findClosed_54 : decode cX11_findClosed 54 = .ok (.if_icmp .ge 72, 3) := by decide +kernel
theorem dX11_findClosed_57 : decode cX11_findClosed 57 = .ok (.iload_n 1, 1) := by decide +kernel
theorem dX11_findClosed_58 : decode cX11_findClosed 58 = .ok (.ifCond .le 68, 3) := by decide +kernel
theorem dX11_findClosed_61 : decode cX11_findClosed 61 = .ok (.lload 5, 2) := by decide +kernel
theorem dX11_findClosed_63 : decode cX11_findClosed 63 = .ok (.aload_n 0, 1) := by decide +kernel
theorem dX11_findClosed_64 : decode cX11_findClosed 64 = .ok (.iload 7, 2) := by decide +kernel
theorem dX11_findClosed_66 : decode cX11_findClosed 66 = .ok (.invokevirtual 166, 3) := by decide +kernel
theorem dX11_findClosed_69 : decode cX11_findClosed 69 = .ok (.iload_n 3, 1) := by decide +kernel
theorem dX11_findClosed_70 : decode cX11_findClosed 70 = .ok (.if_icmp .ne 46, 3) := by decide +kernel
theorem dX11_findClosed_73 : decode cX11_findClosed 73 = .ok (.aload_n 0, 1) := by decide +kernel
theorem dX11_findClosed_74 : decode cX11_findClosed 74 = .ok (.iload 7, 2) := by decide +kernel
theorem dX11_findClosed_76 : decode cX11_findClosed 76 = .ok (.iconst 2, 1) := by decide +kernel
theorem dX11_findClosed_77 : decode cX11_findClosed 77 = .ok (.idiv, 1) := by decide +kernel
theorem dX11_findClosed_78 : decode cX11_findClosed 78 = .ok (.invokevirtual 172, 3) := by decide +kernel
theorem dX11_findClosed_81 : decode cX11_findClosed 81 = .ok (.ifCond .ne 35, 3) := by decide +kernel
theorem dX11_findClosed_84 : decode cX11_findClosed 84 = .ok (.iload 7, 2) := by decide +kernel
theorem dX11_findClosed_86 : decode cX11_findClosed 86 = .ok (.iload_n 2, 1) := by decide +kernel
theorem dX11_findClosed_87 : decode cX11_findClosed 87 = .ok (.if_icmp .ne 15, 3) := by decide +kernel
theorem dX11_findClosed_90 : decode cX11_findClosed 90 = .ok (.aload_n 0, 1) := by decide +kernel
theorem dX11_findClosed_91 : decode cX11_findClosed 91 = .ok (.getfield 34, 3) := by decide +kernel
theorem dX11_findClosed_94 : decode cX11_findClosed 94 = .ok (.iload 7, 2) := by decide +kernel
theorem dX11_findClosed_96 : decode cX11_findClosed 96 = .ok (.iconst 2, 1) := by decide +kernel
theorem dX11_findClosed_97 : decode cX11_findClosed 97 = .ok (.idiv, 1) := by decide +kernel
theorem dX11_findClosed_98 : decode cX11_findClosed 98 = .ok (.baload, 1) := by decide +kernel
theorem dX11_findClosed_99 : decode cX11_findClosed 99 = .ok (.ifCond .ne 17, 3) := by decide +kernel
theorem dX11_findClosed_102 : decode cX11_findClosed 102 = .ok (.aload_n 0, 1) := by decide +kernel
theorem dX11_findClosed_103 : decode cX11_findClosed 103 = .ok (.iload 7, 2) := by decide +kernel
theorem dX11_findClosed_105 : decode cX11_findClosed 105 = .ok (.iload_n 2, 1) := by decide +kernel
theorem dX11_findClosed_106 : decode cX11_findClosed 106 = .ok (.iload_n 3, 1) := by decide +kernel
theorem dX11_findClosed_107 : decode cX11_findClosed 107 = .ok (.iload 4, 2) := by decide +kernel
theorem dX11_findClosed_109 : decode cX11_findClosed 109 = .ok (.iload_n 1, 1) := by decide +kernel
theorem dX11_findClosed_110 : decode cX11_findClosed 110 = .ok (.invokevirtual 286, 3) := by decide +kernel
theorem dX11_findClosed_113 : decode cX11_findClosed 113 = .ok (.goto 4, 3) := by decide +kernel
theorem dX11_findClosed_116 : decode cX11_findClosed 116 = .ok (.lconst 0, 1) := by decide +kernel
theorem dX11_findClosed_117 : decode cX11_findClosed 117 = .ok (.ladd, 1) := by decide +kernel
theorem dX11_findClosed_118 : decode cX11_findClosed 118 = .ok (.lstore 5, 2) := by decide +kernel
theorem dX11_findClosed_120 : decode cX11_findClosed 120 = .ok (.iinc 7 1, 3) := by decide +kernel
theorem dX11_findClosed_123 : decode cX11_findClosed 123 = .ok (.goto (-77), 3) := by decide +kernel
theorem dX11_findClosed_126 : decode cX11_findClosed 126 = .ok (.aload_n 0, 1) := by decide +kernel
theorem dX11_findClosed_127 : decode cX11_findClosed 127 = .ok (.getfield 57, 3) := by decide +kernel
theorem dX11_findClosed_130 : decode cX11_findClosed 130 = .ok (.iload_n 2, 1) := by decide +kernel
theorem dX11_findClosed_131 : decode cX11_findClosed 131 = .ok (.iload_n 3, 1) := by decide +kernel
theorem dX11_findClosed_132 : decode cX11_findClosed 132 = .ok (.iload 4, 2) := by decide +kernel
theorem dX11_findClosed_134 : decode cX11_findClosed 134 = .ok (.iload_n 1, 1) := by decide +kernel
theorem dX11_findClosed_135 : decode cX11_findClosed 135 = .ok (.invokestatic 289, 3) := by decide +kernel
theorem dX11_findClosed_138 : decode cX11_findClosed 138 = .ok (.lload 5, 2) := by decide +kernel
theorem dX11_findClosed_140 : decode cX11_findClosed 140 = .ok (.lastore, 1) := by decide +kernel
theorem dX11_findClosed_141 : decode cX11_findClosed 141 = .ok (.iinc 4 1, 3) := by decide +kernel
theorem dX11_findClosed_144 : decode cX11_findClosed 144 = .ok (.goto (-125), 3) := by decide +kernel
theorem dX11_findClosed_147 : decode cX11_findClosed 147 = .ok (.iinc 3 1, 3) := by decide +kernel
theorem dX11_findClosed_150 : decode cX11_findClosed 150 = .ok (.goto (-140), 3) := by decide +kernel
theorem dX11_findClosed_153 : decode cX11_findClosed 153 = .ok (.iinc 2 1, 3) := by decide +kernel
theorem dX11_findClosed_156 : decode cX11_findClosed 156 = .ok (.goto (-154), 3) := by decide +kernel
theorem dX11_findClosed_159 : decode cX11_findClosed 159 = .ok (.return_, 1) := by decide +kernel
theorem dX11_closedBy_0 : decode cX11_closedBy 0 = .ok (.aload_n 0, 1) := by decide +kernel
theorem dX11_closedBy_1 : decode cX11_closedBy 1 = .ok (.getfield 34, 3) := by decide +kernel
theorem dX11_closedBy_4 : decode cX11_closedBy 4 = .ok (.iload_n 1, 1) := by decide +kernel
theorem dX11_closedBy_5 : decode cX11_closedBy 5 = .ok (.iconst 2, 1) := by decide +kernel
theorem dX11_closedBy_6 : decode cX11_closedBy 6 = .ok (.idiv, 1) := by decide +kernel
theorem dX11_closedBy_7 : decode cX11_closedBy 7 = .ok (.baload, 1) := by decide +kernel
theorem dX11_closedBy_8 : decode cX11_closedBy 8 = .ok (.ifCond .ne 24, 3) := by decide +kernel
theorem dX11_closedBy_11 : decode cX11_closedBy 11 = .ok (.aload_n 0, 1) := by decide +kernel
theorem dX11_closedBy_12 : decode cX11_closedBy 12 = .ok (.getfield 57, 3) := by decide +kernel
theorem dX11_closedBy_15 : decode cX11_closedBy 15 = .ok (.iload_n 2, 1) := by decide +kernel
theorem dX11_closedBy_16 : decode cX11_closedBy 16 = .ok (.aload_n 0, 1) := by decide +kernel
theorem dX11_closedBy_17 : decode cX11_closedBy 17 = .ok (.iload_n 1, 1) := by decide +kernel
theorem dX11_closedBy_18 : decode cX11_closedBy 18 = .ok (.invokevirtual 202, 3) := by decide +kernel
theorem dX11_closedBy_21 : decode cX11_closedBy 21 = .ok (.iload 4, 2) := by decide +kernel
theorem dX11_closedBy_23 : decode cX11_closedBy 23 = .ok (.iload 5, 2) := by decide +kernel
theorem dX11_closedBy_25 : decode cX11_closedBy 25 = .ok (.iconst 1, 1) := by decide +kernel
theorem dX11_closedBy_26 : decode cX11_closedBy 26 = .ok (.isub, 1) := by decide +kernel
theorem dX11_closedBy_27 : decode cX11_closedBy 27 = .ok (.invokestatic 289, 3) := by decide +kernel
theorem dX11_closedBy_30 : decode cX11_closedBy 30 = .ok (.laload, 1) := by decide +kernel
theorem dX11_closedBy_31 : decode cX11_closedBy 31 = .ok (.lreturn, 1) := by decide +kernel
theorem dX11_closedBy_32 : decode cX11_closedBy 32 = .ok (.lconst 0, 1) := by decide +kernel
theorem dX11_closedBy_33 : decode cX11_closedBy 33 = .ok (.lstore 6, 2) := by decide +kernel
theorem dX11_closedBy_35 : decode cX11_closedBy 35 = .ok (.iconst 0, 1) := by decide +kernel
theorem dX11_closedBy_36 : decode cX11_closedBy 36 = .ok (.istore 8, 2) := by decide +kernel
theorem dX11_closedBy_38 : decode cX11_closedBy 38 = .ok (.iload 8, 2) := by decide +kernel
theorem dX11_closedBy_40 : decode cX11_closedBy 40 = .ok (.iconst 2, 1) := by decide +kernel
theorem dX11_closedBy_41 : decode cX11_closedBy 41 = .ok (.iadd, 1) := by decide +kernel
theorem dX11_closedBy_42 : decode cX11_closedBy 42 = .ok (.iload 5, 2) := by decide +kernel
theorem dX11_closedBy_44 : decode cX11_closedBy 44 = .ok (.if_icmp .gt 58, 3) := by decide +kernel
theorem dX11_closedBy_47 : decode cX11_closedBy 47 = .ok (.lload 6, 2) := by decide +kernel
theorem dX11_closedBy_49 : decode cX11_closedBy 49 = .ok (.aload_n 0, 1) := by decide +kernel
theorem dX11_closedBy_50 : decode cX11_closedBy 50 = .ok (.getfield 57, 3) := by decide +kernel
theorem dX11_closedBy_53 : decode cX11_closedBy 53 = .ok (.iload_n 1, 1) := by decide +kernel
theorem dX11_closedBy_54 : decode cX11_closedBy 54 = .ok (.invokestatic 177, 3) := by decide +kernel
theorem dX11_closedBy_57 : decode cX11_closedBy 57 = .ok (.aload_n 0, 1) := by decide +kernel
theorem dX11_closedBy_58 : decode cX11_closedBy 58 = .ok (.iload_n 1, 1) := by decide +kernel
theorem dX11_closedBy_59 : decode cX11_closedBy 59 = .ok (.invokevirtual 202, 3) := by decide +kernel
theorem dX11_closedBy_62 : decode cX11_closedBy 62 = .ok (.aload_n 0, 1) := by decide +kernel
theorem dX11_closedBy_63 : decode cX11_closedBy 63 = .ok (.iload_n 1, 1) := by decide +kernel
theorem dX11_closedBy_64 : decode cX11_closedBy 64 = .ok (.invokevirtual 202, 3) := by decide +kernel
theorem dX11_closedBy_67 : decode cX11_closedBy 67 = .ok (.iload 8, 2) := by decide +kernel
theorem dX11_closedBy_69 : decode cX11_closedBy 69 = .ok (.invokestatic 289, 3) := by decide +kernel
theorem dX11_closedBy_72 : decode cX11_closedBy 72 = .ok (.laload, 1) := by decide +kernel
theorem dX11_closedBy_73 : decode cX11_closedBy 73 = .ok (.aload_n 0, 1) := by decide +kernel
theorem dX11_closedBy_74 : decode cX11_closedBy 74 = .ok (.getfield 57, 3) := by decide +kernel
theorem dX11_closedBy_77 : decode cX11_closedBy 77 = .ok (.iload_n 2, 1) := by decide +kernel
theorem dX11_closedBy_78 : decode cX11_closedBy 78 = .ok (.iload_n 3, 1) := by decide +kernel
theorem dX11_closedBy_79 : decode cX11_closedBy 79 = .ok (.iload 4, 2) := by decide +kernel
theorem dX11_closedBy_81 : decode cX11_closedBy 81 = .ok (.iload 5, 2) := by decide +kernel
theorem dX11_closedBy_83 : decode cX11_closedBy 83 = .ok (.iconst 2, 1) := by decide +kernel
theorem dX11_closedBy_84 : decode cX11_closedBy 84 = .ok (.isub, 1) := by decide +kernel
theorem dX11_closedBy_85 : decode cX11_closedBy 85 = .ok (.iload 8, 2) := by decide +kernel
theorem dX11_closedBy_87 : decode cX11_closedBy 87 = .ok (.isub, 1) := by decide +kernel
theorem dX11_closedBy_88 : decode cX11_closedBy 88 = .ok (.invokestatic 289, 3) := by decide +kernel
theorem dX11_closedBy_91 : decode cX11_closedBy 91 = .ok (.laload, 1) := by decide +kernel
theorem dX11_closedBy_92 : decode cX11_closedBy 92 = .ok (.lmul, 1) := by decide +kernel
theorem dX11_closedBy_93 : decode cX11_closedBy 93 = .ok (.ladd, 1) := by decide +kernel
theorem dX11_closedBy_94 : decode cX11_closedBy 94 = .ok (.lstore 6, 2) := by decide +kernel
theorem dX11_closedBy_96 : decode cX11_closedBy 96 = .ok (.iinc 8 1, 3) := by decide +kernel
theorem dX11_closedBy_99 : decode cX11_closedBy 99 = .ok (.goto (-61), 3) := by decide +kernel
theorem dX11_closedBy_102 : decode cX11_closedBy 102 = .ok (.lload 6, 2) := by decide +kernel
theorem dX11_closedBy_104 : decode cX11_closedBy 104 = .ok (.lreturn, 1) := by decide +kernel
theorem dX11_follows_0 : decode cX11_follows 0 = .ok (.iconst 0, 1) := by decide +kernel
theorem dX11_follows_1 : decode cX11_follows 1 = .ok (.istore 5, 2) := by decide +kernel
theorem dX11_follows_3 : decode cX11_follows 3 = .ok (.iload 5, 2) := by decide +kernel
theorem dX11_follows_5 : decode cX11_follows 5 = .ok (.bipush 13, 2) := by decide +kernel
theorem dX11_follows_7 : decode cX11_follows 7 = .ok (.if_icmp .ge 73, 3) := by decide +kernel
theorem dX11_follows_10 : decode cX11_follows 10 = .ok (.aload_n 0, 1) := by decide +kernel
theorem dX11_follows_11 : decode cX11_follows 11 = .ok (.getfield 63, 3) := by decide +kernel
theorem dX11_follows_14 : decode cX11_follows 14 = .ok (.iload 5, 2) := by decide +kernel
theorem dX11_follows_16 : decode cX11_follows 16 = .ok (.lconst 0, 1) := by decide +kernel
theorem dX11_follows_17 : decode cX11_follows 17 = .ok (.lastore, 1) := by decide +kernel
theorem dX11_follows_18 : decode cX11_follows 18 = .ok (.iconst 0, 1) := by decide +kernel
theorem dX11_follows_19 : decode cX11_follows 19 = .ok (.istore 6, 2) := by decide +kernel
theorem dX11_follows_21 : decode cX11_follows 21 = .ok (.iload 6, 2) := by decide +kernel
theorem dX11_follows_23 : decode cX11_follows 23 = .ok (.iload 4, 2) := by decide +kernel
theorem dX11_follows_25 : decode cX11_follows 25 = .ok (.iadd, 1) := by decide +kernel
theorem dX11_follows_26 : decode cX11_follows 26 = .ok (.iload 5, 2) := by decide +kernel
theorem dX11_follows_28 : decode cX11_follows 28 = .ok (.if_icmp .gt 46, 3) := by decide +kernel
theorem dX11_follows_31 : decode cX11_follows 31 = .ok (.aload_n 0, 1) := by decide +kernel
theorem dX11_follows_32 : decode cX11_follows 32 = .ok (.getfield 63, 3) := by decide +kernel
theorem dX11_follows_35 : decode cX11_follows 35 = .ok (.iload 5, 2) := by decide +kernel
theorem dX11_follows_37 : decode cX11_follows 37 = .ok (.dup2, 1) := by decide +kernel
theorem dX11_follows_38 : decode cX11_follows 38 = .ok (.laload, 1) := by decide +kernel
theorem dX11_follows_39 : decode cX11_follows 39 = .ok (.aload_n 0, 1) := by decide +kernel
theorem dX11_follows_40 : decode cX11_follows 40 = .ok (.getfield 60, 3) := by decide +kernel
theorem dX11_follows_43 : decode cX11_follows 43 = .ok (.iload 6, 2) := by decide +kernel
theorem dX11_follows_45 : decode cX11_follows 45 = .ok (.laload, 1) := by decide +kernel
theorem dX11_follows_46 : decode cX11_follows 46 = .ok (.aload_n 0, 1) := by decide +kernel
theorem dX11_follows_47 : decode cX11_follows 47 = .ok (.getfield 57, 3) := by decide +kernel
theorem dX11_follows_50 : decode cX11_follows 50 = .ok (.iload_n 1, 1) := by decide +kernel
theorem dX11_follows_51 : decode cX11_follows 51 = .ok (.iload_n 2, 1) := by decide +kernel
theorem dX11_follows_52 : decode cX11_follows 52 = .ok (.iload_n 3, 1) := by decide +kernel
theorem dX11_follows_53 : decode cX11_follows 53 = .ok (.iload 5, 2) := by decide +kernel
theorem dX11_follows_55 : decode cX11_follows 55 = .ok (.iload 4, 2) := by decide +kernel
theorem dX11_follows_57 : decode cX11_follows 57 = .ok (.isub, 1) := by decide +kernel
theorem dX11_follows_58 : decode cX11_follows 58 = .ok (.iload 6, 2) := by decide +kernel
theorem dX11_follows_60 : decode cX11_follows 60 = .ok (.isub, 1) := by decide +kernel
theorem dX11_follows_61 : decode cX11_follows 61 = .ok (.invokestatic 289, 3) := by decide +kernel
theorem dX11_follows_64 : decode cX11_follows 64 = .ok (.laload, 1) := by decide +kernel
theorem dX11_follows_65 : decode cX11_follows 65 = .ok (.lmul, 1) := by decide +kernel
theorem dX11_follows_66 : decode cX11_follows 66 = .ok (.ladd, 1) := by decide +kernel
theorem dX11_follows_67 : decode cX11_follows 67 = .ok (.lastore, 1) := by decide +kernel
theorem dX11_follows_68 : decode cX11_follows 68 = .ok (.iinc 6 1, 3) := by decide +kernel
theorem dX11_follows_71 : decode cX11_follows 71 = .ok (.goto (-50), 3) := by decide +kernel
theorem dX11_follows_74 : decode cX11_follows 74 = .ok (.iinc 5 1, 3) := by decide +kernel
theorem dX11_follows_77 : decode cX11_follows 77 = .ok (.goto (-74), 3) := by decide +kernel
theorem dX11_follows_80 : decode cX11_follows 80 = .ok (.iconst 0, 1) := by decide +kernel
theorem dX11_follows_81 : decode cX11_follows 81 = .ok (.istore 5, 2) := by decide +kernel
theorem dX11_follows_83 : decode cX11_follows 83 = .ok (.iload 5, 2) := by decide +kernel
theorem dX11_follows_85 : decode cX11_follows 85 = .ok (.bipush 13, 2) := by decide +kernel
theorem dX11_follows_87 : decode cX11_follows 87 = .ok (.if_icmp .ge 23, 3) := by decide +kernel
theorem dX11_follows_90 : decode cX11_follows 90 = .ok (.aload_n 0, 1) := by decide +kernel
theorem dX11_follows_91 : decode cX11_follows 91 = .ok (.getfield 60, 3) := by decide +kernel
theorem dX11_follows_94 : decode cX11_follows 94 = .ok (.iload 5, 2) := by decide +kernel
theorem dX11_follows_96 : decode cX11_follows 96 = .ok (.aload_n 0, 1) := by decide +kernel
theorem dX11_follows_97 : decode cX11_follows 97 = .ok (.getfield 63, 3) := by decide +kernel
theorem dX11_follows_100 : decode cX11_follows 100 = .ok (.iload 5, 2) := by decide +kernel
theorem dX11_follows_102 : decode cX11_follows 102 = .ok (.laload, 1) := by decide +kernel
theorem dX11_follows_103 : decode cX11_follows 103 = .ok (.lastore, 1) := by decide +kernel
theorem dX11_follows_104 : decode cX11_follows 104 = .ok (.iinc 5 1, 3) := by decide +kernel
theorem dX11_follows_107 : decode cX11_follows 107 = .ok (.goto (-24), 3) := by decide +kernel
theorem dX11_follows_110 : decode cX11_follows 110 = .ok (.return_, 1) := by decide +kernel
theorem dX11_manyOf_0 : decode cX11_manyOf 0 = .ok (.aload_n 0, 1) := by decide +kernel
theorem dX11_manyOf_1 : decode cX11_manyOf 1 = .ok (.iconst 0, 1) := by decide +kernel
theorem dX11_manyOf_2 : decode cX11_manyOf 2 = .ok (.iload_n 2, 1) := by decide +kernel
theorem dX11_manyOf_3 : decode cX11_manyOf 3 = .ok (.invokevirtual 196, 3) := by decide +kernel
theorem dX11_manyOf_6 : decode cX11_manyOf 6 = .ok (.iconst 0, 1) := by decide +kernel
theorem dX11_manyOf_7 : decode cX11_manyOf 7 = .ok (.istore 5, 2) := by decide +kernel
theorem dX11_manyOf_9 : decode cX11_manyOf 9 = .ok (.iload 5, 2) := by decide +kernel
theorem dX11_manyOf_11 : decode cX11_manyOf 11 = .ok (.bipush 12, 2) := by decide +kernel
theorem dX11_manyOf_13 : decode cX11_manyOf 13 = .ok (.if_icmp .gt 32, 3) := by decide +kernel
theorem dX11_manyOf_16 : decode cX11_manyOf 16 = .ok (.aload_n 0, 1) := by decide +kernel
theorem dX11_manyOf_17 : decode cX11_manyOf 17 = .ok (.iload 5, 2) := by decide +kernel
theorem dX11_manyOf_19 : decode cX11_manyOf 19 = .ok (.invokevirtual 292, 3) := by decide +kernel
theorem dX11_manyOf_22 : decode cX11_manyOf 22 = .ok (.aload_n 0, 1) := by decide +kernel
theorem dX11_manyOf_23 : decode cX11_manyOf 23 = .ok (.getfield 60, 3) := by decide +kernel
theorem dX11_manyOf_26 : decode cX11_manyOf 26 = .ok (.iload 5, 2) := by decide +kernel
theorem dX11_manyOf_28 : decode cX11_manyOf 28 = .ok (.iload 5, 2) := by decide +kernel
theorem dX11_manyOf_30 : decode cX11_manyOf 30 = .ok (.ifCond .ne 7, 3) := by decide +kernel
theorem dX11_manyOf_33 : decode cX11_manyOf 33 = .ok (.lconst 1, 1) := by decide +kernel
theorem dX11_manyOf_34 : decode cX11_manyOf 34 = .ok (.goto 4, 3) := by decide +kernel
theorem dX11_manyOf_37 : decode cX11_manyOf 37 = .ok (.lconst 0, 1) := by decide +kernel
theorem dX11_manyOf_38 : decode cX11_manyOf 38 = .ok (.lastore, 1) := by decide +kernel
theorem dX11_manyOf_39 : decode cX11_manyOf 39 = .ok (.iinc 5 1, 3) := by decide +kernel
theorem dX11_manyOf_42 : decode cX11_manyOf 42 = .ok (.goto (-33), 3) := by decide +kernel
theorem dX11_manyOf_45 : decode cX11_manyOf 45 = .ok (.iload_n 1, 1) := by decide +kernel
theorem dX11_manyOf_46 : decode cX11_manyOf 46 = .ok (.istore 5, 2) := by decide +kernel
theorem dX11_manyOf_48 : decode cX11_manyOf 48 = .ok (.bipush 18, 2) := by decide +kernel
theorem dX11_manyOf_50 : decode cX11_manyOf 50 = .ok (.istore 6, 2) := by decide +kernel
theorem dX11_manyOf_52 : decode cX11_manyOf 52 = .ok (.iconst 0, 1) := by decide +kernel
theorem dX11_manyOf_53 : decode cX11_manyOf 53 = .ok (.istore 7, 2) := by decide +kernel
theorem dX11_manyOf_55 : decode cX11_manyOf 55 = .ok (.iload 7, 2) := by decide +kernel
theorem dX11_manyOf_57 : decode cX11_manyOf 57 = .ok (.aload_n 0, 1) := by decide +kernel
theorem dX11_manyOf_58 : decode cX11_manyOf 58 = .ok (.getfield 41, 3) := by decide +kernel
theorem dX11_manyOf_61 : decode cX11_manyOf 61 = .ok (.iconst 0, 1) := by decide +kernel
theorem dX11_manyOf_62 : decode cX11_manyOf 62 = .ok (.iaload, 1) := by decide +kernel
theorem dX11_manyOf_63 : decode cX11_manyOf 63 = .ok (.if_icmp .ge 61, 3) := by decide +kernel
theorem dX11_manyOf_66 : decode cX11_manyOf 66 = .ok (.aload_n 0, 1) := by decide +kernel
theorem dX11_manyOf_67 : decode cX11_manyOf 67 = .ok (.getfield 38, 3) := by decide +kernel
theorem dX11_manyOf_70 : decode cX11_manyOf 70 = .ok (.iload 7, 2) := by decide +kernel
theorem dX11_manyOf_72 : decode cX11_manyOf 72 = .ok (.iaload, 1) := by decide +kernel
theorem dX11_manyOf_73 : decode cX11_manyOf 73 = .ok (.istore 8, 2) := by decide +kernel
theorem dX11_manyOf_75 : decode cX11_manyOf 75 = .ok (.aload_n 0, 1) := by decide +kernel
theorem dX11_manyOf_76 : decode cX11_manyOf 76 = .ok (.iload 8, 2) := by decide +kernel
theorem dX11_manyOf_78 : decode cX11_manyOf 78 = .ok (.iconst 2, 1) := by decide +kernel
theorem dX11_manyOf_79 : decode cX11_manyOf 79 = .ok (.idiv, 1) := by decide +kernel
theorem dX11_manyOf_80 : decode cX11_manyOf 80 = .ok (.invokevirtual 172, 3) := by decide +kernel
theorem dX11_manyOf_83 : decode cX11_manyOf 83 = .ok (.ifCond .eq 5, 3) := by decide +kernel
theorem dX11_manyOf_86 : decode cX11_manyOf 86 = .ok (.lconst 0, 1) := by decide +kernel
theorem dX11_manyOf_87 : decode cX11_manyOf 87 = .ok (.lreturn, 1) := by decide +kernel
theorem dX11_manyOf_88 : decode cX11_manyOf 88 = .ok (.aload_n 0, 1) := by decide +kernel
theorem dX11_manyOf_89 : decode cX11_manyOf 89 = .ok (.iload 6, 2) := by decide +kernel
theorem dX11_manyOf_91 : decode cX11_manyOf 91 = .ok (.iload 5, 2) := by decide +kernel
theorem dX11_manyOf_93 : decode cX11_manyOf 93 = .ok (.aload_n 0, 1) := by decide +kernel
theorem dX11_manyOf_94 : decode cX11_manyOf 94 = .ok (.iload 8, 2) := by decide +kernel
theorem dX11_manyOf_96 : decode cX11_manyOf 96 = .ok (.invokevirtual 166, 3) := by decide +kernel
theorem dX11_manyOf_99 : decode cX11_manyOf 99 = .ok (.iconst 1, 1) := by decide +kernel
theorem dX11_manyOf_100 : decode cX11_manyOf 100 = .ok (.invokevirtual 295, 3) := by decide +kernel
theorem dX11_manyOf_103 : decode cX11_manyOf 103 = .ok (.aload_n 0, 1) := by decide +kernel
theorem dX11_manyOf_104 : decode cX11_manyOf 104 = .ok (.iload 8, 2) := by decide +kernel
theorem dX11_manyOf_106 : decode cX11_manyOf 106 = .ok (.invokevirtual 202, 3) := by decide +kernel
theorem dX11_manyOf_109 : decode cX11_manyOf 109 = .ok (.istore 5, 2) := by decide +kernel
theorem dX11_manyOf_111 : decode cX11_manyOf 111 = .ok (.iload 8, 2) := by decide +kernel
theorem dX11_manyOf_113 : decode cX11_manyOf 113 = .ok (.invokestatic 177, 3) := by decide +kernel
theorem dX11_manyOf_116 : decode cX11_manyOf 116 = .ok (.istore 6, 2) := by decide +kernel
theorem dX11_manyOf_118 : decode cX11_manyOf 118 = .ok (.iinc 7 1, 3) := by decide +kernel
theorem dX11_manyOf_121 : decode cX11_manyOf 121 = .ok (.goto (-66), 3) := by decide +kernel
theorem dX11_manyOf_124 : decode cX11_manyOf 124 = .ok (.aload_n 0, 1) := by decide +kernel
theorem dX11_manyOf_125 : decode cX11_manyOf 125 = .ok (.iload 6, 2) := by decide +kernel
theorem dX11_manyOf_127 : decode cX11_manyOf 127 = .ok (.iload 5, 2) := by decide +kernel
theorem dX11_manyOf_129 : decode cX11_manyOf 129 = .ok (.iload_n 3, 1) := by decide +kernel
theorem dX11_manyOf_130 : decode cX11_manyOf 130 = .ok (.iconst 0, 1) := by decide +kernel
theorem dX11_manyOf_131 : decode cX11_manyOf 131 = .ok (.invokevirtual 295, 3) := by decide +kernel
theorem dX11_manyOf_134 : decode cX11_manyOf 134 = .ok (.aload_n 0, 1) := by decide +kernel
theorem dX11_manyOf_135 : decode cX11_manyOf 135 = .ok (.getfield 60, 3) := by decide +kernel
theorem dX11_manyOf_138 : decode cX11_manyOf 138 = .ok (.iload 4, 2) := by decide +kernel
theorem dX11_manyOf_140 : decode cX11_manyOf 140 = .ok (.laload, 1) := by decide +kernel
theorem dX11_manyOf_141 : decode cX11_manyOf 141 = .ok (.lreturn, 1) := by decide +kernel
theorem dX11_many_0 : decode cX11_many 0 = .ok (.iload_n 1, 1) := by decide +kernel
theorem dX11_many_1 : decode cX11_many 1 = .ok (.invokestatic 148, 3) := by decide +kernel
theorem dX11_many_4 : decode cX11_many 4 = .ok (.ifCond .eq 42, 3) := by decide +kernel
theorem dX11_many_7 : decode cX11_many 7 = .ok (.iload_n 2, 1) := by decide +kernel
theorem dX11_many_8 : decode cX11_many 8 = .ok (.invokestatic 193, 3) := by decide +kernel
theorem dX11_many_11 : decode cX11_many 11 = .ok (.ifCond .eq 35, 3) := by decide +kernel
theorem dX11_many_14 : decode cX11_many 14 = .ok (.iload_n 3, 1) := by decide +kernel
theorem dX11_many_15 : decode cX11_many 15 = .ok (.invokestatic 148, 3) := by decide +kernel
theorem dX11_many_18 : decode cX11_many 18 = .ok (.ifCond .eq 28, 3) := by decide +kernel
theorem dX11_many_21 : decode cX11_many 21 = .ok (.iload 4, 2) := by decide +kernel
theorem dX11_many_23 : decode cX11_many 23 = .ok (.i2l, 1) := by decide +kernel
theorem dX11_many_24 : decode cX11_many 24 = .ok (.lconst 0, 1) := by decide +kernel
theorem dX11_many_25 : decode cX11_many 25 = .ok (.ldc2_w 298, 3) := by decide +kernel
theorem dX11_many_28 : decode cX11_many 28 = .ok (.invokestatic 86, 3) := by decide +kernel
theorem dX11_many_31 : decode cX11_many 31 = .ok (.ifCond .eq 15, 3) := by decide +kernel
theorem dX11_many_34 : decode cX11_many 34 = .ok (.aload_n 0, 1) := by decide +kernel
theorem dX11_many_35 : decode cX11_many 35 = .ok (.iload_n 1, 1) := by decide +kernel
theorem dX11_many_36 : decode cX11_many 36 = .ok (.iload_n 2, 1) := by decide +kernel
theorem dX11_many_37 : decode cX11_many 37 = .ok (.iload_n 3, 1) := by decide +kernel
theorem dX11_many_38 : decode cX11_many 38 = .ok (.iload 4, 2) := by decide +kernel
theorem dX11_many_40 : decode cX11_many 40 = .ok (.invokevirtual 300, 3) := by decide +kernel
theorem dX11_many_43 : decode cX11_many 43 = .ok (.goto 8, 3) := by decide +kernel
theorem dX11_many_46 : decode cX11_many 46 = .ok (.bipush (-2), 2) := by decide +kernel
theorem dX11_many_48 : decode cX11_many 48 = .ok (.invokestatic 263, 3) := by decide +kernel
theorem dX11_many_51 : decode cX11_many 51 = .ok (.lreturn, 1) := by decide +kernel
theorem dX11_lists_0 : decode cX11_lists 0 = .ok (.aload_n 0, 1) := by decide +kernel
theorem dX11_lists_1 : decode cX11_lists 1 = .ok (.getfield 304, 3) := by decide +kernel
theorem dX11_lists_4 : decode cX11_lists 4 = .ok (.bipush 12, 2) := by decide +kernel
theorem dX11_lists_6 : decode cX11_lists 6 = .ok (.if_icmp .ne 6, 3) := by decide +kernel
theorem dX11_lists_9 : decode cX11_lists 9 = .ok (.bipush (-4), 2) := by decide +kernel
theorem dX11_lists_11 : decode cX11_lists 11 = .ok (.ireturn, 1) := by decide +kernel
theorem dX11_lists_12 : decode cX11_lists 12 = .ok (.iconst 0, 1) := by decide +kernel
theorem dX11_lists_13 : decode cX11_lists 13 = .ok (.istore_n 2, 1) := by decide +kernel
theorem dX11_lists_14 : decode cX11_lists 14 = .ok (.iload_n 2, 1) := by decide +kernel
theorem dX11_lists_15 : decode cX11_lists 15 = .ok (.aload_n 0, 1) := by decide +kernel
theorem dX11_lists_16 : decode cX11_lists 16 = .ok (.getfield 41, 3) := by decide +kernel
theorem dX11_lists_19 : decode cX11_lists 19 = .ok (.iconst 0, 1) := by decide +kernel
theorem dX11_lists_20 : decode cX11_lists 20 = .ok (.iaload, 1) := by decide +kernel
theorem dX11_lists_21 : decode cX11_lists 21 = .ok (.if_icmp .ge 32, 3) := by decide +kernel
theorem dX11_lists_24 : decode cX11_lists 24 = .ok (.aload_n 0, 1) := by decide +kernel
theorem dX11_lists_25 : decode cX11_lists 25 = .ok (.getfield 66, 3) := by decide +kernel
theorem dX11_lists_28 : decode cX11_lists 28 = .ok (.bipush 60, 2) := by decide +kernel
theorem dX11_lists_30 : decode cX11_lists 30 = .ok (.aload_n 0, 1) := by decide +kernel
theorem dX11_lists_31 : decode cX11_lists 31 = .ok (.getfield 304, 3) := by decide +kernel
theorem dX11_lists_34 : decode cX11_lists 34 = .ok (.imul, 1) := by decide +kernel
theorem dX11_lists_35 : decode cX11_lists 35 = .ok (.iload_n 2, 1) := by decide +kernel
theorem dX11_lists_36 : decode cX11_lists 36 = .ok (.iadd, 1) := by decide +kernel
theorem dX11_lists_37 : decode cX11_lists 37 = .ok (.aload_n 0, 1) := by decide +kernel
theorem dX11_lists_38 : decode cX11_lists 38 = .ok (.getfield 38, 3) := by decide +kernel
theorem dX11_lists_41 : decode cX11_lists 41 = .ok (.iload_n 2, 1) := by decide +kernel
theorem dX11_lists_42 : decode cX11_lists 42 = .ok (.iaload, 1) := by decide +kernel
theorem dX11_lists_43 : decode cX11_lists 43 = .ok (.invokestatic 199, 3) := by decide +kernel
theorem dX11_lists_46 : decode cX11_lists 46 = .ok (.iastore, 1) := by decide +kernel
theorem dX11_lists_47 : decode cX11_lists 47 = .ok (.iinc 2 1, 3) := by decide +kernel
theorem dX11_lists_50 : decode cX11_lists 50 = .ok (.goto (-36), 3) := by decide +kernel
theorem dX11_lists_53 : decode cX11_lists 53 = .ok (.aload_n 0, 1) := by decide +kernel
theorem dX11_lists_54 : decode cX11_lists 54 = .ok (.getfield 69, 3) := by decide +kernel
theorem dX11_lists_57 : decode cX11_lists 57 = .ok (.aload_n 0, 1) := by decide +kernel
theorem dX11_lists_58 : decode cX11_lists 58 = .ok (.getfield 304, 3) := by decide +kernel
theorem dX11_lists_61 : decode cX11_lists 61 = .ok (.aload_n 0, 1) := by decide +kernel
theorem dX11_lists_62 : decode cX11_lists 62 = .ok (.getfield 41, 3) := by decide +kernel
theorem dX11_lists_65 : decode cX11_lists 65 = .ok (.iconst 0, 1) := by decide +kernel
theorem dX11_lists_66 : decode cX11_lists 66 = .ok (.iaload, 1) := by decide +kernel
theorem dX11_lists_67 : decode cX11_lists 67 = .ok (.iastore, 1) := by decide +kernel
theorem dX11_lists_68 : decode cX11_lists 68 = .ok (.aload_n 0, 1) := by decide +kernel
theorem dX11_lists_69 : decode cX11_lists 69 = .ok (.getfield 72, 3) := by decide +kernel
theorem dX11_lists_72 : decode cX11_lists 72 = .ok (.aload_n 0, 1) := by decide +kernel
theorem dX11_lists_73 : decode cX11_lists 73 = .ok (.getfield 304, 3) := by decide +kernel
theorem dX11_lists_76 : decode cX11_lists 76 = .ok (.iload_n 1, 1) := by decide +kernel
theorem dX11_lists_77 : decode cX11_lists 77 = .ok (.bastore, 1) := by decide +kernel
theorem dX11_lists_78 : decode cX11_lists 78 = .ok (.aload_n 0, 1) := by decide +kernel
theorem dX11_lists_79 : decode cX11_lists 79 = .ok (.dup, 1) := by decide +kernel
theorem dX11_lists_80 : decode cX11_lists 80 = .ok (.getfield 304, 3) := by decide +kernel
theorem dX11_lists_83 : decode cX11_lists 83 = .ok (.iconst 1, 1) := by decide +kernel
theorem dX11_lists_84 : decode cX11_lists 84 = .ok (.iadd, 1) := by decide +kernel
theorem dX11_lists_85 : decode cX11_lists 85 = .ok (.putfield 304, 3) := by decide +kernel
theorem dX11_lists_88 : decode cX11_lists 88 = .ok (.aload_n 0, 1) := by decide +kernel
theorem dX11_lists_89 : decode cX11_lists 89 = .ok (.getfield 304, 3) := by decide +kernel
theorem dX11_lists_92 : decode cX11_lists 92 = .ok (.ireturn, 1) := by decide +kernel
theorem dX11_list_0 : decode cX11_list 0 = .ok (.iload_n 1, 1) := by decide +kernel
theorem dX11_list_1 : decode cX11_list 1 = .ok (.invokestatic 193, 3) := by decide +kernel
theorem dX11_list_4 : decode cX11_list 4 = .ok (.ifCond .eq 10, 3) := by decide +kernel
theorem dX11_list_7 : decode cX11_list 7 = .ok (.iload_n 2, 1) := by decide +kernel
theorem dX11_list_8 : decode cX11_list 8 = .ok (.invokestatic 256, 3) := by decide +kernel
theorem dX11_list_11 : decode cX11_list 11 = .ok (.ifCond .ne 6, 3) := by decide +kernel
theorem dX11_list_14 : decode cX11_list 14 = .ok (.bipush (-2), 2) := by decide +kernel
theorem dX11_list_16 : decode cX11_list 16 = .ok (.ireturn, 1) := by decide +kernel
theorem dX11_list_17 : decode cX11_list 17 = .ok (.aload_n 0, 1) := by decide +kernel
theorem dX11_list_18 : decode cX11_list 18 = .ok (.iconst 0, 1) := by decide +kernel
theorem dX11_list_19 : decode cX11_list 19 = .ok (.iload_n 1, 1) := by decide +kernel
theorem dX11_list_20 : decode cX11_list 20 = .ok (.invokevirtual 196, 3) := by decide +kernel
theorem dX11_list_23 : decode cX11_list 23 = .ok (.aload_n 0, 1) := by decide +kernel
theorem dX11_list_24 : decode cX11_list 24 = .ok (.iload_n 2, 1) := by decide +kernel
theorem dX11_list_25 : decode cX11_list 25 = .ok (.iconst 1, 1) := by decide +kernel
theorem dX11_list_26 : decode cX11_list 26 = .ok (.if_icmp .ne 7, 3) := by decide +kernel
theorem dX11_list_29 : decode cX11_list 29 = .ok (.iconst 1, 1) := by decide +kernel
theorem dX11_list_30 : decode cX11_list 30 = .ok (.goto 4, 3) := by decide +kernel
theorem dX11_list_33 : decode cX11_list 33 = .ok (.iconst 0, 1) := by decide +kernel
theorem dX11_list_34 : decode cX11_list 34 = .ok (.invokevirtual 307, 3) := by decide +kernel
theorem dX11_list_37 : decode cX11_list 37 = .ok (.ireturn, 1) := by decide +kernel
theorem dX11_read_0 : decode cX11_read 0 = .ok (.iload_n 1, 1) := by decide +kernel
theorem dX11_read_1 : decode cX11_read 1 = .ok (.invokestatic 98, 3) := by decide +kernel
theorem dX11_read_4 : decode cX11_read 4 = .ok (.ifCond .ne 6, 3) := by decide +kernel
theorem dX11_read_7 : decode cX11_read 7 = .ok (.bipush (-2), 2) := by decide +kernel
theorem dX11_read_9 : decode cX11_read 9 = .ok (.ireturn, 1) := by decide +kernel
theorem dX11_read_10 : decode cX11_read 10 = .ok (.aload_n 0, 1) := by decide +kernel
theorem dX11_read_11 : decode cX11_read 11 = .ok (.getfield 7, 3) := by decide +kernel
theorem dX11_read_14 : decode cX11_read 14 = .ok (.iload_n 1, 1) := by decide +kernel
theorem dX11_read_15 : decode cX11_read 15 = .ok (.iaload, 1) := by decide +kernel
theorem dX11_read_16 : decode cX11_read 16 = .ok (.ifCond .ge 9, 3) := by decide +kernel
