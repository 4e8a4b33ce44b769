theorem dX6_passMinute_87 : decode cX6_passMinute 87 = .ok (.iconst 0, 1) := by decide +kernel
theorem dX6_passMinute_88 : decode cX6_passMinute 88 = .ok (.bipush 9, 2) := by decide +kernel
theorem dX6_passMinute_90 : decode cX6_passMinute 90 = .ok (.invokestatic 35, 3) := by decide +kernel
theorem dX6_passMinute_93 : decode cX6_passMinute 93 = .ok (.iastore, 1) := by decide +kernel
theorem dX6_passMinute_94 : decode cX6_passMinute 94 = .ok (.aload_n 1, 1) := by decide +kernel
theorem dX6_passMinute_95 : decode cX6_passMinute 95 = .ok (.getfield 22, 3) := by decide +kernel
theorem dX6_passMinute_98 : decode cX6_passMinute 98 = .ok (.iload 4, 2) := by decide +kernel
theorem dX6_passMinute_100 : decode cX6_passMinute 100 = .ok (.aload_n 1, 1) := by decide +kernel
theorem dX6_passMinute_101 : decode cX6_passMinute 101 = .ok (.getfield 69, 3) := by decide +kernel
theorem dX6_passMinute_104 : decode cX6_passMinute 104 = .ok (.iload 4, 2) := by decide +kernel
theorem dX6_passMinute_106 : decode cX6_passMinute 106 = .ok (.iaload, 1) := by decide +kernel
theorem dX6_passMinute_107 : decode cX6_passMinute 107 = .ok (.ifCond .ne 7, 3) := by decide +kernel
theorem dX6_passMinute_110 : decode cX6_passMinute 110 = .ok (.iconst (-1), 1) := by decide +kernel
theorem dX6_passMinute_111 : decode cX6_passMinute 111 = .ok (.goto 10, 3) := by decide +kernel
theorem dX6_passMinute_114 : decode cX6_passMinute 114 = .ok (.aload_n 1, 1) := by decide +kernel
theorem dX6_passMinute_115 : decode cX6_passMinute 115 = .ok (.getfield 22, 3) := by decide +kernel
theorem dX6_passMinute_118 : decode cX6_passMinute 118 = .ok (.iload 4, 2) := by decide +kernel
theorem dX6_passMinute_120 : decode cX6_passMinute 120 = .ok (.iaload, 1) := by decide +kernel
theorem dX6_passMinute_121 : decode cX6_passMinute 121 = .ok (.iastore, 1) := by decide +kernel
theorem dX6_passMinute_122 : decode cX6_passMinute 122 = .ok (.iinc 4 1, 3) := by decide +kernel
theorem dX6_passMinute_125 : decode cX6_passMinute 125 = .ok (.goto (-122), 3) := by decide +kernel
theorem dX6_passMinute_128 : decode cX6_passMinute 128 = .ok (.aload_n 1, 1) := by decide +kernel
theorem dX6_passMinute_129 : decode cX6_passMinute 129 = .ok (.getfield 32, 3) := by decide +kernel
theorem dX6_passMinute_132 : decode cX6_passMinute 132 = .ok (.iconst 0, 1) := by decide +kernel
theorem dX6_passMinute_133 : decode cX6_passMinute 133 = .ok (.dup2, 1) := by decide +kernel
theorem dX6_passMinute_134 : decode cX6_passMinute 134 = .ok (.iaload, 1) := by decide +kernel
theorem dX6_passMinute_135 : decode cX6_passMinute 135 = .ok (.iconst 1, 1) := by decide +kernel
theorem dX6_passMinute_136 : decode cX6_passMinute 136 = .ok (.iadd, 1) := by decide +kernel
theorem dX6_passMinute_137 : decode cX6_passMinute 137 = .ok (.iastore, 1) := by decide +kernel
theorem dX6_passMinute_138 : decode cX6_passMinute 138 = .ok (.return_, 1) := by decide +kernel
theorem dX6_isSo_0 : decode cX6_isSo 0 = .ok (.aload_n 1, 1) := by decide +kernel
theorem dX6_isSo_1 : decode cX6_isSo 1 = .ok (.iload_n 2, 1) := by decide +kernel
theorem dX6_isSo_2 : decode cX6_isSo 2 = .ok (.iconst 4, 1) := by decide +kernel
theorem dX6_isSo_3 : decode cX6_isSo 3 = .ok (.invokevirtual 91, 3) := by decide +kernel
theorem dX6_isSo_6 : decode cX6_isSo 6 = .ok (.istore 4, 2) := by decide +kernel
theorem dX6_isSo_8 : decode cX6_isSo 8 = .ok (.iload 4, 2) := by decide +kernel
theorem dX6_isSo_10 : decode cX6_isSo 10 = .ok (.iconst (-1), 1) := by decide +kernel
theorem dX6_isSo_11 : decode cX6_isSo 11 = .ok (.if_icmp .eq 18, 3) := by decide +kernel
theorem dX6_isSo_14 : decode cX6_isSo 14 = .ok (.aload_n 0, 1) := by decide +kernel
theorem dX6_isSo_15 : decode cX6_isSo 15 = .ok (.getfield 12, 3) := by decide +kernel
theorem dX6_isSo_18 : decode cX6_isSo 18 = .ok (.aload_n 1, 1) := by decide +kernel
theorem dX6_isSo_19 : decode cX6_isSo 19 = .ok (.iload 4, 2) := by decide +kernel
theorem dX6_isSo_21 : decode cX6_isSo 21 = .ok (.aload_n 3, 1) := by decide +kernel
theorem dX6_isSo_22 : decode cX6_isSo 22 = .ok (.invokevirtual 94, 3) := by decide +kernel
theorem dX6_isSo_25 : decode cX6_isSo 25 = .ok (.iconst 1, 1) := by decide +kernel
theorem dX6_isSo_26 : decode cX6_isSo 26 = .ok (.if_icmp .ne 7, 3) := by decide +kernel
theorem dX6_isSo_29 : decode cX6_isSo 29 = .ok (.iconst 1, 1) := by decide +kernel
theorem dX6_isSo_30 : decode cX6_isSo 30 = .ok (.goto 4, 3) := by decide +kernel
theorem dX6_isSo_33 : decode cX6_isSo 33 = .ok (.iconst 0, 1) := by decide +kernel
theorem dX6_isSo_34 : decode cX6_isSo 34 = .ok (.ireturn, 1) := by decide +kernel
theorem dX6_sumOf_0 : decode cX6_sumOf 0 = .ok (.aload_n 1, 1) := by decide +kernel
theorem dX6_sumOf_1 : decode cX6_sumOf 1 = .ok (.iload_n 2, 1) := by decide +kernel
theorem dX6_sumOf_2 : decode cX6_sumOf 2 = .ok (.iload_n 3, 1) := by decide +kernel
theorem dX6_sumOf_3 : decode cX6_sumOf 3 = .ok (.invokevirtual 91, 3) := by decide +kernel
theorem dX6_sumOf_6 : decode cX6_sumOf 6 = .ok (.istore 5, 2) := by decide +kernel
theorem dX6_sumOf_8 : decode cX6_sumOf 8 = .ok (.iload 5, 2) := by decide +kernel
theorem dX6_sumOf_10 : decode cX6_sumOf 10 = .ok (.iconst (-1), 1) := by decide +kernel
theorem dX6_sumOf_11 : decode cX6_sumOf 11 = .ok (.if_icmp .ne 7, 3) := by decide +kernel
theorem dX6_sumOf_14 : decode cX6_sumOf 14 = .ok (.iconst 0, 1) := by decide +kernel
theorem dX6_sumOf_15 : decode cX6_sumOf 15 = .ok (.goto 15, 3) := by decide +kernel
theorem dX6_sumOf_18 : decode cX6_sumOf 18 = .ok (.aload_n 0, 1) := by decide +kernel
theorem dX6_sumOf_19 : decode cX6_sumOf 19 = .ok (.getfield 12, 3) := by decide +kernel
theorem dX6_sumOf_22 : decode cX6_sumOf 22 = .ok (.aload_n 1, 1) := by decide +kernel
theorem dX6_sumOf_23 : decode cX6_sumOf 23 = .ok (.iload 5, 2) := by decide +kernel
theorem dX6_sumOf_25 : decode cX6_sumOf 25 = .ok (.aload 4, 2) := by decide +kernel
theorem dX6_sumOf_27 : decode cX6_sumOf 27 = .ok (.invokevirtual 94, 3) := by decide +kernel
theorem dX6_sumOf_30 : decode cX6_sumOf 30 = .ok (.ireturn, 1) := by decide +kernel
theorem dX6_toldBy_0 : decode cX6_toldBy 0 = .ok (.aload_n 1, 1) := by decide +kernel
theorem dX6_toldBy_1 : decode cX6_toldBy 1 = .ok (.invokevirtual 98, 3) := by decide +kernel
theorem dX6_toldBy_4 : decode cX6_toldBy 4 = .ok (.astore 6, 2) := by decide +kernel
theorem dX6_toldBy_6 : decode cX6_toldBy 6 = .ok (.aload 6, 2) := by decide +kernel
theorem dX6_toldBy_8 : decode cX6_toldBy 8 = .ok (.ifnull 11, 3) := by decide +kernel
theorem dX6_toldBy_11 : decode cX6_toldBy 11 = .ok (.iload 4, 2) := by decide +kernel
theorem dX6_toldBy_13 : decode cX6_toldBy 13 = .ok (.invokestatic 39, 3) := by decide +kernel
theorem dX6_toldBy_16 : decode cX6_toldBy 16 = .ok (.ifCond .ne 6, 3) := by decide +kernel
theorem dX6_toldBy_19 : decode cX6_toldBy 19 = .ok (.ldc 31, 2) := by decide +kernel
theorem dX6_toldBy_21 : decode cX6_toldBy 21 = .ok (.ireturn, 1) := by decide +kernel
theorem dX6_toldBy_22 : decode cX6_toldBy 22 = .ok (.aload_n 0, 1) := by decide +kernel
theorem dX6_toldBy_23 : decode cX6_toldBy 23 = .ok (.aload_n 1, 1) := by decide +kernel
theorem dX6_toldBy_24 : decode cX6_toldBy 24 = .ok (.iload_n 3, 1) := by decide +kernel
theorem dX6_toldBy_25 : decode cX6_toldBy 25 = .ok (.iload 4, 2) := by decide +kernel
theorem dX6_toldBy_27 : decode cX6_toldBy 27 = .ok (.iload 5, 2) := by decide +kernel
theorem dX6_toldBy_29 : decode cX6_toldBy 29 = .ok (.invokevirtual 102, 3) := by decide +kernel
theorem dX6_toldBy_32 : decode cX6_toldBy 32 = .ok (.aload 6, 2) := by decide +kernel
theorem dX6_toldBy_34 : decode cX6_toldBy 34 = .ok (.getfield 106, 3) := by decide +kernel
theorem dX6_toldBy_37 : decode cX6_toldBy 37 = .ok (.iconst 1, 1) := by decide +kernel
theorem dX6_toldBy_38 : decode cX6_toldBy 38 = .ok (.isub, 1) := by decide +kernel
theorem dX6_toldBy_39 : decode cX6_toldBy 39 = .ok (.istore 7, 2) := by decide +kernel
theorem dX6_toldBy_41 : decode cX6_toldBy 41 = .ok (.iload 7, 2) := by decide +kernel
theorem dX6_toldBy_43 : decode cX6_toldBy 43 = .ok (.ifCond .lt 120, 3) := by decide +kernel
theorem dX6_toldBy_46 : decode cX6_toldBy 46 = .ok (.aload 6, 2) := by decide +kernel
theorem dX6_toldBy_48 : decode cX6_toldBy 48 = .ok (.iload 7, 2) := by decide +kernel
theorem dX6_toldBy_50 : decode cX6_toldBy 50 = .ok (.iconst 0, 1) := by decide +kernel
theorem dX6_toldBy_51 : decode cX6_toldBy 51 = .ok (.invokevirtual 91, 3) := by decide +kernel
theorem dX6_toldBy_54 : decode cX6_toldBy 54 = .ok (.iload_n 2, 1) := by decide +kernel
theorem dX6_toldBy_55 : decode cX6_toldBy 55 = .ok (.if_icmp .ne 102, 3) := by decide +kernel
theorem dX6_toldBy_58 : decode cX6_toldBy 58 = .ok (.aload 6, 2) := by decide +kernel
theorem dX6_toldBy_60 : decode cX6_toldBy 60 = .ok (.iload 7, 2) := by decide +kernel
theorem dX6_toldBy_62 : decode cX6_toldBy 62 = .ok (.iconst 4, 1) := by decide +kernel
theorem dX6_toldBy_63 : decode cX6_toldBy 63 = .ok (.invokevirtual 91, 3) := by decide +kernel
theorem dX6_toldBy_66 : decode cX6_toldBy 66 = .ok (.istore 8, 2) := by decide +kernel
theorem dX6_toldBy_68 : decode cX6_toldBy 68 = .ok (.aload 6, 2) := by decide +kernel
theorem dX6_toldBy_70 : decode cX6_toldBy 70 = .ok (.iload 7, 2) := by decide +kernel
theorem dX6_toldBy_72 : decode cX6_toldBy 72 = .ok (.iconst 1, 1) := by decide +kernel
theorem dX6_toldBy_73 : decode cX6_toldBy 73 = .ok (.invokevirtual 91, 3) := by decide +kernel
theorem dX6_toldBy_76 : decode cX6_toldBy 76 = .ok (.istore 9, 2) := by decide +kernel
theorem dX6_toldBy_78 : decode cX6_toldBy 78 = .ok (.iload 8, 2) := by decide +kernel
theorem dX6_toldBy_80 : decode cX6_toldBy 80 = .ok (.iconst (-1), 1) := by decide +kernel
theorem dX6_toldBy_81 : decode cX6_toldBy 81 = .ok (.if_icmp .eq 22, 3) := by decide +kernel
theorem dX6_toldBy_84 : decode cX6_toldBy 84 = .ok (.aload_n 0, 1) := by decide +kernel
theorem dX6_toldBy_85 : decode cX6_toldBy 85 = .ok (.getfield 12, 3) := by decide +kernel
theorem dX6_toldBy_88 : decode cX6_toldBy 88 = .ok (.aload 6, 2) := by decide +kernel
theorem dX6_toldBy_90 : decode cX6_toldBy 90 = .ok (.iload 8, 2) := by decide +kernel
theorem dX6_toldBy_92 : decode cX6_toldBy 92 = .ok (.aload_n 0, 1) := by decide +kernel
theorem dX6_toldBy_93 : decode cX6_toldBy 93 = .ok (.getfield 18, 3) := by decide +kernel
theorem dX6_toldBy_96 : decode cX6_toldBy 96 = .ok (.invokevirtual 94, 3) := by decide +kernel
theorem dX6_toldBy_99 : decode cX6_toldBy 99 = .ok (.iconst 1, 1) := by decide +kernel
theorem dX6_toldBy_100 : decode cX6_toldBy 100 = .ok (.if_icmp .ne 7, 3) := by decide +kernel
theorem dX6_toldBy_103 : decode cX6_toldBy 103 = .ok (.iconst 1, 1) := by decide +kernel
theorem dX6_toldBy_104 : decode cX6_toldBy 104 = .ok (.goto 4, 3) := by decide +kernel
theorem dX6_toldBy_107 : decode cX6_toldBy 107 = .ok (.iconst 0, 1) := by decide +kernel
theorem dX6_toldBy_108 : decode cX6_toldBy 108 = .ok (.istore 10, 2) := by decide +kernel
theorem dX6_toldBy_110 : decode cX6_toldBy 110 = .ok (.iload 10, 2) := by decide +kernel
theorem dX6_toldBy_112 : decode cX6_toldBy 112 = .ok (.ifCond .ne 8, 3) := by decide +kernel
theorem dX6_toldBy_115 : decode cX6_toldBy 115 = .ok (.ldc 31, 2) := by decide +kernel
theorem dX6_toldBy_117 : decode cX6_toldBy 117 = .ok (.goto 28, 3) := by decide +kernel
theorem dX6_toldBy_120 : decode cX6_toldBy 120 = .ok (.iload 9, 2) := by decide +kernel
theorem dX6_toldBy_122 : decode cX6_toldBy 122 = .ok (.iconst (-1), 1) := by decide +kernel
theorem dX6_toldBy_123 : decode cX6_toldBy 123 = .ok (.if_icmp .ne 7, 3) := by decide +kernel
theorem dX6_toldBy_126 : decode cX6_toldBy 126 = .ok (.iconst 0, 1) := by decide +kernel
theorem dX6_toldBy_127 : decode cX6_toldBy 127 = .ok (.goto 18, 3) := by decide +kernel
theorem dX6_toldBy_130 : decode cX6_toldBy 130 = .ok (.aload_n 0, 1) := by decide +kernel
theorem dX6_toldBy_131 : decode cX6_toldBy 131 = .ok (.getfield 12, 3) := by decide +kernel
theorem dX6_toldBy_134 : decode cX6_toldBy 134 = .ok (.aload 6, 2) := by decide +kernel
theorem dX6_toldBy_136 : decode cX6_toldBy 136 = .ok (.iload 9, 2) := by decide +kernel
theorem dX6_toldBy_138 : decode cX6_toldBy 138 = .ok (.aload_n 0, 1) := by decide +kernel
theorem dX6_toldBy_139 : decode cX6_toldBy 139 = .ok (.getfield 18, 3) := by decide +kernel
theorem dX6_toldBy_142 : decode cX6_toldBy 142 = .ok (.invokevirtual 94, 3) := by decide +kernel
theorem dX6_toldBy_145 : decode cX6_toldBy 145 = .ok (.istore 11, 2) := by decide +kernel
theorem dX6_toldBy_147 : decode cX6_toldBy 147 = .ok (.iload 11, 2) := by decide +kernel
theorem dX6_toldBy_149 : decode cX6_toldBy 149 = .ok (.ldc 31, 2) := by decide +kernel
theorem dX6_toldBy_151 : decode cX6_toldBy 151 = .ok (.if_icmp .eq 6, 3) := by decide +kernel
theorem dX6_toldBy_154 : decode cX6_toldBy 154 = .ok (.iload 11, 2) := by decide +kernel
theorem dX6_toldBy_156 : decode cX6_toldBy 156 = .ok (.ireturn, 1) := by decide +kernel
theorem dX6_toldBy_157 : decode cX6_toldBy 157 = .ok (.iinc 7 (-1), 3) := by decide +kernel
theorem dX6_toldBy_160 : decode cX6_toldBy 160 = .ok (.goto (-119), 3) := by decide +kernel
theorem dX6_toldBy_163 : decode cX6_toldBy 163 = .ok (.ldc 31, 2) := by decide +kernel
theorem dX6_toldBy_165 : decode cX6_toldBy 165 = .ok (.ireturn, 1) := by decide +kernel
theorem dX6_lookAt_0 : decode cX6_lookAt 0 = .ok (.aload_n 1, 1) := by decide +kernel
theorem dX6_lookAt_1 : decode cX6_lookAt 1 = .ok (.iload_n 2, 1) := by decide +kernel
theorem dX6_lookAt_2 : decode cX6_lookAt 2 = .ok (.invokevirtual 59, 3) := by decide +kernel
theorem dX6_lookAt_5 : decode cX6_lookAt 5 = .ok (.ifCond .eq 10, 3) := by decide +kernel
theorem dX6_lookAt_8 : decode cX6_lookAt 8 = .ok (.iload_n 3, 1) := by decide +kernel
theorem dX6_lookAt_9 : decode cX6_lookAt 9 = .ok (.invokestatic 39, 3) := by decide +kernel
theorem dX6_lookAt_12 : decode cX6_lookAt 12 = .ok (.ifCond .ne 4, 3) := by decide +kernel
theorem dX6_lookAt_15 : decode cX6_lookAt 15 = .ok (.return_, 1) := by decide +kernel
theorem dX6_lookAt_16 : decode cX6_lookAt 16 = .ok (.aload_n 0, 1) := by decide +kernel
theorem dX6_lookAt_17 : decode cX6_lookAt 17 = .ok (.getfield 18, 3) := by decide +kernel
theorem dX6_lookAt_20 : decode cX6_lookAt 20 = .ok (.iconst 0, 1) := by decide +kernel
theorem dX6_lookAt_21 : decode cX6_lookAt 21 = .ok (.iload_n 2, 1) := by decide +kernel
theorem dX6_lookAt_22 : decode cX6_lookAt 22 = .ok (.iastore, 1) := by decide +kernel
theorem dX6_lookAt_23 : decode cX6_lookAt 23 = .ok (.aload_n 0, 1) := by decide +kernel
theorem dX6_lookAt_24 : decode cX6_lookAt 24 = .ok (.getfield 18, 3) := by decide +kernel
theorem dX6_lookAt_27 : decode cX6_lookAt 27 = .ok (.iconst 1, 1) := by decide +kernel
theorem dX6_lookAt_28 : decode cX6_lookAt 28 = .ok (.aload_n 1, 1) := by decide +kernel
theorem dX6_lookAt_29 : decode cX6_lookAt 29 = .ok (.getfield 69, 3) := by decide +kernel
theorem dX6_lookAt_32 : decode cX6_lookAt 32 = .ok (.iload_n 2, 1) := by decide +kernel
theorem dX6_lookAt_33 : decode cX6_lookAt 33 = .ok (.iaload, 1) := by decide +kernel
theorem dX6_lookAt_34 : decode cX6_lookAt 34 = .ok (.iastore, 1) := by decide +kernel
theorem dX6_lookAt_35 : decode cX6_lookAt 35 = .ok (.aload_n 0, 1) := by decide +kernel
theorem dX6_lookAt_36 : decode cX6_lookAt 36 = .ok (.getfield 18, 3) := by decide +kernel
theorem dX6_lookAt_39 : decode cX6_lookAt 39 = .ok (.iconst 2, 1) := by decide +kernel
theorem dX6_lookAt_40 : decode cX6_lookAt 40 = .ok (.aload_n 1, 1) := by decide +kernel
theorem dX6_lookAt_41 : decode cX6_lookAt 41 = .ok (.getfield 110, 3) := by decide +kernel
theorem dX6_lookAt_44 : decode cX6_lookAt 44 = .ok (.iload_n 2, 1) := by decide +kernel
theorem dX6_lookAt_45 : decode cX6_lookAt 45 = .ok (.iaload, 1) := by decide +kernel
theorem dX6_lookAt_46 : decode cX6_lookAt 46 = .ok (.iastore, 1) := by decide +kernel
theorem dX6_lookAt_47 : decode cX6_lookAt 47 = .ok (.aload_n 0, 1) := by decide +kernel
theorem dX6_lookAt_48 : decode cX6_lookAt 48 = .ok (.getfield 18, 3) := by decide +kernel
theorem dX6_lookAt_51 : decode cX6_lookAt 51 = .ok (.iconst 3, 1) := by decide +kernel
theorem dX6_lookAt_52 : decode cX6_lookAt 52 = .ok (.iload_n 3, 1) := by decide +kernel
theorem dX6_lookAt_53 : decode cX6_lookAt 53 = .ok (.iconst 5, 1) := by decide +kernel
theorem dX6_lookAt_54 : decode cX6_lookAt 54 = .ok (.irem, 1) := by decide +kernel
theorem dX6_lookAt_55 : decode cX6_lookAt 55 = .ok (.iastore, 1) := by decide +kernel
theorem dX6_lookAt_56 : decode cX6_lookAt 56 = .ok (.aload_n 0, 1) := by decide +kernel
theorem dX6_lookAt_57 : decode cX6_lookAt 57 = .ok (.getfield 18, 3) := by decide +kernel
theorem dX6_lookAt_60 : decode cX6_lookAt 60 = .ok (.iconst 4, 1) := by decide +kernel
theorem dX6_lookAt_61 : decode cX6_lookAt 61 = .ok (.iload_n 3, 1) := by decide +kernel
theorem dX6_lookAt_62 : decode cX6_lookAt 62 = .ok (.iconst 5, 1) := by decide +kernel
theorem dX6_lookAt_63 : decode cX6_lookAt 63 = .ok (.idiv, 1) := by decide +kernel
theorem dX6_lookAt_64 : decode cX6_lookAt 64 = .ok (.iastore, 1) := by decide +kernel
theorem dX6_lookAt_65 : decode cX6_lookAt 65 = .ok (.aload_n 0, 1) := by decide +kernel
theorem dX6_lookAt_66 : decode cX6_lookAt 66 = .ok (.getfield 18, 3) := by decide +kernel
theorem dX6_lookAt_69 : decode cX6_lookAt 69 = .ok (.iconst 5, 1) := by decide +kernel
theorem dX6_lookAt_70 : decode cX6_lookAt 70 = .ok (.aload_n 1, 1) := by decide +kernel
theorem dX6_lookAt_71 : decode cX6_lookAt 71 = .ok (.getfield 43, 3) := by decide +kernel
theorem dX6_lookAt_74 : decode cX6_lookAt 74 = .ok (.iload_n 3, 1) := by decide +kernel
theorem dX6_lookAt_75 : decode cX6_lookAt 75 = .ok (.iaload, 1) := by decide +kernel
theorem dX6_lookAt_76 : decode cX6_lookAt 76 = .ok (.iastore, 1) := by decide +kernel
theorem dX6_lookAt_77 : decode cX6_lookAt 77 = .ok (.aload_n 0, 1) := by decide +kernel
theorem dX6_lookAt_78 : decode cX6_lookAt 78 = .ok (.getfield 18, 3) := by decide +kernel
theorem dX6_lookAt_81 : decode cX6_lookAt 81 = .ok (.bipush 6, 2) := by decide +kernel
theorem dX6_lookAt_83 : decode cX6_lookAt 83 = .ok (.iload_n 3, 1) := by decide +kernel
theorem dX6_lookAt_84 : decode cX6_lookAt 84 = .ok (.aload_n 1, 1) := by decide +kernel
theorem dX6_lookAt_85 : decode cX6_lookAt 85 = .ok (.getfield 32, 3) := by decide +kernel
theorem dX6_lookAt_88 : decode cX6_lookAt 88 = .ok (.iconst 3, 1) := by decide +kernel
theorem dX6_lookAt_89 : decode cX6_lookAt 89 = .ok (.iaload, 1) := by decide +kernel
theorem dX6_lookAt_90 : decode cX6_lookAt 90 = .ok (.invokestatic 52, 3) := by decide +kernel
theorem dX6_lookAt_93 : decode cX6_lookAt 93 = .ok (.iastore, 1) := by decide +kernel
theorem dX6_lookAt_94 : decode cX6_lookAt 94 = .ok (.aload_n 0, 1) := by decide +kernel
theorem dX6_lookAt_95 : decode cX6_lookAt 95 = .ok (.getfield 18, 3) := by decide +kernel
theorem dX6_lookAt_98 : decode cX6_lookAt 98 = .ok (.bipush 7, 2) := by decide +kernel
theorem dX6_lookAt_100 : decode cX6_lookAt 100 = .ok (.iload 4, 2) := by decide +kernel
theorem dX6_lookAt_102 : decode cX6_lookAt 102 = .ok (.iastore, 1) := by decide +kernel
theorem dX6_lookAt_103 : decode cX6_lookAt 103 = .ok (.aload_n 0, 1) := by decide +kernel
theorem dX6_lookAt_104 : decode cX6_lookAt 104 = .ok (.getfield 18, 3) := by decide +kernel
theorem dX6_lookAt_107 : decode cX6_lookAt 107 = .ok (.bipush 8, 2) := by decide +kernel
theorem dX6_lookAt_109 : decode cX6_lookAt 109 = .ok (.aload_n 1, 1) := by decide +kernel
theorem dX6_lookAt_110 : decode cX6_lookAt 110 = .ok (.getfield 32, 3) := by decide +kernel
theorem dX6_lookAt_113 : decode cX6_lookAt 113 = .ok (.iconst 0, 1) := by decide +kernel
theorem dX6_lookAt_114 : decode cX6_lookAt 114 = .ok (.iaload, 1) := by decide +kernel
theorem dX6_lookAt_115 : decode cX6_lookAt 115 = .ok (.iastore, 1) := by decide +kernel
theorem dX6_lookAt_116 : decode cX6_lookAt 116 = .ok (.aload_n 0, 1) := by decide +kernel
theorem dX6_lookAt_117 : decode cX6_lookAt 117 = .ok (.getfield 18, 3) := by decide +kernel
theorem dX6_lookAt_120 : decode cX6_lookAt 120 = .ok (.bipush 9, 2) := by decide +kernel
theorem dX6_lookAt_122 : decode cX6_lookAt 122 = .ok (.aload_n 1, 1) := by decide +kernel
theorem dX6_lookAt_123 : decode cX6_lookAt 123 = .ok (.getfield 32, 3) := by decide +kernel
theorem dX6_lookAt_126 : decode cX6_lookAt 126 = .ok (.iconst 2, 1) := by decide +kernel
theorem dX6_lookAt_127 : decode cX6_lookAt 127 = .ok (.iaload, 1) := by decide +kernel
theorem dX6_lookAt_128 : decode cX6_lookAt 128 = .ok (.iastore, 1) := by decide +kernel
theorem dX6_lookAt_129 : decode cX6_lookAt 129 = .ok (.return_, 1) := by decide +kernel
theorem dX7_init_0 : decode cX7_init 0 = .ok (.aload_n 0, 1) := by decide +kernel
theorem dX7_init_1 : decode cX7_init 1 = .ok (.invokespecial 3, 3) := by decide +kernel
theorem dX7_init_4 : decode cX7_init 4 = .ok (.aload_n 0, 1) := by decide +kernel
theorem dX7_init_5 : decode cX7_init 5 = .ok (.new 9, 3) := by decide +kernel
theorem dX7_init_8 : decode cX7_init 8 = .ok (.dup, 1) := by decide +kernel
theorem dX7_init_9 : decode cX7_init 9 = .ok (.invokespecial 11, 3) := by decide +kernel
theorem dX7_init_12 : decode cX7_init 12 = .ok (.putfield 12, 3) := by decide +kernel
theorem dX7_init_15 : decode cX7_init 15 = .ok (.aload_n 0, 1) := by decide +kernel
theorem dX7_init_16 : decode cX7_init 16 = .ok (.new 18, 3) := by decide +kernel
theorem dX7_init_19 : decode cX7_init 19 = .ok (.dup, 1) := by decide +kernel
theorem dX7_init_20 : decode cX7_init 20 = .ok (.invokespecial 20, 3) := by decide +kernel
theorem dX7_init_23 : decode cX7_init 23 = .ok (.putfield 21, 3) := by decide +kernel
theorem dX7_init_26 : decode cX7_init 26 = .ok (.aload_n 0, 1) := by decide +kernel
theorem dX7_init_27 : decode cX7_init 27 = .ok (.bipush 16, 2) := by decide +kernel
theorem dX7_init_29 : decode cX7_init 29 = .ok (.newarray .int, 2) := by decide +kernel
theorem dX7_init_31 : decode cX7_init 31 = .ok (.putfield 25, 3) := by decide +kernel
theorem dX7_init_34 : decode cX7_init 34 = .ok (.aload_n 0, 1) := by decide +kernel
theorem dX7_init_35 : decode cX7_init 35 = .ok (.aload_n 1, 1) := by decide +kernel
theorem dX7_init_36 : decode cX7_init 36 = .ok (.putfield 29, 3) := by decide +kernel
theorem dX7_init_39 : decode cX7_init 39 = .ok (.return_, 1) := by decide +kernel
theorem dX7_copyFrom_0 : decode cX7_copyFrom 0 = .ok (.aload_n 0, 1) := by decide +kernel
theorem dX7_copyFrom_1 : decode cX7_copyFrom 1 = .ok (.getfield 12, 3) := by decide +kernel
theorem dX7_copyFrom_4 : decode cX7_copyFrom 4 = .ok (.aload_n 1, 1) := by decide +kernel
theorem dX7_copyFrom_5 : decode cX7_copyFrom 5 = .ok (.getfield 12, 3) := by decide +kernel
theorem dX7_copyFrom_8 : decode cX7_copyFrom 8 = .ok (.invokevirtual 33, 3) := by decide +kernel
theorem dX7_copyFrom_11 : decode cX7_copyFrom 11 = .ok (.aload_n 0, 1) := by decide +kernel
theorem dX7_copyFrom_12 : decode cX7_copyFrom 12 = .ok (.getfield 21, 3) := by decide +kernel
theorem dX7_copyFrom_15 : decode cX7_copyFrom 15 = .ok (.aload_n 1, 1) := by decide +kernel
theorem dX7_copyFrom_16 : decode cX7_copyFrom 16 = .ok (.getfield 21, 3) := by decide +kernel
theorem dX7_copyFrom_19 : decode cX7_copyFrom 19 = .ok (.invokevirtual 37, 3) := by decide +kernel
theorem dX7_copyFrom_22 : decode cX7_copyFrom 22 = .ok (.return_, 1) := by decide +kernel
theorem dX7_perform_0 : decode cX7_perform 0 = .ok (.aload_n 0, 1) := by decide +kernel
theorem dX7_perform_1 : decode cX7_perform 1 = .ok (.getfield 21, 3) := by decide +kernel
theorem dX7_perform_4 : decode cX7_perform 4 = .ok (.aload_n 0, 1) := by decide +kernel
theorem dX7_perform_5 : decode cX7_perform 5 = .ok (.getfield 12, 3) := by decide +kernel
theorem dX7_perform_8 : decode cX7_perform 8 = .ok (.invokevirtual 40, 3) := by decide +kernel
theorem dX7_perform_11 : decode cX7_perform 11 = .ok (.bipush (-3), 2) := by decide +kernel
theorem dX7_perform_13 : decode cX7_perform 13 = .ok (.istore 4, 2) := by decide +kernel
theorem dX7_perform_15 : decode cX7_perform 15 = .ok (.iload_n 1, 1) := by decide +kernel
theorem dX7_perform_16 : decode cX7_perform 16 = .ok (.tableswitch 73 0 2 #[28, 46, 59], 28) := by decide +kernel
theorem dX7_perform_44 : decode cX7_perform 44 = .ok (.aload_n 0, 1) := by decide +kernel
theorem dX7_perform_45 : decode cX7_perform 45 = .ok (.getfield 29, 3) := by decide +kernel
theorem dX7_perform_48 : decode cX7_perform 48 = .ok (.aload_n 0, 1) := by decide +kernel
theorem dX7_perform_49 : decode cX7_perform 49 = .ok (.getfield 12, 3) := by decide +kernel
theorem dX7_perform_52 : decode cX7_perform 52 = .ok (.iload_n 2, 1) := by decide +kernel
theorem dX7_perform_53 : decode cX7_perform 53 = .ok (.iload_n 3, 1) := by decide +kernel
theorem dX7_perform_54 : decode cX7_perform 54 = .ok (.invokevirtual 43, 3) := by decide +kernel
theorem dX7_perform_57 : decode cX7_perform 57 = .ok (.istore 4, 2) := by decide +kernel
theorem dX7_perform_59 : decode cX7_perform 59 = .ok (.goto 77, 3) := by decide +kernel
theorem dX7_perform_62 : decode cX7_perform 62 = .ok (.aload_n 0, 1) := by decide +kernel
theorem dX7_perform_63 : decode cX7_perform 63 = .ok (.getfield 12, 3) := by decide +kernel
theorem dX7_perform_66 : decode cX7_perform 66 = .ok (.iload_n 2, 1) := by decide +kernel
theorem dX7_perform_67 : decode cX7_perform 67 = .ok (.invokevirtual 49, 3) := by decide +kernel
theorem dX7_perform_70 : decode cX7_perform 70 = .ok (.istore 4, 2) := by decide +kernel
theorem dX7_perform_72 : decode cX7_perform 72 = .ok (.goto 64, 3) := by decide +kernel
theorem dX7_perform_75 : decode cX7_perform 75 = .ok (.aload_n 0, 1) := by decide +kernel
theorem dX7_perform_76 : decode cX7_perform 76 = .ok (.getfield 12, 3) := by decide +kernel
theorem dX7_perform_79 : decode cX7_perform 79 = .ok (.iload_n 2, 1) := by decide +kernel
theorem dX7_perform_80 : decode cX7_perform 80 = .ok (.iload_n 3, 1) := by decide +kernel
theorem dX7_perform_81 : decode cX7_perform 81 = .ok (.invokevirtual 53, 3) := by decide +kernel
theorem dX7_perform_84 : decode cX7_perform 84 = .ok (.istore 4, 2) := by decide +kernel
theorem dX7_perform_86 : decode cX7_perform 86 = .ok (.goto 50, 3) := by decide +kernel
theorem dX7_perform_89 : decode cX7_perform 89 = .ok (.aload_n 0, 1) := by decide +kernel
theorem dX7_perform_90 : decode cX7_perform 90 = .ok (.getfield 12, 3) := by decide +kernel
theorem dX7_perform_93 : decode cX7_perform 93 = .ok (.getfield 57, 3) := by decide +kernel
theorem dX7_perform_96 : decode cX7_perform 96 = .ok (.iconst 0, 1) := by decide +kernel
theorem dX7_perform_97 : decode cX7_perform 97 = .ok (.iaload, 1) := by decide +kernel
theorem dX7_perform_98 : decode cX7_perform 98 = .ok (.sipush 999, 3) := by decide +kernel
theorem dX7_perform_101 : decode cX7_perform 101 = .ok (.if_icmp .ge 35, 3) := by decide +kernel
theorem dX7_perform_104 : decode cX7_perform 104 = .ok (.aload_n 0, 1) := by decide +kernel
theorem dX7_perform_105 : decode cX7_perform 105 = .ok (.getfield 29, 3) := by decide +kernel
theorem dX7_perform_108 : decode cX7_perform 108 = .ok (.aload_n 0, 1) := by decide +kernel
theorem dX7_perform_109 : decode cX7_perform 109 = .ok (.getfield 12, 3) := by decide +kernel
theorem dX7_perform_112 : decode cX7_perform 112 = .ok (.iconst 0, 1) := by decide +kernel
theorem dX7_perform_113 : decode cX7_perform 113 = .ok (.aload_n 0, 1) := by decide +kernel
theorem dX7_perform_114 : decode cX7_perform 114 = .ok (.getfield 12, 3) := by decide +kernel
theorem dX7_perform_117 : decode cX7_perform 117 = .ok (.getfield 60, 3) := by decide +kernel
theorem dX7_perform_120 : decode cX7_perform 120 = .ok (.iconst 1, 1) := by decide +kernel
theorem dX7_perform_121 : decode cX7_perform 121 = .ok (.isub, 1) := by decide +kernel
theorem dX7_perform_122 : decode cX7_perform 122 = .ok (.invokevirtual 64, 3) := by decide +kernel
theorem dX7_perform_125 : decode cX7_perform 125 = .ok (.aload_n 0, 1) := by decide +kernel
theorem dX7_perform_126 : decode cX7_perform 126 = .ok (.getfield 12, 3) := by decide +kernel
theorem dX7_perform_129 : decode cX7_perform 129 = .ok (.getfield 57, 3) := by decide +kernel
theorem dX7_perform_132 : decode cX7_perform 132 = .ok (.iconst 0, 1) := by decide +kernel
theorem dX7_perform_133 : decode cX7_perform 133 = .ok (.iaload, 1) := by decide +kernel
theorem dX7_perform_134 : decode cX7_perform 134 = .ok (.istore 4, 2) := by decide +kernel
theorem dX7_perform_136 : decode cX7_perform 136 = .ok (.iload 4, 2) := by decide +kernel
theorem dX7_perform_138 : decode cX7_perform 138 = .ok (.ifCond .lt 11, 3) := by decide +kernel
theorem dX7_perform_141 : decode cX7_perform 141 = .ok (.aload_n 0, 1) := by decide +kernel
theorem dX7_perform_142 : decode cX7_perform 142 = .ok (.getfield 21, 3) := by decide +kernel
theorem dX7_perform_145 : decode cX7_perform 145 = .ok (.iload_n 1, 1) := by decide +kernel
theorem dX7_perform_146 : decode cX7_perform 146 = .ok (.invokevirtual 68, 3) := by decide +kernel
theorem dX7_perform_149 : decode cX7_perform 149 = .ok (.iload 4, 2) := by decide +kernel
theorem dX7_perform_151 : decode cX7_perform 151 = .ok (.ireturn, 1) := by decide +kernel
theorem dX7_startOrders_0 : decode cX7_startOrders 0 = .ok (.aload_n 0, 1) := by decide +kernel
theorem dX7_startOrders_1 : decode cX7_startOrders 1 = .ok (.iconst 0, 1) := by decide +kernel
theorem dX7_startOrders_2 : decode cX7_startOrders 2 = .ok (.putfield 72, 3) := by decide +kernel
theorem dX7_startOrders_5 : decode cX7_startOrders 5 = .ok (.aload_n 0, 1) := by decide +kernel
theorem dX7_startOrders_6 : decode cX7_startOrders 6 = .ok (.iconst (-1), 1) := by decide +kernel
theorem dX7_startOrders_7 : decode cX7_startOrders 7 = .ok (.putfield 75, 3) := by decide +kernel
theorem dX7_startOrders_10 : decode cX7_startOrders 10 = .ok (.return_, 1) := by decide +kernel
theorem dX7_runClause_0 : decode cX7_runClause 0 = .ok (.aload_n 1, 1) := by decide +kernel
theorem dX7_runClause_1 : decode cX7_runClause 1 = .ok (.iload_n 2, 1) := by decide +kernel
theorem dX7_runClause_2 : decode cX7_runClause 2 = .ok (.iconst 0, 1) := by decide +kernel
theorem dX7_runClause_3 : decode cX7_runClause 3 = .ok (.invokevirtual 80, 3) := by decide +kernel
theorem dX7_runClause_6 : decode cX7_runClause 6 = .ok (.istore_n 3, 1) := by decide +kernel
theorem dX7_runClause_7 : decode cX7_runClause 7 = .ok (.aload_n 1, 1) := by decide +kernel
theorem dX7_runClause_8 : decode cX7_runClause 8 = .ok (.iload_n 2, 1) := by decide +kernel
theorem dX7_runClause_9 : decode cX7_runClause 9 = .ok (.iconst 3, 1) := by decide +kernel
theorem dX7_runClause_10 : decode cX7_runClause 10 = .ok (.invokevirtual 80, 3) := by decide +kernel
theorem dX7_runClause_13 : decode cX7_runClause 13 = .ok (.istore 4, 2) := by decide +kernel
theorem dX7_runClause_15 : decode cX7_runClause 15 = .ok (.iconst 0, 1) := by decide +kernel
theorem dX7_runClause_16 : decode cX7_runClause 16 = .ok (.istore 5, 2) := by decide +kernel
theorem dX7_runClause_18 : decode cX7_runClause 18 = .ok (.iload 5, 2) := by decide +kernel
theorem dX7_runClause_20 : decode cX7_runClause 20 = .ok (.iload 4, 2) := by decide +kernel
theorem dX7_runClause_22 : decode cX7_runClause 22 = .ok (.if_icmp .ge 125, 3) := by decide +kernel
theorem dX7_runClause_25 : decode cX7_runClause 25 = .ok (.aload_n 0, 1) := by decide +kernel
theorem dX7_runClause_26 : decode cX7_runClause 26 = .ok (.invokevirtual 83, 3) := by decide +kernel
theorem dX7_runClause_29 : decode cX7_runClause 29 = .ok (.aload_n 0, 1) := by decide +kernel
theorem dX7_runClause_30 : decode cX7_runClause 30 = .ok (.getfield 29, 3) := by decide +kernel
theorem dX7_runClause_33 : decode cX7_runClause 33 = .ok (.aload_n 1, 1) := by decide +kernel
theorem dX7_runClause_34 : decode cX7_runClause 34 = .ok (.iload_n 2, 1) := by decide +kernel
theorem dX7_runClause_35 : decode cX7_runClause 35 = .ok (.aload_n 0, 1) := by decide +kernel
theorem dX7_runClause_36 : decode cX7_runClause 36 = .ok (.getfield 25, 3) := by decide +kernel
theorem dX7_runClause_39 : decode cX7_runClause 39 = .ok (.invokevirtual 86, 3) := by decide +kernel
theorem dX7_runClause_42 : decode cX7_runClause 42 = .ok (.ifCond .eq 99, 3) := by decide +kernel
theorem dX7_runClause_45 : decode cX7_runClause 45 = .ok (.aload_n 0, 1) := by decide +kernel
theorem dX7_runClause_46 : decode cX7_runClause 46 = .ok (.getfield 29, 3) := by decide +kernel
theorem dX7_runClause_49 : decode cX7_runClause 49 = .ok (.aload_n 1, 1) := by decide +kernel
theorem dX7_runClause_50 : decode cX7_runClause 50 = .ok (.iload_n 2, 1) := by decide +kernel
theorem dX7_runClause_51 : decode cX7_runClause 51 = .ok (.iconst 1, 1) := by decide +kernel
theorem dX7_runClause_52 : decode cX7_runClause 52 = .ok (.aload_n 0, 1) := by decide +kernel
theorem dX7_runClause_53 : decode cX7_runClause 53 = .ok (.getfield 25, 3) := by decide +kernel
theorem dX7_runClause_56 : decode cX7_runClause 56 = .ok (.invokevirtual 90, 3) := by decide +kernel
theorem dX7_runClause_59 : decode cX7_runClause 59 = .ok (.istore 6, 2) := by decide +kernel
theorem dX7_runClause_61 : decode cX7_runClause 61 = .ok (.aload_n 0, 1) := by decide +kernel
theorem dX7_runClause_62 : decode cX7_runClause 62 = .ok (.getfield 29, 3) := by decide +kernel
theorem dX7_runClause_65 : decode cX7_runClause 65 = .ok (.aload_n 1, 1) := by decide +kernel
theorem dX7_runClause_66 : decode cX7_runClause 66 = .ok (.iload_n 2, 1) := by decide +kernel
theorem dX7_runClause_67 : decode cX7_runClause 67 = .ok (.iconst 2, 1) := by decide +kernel
theorem dX7_runClause_68 : decode cX7_runClause 68 = .ok (.aload_n 0, 1) := by decide +kernel
theorem dX7_runClause_69 : decode cX7_runClause 69 = .ok (.getfield 25, 3) := by decide +kernel
theorem dX7_runClause_72 : decode cX7_runClause 72 = .ok (.invokevirtual 90, 3) := by decide +kernel
theorem dX7_runClause_75 : decode cX7_runClause 75 = .ok (.istore 7, 2) := by decide +kernel
theorem dX7_runClause_77 : decode cX7_runClause 77 = .ok (.iload 6, 2) := by decide +kernel
theorem dX7_runClause_79 : decode cX7_runClause 79 = .ok (.ldc 94, 2) := by decide +kernel
theorem dX7_runClause_81 : decode cX7_runClause 81 = .ok (.if_icmp .eq 10, 3) := by decide +kernel
theorem dX7_runClause_84 : decode cX7_runClause 84 = .ok (.iload 7, 2) := by decide +kernel
theorem dX7_runClause_86 : decode cX7_runClause 86 = .ok (.ldc 94, 2) := by decide +kernel
theorem dX7_runClause_88 : decode cX7_runClause 88 = .ok (.if_icmp .ne 8, 3) := by decide +kernel
theorem dX7_runClause_91 : decode cX7_runClause 91 = .ok (.bipush (-3), 2) := by decide +kernel
theorem dX7_runClause_93 : decode cX7_runClause 93 = .ok (.goto 12, 3) := by decide +kernel
theorem dX7_runClause_96 : decode cX7_runClause 96 = .ok (.aload_n 0, 1) := by decide +kernel
theorem dX7_runClause_97 : decode cX7_runClause 97 = .ok (.iload_n 3, 1) := by decide +kernel
theorem dX7_runClause_98 : decode cX7_runClause 98 = .ok (.iload 6, 2) := by decide +kernel
theorem dX7_runClause_100 : decode cX7_runClause 100 = .ok (.iload 7, 2) := by decide +kernel
theorem dX7_runClause_102 : decode cX7_runClause 102 = .ok (.invokevirtual 95, 3) := by decide +kernel
theorem dX7_runClause_105 : decode cX7_runClause 105 = .ok (.istore 8, 2) := by decide +kernel
theorem dX7_runClause_107 : decode cX7_runClause 107 = .ok (.iload 8, 2) := by decide +kernel
theorem dX7_runClause_109 : decode cX7_runClause 109 = .ok (.ifCond .ge 5, 3) := by decide +kernel
theorem dX7_runClause_112 : decode cX7_runClause 112 = .ok (.iconst 0, 1) := by decide +kernel
theorem dX7_runClause_113 : decode cX7_runClause 113 = .ok (.ireturn, 1) := by decide +kernel
theorem dX7_runClause_114 : decode cX7_runClause 114 = .ok (.aload_n 0, 1) := by decide +kernel
theorem dX7_runClause_115 : decode cX7_runClause 115 = .ok (.dup, 1) := by decide +kernel
theorem dX7_runClause_116 : decode cX7_runClause 116 = .ok (.getfield 72, 3) := by decide +kernel
theorem dX7_runClause_119 : decode cX7_runClause 119 = .ok (.iconst 1, 1) := by decide +kernel
theorem dX7_runClause_120 : decode cX7_runClause 120 = .ok (.iadd, 1) := by decide +kernel
theorem dX7_runClause_121 : decode cX7_runClause 121 = .ok (.putfield 72, 3) := by decide +kernel
theorem dX7_runClause_124 : decode cX7_runClause 124 = .ok (.aload_n 0, 1) := by decide +kernel
theorem dX7_runClause_125 : decode cX7_runClause 125 = .ok (.iload_n 3, 1) := by decide +kernel
theorem dX7_runClause_126 : decode cX7_runClause 126 = .ok (.ifCond .ne 8, 3) := by decide +kernel
theorem dX7_runClause_129 : decode cX7_runClause 129 = .ok (.iload 8, 2) := by decide +kernel
theorem dX7_runClause_131 : decode cX7_runClause 131 = .ok (.goto 7, 3) := by decide +kernel
theorem dX7_runClause_134 : decode cX7_runClause 134 = .ok (.aload_n 0, 1) := by decide +kernel
theorem dX7_runClause_135 : decode cX7_runClause 135 = .ok (.getfield 75, 3) := by decide +kernel
theorem dX7_runClause_138 : decode cX7_runClause 138 = .ok (.putfield 75, 3) := by decide +kernel
theorem dX7_runClause_141 : decode cX7_runClause 141 = .ok (.iinc 5 1, 3) := by decide +kernel
theorem dX7_runClause_144 : decode cX7_runClause 144 = .ok (.goto (-126), 3) := by decide +kernel
theorem dX7_runClause_147 : decode cX7_runClause 147 = .ok (.iconst 1, 1) := by decide +kernel
theorem dX7_runClause_148 : decode cX7_runClause 148 = .ok (.ireturn, 1) := by decide +kernel
theorem dX7_lookAround_0 : decode cX7_lookAround 0 = .ok (.aload_n 0, 1) := by decide +kernel
theorem dX7_lookAround_1 : decode cX7_lookAround 1 = .ok (.getfield 25, 3) := by decide +kernel
theorem dX7_lookAround_4 : decode cX7_lookAround 4 = .ok (.iconst 0, 1) := by decide +kernel
theorem dX7_lookAround_5 : decode cX7_lookAround 5 = .ok (.aload_n 0, 1) := by decide +kernel
theorem dX7_lookAround_6 : decode cX7_lookAround 6 = .ok (.getfield 12, 3) := by decide +kernel
theorem dX7_lookAround_9 : decode cX7_lookAround 9 = .ok (.getfield 57, 3) := by decide +kernel
theorem dX7_lookAround_12 : decode cX7_lookAround 12 = .ok (.iconst 0, 1) := by decide +kernel
theorem dX7_lookAround_13 : decode cX7_lookAround 13 = .ok (.iaload, 1) := by decide +kernel
theorem dX7_lookAround_14 : decode cX7_lookAround 14 = .ok (.iastore, 1) := by decide +kernel
theorem dX7_lookAround_15 : decode cX7_lookAround 15 = .ok (.aload_n 0, 1) := by decide +kernel
theorem dX7_lookAround_16 : decode cX7_lookAround 16 = .ok (.getfield 25, 3) := by decide +kernel
theorem dX7_lookAround_19 : decode cX7_lookAround 19 = .ok (.iconst 1, 1) := by decide +kernel
theorem dX7_lookAround_20 : decode cX7_lookAround 20 = .ok (.aload_n 0, 1) := by decide +kernel
theorem dX7_lookAround_21 : decode cX7_lookAround 21 = .ok (.getfield 72, 3) := by decide +kernel
theorem dX7_lookAround_24 : decode cX7_lookAround 24 = .ok (.iastore, 1) := by decide +kernel
theorem dX7_lookAround_25 : decode cX7_lookAround 25 = .ok (.aload_n 0, 1) := by decide +kernel
theorem dX7_lookAround_26 : decode cX7_lookAround 26 = .ok (.getfield 25, 3) := by decide +kernel
theorem dX7_lookAround_29 : decode cX7_lookAround 29 = .ok (.iconst 2, 1) := by decide +kernel
theorem dX7_lookAround_30 : decode cX7_lookAround 30 = .ok (.aload_n 0, 1) := by decide +kernel
theorem dX7_lookAround_31 : decode cX7_lookAround 31 = .ok (.getfield 75, 3) := by decide +kernel
theorem dX7_lookAround_34 : decode cX7_lookAround 34 = .ok (.iastore, 1) := by decide +kernel
theorem dX7_lookAround_35 : decode cX7_lookAround 35 = .ok (.aload_n 0, 1) := by decide +kernel
theorem dX7_lookAround_36 : decode cX7_lookAround 36 = .ok (.getfield 25, 3) := by decide +kernel
theorem dX7_lookAround_39 : decode cX7_lookAround 39 = .ok (.iconst 3, 1) := by decide +kernel
theorem dX7_lookAround_40 : decode cX7_lookAround 40 = .ok (.aload_n 0, 1) := by decide +kernel
theorem dX7_lookAround_41 : decode cX7_lookAround 41 = .ok (.getfield 12, 3) := by decide +kernel
theorem dX7_lookAround_44 : decode cX7_lookAround 44 = .ok (.invokevirtual 99, 3) := by decide +kernel
theorem dX7_lookAround_47 : decode cX7_lookAround 47 = .ok (.iastore, 1) := by decide +kernel
theorem dX7_lookAround_48 : decode cX7_lookAround 48 = .ok (.iconst 0, 1) := by decide +kernel
theorem dX7_lookAround_49 : decode cX7_lookAround 49 = .ok (.istore_n 1, 1) := by decide +kernel
theorem dX7_lookAround_50 : decode cX7_lookAround 50 = .ok (.iload_n 1, 1) := by decide +kernel
theorem dX7_lookAround_51 : decode cX7_lookAround 51 = .ok (.bipush 6, 2) := by decide +kernel
theorem dX7_lookAround_53 : decode cX7_lookAround 53 = .ok (.if_icmp .ge 69, 3) := by decide +kernel
theorem dX7_lookAround_56 : decode cX7_lookAround 56 = .ok (.aload_n 0, 1) := by decide +kernel
theorem dX7_lookAround_57 : decode cX7_lookAround 57 = .ok (.getfield 12, 3) := by decide +kernel
theorem dX7_lookAround_60 : decode cX7_lookAround 60 = .ok (.iload_n 1, 1) := by decide +kernel
theorem dX7_lookAround_61 : decode cX7_lookAround 61 = .ok (.invokevirtual 103, 3) := by decide +kernel
theorem dX7_lookAround_64 : decode cX7_lookAround 64 = .ok (.istore_n 2, 1) := by decide +kernel
theorem dX7_lookAround_65 : decode cX7_lookAround 65 = .ok (.aload_n 0, 1) := by decide +kernel
theorem dX7_lookAround_66 : decode cX7_lookAround 66 = .ok (.getfield 25, 3) := by decide +kernel
theorem dX7_lookAround_69 : decode cX7_lookAround 69 = .ok (.iconst 4, 1) := by decide +kernel
theorem dX7_lookAround_70 : decode cX7_lookAround 70 = .ok (.iload_n 1, 1) := by decide +kernel
theorem dX7_lookAround_71 : decode cX7_lookAround 71 = .ok (.iadd, 1) := by decide +kernel
theorem dX7_lookAround_72 : decode cX7_lookAround 72 = .ok (.iload_n 2, 1) := by decide +kernel
theorem dX7_lookAround_73 : decode cX7_lookAround 73 = .ok (.ifCond .eq 15, 3) := by decide +kernel
theorem dX7_lookAround_76 : decode cX7_lookAround 76 = .ok (.aload_n 0, 1) := by decide +kernel
theorem dX7_lookAround_77 : decode cX7_lookAround 77 = .ok (.getfield 12, 3) := by decide +kernel
theorem dX7_lookAround_80 : decode cX7_lookAround 80 = .ok (.getfield 107, 3) := by decide +kernel
theorem dX7_lookAround_83 : decode cX7_lookAround 83 = .ok (.iload_n 1, 1) := by decide +kernel
theorem dX7_lookAround_84 : decode cX7_lookAround 84 = .ok (.iaload, 1) := by decide +kernel
theorem dX7_lookAround_85 : decode cX7_lookAround 85 = .ok (.goto 4, 3) := by decide +kernel
theorem dX7_lookAround_88 : decode cX7_lookAround 88 = .ok (.iconst (-1), 1) := by decide +kernel
theorem dX7_lookAround_89 : decode cX7_lookAround 89 = .ok (.iastore, 1) := by decide +kernel
theorem dX7_lookAround_90 : decode cX7_lookAround 90 = .ok (.aload_n 0, 1) := by decide +kernel
theorem dX7_lookAround_91 : decode cX7_lookAround 91 = .ok (.getfield 25, 3) := by decide +kernel
theorem dX7_lookAround_94 : decode cX7_lookAround 94 = .ok (.bipush 10, 2) := by decide +kernel
theorem dX7_lookAround_96 : decode cX7_lookAround 96 = .ok (.iload_n 1, 1) := by decide +kernel
theorem dX7_lookAround_97 : decode cX7_lookAround 97 = .ok (.iadd, 1) := by decide +kernel
theorem dX7_lookAround_98 : decode cX7_lookAround 98 = .ok (.iload_n 2, 1) := by decide +kernel
theorem dX7_lookAround_99 : decode cX7_lookAround 99 = .ok (.ifCond .eq 15, 3) := by decide +kernel
theorem dX7_lookAround_102 : decode cX7_lookAround 102 = .ok (.aload_n 0, 1) := by decide +kernel
theorem dX7_lookAround_103 : decode cX7_lookAround 103 = .ok (.getfield 12, 3) := by decide +kernel
theorem dX7_lookAround_106 : decode cX7_lookAround 106 = .ok (.getfield 110, 3) := by decide +kernel
theorem dX7_lookAround_109 : decode cX7_lookAround 109 = .ok (.iload_n 1, 1) := by decide +kernel
theorem dX7_lookAround_110 : decode cX7_lookAround 110 = .ok (.iaload, 1) := by decide +kernel
theorem dX7_lookAround_111 : decode cX7_lookAround 111 = .ok (.goto 4, 3) := by decide +kernel
theorem dX7_lookAround_114 : decode cX7_lookAround 114 = .ok (.iconst (-1), 1) := by decide +kernel
theorem dX7_lookAround_115 : decode cX7_lookAround 115 = .ok (.iastore, 1) := by decide +kernel
theorem dX7_lookAround_116 : decode cX7_lookAround 116 = .ok (.iinc 1 1, 3) := by decide +kernel
theorem dX7_lookAround_119 : decode cX7_lookAround 119 = .ok (.goto (-69), 3) := by decide +kernel
theorem dX7_lookAround_122 : decode cX7_lookAround 122 = .ok (.return_, 1) := by decide +kernel
theorem dX8_init_0 : decode cX8_init 0 = .ok (.aload_n 0, 1) := by decide +kernel
theorem dX8_init_1 : decode cX8_init 1 = .ok (.invokespecial 3, 3) := by decide +kernel
theorem dX8_init_4 : decode cX8_init 4 = .ok (.aload_n 0, 1) := by decide +kernel
theorem dX8_init_5 : decode cX8_init 5 = .ok (.sipush 400, 3) := by decide +kernel
theorem dX8_init_8 : decode cX8_init 8 = .ok (.newarray .int, 2) := by decide +kernel
theorem dX8_init_10 : decode cX8_init 10 = .ok (.putfield 9, 3) := by decide +kernel
theorem dX8_init_13 : decode cX8_init 13 = .ok (.return_, 1) := by decide +kernel
theorem dX8_hasSpace_0 : decode cX8_hasSpace 0 = .ok (.aload_n 0, 1) := by decide +kernel
theorem dX8_hasSpace_1 : decode cX8_hasSpace 1 = .ok (.getfield 15, 3) := by decide +kernel
theorem dX8_hasSpace_4 : decode cX8_hasSpace 4 = .ok (.bipush 20, 2) := by decide +kernel
theorem dX8_hasSpace_6 : decode cX8_hasSpace 6 = .ok (.iadd, 1) := by decide +kernel
theorem dX8_hasSpace_7 : decode cX8_hasSpace 7 = .ok (.sipush 400, 3) := by decide +kernel
theorem dX8_hasSpace_10 : decode cX8_hasSpace 10 = .ok (.if_icmp .gt 7, 3) := by decide +kernel
theorem dX8_hasSpace_13 : decode cX8_hasSpace 13 = .ok (.iconst 1, 1) := by decide +kernel
theorem dX8_hasSpace_14 : decode cX8_hasSpace 14 = .ok (.goto 4, 3) := by decide +kernel
theorem dX8_hasSpace_17 : decode cX8_hasSpace 17 = .ok (.iconst 0, 1) := by decide +kernel
theorem dX8_hasSpace_18 : decode cX8_hasSpace 18 = .ok (.ireturn, 1) := by decide +kernel
theorem dX8_append_0 : decode cX8_append 0 = .ok (.bipush 24, 2) := by decide +kernel
theorem dX8_append_2 : decode cX8_append 2 = .ok (.istore_n 2, 1) := by decide +kernel
theorem dX8_append_3 : decode cX8_append 3 = .ok (.iload_n 2, 1) := by decide +kernel
theorem dX8_append_4 : decode cX8_append 4 = .ok (.ifCond .lt 45, 3) := by decide +kernel
theorem dX8_append_7 : decode cX8_append 7 = .ok (.aload_n 0, 1) := by decide +kernel
theorem dX8_append_8 : decode cX8_append 8 = .ok (.getfield 15, 3) := by decide +kernel
theorem dX8_append_11 : decode cX8_append 11 = .ok (.sipush 400, 3) := by decide +kernel
theorem dX8_append_14 : decode cX8_append 14 = .ok (.if_icmp .ge 35, 3) := by decide +kernel
theorem dX8_append_17 : decode cX8_append 17 = .ok (.aload_n 0, 1) := by decide +kernel
theorem dX8_append_18 : decode cX8_append 18 = .ok (.getfield 9, 3) := by decide +kernel
theorem dX8_append_21 : decode cX8_append 21 = .ok (.aload_n 0, 1) := by decide +kernel
theorem dX8_append_22 : decode cX8_append 22 = .ok (.getfield 15, 3) := by decide +kernel
theorem dX8_append_25 : decode cX8_append 25 = .ok (.iload_n 1, 1) := by decide +kernel
theorem dX8_append_26 : decode cX8_append 26 = .ok (.iload_n 2, 1) := by decide +kernel
theorem dX8_append_27 : decode cX8_append 27 = .ok (.ishr, 1) := by decide +kernel
theorem dX8_append_28 : decode cX8_append 28 = .ok (.sipush 255, 3) := by decide +kernel
theorem dX8_append_31 : decode cX8_append 31 = .ok (.iand, 1) := by decide +kernel
theorem dX8_append_32 : decode cX8_append 32 = .ok (.iastore, 1) := by decide +kernel
theorem dX8_append_33 : decode cX8_append 33 = .ok (.aload_n 0, 1) := by decide +kernel
theorem dX8_append_34 : decode cX8_append 34 = .ok (.dup, 1) := by decide +kernel
theorem dX8_append_35 : decode cX8_append 35 = .ok (.getfield 15, 3) := by decide +kernel
theorem dX8_append_38 : decode cX8_append 38 = .ok (.iconst 1, 1) := by decide +kernel
theorem dX8_append_39 : decode cX8_append 39 = .ok (.iadd, 1) := by decide +kernel
theorem dX8_append_40 : decode cX8_append 40 = .ok (.putfield 15, 3) := by decide +kernel
theorem dX8_append_43 : decode cX8_append 43 = .ok (.iinc 2 (-8), 3) := by decide +kernel
theorem dX8_append_46 : decode cX8_append 46 = .ok (.goto (-43), 3) := by decide +kernel
theorem dX8_append_49 : decode cX8_append 49 = .ok (.return_, 1) := by decide +kernel
theorem dX8_byteAt_0 : decode cX8_byteAt 0 = .ok (.iload_n 1, 1) := by decide +kernel
theorem dX8_byteAt_1 : decode cX8_byteAt 1 = .ok (.ifCond .lt 20, 3) := by decide +kernel
theorem dX8_byteAt_4 : decode cX8_byteAt 4 = .ok (.iload_n 1, 1) := by decide +kernel
theorem dX8_byteAt_5 : decode cX8_byteAt 5 = .ok (.aload_n 0, 1) := by decide +kernel
theorem dX8_byteAt_6 : decode cX8_byteAt 6 = .ok (.getfield 15, 3) := by decide +kernel
theorem dX8_byteAt_9 : decode cX8_byteAt 9 = .ok (.if_icmp .ge 12, 3) := by decide +kernel
theorem dX8_byteAt_12 : decode cX8_byteAt 12 = .ok (.aload_n 0, 1) := by decide +kernel
theorem dX8_byteAt_13 : decode cX8_byteAt 13 = .ok (.getfield 9, 3) := by decide +kernel
theorem dX8_byteAt_16 : decode cX8_byteAt 16 = .ok (.iload_n 1, 1) := by decide +kernel
theorem dX8_byteAt_17 : decode cX8_byteAt 17 = .ok (.iaload, 1) := by decide +kernel
theorem dX8_byteAt_18 : decode cX8_byteAt 18 = .ok (.goto 4, 3) := by decide +kernel
theorem dX8_byteAt_21 : decode cX8_byteAt 21 = .ok (.iconst (-1), 1) := by decide +kernel
theorem dX8_byteAt_22 : decode cX8_byteAt 22 = .ok (.ireturn, 1) := by decide +kernel
theorem dX8_toFirst_0 : decode cX8_toFirst 0 = .ok (.aload_n 0, 1) := by decide +kernel
theorem dX8_toFirst_1 : decode cX8_toFirst 1 = .ok (.iconst 0, 1) := by decide +kernel
theorem dX8_toFirst_2 : decode cX8_toFirst 2 = .ok (.putfield 19, 3) := by decide +kernel
theorem dX8_toFirst_5 : decode cX8_toFirst 5 = .ok (.aload_n 0, 1) := by decide +kernel
theorem dX8_toFirst_6 : decode cX8_toFirst 6 = .ok (.invokevirtual 22, 3) := by decide +kernel
theorem dX8_toFirst_9 : decode cX8_toFirst 9 = .ok (.return_, 1) := by decide +kernel
theorem dX8_toNext_0 : decode cX8_toNext 0 = .ok (.aload_n 0, 1) := by decide +kernel
theorem dX8_toNext_1 : decode cX8_toNext 1 = .ok (.aload_n 0, 1) := by decide +kernel
theorem dX8_toNext_2 : decode cX8_toNext 2 = .ok (.getfield 19, 3) := by decide +kernel
theorem dX8_toNext_5 : decode cX8_toNext 5 = .ok (.putfield 25, 3) := by decide +kernel
theorem dX8_toNext_8 : decode cX8_toNext 8 = .ok (.aload_n 0, 1) := by decide +kernel
theorem dX8_toNext_9 : decode cX8_toNext 9 = .ok (.getfield 25, 3) := by decide +kernel
theorem dX8_toNext_12 : decode cX8_toNext 12 = .ok (.aload_n 0, 1) := by decide +kernel
theorem dX8_toNext_13 : decode cX8_toNext 13 = .ok (.getfield 15, 3) := by decide +kernel
theorem dX8_toNext_16 : decode cX8_toNext 16 = .ok (.if_icmp .ge 30, 3) := by decide +kernel
theorem dX8_toNext_19 : decode cX8_toNext 19 = .ok (.aload_n 0, 1) := by decide +kernel
theorem dX8_toNext_20 : decode cX8_toNext 20 = .ok (.getfield 9, 3) := by decide +kernel
theorem dX8_toNext_23 : decode cX8_toNext 23 = .ok (.aload_n 0, 1) := by decide +kernel
theorem dX8_toNext_24 : decode cX8_toNext 24 = .ok (.getfield 25, 3) := by decide +kernel
theorem dX8_toNext_27 : decode cX8_toNext 27 = .ok (.iaload, 1) := by decide +kernel
theorem dX8_toNext_28 : decode cX8_toNext 28 = .ok (.bipush 32, 2) := by decide +kernel
theorem dX8_toNext_30 : decode cX8_toNext 30 = .ok (.if_icmp .ne 16, 3) := by decide +kernel
theorem dX8_toNext_33 : decode cX8_toNext 33 = .ok (.aload_n 0, 1) := by decide +kernel
theorem dX8_toNext_34 : decode cX8_toNext 34 = .ok (.dup, 1) := by decide +kernel
theorem dX8_toNext_35 : decode cX8_toNext 35 = .ok (.getfield 25, 3) := by decide +kernel
theorem dX8_toNext_38 : decode cX8_toNext 38 = .ok (.iconst 1, 1) := by decide +kernel
theorem dX8_toNext_39 : decode cX8_toNext 39 = .ok (.iadd, 1) := by decide +kernel
theorem dX8_toNext_40 : decode cX8_toNext 40 = .ok (.putfield 25, 3) := by decide +kernel
theorem dX8_toNext_43 : decode cX8_toNext 43 = .ok (.goto (-35), 3) := by decide +kernel
theorem dX8_toNext_46 : decode cX8_toNext 46 = .ok (.aload_n 0, 1) := by decide +kernel
theorem dX8_toNext_47 : decode cX8_toNext 47 = .ok (.aload_n 0, 1) := by decide +kernel
theorem dX8_toNext_48 : decode cX8_toNext 48 = .ok (.aload_n 0, 1) := by decide +kernel
theorem dX8_toNext_49 : decode cX8_toNext 49 = .ok (.getfield 25, 3) := by decide +kernel
theorem dX8_toNext_52 : decode cX8_toNext 52 = .ok (.invokevirtual 28, 3) := by decide +kernel
theorem dX8_toNext_55 : decode cX8_toNext 55 = .ok (.invokestatic 32, 3) := by decide +kernel
theorem dX8_toNext_58 : decode cX8_toNext 58 = .ok (.putfield 35, 3) := by decide +kernel
theorem dX8_toNext_61 : decode cX8_toNext 61 = .ok (.aload_n 0, 1) := by decide +kernel
theorem dX8_toNext_62 : decode cX8_toNext 62 = .ok (.aload_n 0, 1) := by decide +kernel
theorem dX8_toNext_63 : decode cX8_toNext 63 = .ok (.getfield 25, 3) := by decide +kernel
theorem dX8_toNext_66 : decode cX8_toNext 66 = .ok (.iconst 1, 1) := by decide +kernel
theorem dX8_toNext_67 : decode cX8_toNext 67 = .ok (.iadd, 1) := by decide +kernel
theorem dX8_toNext_68 : decode cX8_toNext 68 = .ok (.aload_n 0, 1) := by decide +kernel
theorem dX8_toNext_69 : decode cX8_toNext 69 = .ok (.getfield 15, 3) := by decide +kernel
theorem dX8_toNext_72 : decode cX8_toNext 72 = .ok (.invokestatic 38, 3) := by decide +kernel
theorem dX8_toNext_75 : decode cX8_toNext 75 = .ok (.putfield 19, 3) := by decide +kernel
theorem dX8_toNext_78 : decode cX8_toNext 78 = .ok (.aload_n 0, 1) := by decide +kernel
theorem dX8_toNext_79 : decode cX8_toNext 79 = .ok (.getfield 35, 3) := by decide +kernel
theorem dX8_toNext_82 : decode cX8_toNext 82 = .ok (.iconst 1, 1) := by decide +kernel
theorem dX8_toNext_83 : decode cX8_toNext 83 = .ok (.if_icmp .eq 11, 3) := by decide +kernel
theorem dX8_toNext_86 : decode cX8_toNext 86 = .ok (.aload_n 0, 1) := by decide +kernel
theorem dX8_toNext_87 : decode cX8_toNext 87 = .ok (.getfield 35, 3) := by decide +kernel
theorem dX8_toNext_90 : decode cX8_toNext 90 = .ok (.iconst 2, 1) := by decide +kernel
theorem dX8_toNext_91 : decode cX8_toNext 91 = .ok (.if_icmp .ne 46, 3) := by decide +kernel
theorem dX8_toNext_94 : decode cX8_toNext 94 = .ok (.aload_n 0, 1) := by decide +kernel
theorem dX8_toNext_95 : decode cX8_toNext 95 = .ok (.getfield 19, 3) := by decide +kernel
theorem dX8_toNext_98 : decode cX8_toNext 98 = .ok (.aload_n 0, 1) := by decide +kernel
theorem dX8_toNext_99 : decode cX8_toNext 99 = .ok (.getfield 15, 3) := by decide +kernel
theorem dX8_toNext_102 : decode cX8_toNext 102 = .ok (.if_icmp .ge 35, 3) := by decide +kernel
theorem dX8_toNext_105 : decode cX8_toNext 105 = .ok (.aload_n 0, 1) := by decide +kernel
theorem dX8_toNext_106 : decode cX8_toNext 106 = .ok (.getfield 9, 3) := by decide +kernel
theorem dX8_toNext_109 : decode cX8_toNext 109 = .ok (.aload_n 0, 1) := by decide +kernel
theorem dX8_toNext_110 : decode cX8_toNext 110 = .ok (.getfield 19, 3) := by decide +kernel
theorem dX8_toNext_113 : decode cX8_toNext 113 = .ok (.iaload, 1) := by decide +kernel
theorem dX8_toNext_114 : decode cX8_toNext 114 = .ok (.invokestatic 32, 3) := by decide +kernel
theorem dX8_toNext_117 : decode cX8_toNext 117 = .ok (.aload_n 0, 1) := by decide +kernel
theorem dX8_toNext_118 : decode cX8_toNext 118 = .ok (.getfield 35, 3) := by decide +kernel
theorem dX8_toNext_121 : decode cX8_toNext 121 = .ok (.if_icmp .ne 16, 3) := by decide +kernel
theorem dX8_toNext_124 : decode cX8_toNext 124 = .ok (.aload_n 0, 1) := by decide +kernel
theorem dX8_toNext_125 : decode cX8_toNext 125 = .ok (.dup, 1) := by decide +kernel
theorem dX8_toNext_126 : decode cX8_toNext 126 = .ok (.getfield 19, 3) := by decide +kernel
theorem dX8_toNext_129 : decode cX8_toNext 129 = .ok (.iconst 1, 1) := by decide +kernel
theorem dX8_toNext_130 : decode cX8_toNext 130 = .ok (.iadd, 1) := by decide +kernel
theorem dX8_toNext_131 : decode cX8_toNext 131 = .ok (.putfield 19, 3) := by decide +kernel
theorem dX8_toNext_134 : decode cX8_toNext 134 = .ok (.goto (-40), 3) := by decide +kernel
theorem dX8_toNext_137 : decode cX8_toNext 137 = .ok (.return_, 1) := by decide +kernel
theorem dX8_isSign_0 : decode cX8_isSign 0 = .ok (.aload_n 0, 1) := by decide +kernel
theorem dX8_isSign_1 : decode cX8_isSign 1 = .ok (.getfield 35, 3) := by decide +kernel
theorem dX8_isSign_4 : decode cX8_isSign 4 = .ok (.iconst 3, 1) := by decide +kernel
theorem dX8_isSign_5 : decode cX8_isSign 5 = .ok (.if_icmp .ne 19, 3) := by decide +kernel
theorem dX8_isSign_8 : decode cX8_isSign 8 = .ok (.aload_n 0, 1) := by decide +kernel
theorem dX8_isSign_9 : decode cX8_isSign 9 = .ok (.aload_n 0, 1) := by decide +kernel
theorem dX8_isSign_10 : decode cX8_isSign 10 = .ok (.getfield 25, 3) := by decide +kernel
theorem dX8_isSign_13 : decode cX8_isSign 13 = .ok (.invokevirtual 28, 3) := by decide +kernel
theorem dX8_isSign_16 : decode cX8_isSign 16 = .ok (.iload_n 1, 1) := by decide +kernel
theorem dX8_isSign_17 : decode cX8_isSign 17 = .ok (.if_icmp .ne 7, 3) := by decide +kernel
theorem dX8_isSign_20 : decode cX8_isSign 20 = .ok (.iconst 1, 1) := by decide +kernel
theorem dX8_isSign_21 : decode cX8_isSign 21 = .ok (.goto 4, 3) := by decide +kernel
theorem dX8_isSign_24 : decode cX8_isSign 24 = .ok (.iconst 0, 1) := by decide +kernel
theorem dX8_isSign_25 : decode cX8_isSign 25 = .ok (.ireturn, 1) := by decide +kernel
theorem dX8_placeIn_0 : decode cX8_placeIn 0 = .ok (.iconst 0, 1) := by decide +kernel
theorem dX8_placeIn_1 : decode cX8_placeIn 1 = .ok (.istore_n 2, 1) := by decide +kernel
theorem dX8_placeIn_2 : decode cX8_placeIn 2 = .ok (.iconst 0, 1) := by decide +kernel
theorem dX8_placeIn_3 : decode cX8_placeIn 3 = .ok (.istore_n 3, 1) := by decide +kernel
theorem dX8_placeIn_4 : decode cX8_placeIn 4 = .ok (.aload_n 0, 1) := by decide +kernel
theorem dX8_placeIn_5 : decode cX8_placeIn 5 = .ok (.getfield 35, 3) := by decide +kernel
theorem dX8_placeIn_8 : decode cX8_placeIn 8 = .ok (.iconst 1, 1) := by decide +kernel
theorem dX8_placeIn_9 : decode cX8_placeIn 9 = .ok (.if_icmp .ne 7, 3) := by decide +kernel
theorem dX8_placeIn_12 : decode cX8_placeIn 12 = .ok (.iconst 1, 1) := by decide +kernel
theorem dX8_placeIn_13 : decode cX8_placeIn 13 = .ok (.goto 4, 3) := by decide +kernel
theorem dX8_placeIn_16 : decode cX8_placeIn 16 = .ok (.iconst 0, 1) := by decide +kernel
theorem dX8_placeIn_17 : decode cX8_placeIn 17 = .ok (.istore 4, 2) := by decide +kernel
theorem dX8_placeIn_19 : decode cX8_placeIn 19 = .ok (.iconst 0, 1) := by decide +kernel
theorem dX8_placeIn_20 : decode cX8_placeIn 20 = .ok (.istore 5, 2) := by decide +kernel
theorem dX8_placeIn_22 : decode cX8_placeIn 22 = .ok (.iload 5, 2) := by decide +kernel
theorem dX8_placeIn_24 : decode cX8_placeIn 24 = .ok (.aload_n 1, 1) := by decide +kernel
theorem dX8_placeIn_25 : decode cX8_placeIn 25 = .ok (.invokevirtual 44, 3) := by decide +kernel
theorem dX8_placeIn_28 : decode cX8_placeIn 28 = .ok (.if_icmp .gt 102, 3) := by decide +kernel
theorem dX8_placeIn_31 : decode cX8_placeIn 31 = .ok (.aload_n 0, 1) := by decide +kernel
theorem dX8_placeIn_32 : decode cX8_placeIn 32 = .ok (.getfield 35, 3) := by decide +kernel
theorem dX8_placeIn_35 : decode cX8_placeIn 35 = .ok (.iconst 1, 1) := by decide +kernel
theorem dX8_placeIn_36 : decode cX8_placeIn 36 = .ok (.if_icmp .ne 94, 3) := by decide +kernel
theorem dX8_placeIn_39 : decode cX8_placeIn 39 = .ok (.iload 5, 2) := by decide +kernel
theorem dX8_placeIn_41 : decode cX8_placeIn 41 = .ok (.aload_n 1, 1) := by decide +kernel
theorem dX8_placeIn_42 : decode cX8_placeIn 42 = .ok (.invokevirtual 44, 3) := by decide +kernel
theorem dX8_placeIn_45 : decode cX8_placeIn 45 = .ok (.if_icmp .ge 51, 3) := by decide +kernel
theorem dX8_placeIn_48 : decode cX8_placeIn 48 = .ok (.aload_n 1, 1) := by decide +kernel
theorem dX8_placeIn_49 : decode cX8_placeIn 49 = .ok (.iload 5, 2) := by decide +kernel
theorem dX8_placeIn_51 : decode cX8_placeIn 51 = .ok (.invokevirtual 50, 3) := by decide +kernel
theorem dX8_placeIn_54 : decode cX8_placeIn 54 = .ok (.bipush 32, 2) := by decide +kernel
theorem dX8_placeIn_56 : decode cX8_placeIn 56 = .ok (.if_icmp .eq 40, 3) := by decide +kernel
theorem dX8_placeIn_59 : decode cX8_placeIn 59 = .ok (.iload 4, 2) := by decide +kernel
theorem dX8_placeIn_61 : decode cX8_placeIn 61 = .ok (.ifCond .eq 26, 3) := by decide +kernel
theorem dX8_placeIn_64 : decode cX8_placeIn 64 = .ok (.aload_n 0, 1) := by decide +kernel
theorem dX8_placeIn_65 : decode cX8_placeIn 65 = .ok (.aload_n 0, 1) := by decide +kernel
theorem dX8_placeIn_66 : decode cX8_placeIn 66 = .ok (.getfield 25, 3) := by decide +kernel
theorem dX8_placeIn_69 : decode cX8_placeIn 69 = .ok (.iload_n 3, 1) := by decide +kernel
theorem dX8_placeIn_70 : decode cX8_placeIn 70 = .ok (.iadd, 1) := by decide +kernel
theorem dX8_placeIn_71 : decode cX8_placeIn 71 = .ok (.invokevirtual 28, 3) := by decide +kernel
theorem dX8_placeIn_74 : decode cX8_placeIn 74 = .ok (.aload_n 1, 1) := by decide +kernel
theorem dX8_placeIn_75 : decode cX8_placeIn 75 = .ok (.iload 5, 2) := by decide +kernel
theorem dX8_placeIn_77 : decode cX8_placeIn 77 = .ok (.invokevirtual 50, 3) := by decide +kernel
theorem dX8_placeIn_80 : decode cX8_placeIn 80 = .ok (.if_icmp .ne 7, 3) := by decide +kernel
theorem dX8_placeIn_83 : decode cX8_placeIn 83 = .ok (.iconst 1, 1) := by decide +kernel
theorem dX8_placeIn_84 : decode cX8_placeIn 84 = .ok (.goto 4, 3) := by decide +kernel
theorem dX8_placeIn_87 : decode cX8_placeIn 87 = .ok (.iconst 0, 1) := by decide +kernel
theorem dX8_placeIn_88 : decode cX8_placeIn 88 = .ok (.istore 4, 2) := by decide +kernel
theorem dX8_placeIn_90 : decode cX8_placeIn 90 = .ok (.iinc 3 1, 3) := by decide +kernel
theorem dX8_placeIn_93 : decode cX8_placeIn 93 = .ok (.goto 31, 3) := by decide +kernel
theorem dX8_placeIn_96 : decode cX8_placeIn 96 = .ok (.iload 4, 2) := by decide +kernel
theorem dX8_placeIn_98 : decode cX8_placeIn 98 = .ok (.ifCond .eq 18, 3) := by decide +kernel
theorem dX8_placeIn_101 : decode cX8_placeIn 101 = .ok (.iload_n 3, 1) := by decide +kernel
theorem dX8_placeIn_102 : decode cX8_placeIn 102 = .ok (.aload_n 0, 1) := by decide +kernel
theorem dX8_placeIn_103 : decode cX8_placeIn 103 = .ok (.getfield 19, 3) := by decide +kernel
theorem dX8_placeIn_106 : decode cX8_placeIn 106 = .ok (.aload_n 0, 1) := by decide +kernel
theorem dX8_placeIn_107 : decode cX8_placeIn 107 = .ok (.getfield 25, 3) := by decide +kernel
theorem dX8_placeIn_110 : decode cX8_placeIn 110 = .ok (.isub, 1) := by decide +kernel
theorem dX8_placeIn_111 : decode cX8_placeIn 111 = .ok (.if_icmp .ne 5, 3) := by decide +kernel
theorem dX8_placeIn_114 : decode cX8_placeIn 114 = .ok (.iload_n 2, 1) := by decide +kernel
theorem dX8_placeIn_115 : decode cX8_placeIn 115 = .ok (.ireturn, 1) := by decide +kernel
theorem dX8_placeIn_116 : decode cX8_placeIn 116 = .ok (.iinc 2 1, 3) := by decide +kernel
theorem dX8_placeIn_119 : decode cX8_placeIn 119 = .ok (.iconst 0, 1) := by decide +kernel
theorem dX8_placeIn_120 : decode cX8_placeIn 120 = .ok (.istore_n 3, 1) := by decide +kernel
theorem dX8_placeIn_121 : decode cX8_placeIn 121 = .ok (.iconst 1, 1) := by decide +kernel
theorem dX8_placeIn_122 : decode cX8_placeIn 122 = .ok (.istore 4, 2) := by decide +kernel
theorem dX8_placeIn_124 : decode cX8_placeIn 124 = .ok (.iinc 5 1, 3) := by decide +kernel
theorem dX8_placeIn_127 : decode cX8_placeIn 127 = .ok (.goto (-105), 3) := by decide +kernel
theorem dX8_placeIn_130 : decode cX8_placeIn 130 = .ok (.iconst (-1), 1) := by decide +kernel
theorem dX8_placeIn_131 : decode cX8_placeIn 131 = .ok (.ireturn, 1) := by decide +kernel
theorem dX8_numberTo_0 : decode cX8_numberTo 0 = .ok (.aload_n 0, 1) := by decide +kernel
theorem dX8_numberTo_1 : decode cX8_numberTo 1 = .ok (.getfield 35, 3) := by decide +kernel
theorem dX8_numberTo_4 : decode cX8_numberTo 4 = .ok (.iconst 2, 1) := by decide +kernel
