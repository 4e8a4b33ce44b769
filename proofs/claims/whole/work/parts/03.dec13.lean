theorem dX11_let_14 : decode cX11_let 14 = .ok (.invokestatic 173, 3) := by decide +kernel
theorem dX11_let_17 : decode cX11_let 17 = .ok (.ifCond .eq 7, 3) := by decide +kernel
theorem dX11_let_20 : decode cX11_let 20 = .ok (.iload_n 2, 1) := by decide +kernel
theorem dX11_let_21 : decode cX11_let 21 = .ok (.ifCond .ne 5, 3) := by decide +kernel
theorem dX11_let_24 : decode cX11_let 24 = .ok (.iconst (-1), 1) := by decide +kernel
theorem dX11_let_25 : decode cX11_let 25 = .ok (.ireturn, 1) := by decide +kernel
theorem dX11_let_26 : decode cX11_let 26 = .ok (.ldc_w 477, 3) := by decide +kernel
theorem dX11_let_29 : decode cX11_let 29 = .ok (.istore_n 3, 1) := by decide +kernel
theorem dX11_let_30 : decode cX11_let 30 = .ok (.iconst (-1), 1) := by decide +kernel
theorem dX11_let_31 : decode cX11_let 31 = .ok (.istore 4, 2) := by decide +kernel
theorem dX11_let_33 : decode cX11_let 33 = .ok (.iconst 0, 1) := by decide +kernel
theorem dX11_let_34 : decode cX11_let 34 = .ok (.istore 5, 2) := by decide +kernel
theorem dX11_let_36 : decode cX11_let 36 = .ok (.iload 5, 2) := by decide +kernel
theorem dX11_let_38 : decode cX11_let 38 = .ok (.aload_n 0, 1) := by decide +kernel
theorem dX11_let_39 : decode cX11_let 39 = .ok (.getfield 13, 3) := by decide +kernel
theorem dX11_let_42 : decode cX11_let 42 = .ok (.iconst 1, 1) := by decide +kernel
theorem dX11_let_43 : decode cX11_let 43 = .ok (.iaload, 1) := by decide +kernel
theorem dX11_let_44 : decode cX11_let 44 = .ok (.if_icmp .ge 80, 3) := by decide +kernel
theorem dX11_let_47 : decode cX11_let 47 = .ok (.iload_n 2, 1) := by decide +kernel
theorem dX11_let_48 : decode cX11_let 48 = .ok (.aload_n 0, 1) := by decide +kernel
theorem dX11_let_49 : decode cX11_let 49 = .ok (.getfield 13, 3) := by decide +kernel
theorem dX11_let_52 : decode cX11_let 52 = .ok (.bipush 62, 2) := by decide +kernel
theorem dX11_let_54 : decode cX11_let 54 = .ok (.iload 5, 2) := by decide +kernel
theorem dX11_let_56 : decode cX11_let 56 = .ok (.iadd, 1) := by decide +kernel
theorem dX11_let_57 : decode cX11_let 57 = .ok (.iaload, 1) := by decide +kernel
theorem dX11_let_58 : decode cX11_let 58 = .ok (.iand, 1) := by decide +kernel
theorem dX11_let_59 : decode cX11_let 59 = .ok (.invokestatic 493, 3) := by decide +kernel
theorem dX11_let_62 : decode cX11_let 62 = .ok (.istore 6, 2) := by decide +kernel
theorem dX11_let_64 : decode cX11_let 64 = .ok (.iload 6, 2) := by decide +kernel
theorem dX11_let_66 : decode cX11_let 66 = .ok (.iload_n 2, 1) := by decide +kernel
theorem dX11_let_67 : decode cX11_let 67 = .ok (.invokestatic 493, 3) := by decide +kernel
theorem dX11_let_70 : decode cX11_let 70 = .ok (.iload 6, 2) := by decide +kernel
theorem dX11_let_72 : decode cX11_let 72 = .ok (.isub, 1) := by decide +kernel
theorem dX11_let_73 : decode cX11_let 73 = .ok (.if_icmp .le 8, 3) := by decide +kernel
theorem dX11_let_76 : decode cX11_let 76 = .ok (.iload 6, 2) := by decide +kernel
theorem dX11_let_78 : decode cX11_let 78 = .ok (.goto 10, 3) := by decide +kernel
theorem dX11_let_81 : decode cX11_let 81 = .ok (.iload_n 2, 1) := by decide +kernel
theorem dX11_let_82 : decode cX11_let 82 = .ok (.invokestatic 493, 3) := by decide +kernel
theorem dX11_let_85 : decode cX11_let 85 = .ok (.iload 6, 2) := by decide +kernel
theorem dX11_let_87 : decode cX11_let 87 = .ok (.isub, 1) := by decide +kernel
theorem dX11_let_88 : decode cX11_let 88 = .ok (.istore 7, 2) := by decide +kernel
theorem dX11_let_90 : decode cX11_let 90 = .ok (.iload 7, 2) := by decide +kernel
theorem dX11_let_92 : decode cX11_let 92 = .ok (.iload_n 3, 1) := by decide +kernel
theorem dX11_let_93 : decode cX11_let 93 = .ok (.if_icmp .ge 8, 3) := by decide +kernel
theorem dX11_let_96 : decode cX11_let 96 = .ok (.iload 5, 2) := by decide +kernel
theorem dX11_let_98 : decode cX11_let 98 = .ok (.goto 5, 3) := by decide +kernel
theorem dX11_let_101 : decode cX11_let 101 = .ok (.iload 4, 2) := by decide +kernel
theorem dX11_let_103 : decode cX11_let 103 = .ok (.istore 4, 2) := by decide +kernel
theorem dX11_let_105 : decode cX11_let 105 = .ok (.iload 7, 2) := by decide +kernel
theorem dX11_let_107 : decode cX11_let 107 = .ok (.iload_n 3, 1) := by decide +kernel
theorem dX11_let_108 : decode cX11_let 108 = .ok (.if_icmp .ge 8, 3) := by decide +kernel
theorem dX11_let_111 : decode cX11_let 111 = .ok (.iload 7, 2) := by decide +kernel
theorem dX11_let_113 : decode cX11_let 113 = .ok (.goto 4, 3) := by decide +kernel
theorem dX11_let_116 : decode cX11_let 116 = .ok (.iload_n 3, 1) := by decide +kernel
theorem dX11_let_117 : decode cX11_let 117 = .ok (.istore_n 3, 1) := by decide +kernel
theorem dX11_let_118 : decode cX11_let 118 = .ok (.iinc 5 1, 3) := by decide +kernel
theorem dX11_let_121 : decode cX11_let 121 = .ok (.goto (-85), 3) := by decide +kernel
theorem dX11_let_124 : decode cX11_let 124 = .ok (.iload 4, 2) := by decide +kernel
theorem dX11_let_126 : decode cX11_let 126 = .ok (.iconst (-1), 1) := by decide +kernel
theorem dX11_let_127 : decode cX11_let 127 = .ok (.if_icmp .eq 7, 3) := by decide +kernel
theorem dX11_let_130 : decode cX11_let 130 = .ok (.iload_n 1, 1) := by decide +kernel
theorem dX11_let_131 : decode cX11_let 131 = .ok (.ifCond .ne 8, 3) := by decide +kernel
theorem dX11_let_134 : decode cX11_let 134 = .ok (.iload 4, 2) := by decide +kernel
theorem dX11_let_136 : decode cX11_let 136 = .ok (.goto 4, 3) := by decide +kernel
theorem dX11_let_139 : decode cX11_let 139 = .ok (.iload_n 3, 1) := by decide +kernel
theorem dX11_let_140 : decode cX11_let 140 = .ok (.ireturn, 1) := by decide +kernel
theorem dX11_areAlike_0 : decode cX11_areAlike 0 = .ok (.aload_n 0, 1) := by decide +kernel
theorem dX11_areAlike_1 : decode cX11_areAlike 1 = .ok (.getfield 13, 3) := by decide +kernel
theorem dX11_areAlike_4 : decode cX11_areAlike 4 = .ok (.bipush 51, 2) := by decide +kernel
theorem dX11_areAlike_6 : decode cX11_areAlike 6 = .ok (.iload_n 1, 1) := by decide +kernel
theorem dX11_areAlike_7 : decode cX11_areAlike 7 = .ok (.iadd, 1) := by decide +kernel
theorem dX11_areAlike_8 : decode cX11_areAlike 8 = .ok (.iaload, 1) := by decide +kernel
theorem dX11_areAlike_9 : decode cX11_areAlike 9 = .ok (.bipush 10, 2) := by decide +kernel
theorem dX11_areAlike_11 : decode cX11_areAlike 11 = .ok (.idiv, 1) := by decide +kernel
theorem dX11_areAlike_12 : decode cX11_areAlike 12 = .ok (.aload_n 0, 1) := by decide +kernel
theorem dX11_areAlike_13 : decode cX11_areAlike 13 = .ok (.getfield 13, 3) := by decide +kernel
theorem dX11_areAlike_16 : decode cX11_areAlike 16 = .ok (.bipush 51, 2) := by decide +kernel
theorem dX11_areAlike_18 : decode cX11_areAlike 18 = .ok (.iload_n 2, 1) := by decide +kernel
theorem dX11_areAlike_19 : decode cX11_areAlike 19 = .ok (.iadd, 1) := by decide +kernel
theorem dX11_areAlike_20 : decode cX11_areAlike 20 = .ok (.iaload, 1) := by decide +kernel
theorem dX11_areAlike_21 : decode cX11_areAlike 21 = .ok (.bipush 10, 2) := by decide +kernel
theorem dX11_areAlike_23 : decode cX11_areAlike 23 = .ok (.idiv, 1) := by decide +kernel
theorem dX11_areAlike_24 : decode cX11_areAlike 24 = .ok (.if_icmp .eq 30, 3) := by decide +kernel
theorem dX11_areAlike_27 : decode cX11_areAlike 27 = .ok (.aload_n 0, 1) := by decide +kernel
theorem dX11_areAlike_28 : decode cX11_areAlike 28 = .ok (.getfield 13, 3) := by decide +kernel
theorem dX11_areAlike_31 : decode cX11_areAlike 31 = .ok (.bipush 51, 2) := by decide +kernel
theorem dX11_areAlike_33 : decode cX11_areAlike 33 = .ok (.iload_n 1, 1) := by decide +kernel
theorem dX11_areAlike_34 : decode cX11_areAlike 34 = .ok (.iadd, 1) := by decide +kernel
theorem dX11_areAlike_35 : decode cX11_areAlike 35 = .ok (.iaload, 1) := by decide +kernel
theorem dX11_areAlike_36 : decode cX11_areAlike 36 = .ok (.bipush 10, 2) := by decide +kernel
theorem dX11_areAlike_38 : decode cX11_areAlike 38 = .ok (.irem, 1) := by decide +kernel
theorem dX11_areAlike_39 : decode cX11_areAlike 39 = .ok (.aload_n 0, 1) := by decide +kernel
theorem dX11_areAlike_40 : decode cX11_areAlike 40 = .ok (.getfield 13, 3) := by decide +kernel
theorem dX11_areAlike_43 : decode cX11_areAlike 43 = .ok (.bipush 51, 2) := by decide +kernel
theorem dX11_areAlike_45 : decode cX11_areAlike 45 = .ok (.iload_n 2, 1) := by decide +kernel
theorem dX11_areAlike_46 : decode cX11_areAlike 46 = .ok (.iadd, 1) := by decide +kernel
theorem dX11_areAlike_47 : decode cX11_areAlike 47 = .ok (.iaload, 1) := by decide +kernel
theorem dX11_areAlike_48 : decode cX11_areAlike 48 = .ok (.bipush 10, 2) := by decide +kernel
theorem dX11_areAlike_50 : decode cX11_areAlike 50 = .ok (.irem, 1) := by decide +kernel
theorem dX11_areAlike_51 : decode cX11_areAlike 51 = .ok (.if_icmp .ne 7, 3) := by decide +kernel
theorem dX11_areAlike_54 : decode cX11_areAlike 54 = .ok (.iconst 1, 1) := by decide +kernel
theorem dX11_areAlike_55 : decode cX11_areAlike 55 = .ok (.goto 4, 3) := by decide +kernel
theorem dX11_areAlike_58 : decode cX11_areAlike 58 = .ok (.iconst 0, 1) := by decide +kernel
theorem dX11_areAlike_59 : decode cX11_areAlike 59 = .ok (.ireturn, 1) := by decide +kernel
theorem dX11_alike_0 : decode cX11_alike 0 = .ok (.aload_n 0, 1) := by decide +kernel
theorem dX11_alike_1 : decode cX11_alike 1 = .ok (.iconst 0, 1) := by decide +kernel
theorem dX11_alike_2 : decode cX11_alike 2 = .ok (.putfield 153, 3) := by decide +kernel
theorem dX11_alike_5 : decode cX11_alike 5 = .ok (.iconst 0, 1) := by decide +kernel
theorem dX11_alike_6 : decode cX11_alike 6 = .ok (.istore_n 2, 1) := by decide +kernel
theorem dX11_alike_7 : decode cX11_alike 7 = .ok (.iconst (-1), 1) := by decide +kernel
theorem dX11_alike_8 : decode cX11_alike 8 = .ok (.istore_n 3, 1) := by decide +kernel
theorem dX11_alike_9 : decode cX11_alike 9 = .ok (.iconst 0, 1) := by decide +kernel
theorem dX11_alike_10 : decode cX11_alike 10 = .ok (.istore 4, 2) := by decide +kernel
theorem dX11_alike_12 : decode cX11_alike 12 = .ok (.iload 4, 2) := by decide +kernel
theorem dX11_alike_14 : decode cX11_alike 14 = .ok (.aload_n 0, 1) := by decide +kernel
theorem dX11_alike_15 : decode cX11_alike 15 = .ok (.getfield 13, 3) := by decide +kernel
theorem dX11_alike_18 : decode cX11_alike 18 = .ok (.iconst 0, 1) := by decide +kernel
theorem dX11_alike_19 : decode cX11_alike 19 = .ok (.iaload, 1) := by decide +kernel
theorem dX11_alike_20 : decode cX11_alike 20 = .ok (.if_icmp .ge 64, 3) := by decide +kernel
theorem dX11_alike_23 : decode cX11_alike 23 = .ok (.iload 4, 2) := by decide +kernel
theorem dX11_alike_25 : decode cX11_alike 25 = .ok (.iconst 1, 1) := by decide +kernel
theorem dX11_alike_26 : decode cX11_alike 26 = .ok (.iadd, 1) := by decide +kernel
theorem dX11_alike_27 : decode cX11_alike 27 = .ok (.istore 5, 2) := by decide +kernel
theorem dX11_alike_29 : decode cX11_alike 29 = .ok (.iload 5, 2) := by decide +kernel
theorem dX11_alike_31 : decode cX11_alike 31 = .ok (.aload_n 0, 1) := by decide +kernel
theorem dX11_alike_32 : decode cX11_alike 32 = .ok (.getfield 13, 3) := by decide +kernel
theorem dX11_alike_35 : decode cX11_alike 35 = .ok (.iconst 0, 1) := by decide +kernel
theorem dX11_alike_36 : decode cX11_alike 36 = .ok (.iaload, 1) := by decide +kernel
theorem dX11_alike_37 : decode cX11_alike 37 = .ok (.if_icmp .ge 41, 3) := by decide +kernel
theorem dX11_alike_40 : decode cX11_alike 40 = .ok (.aload_n 0, 1) := by decide +kernel
theorem dX11_alike_41 : decode cX11_alike 41 = .ok (.iload 4, 2) := by decide +kernel
theorem dX11_alike_43 : decode cX11_alike 43 = .ok (.iload 5, 2) := by decide +kernel
theorem dX11_alike_45 : decode cX11_alike 45 = .ok (.invokevirtual 496, 3) := by decide +kernel
theorem dX11_alike_48 : decode cX11_alike 48 = .ok (.ifCond .eq 24, 3) := by decide +kernel
theorem dX11_alike_51 : decode cX11_alike 51 = .ok (.iload_n 2, 1) := by decide +kernel
theorem dX11_alike_52 : decode cX11_alike 52 = .ok (.iload_n 1, 1) := by decide +kernel
theorem dX11_alike_53 : decode cX11_alike 53 = .ok (.if_icmp .ne 14, 3) := by decide +kernel
theorem dX11_alike_56 : decode cX11_alike 56 = .ok (.bipush 10, 2) := by decide +kernel
theorem dX11_alike_58 : decode cX11_alike 58 = .ok (.iload 4, 2) := by decide +kernel
theorem dX11_alike_60 : decode cX11_alike 60 = .ok (.imul, 1) := by decide +kernel
theorem dX11_alike_61 : decode cX11_alike 61 = .ok (.iload 5, 2) := by decide +kernel
theorem dX11_alike_63 : decode cX11_alike 63 = .ok (.iadd, 1) := by decide +kernel
theorem dX11_alike_64 : decode cX11_alike 64 = .ok (.goto 4, 3) := by decide +kernel
theorem dX11_alike_67 : decode cX11_alike 67 = .ok (.iload_n 3, 1) := by decide +kernel
theorem dX11_alike_68 : decode cX11_alike 68 = .ok (.istore_n 3, 1) := by decide +kernel
theorem dX11_alike_69 : decode cX11_alike 69 = .ok (.iinc 2 1, 3) := by decide +kernel
theorem dX11_alike_72 : decode cX11_alike 72 = .ok (.iinc 5 1, 3) := by decide +kernel
theorem dX11_alike_75 : decode cX11_alike 75 = .ok (.goto (-46), 3) := by decide +kernel
theorem dX11_alike_78 : decode cX11_alike 78 = .ok (.iinc 4 1, 3) := by decide +kernel
theorem dX11_alike_81 : decode cX11_alike 81 = .ok (.goto (-69), 3) := by decide +kernel
theorem dX11_alike_84 : decode cX11_alike 84 = .ok (.iload_n 1, 1) := by decide +kernel
theorem dX11_alike_85 : decode cX11_alike 85 = .ok (.iconst (-1), 1) := by decide +kernel
theorem dX11_alike_86 : decode cX11_alike 86 = .ok (.if_icmp .ne 7, 3) := by decide +kernel
theorem dX11_alike_89 : decode cX11_alike 89 = .ok (.iload_n 2, 1) := by decide +kernel
theorem dX11_alike_90 : decode cX11_alike 90 = .ok (.goto 4, 3) := by decide +kernel
theorem dX11_alike_93 : decode cX11_alike 93 = .ok (.iload_n 3, 1) := by decide +kernel
theorem dX11_alike_94 : decode cX11_alike 94 = .ok (.ireturn, 1) := by decide +kernel
theorem dX11_areApart_0 : decode cX11_areApart 0 = .ok (.iconst 1, 1) := by decide +kernel
theorem dX11_areApart_1 : decode cX11_areApart 1 = .ok (.istore_n 2, 1) := by decide +kernel
theorem dX11_areApart_2 : decode cX11_areApart 2 = .ok (.iconst 0, 1) := by decide +kernel
theorem dX11_areApart_3 : decode cX11_areApart 3 = .ok (.istore_n 3, 1) := by decide +kernel
theorem dX11_areApart_4 : decode cX11_areApart 4 = .ok (.iload_n 3, 1) := by decide +kernel
theorem dX11_areApart_5 : decode cX11_areApart 5 = .ok (.aload_n 0, 1) := by decide +kernel
theorem dX11_areApart_6 : decode cX11_areApart 6 = .ok (.getfield 13, 3) := by decide +kernel
theorem dX11_areApart_9 : decode cX11_areApart 9 = .ok (.iconst 0, 1) := by decide +kernel
theorem dX11_areApart_10 : decode cX11_areApart 10 = .ok (.iaload, 1) := by decide +kernel
theorem dX11_areApart_11 : decode cX11_areApart 11 = .ok (.if_icmp .ge 68, 3) := by decide +kernel
theorem dX11_areApart_14 : decode cX11_areApart 14 = .ok (.iload_n 3, 1) := by decide +kernel
theorem dX11_areApart_15 : decode cX11_areApart 15 = .ok (.iconst 1, 1) := by decide +kernel
theorem dX11_areApart_16 : decode cX11_areApart 16 = .ok (.iadd, 1) := by decide +kernel
theorem dX11_areApart_17 : decode cX11_areApart 17 = .ok (.istore 4, 2) := by decide +kernel
theorem dX11_areApart_19 : decode cX11_areApart 19 = .ok (.iload 4, 2) := by decide +kernel
theorem dX11_areApart_21 : decode cX11_areApart 21 = .ok (.aload_n 0, 1) := by decide +kernel
theorem dX11_areApart_22 : decode cX11_areApart 22 = .ok (.getfield 13, 3) := by decide +kernel
theorem dX11_areApart_25 : decode cX11_areApart 25 = .ok (.iconst 0, 1) := by decide +kernel
theorem dX11_areApart_26 : decode cX11_areApart 26 = .ok (.iaload, 1) := by decide +kernel
theorem dX11_areApart_27 : decode cX11_areApart 27 = .ok (.if_icmp .ge 46, 3) := by decide +kernel
theorem dX11_areApart_30 : decode cX11_areApart 30 = .ok (.iload_n 2, 1) := by decide +kernel
theorem dX11_areApart_31 : decode cX11_areApart 31 = .ok (.ifCond .eq 34, 3) := by decide +kernel
theorem dX11_areApart_34 : decode cX11_areApart 34 = .ok (.iload_n 1, 1) := by decide +kernel
theorem dX11_areApart_35 : decode cX11_areApart 35 = .ok (.iload_n 3, 1) := by decide +kernel
theorem dX11_areApart_36 : decode cX11_areApart 36 = .ok (.invokestatic 186, 3) := by decide +kernel
theorem dX11_areApart_39 : decode cX11_areApart 39 = .ok (.ifCond .ne 22, 3) := by decide +kernel
theorem dX11_areApart_42 : decode cX11_areApart 42 = .ok (.iload_n 1, 1) := by decide +kernel
theorem dX11_areApart_43 : decode cX11_areApart 43 = .ok (.iload 4, 2) := by decide +kernel
theorem dX11_areApart_45 : decode cX11_areApart 45 = .ok (.invokestatic 186, 3) := by decide +kernel
theorem dX11_areApart_48 : decode cX11_areApart 48 = .ok (.ifCond .ne 13, 3) := by decide +kernel
theorem dX11_areApart_51 : decode cX11_areApart 51 = .ok (.aload_n 0, 1) := by decide +kernel
theorem dX11_areApart_52 : decode cX11_areApart 52 = .ok (.iload_n 3, 1) := by decide +kernel
theorem dX11_areApart_53 : decode cX11_areApart 53 = .ok (.iload 4, 2) := by decide +kernel
theorem dX11_areApart_55 : decode cX11_areApart 55 = .ok (.invokevirtual 496, 3) := by decide +kernel
theorem dX11_areApart_58 : decode cX11_areApart 58 = .ok (.ifCond .ne 7, 3) := by decide +kernel
theorem dX11_areApart_61 : decode cX11_areApart 61 = .ok (.iconst 1, 1) := by decide +kernel
theorem dX11_areApart_62 : decode cX11_areApart 62 = .ok (.goto 4, 3) := by decide +kernel
theorem dX11_areApart_65 : decode cX11_areApart 65 = .ok (.iconst 0, 1) := by decide +kernel
theorem dX11_areApart_66 : decode cX11_areApart 66 = .ok (.istore_n 2, 1) := by decide +kernel
theorem dX11_areApart_67 : decode cX11_areApart 67 = .ok (.iinc 4 1, 3) := by decide +kernel
theorem dX11_areApart_70 : decode cX11_areApart 70 = .ok (.goto (-51), 3) := by decide +kernel
theorem dX11_areApart_73 : decode cX11_areApart 73 = .ok (.iinc 3 1, 3) := by decide +kernel
theorem dX11_areApart_76 : decode cX11_areApart 76 = .ok (.goto (-72), 3) := by decide +kernel
theorem dX11_areApart_79 : decode cX11_areApart 79 = .ok (.iload_n 2, 1) := by decide +kernel
theorem dX11_areApart_80 : decode cX11_areApart 80 = .ok (.ireturn, 1) := by decide +kernel
theorem dX11_anew_0 : decode cX11_anew 0 = .ok (.aload_n 0, 1) := by decide +kernel
theorem dX11_anew_1 : decode cX11_anew 1 = .ok (.iconst 0, 1) := by decide +kernel
theorem dX11_anew_2 : decode cX11_anew 2 = .ok (.putfield 153, 3) := by decide +kernel
theorem dX11_anew_5 : decode cX11_anew 5 = .ok (.iload_n 1, 1) := by decide +kernel
theorem dX11_anew_6 : decode cX11_anew 6 = .ok (.i2l, 1) := by decide +kernel
theorem dX11_anew_7 : decode cX11_anew 7 = .ok (.lconst 0, 1) := by decide +kernel
theorem dX11_anew_8 : decode cX11_anew 8 = .ok (.lconst 1, 1) := by decide +kernel
theorem dX11_anew_9 : decode cX11_anew 9 = .ok (.invokestatic 173, 3) := by decide +kernel
theorem dX11_anew_12 : decode cX11_anew 12 = .ok (.ifCond .ne 5, 3) := by decide +kernel
theorem dX11_anew_15 : decode cX11_anew 15 = .ok (.iconst (-1), 1) := by decide +kernel
theorem dX11_anew_16 : decode cX11_anew 16 = .ok (.ireturn, 1) := by decide +kernel
theorem dX11_anew_17 : decode cX11_anew 17 = .ok (.ldc_w 477, 3) := by decide +kernel
theorem dX11_anew_20 : decode cX11_anew 20 = .ok (.istore_n 2, 1) := by decide +kernel
theorem dX11_anew_21 : decode cX11_anew 21 = .ok (.iconst 0, 1) := by decide +kernel
theorem dX11_anew_22 : decode cX11_anew 22 = .ok (.istore_n 3, 1) := by decide +kernel
theorem dX11_anew_23 : decode cX11_anew 23 = .ok (.iconst 0, 1) := by decide +kernel
theorem dX11_anew_24 : decode cX11_anew 24 = .ok (.istore 4, 2) := by decide +kernel
theorem dX11_anew_26 : decode cX11_anew 26 = .ok (.iload 4, 2) := by decide +kernel
theorem dX11_anew_28 : decode cX11_anew 28 = .ok (.iconst 1, 1) := by decide +kernel
theorem dX11_anew_29 : decode cX11_anew 29 = .ok (.aload_n 0, 1) := by decide +kernel
theorem dX11_anew_30 : decode cX11_anew 30 = .ok (.getfield 13, 3) := by decide +kernel
theorem dX11_anew_33 : decode cX11_anew 33 = .ok (.iconst 0, 1) := by decide +kernel
theorem dX11_anew_34 : decode cX11_anew 34 = .ok (.iaload, 1) := by decide +kernel
theorem dX11_anew_35 : decode cX11_anew 35 = .ok (.ishl, 1) := by decide +kernel
theorem dX11_anew_36 : decode cX11_anew 36 = .ok (.if_icmp .ge 61, 3) := by decide +kernel
theorem dX11_anew_39 : decode cX11_anew 39 = .ok (.iload 4, 2) := by decide +kernel
theorem dX11_anew_41 : decode cX11_anew 41 = .ok (.invokestatic 493, 3) := by decide +kernel
theorem dX11_anew_44 : decode cX11_anew 44 = .ok (.iload_n 2, 1) := by decide +kernel
theorem dX11_anew_45 : decode cX11_anew 45 = .ok (.if_icmp .ge 16, 3) := by decide +kernel
theorem dX11_anew_48 : decode cX11_anew 48 = .ok (.aload_n 0, 1) := by decide +kernel
theorem dX11_anew_49 : decode cX11_anew 49 = .ok (.iload 4, 2) := by decide +kernel
theorem dX11_anew_51 : decode cX11_anew 51 = .ok (.invokevirtual 499, 3) := by decide +kernel
theorem dX11_anew_54 : decode cX11_anew 54 = .ok (.ifCond .eq 7, 3) := by decide +kernel
theorem dX11_anew_57 : decode cX11_anew 57 = .ok (.iconst 1, 1) := by decide +kernel
theorem dX11_anew_58 : decode cX11_anew 58 = .ok (.goto 4, 3) := by decide +kernel
theorem dX11_anew_61 : decode cX11_anew 61 = .ok (.iconst 0, 1) := by decide +kernel
theorem dX11_anew_62 : decode cX11_anew 62 = .ok (.istore 5, 2) := by decide +kernel
theorem dX11_anew_64 : decode cX11_anew 64 = .ok (.iload 5, 2) := by decide +kernel
theorem dX11_anew_66 : decode cX11_anew 66 = .ok (.ifCond .eq 8, 3) := by decide +kernel
theorem dX11_anew_69 : decode cX11_anew 69 = .ok (.iload 4, 2) := by decide +kernel
theorem dX11_anew_71 : decode cX11_anew 71 = .ok (.goto 4, 3) := by decide +kernel
theorem dX11_anew_74 : decode cX11_anew 74 = .ok (.iload_n 3, 1) := by decide +kernel
theorem dX11_anew_75 : decode cX11_anew 75 = .ok (.istore_n 3, 1) := by decide +kernel
theorem dX11_anew_76 : decode cX11_anew 76 = .ok (.iload 5, 2) := by decide +kernel
theorem dX11_anew_78 : decode cX11_anew 78 = .ok (.ifCond .eq 11, 3) := by decide +kernel
theorem dX11_anew_81 : decode cX11_anew 81 = .ok (.iload 4, 2) := by decide +kernel
theorem dX11_anew_83 : decode cX11_anew 83 = .ok (.invokestatic 493, 3) := by decide +kernel
theorem dX11_anew_86 : decode cX11_anew 86 = .ok (.goto 4, 3) := by decide +kernel
theorem dX11_anew_89 : decode cX11_anew 89 = .ok (.iload_n 2, 1) := by decide +kernel
theorem dX11_anew_90 : decode cX11_anew 90 = .ok (.istore_n 2, 1) := by decide +kernel
theorem dX11_anew_91 : decode cX11_anew 91 = .ok (.iinc 4 1, 3) := by decide +kernel
theorem dX11_anew_94 : decode cX11_anew 94 = .ok (.goto (-68), 3) := by decide +kernel
theorem dX11_anew_97 : decode cX11_anew 97 = .ok (.iload_n 1, 1) := by decide +kernel
theorem dX11_anew_98 : decode cX11_anew 98 = .ok (.ifCond .ne 7, 3) := by decide +kernel
theorem dX11_anew_101 : decode cX11_anew 101 = .ok (.iload_n 2, 1) := by decide +kernel
theorem dX11_anew_102 : decode cX11_anew 102 = .ok (.goto 4, 3) := by decide +kernel
theorem dX11_anew_105 : decode cX11_anew 105 = .ok (.iload_n 3, 1) := by decide +kernel
theorem dX11_anew_106 : decode cX11_anew 106 = .ok (.ireturn, 1) := by decide +kernel
theorem dX11_areGuarded_0 : decode cX11_areGuarded 0 = .ok (.iconst 1, 1) := by decide +kernel
theorem dX11_areGuarded_1 : decode cX11_areGuarded 1 = .ok (.istore_n 3, 1) := by decide +kernel
theorem dX11_areGuarded_2 : decode cX11_areGuarded 2 = .ok (.iconst 0, 1) := by decide +kernel
theorem dX11_areGuarded_3 : decode cX11_areGuarded 3 = .ok (.istore 4, 2) := by decide +kernel
theorem dX11_areGuarded_5 : decode cX11_areGuarded 5 = .ok (.iload 4, 2) := by decide +kernel
theorem dX11_areGuarded_7 : decode cX11_areGuarded 7 = .ok (.aload_n 0, 1) := by decide +kernel
theorem dX11_areGuarded_8 : decode cX11_areGuarded 8 = .ok (.getfield 13, 3) := by decide +kernel
theorem dX11_areGuarded_11 : decode cX11_areGuarded 11 = .ok (.iconst 0, 1) := by decide +kernel
theorem dX11_areGuarded_12 : decode cX11_areGuarded 12 = .ok (.iaload, 1) := by decide +kernel
theorem dX11_areGuarded_13 : decode cX11_areGuarded 13 = .ok (.if_icmp .ge 43, 3) := by decide +kernel
theorem dX11_areGuarded_16 : decode cX11_areGuarded 16 = .ok (.iload_n 3, 1) := by decide +kernel
theorem dX11_areGuarded_17 : decode cX11_areGuarded 17 = .ok (.ifCond .eq 31, 3) := by decide +kernel
theorem dX11_areGuarded_20 : decode cX11_areGuarded 20 = .ok (.aload_n 0, 1) := by decide +kernel
theorem dX11_areGuarded_21 : decode cX11_areGuarded 21 = .ok (.iload 4, 2) := by decide +kernel
theorem dX11_areGuarded_23 : decode cX11_areGuarded 23 = .ok (.invokevirtual 182, 3) := by decide +kernel
theorem dX11_areGuarded_26 : decode cX11_areGuarded 26 = .ok (.ifCond .eq 18, 3) := by decide +kernel
theorem dX11_areGuarded_29 : decode cX11_areGuarded 29 = .ok (.aload_n 0, 1) := by decide +kernel
theorem dX11_areGuarded_30 : decode cX11_areGuarded 30 = .ok (.iload 4, 2) := by decide +kernel
theorem dX11_areGuarded_32 : decode cX11_areGuarded 32 = .ok (.invokevirtual 206, 3) := by decide +kernel
theorem dX11_areGuarded_35 : decode cX11_areGuarded 35 = .ok (.iload_n 1, 1) := by decide +kernel
theorem dX11_areGuarded_36 : decode cX11_areGuarded 36 = .ok (.iand, 1) := by decide +kernel
theorem dX11_areGuarded_37 : decode cX11_areGuarded 37 = .ok (.invokestatic 493, 3) := by decide +kernel
theorem dX11_areGuarded_40 : decode cX11_areGuarded 40 = .ok (.iload_n 2, 1) := by decide +kernel
theorem dX11_areGuarded_41 : decode cX11_areGuarded 41 = .ok (.if_icmp .le 7, 3) := by decide +kernel
theorem dX11_areGuarded_44 : decode cX11_areGuarded 44 = .ok (.iconst 1, 1) := by decide +kernel
theorem dX11_areGuarded_45 : decode cX11_areGuarded 45 = .ok (.goto 4, 3) := by decide +kernel
theorem dX11_areGuarded_48 : decode cX11_areGuarded 48 = .ok (.iconst 0, 1) := by decide +kernel
theorem dX11_areGuarded_49 : decode cX11_areGuarded 49 = .ok (.istore_n 3, 1) := by decide +kernel
theorem dX11_areGuarded_50 : decode cX11_areGuarded 50 = .ok (.iinc 4 1, 3) := by decide +kernel
theorem dX11_areGuarded_53 : decode cX11_areGuarded 53 = .ok (.goto (-48), 3) := by decide +kernel
theorem dX11_areGuarded_56 : decode cX11_areGuarded 56 = .ok (.iload_n 3, 1) := by decide +kernel
theorem dX11_areGuarded_57 : decode cX11_areGuarded 57 = .ok (.ireturn, 1) := by decide +kernel
theorem dX11_guard_0 : decode cX11_guard 0 = .ok (.aload_n 0, 1) := by decide +kernel
theorem dX11_guard_1 : decode cX11_guard 1 = .ok (.iconst 0, 1) := by decide +kernel
theorem dX11_guard_2 : decode cX11_guard 2 = .ok (.putfield 153, 3) := by decide +kernel
theorem dX11_guard_5 : decode cX11_guard 5 = .ok (.iload_n 1, 1) := by decide +kernel
theorem dX11_guard_6 : decode cX11_guard 6 = .ok (.i2l, 1) := by decide +kernel
theorem dX11_guard_7 : decode cX11_guard 7 = .ok (.lconst 0, 1) := by decide +kernel
theorem dX11_guard_8 : decode cX11_guard 8 = .ok (.ldc2_w 180, 3) := by decide +kernel
theorem dX11_guard_11 : decode cX11_guard 11 = .ok (.invokestatic 173, 3) := by decide +kernel
theorem dX11_guard_14 : decode cX11_guard 14 = .ok (.ifCond .eq 13, 3) := by decide +kernel
theorem dX11_guard_17 : decode cX11_guard 17 = .ok (.iload_n 2, 1) := by decide +kernel
theorem dX11_guard_18 : decode cX11_guard 18 = .ok (.i2l, 1) := by decide +kernel
theorem dX11_guard_19 : decode cX11_guard 19 = .ok (.lconst 0, 1) := by decide +kernel
theorem dX11_guard_20 : decode cX11_guard 20 = .ok (.lconst 1, 1) := by decide +kernel
theorem dX11_guard_21 : decode cX11_guard 21 = .ok (.invokestatic 173, 3) := by decide +kernel
theorem dX11_guard_24 : decode cX11_guard 24 = .ok (.ifCond .ne 5, 3) := by decide +kernel
theorem dX11_guard_27 : decode cX11_guard 27 = .ok (.iconst (-1), 1) := by decide +kernel
theorem dX11_guard_28 : decode cX11_guard 28 = .ok (.ireturn, 1) := by decide +kernel
theorem dX11_guard_29 : decode cX11_guard 29 = .ok (.ldc_w 477, 3) := by decide +kernel
theorem dX11_guard_32 : decode cX11_guard 32 = .ok (.istore_n 3, 1) := by decide +kernel
theorem dX11_guard_33 : decode cX11_guard 33 = .ok (.iconst (-1), 1) := by decide +kernel
theorem dX11_guard_34 : decode cX11_guard 34 = .ok (.istore 4, 2) := by decide +kernel
theorem dX11_guard_36 : decode cX11_guard 36 = .ok (.iconst 0, 1) := by decide +kernel
theorem dX11_guard_37 : decode cX11_guard 37 = .ok (.istore 5, 2) := by decide +kernel
theorem dX11_guard_39 : decode cX11_guard 39 = .ok (.iload 5, 2) := by decide +kernel
theorem dX11_guard_41 : decode cX11_guard 41 = .ok (.iconst 1, 1) := by decide +kernel
theorem dX11_guard_42 : decode cX11_guard 42 = .ok (.aload_n 0, 1) := by decide +kernel
theorem dX11_guard_43 : decode cX11_guard 43 = .ok (.getfield 13, 3) := by decide +kernel
theorem dX11_guard_46 : decode cX11_guard 46 = .ok (.iconst 1, 1) := by decide +kernel
theorem dX11_guard_47 : decode cX11_guard 47 = .ok (.iaload, 1) := by decide +kernel
theorem dX11_guard_48 : decode cX11_guard 48 = .ok (.ishl, 1) := by decide +kernel
theorem dX11_guard_49 : decode cX11_guard 49 = .ok (.if_icmp .ge 64, 3) := by decide +kernel
theorem dX11_guard_52 : decode cX11_guard 52 = .ok (.iload 5, 2) := by decide +kernel
theorem dX11_guard_54 : decode cX11_guard 54 = .ok (.invokestatic 493, 3) := by decide +kernel
theorem dX11_guard_57 : decode cX11_guard 57 = .ok (.iload_n 3, 1) := by decide +kernel
theorem dX11_guard_58 : decode cX11_guard 58 = .ok (.if_icmp .ge 17, 3) := by decide +kernel
theorem dX11_guard_61 : decode cX11_guard 61 = .ok (.aload_n 0, 1) := by decide +kernel
theorem dX11_guard_62 : decode cX11_guard 62 = .ok (.iload 5, 2) := by decide +kernel
theorem dX11_guard_64 : decode cX11_guard 64 = .ok (.iload_n 1, 1) := by decide +kernel
theorem dX11_guard_65 : decode cX11_guard 65 = .ok (.invokevirtual 502, 3) := by decide +kernel
theorem dX11_guard_68 : decode cX11_guard 68 = .ok (.ifCond .eq 7, 3) := by decide +kernel
theorem dX11_guard_71 : decode cX11_guard 71 = .ok (.iconst 1, 1) := by decide +kernel
theorem dX11_guard_72 : decode cX11_guard 72 = .ok (.goto 4, 3) := by decide +kernel
theorem dX11_guard_75 : decode cX11_guard 75 = .ok (.iconst 0, 1) := by decide +kernel
theorem dX11_guard_76 : decode cX11_guard 76 = .ok (.istore 6, 2) := by decide +kernel
theorem dX11_guard_78 : decode cX11_guard 78 = .ok (.iload 6, 2) := by decide +kernel
theorem dX11_guard_80 : decode cX11_guard 80 = .ok (.ifCond .eq 8, 3) := by decide +kernel
theorem dX11_guard_83 : decode cX11_guard 83 = .ok (.iload 5, 2) := by decide +kernel
theorem dX11_guard_85 : decode cX11_guard 85 = .ok (.goto 5, 3) := by decide +kernel
theorem dX11_guard_88 : decode cX11_guard 88 = .ok (.iload 4, 2) := by decide +kernel
theorem dX11_guard_90 : decode cX11_guard 90 = .ok (.istore 4, 2) := by decide +kernel
theorem dX11_guard_92 : decode cX11_guard 92 = .ok (.iload 6, 2) := by decide +kernel
theorem dX11_guard_94 : decode cX11_guard 94 = .ok (.ifCond .eq 11, 3) := by decide +kernel
theorem dX11_guard_97 : decode cX11_guard 97 = .ok (.iload 5, 2) := by decide +kernel
theorem dX11_guard_99 : decode cX11_guard 99 = .ok (.invokestatic 493, 3) := by decide +kernel
theorem dX11_guard_102 : decode cX11_guard 102 = .ok (.goto 4, 3) := by decide +kernel
theorem dX11_guard_105 : decode cX11_guard 105 = .ok (.iload_n 3, 1) := by decide +kernel
theorem dX11_guard_106 : decode cX11_guard 106 = .ok (.istore_n 3, 1) := by decide +kernel
theorem dX11_guard_107 : decode cX11_guard 107 = .ok (.iinc 5 1, 3) := by decide +kernel
theorem dX11_guard_110 : decode cX11_guard 110 = .ok (.goto (-71), 3) := by decide +kernel
theorem dX11_guard_113 : decode cX11_guard 113 = .ok (.iload 4, 2) := by decide +kernel
theorem dX11_guard_115 : decode cX11_guard 115 = .ok (.iconst (-1), 1) := by decide +kernel
theorem dX11_guard_116 : decode cX11_guard 116 = .ok (.if_icmp .eq 8, 3) := by decide +kernel
theorem dX11_guard_119 : decode cX11_guard 119 = .ok (.iload_n 2, 1) := by decide +kernel
theorem dX11_guard_120 : decode cX11_guard 120 = .ok (.iconst 1, 1) := by decide +kernel
theorem dX11_guard_121 : decode cX11_guard 121 = .ok (.if_icmp .ne 8, 3) := by decide +kernel
theorem dX11_guard_124 : decode cX11_guard 124 = .ok (.iload 4, 2) := by decide +kernel
theorem dX11_guard_126 : decode cX11_guard 126 = .ok (.goto 4, 3) := by decide +kernel
theorem dX11_guard_129 : decode cX11_guard 129 = .ok (.iload_n 3, 1) := by decide +kernel
theorem dX11_guard_130 : decode cX11_guard 130 = .ok (.ireturn, 1) := by decide +kernel
theorem dX11_lessons_0 : decode cX11_lessons 0 = .ok (.aload_n 0, 1) := by decide +kernel
theorem dX11_lessons_1 : decode cX11_lessons 1 = .ok (.iconst 0, 1) := by decide +kernel
theorem dX11_lessons_2 : decode cX11_lessons 2 = .ok (.putfield 153, 3) := by decide +kernel
theorem dX11_lessons_5 : decode cX11_lessons 5 = .ok (.iload_n 1, 1) := by decide +kernel
theorem dX11_lessons_6 : decode cX11_lessons 6 = .ok (.i2l, 1) := by decide +kernel
theorem dX11_lessons_7 : decode cX11_lessons 7 = .ok (.lconst 0, 1) := by decide +kernel
theorem dX11_lessons_8 : decode cX11_lessons 8 = .ok (.ldc2_w 342, 3) := by decide +kernel
theorem dX11_lessons_11 : decode cX11_lessons 11 = .ok (.invokestatic 173, 3) := by decide +kernel
theorem dX11_lessons_14 : decode cX11_lessons 14 = .ok (.ifCond .eq 13, 3) := by decide +kernel
theorem dX11_lessons_17 : decode cX11_lessons 17 = .ok (.iload_n 1, 1) := by decide +kernel
theorem dX11_lessons_18 : decode cX11_lessons 18 = .ok (.aload_n 0, 1) := by decide +kernel
theorem dX11_lessons_19 : decode cX11_lessons 19 = .ok (.getfield 13, 3) := by decide +kernel
theorem dX11_lessons_22 : decode cX11_lessons 22 = .ok (.iconst 1, 1) := by decide +kernel
theorem dX11_lessons_23 : decode cX11_lessons 23 = .ok (.iaload, 1) := by decide +kernel
theorem dX11_lessons_24 : decode cX11_lessons 24 = .ok (.if_icmp .le 5, 3) := by decide +kernel
theorem dX11_lessons_27 : decode cX11_lessons 27 = .ok (.iconst (-1), 1) := by decide +kernel
theorem dX11_lessons_28 : decode cX11_lessons 28 = .ok (.ireturn, 1) := by decide +kernel
theorem dX11_lessons_29 : decode cX11_lessons 29 = .ok (.iconst 0, 1) := by decide +kernel
theorem dX11_lessons_30 : decode cX11_lessons 30 = .ok (.istore_n 2, 1) := by decide +kernel
theorem dX11_lessons_31 : decode cX11_lessons 31 = .ok (.iconst 0, 1) := by decide +kernel
theorem dX11_lessons_32 : decode cX11_lessons 32 = .ok (.istore_n 3, 1) := by decide +kernel
theorem dX11_lessons_33 : decode cX11_lessons 33 = .ok (.iload_n 3, 1) := by decide +kernel
theorem dX11_lessons_34 : decode cX11_lessons 34 = .ok (.aload_n 0, 1) := by decide +kernel
theorem dX11_lessons_35 : decode cX11_lessons 35 = .ok (.getfield 13, 3) := by decide +kernel
theorem dX11_lessons_38 : decode cX11_lessons 38 = .ok (.iconst 0, 1) := by decide +kernel
theorem dX11_lessons_39 : decode cX11_lessons 39 = .ok (.iaload, 1) := by decide +kernel
theorem dX11_lessons_40 : decode cX11_lessons 40 = .ok (.if_icmp .ge 35, 3) := by decide +kernel
theorem dX11_lessons_43 : decode cX11_lessons 43 = .ok (.iload_n 1, 1) := by decide +kernel
theorem dX11_lessons_44 : decode cX11_lessons 44 = .ok (.aload_n 0, 1) := by decide +kernel
theorem dX11_lessons_45 : decode cX11_lessons 45 = .ok (.iload_n 3, 1) := by decide +kernel
theorem dX11_lessons_46 : decode cX11_lessons 46 = .ok (.invokevirtual 206, 3) := by decide +kernel
theorem dX11_lessons_49 : decode cX11_lessons 49 = .ok (.invokestatic 493, 3) := by decide +kernel
theorem dX11_lessons_52 : decode cX11_lessons 52 = .ok (.isub, 1) := by decide +kernel
theorem dX11_lessons_53 : decode cX11_lessons 53 = .ok (.istore 4, 2) := by decide +kernel
theorem dX11_lessons_55 : decode cX11_lessons 55 = .ok (.iload_n 2, 1) := by decide +kernel
theorem dX11_lessons_56 : decode cX11_lessons 56 = .ok (.iload 4, 2) := by decide +kernel
theorem dX11_lessons_58 : decode cX11_lessons 58 = .ok (.ifCond .le 8, 3) := by decide +kernel
theorem dX11_lessons_61 : decode cX11_lessons 61 = .ok (.iload 4, 2) := by decide +kernel
theorem dX11_lessons_63 : decode cX11_lessons 63 = .ok (.goto 4, 3) := by decide +kernel
theorem dX11_lessons_66 : decode cX11_lessons 66 = .ok (.iconst 0, 1) := by decide +kernel
theorem dX11_lessons_67 : decode cX11_lessons 67 = .ok (.iadd, 1) := by decide +kernel
theorem dX11_lessons_68 : decode cX11_lessons 68 = .ok (.istore_n 2, 1) := by decide +kernel
theorem dX11_lessons_69 : decode cX11_lessons 69 = .ok (.iinc 3 1, 3) := by decide +kernel
theorem dX11_lessons_72 : decode cX11_lessons 72 = .ok (.goto (-39), 3) := by decide +kernel
theorem dX11_lessons_75 : decode cX11_lessons 75 = .ok (.iload_n 2, 1) := by decide +kernel
theorem dX11_lessons_76 : decode cX11_lessons 76 = .ok (.ireturn, 1) := by decide +kernel
theorem dX11_layDrift_0 : decode cX11_layDrift 0 = .ok (.iconst 0, 1) := by decide +kernel
theorem dX11_layDrift_1 : decode cX11_layDrift 1 = .ok (.istore_n 3, 1) := by decide +kernel
theorem dX11_layDrift_2 : decode cX11_layDrift 2 = .ok (.iload_n 3, 1) := by decide +kernel
theorem dX11_layDrift_3 : decode cX11_layDrift 3 = .ok (.bipush 25, 2) := by decide +kernel
theorem dX11_layDrift_5 : decode cX11_layDrift 5 = .ok (.if_icmp .ge 35, 3) := by decide +kernel
theorem dX11_layDrift_8 : decode cX11_layDrift 8 = .ok (.aload_n 0, 1) := by decide +kernel
theorem dX11_layDrift_9 : decode cX11_layDrift 9 = .ok (.getfield 121, 3) := by decide +kernel
theorem dX11_layDrift_12 : decode cX11_layDrift 12 = .ok (.iload_n 3, 1) := by decide +kernel
theorem dX11_layDrift_13 : decode cX11_layDrift 13 = .ok (.iload_n 3, 1) := by decide +kernel
theorem dX11_layDrift_14 : decode cX11_layDrift 14 = .ok (.aload_n 0, 1) := by decide +kernel
theorem dX11_layDrift_15 : decode cX11_layDrift 15 = .ok (.getfield 13, 3) := by decide +kernel
theorem dX11_layDrift_18 : decode cX11_layDrift 18 = .ok (.bipush 9, 2) := by decide +kernel
theorem dX11_layDrift_20 : decode cX11_layDrift 20 = .ok (.iload_n 1, 1) := by decide +kernel
theorem dX11_layDrift_21 : decode cX11_layDrift 21 = .ok (.iadd, 1) := by decide +kernel
theorem dX11_layDrift_22 : decode cX11_layDrift 22 = .ok (.iaload, 1) := by decide +kernel
theorem dX11_layDrift_23 : decode cX11_layDrift 23 = .ok (.if_icmp .ne 9, 3) := by decide +kernel
theorem dX11_layDrift_26 : decode cX11_layDrift 26 = .ok (.ldc2_w 505, 3) := by decide +kernel
theorem dX11_layDrift_29 : decode cX11_layDrift 29 = .ok (.goto 4, 3) := by decide +kernel
theorem dX11_layDrift_32 : decode cX11_layDrift 32 = .ok (.lconst 0, 1) := by decide +kernel
theorem dX11_layDrift_33 : decode cX11_layDrift 33 = .ok (.lastore, 1) := by decide +kernel
theorem dX11_layDrift_34 : decode cX11_layDrift 34 = .ok (.iinc 3 1, 3) := by decide +kernel
theorem dX11_layDrift_37 : decode cX11_layDrift 37 = .ok (.goto (-35), 3) := by decide +kernel
theorem dX11_layDrift_40 : decode cX11_layDrift 40 = .ok (.aload_n 0, 1) := by decide +kernel
theorem dX11_layDrift_41 : decode cX11_layDrift 41 = .ok (.getfield 13, 3) := by decide +kernel
theorem dX11_layDrift_44 : decode cX11_layDrift 44 = .ok (.bipush 6, 2) := by decide +kernel
theorem dX11_layDrift_46 : decode cX11_layDrift 46 = .ok (.iaload, 1) := by decide +kernel
theorem dX11_layDrift_47 : decode cX11_layDrift 47 = .ok (.istore_n 3, 1) := by decide +kernel
theorem dX11_layDrift_48 : decode cX11_layDrift 48 = .ok (.iconst 0, 1) := by decide +kernel
theorem dX11_layDrift_49 : decode cX11_layDrift 49 = .ok (.istore 4, 2) := by decide +kernel
theorem dX11_layDrift_51 : decode cX11_layDrift 51 = .ok (.iload 4, 2) := by decide +kernel
theorem dX11_layDrift_53 : decode cX11_layDrift 53 = .ok (.iload_n 2, 1) := by decide +kernel
theorem dX11_layDrift_54 : decode cX11_layDrift 54 = .ok (.if_icmp .ge 179, 3) := by decide +kernel
theorem dX11_layDrift_57 : decode cX11_layDrift 57 = .ok (.iconst 0, 1) := by decide +kernel
theorem dX11_layDrift_58 : decode cX11_layDrift 58 = .ok (.istore 5, 2) := by decide +kernel
theorem dX11_layDrift_60 : decode cX11_layDrift 60 = .ok (.iload 5, 2) := by decide +kernel
theorem dX11_layDrift_62 : decode cX11_layDrift 62 = .ok (.bipush 25, 2) := by decide +kernel
theorem dX11_layDrift_64 : decode cX11_layDrift 64 = .ok (.if_icmp .ge 17, 3) := by decide +kernel
theorem dX11_layDrift_67 : decode cX11_layDrift 67 = .ok (.aload_n 0, 1) := by decide +kernel
theorem dX11_layDrift_68 : decode cX11_layDrift 68 = .ok (.getfield 124, 3) := by decide +kernel
theorem dX11_layDrift_71 : decode cX11_layDrift 71 = .ok (.iload 5, 2) := by decide +kernel
theorem dX11_layDrift_73 : decode cX11_layDrift 73 = .ok (.lconst 0, 1) := by decide +kernel
theorem dX11_layDrift_74 : decode cX11_layDrift 74 = .ok (.lastore, 1) := by decide +kernel
theorem dX11_layDrift_75 : decode cX11_layDrift 75 = .ok (.iinc 5 1, 3) := by decide +kernel
theorem dX11_layDrift_78 : decode cX11_layDrift 78 = .ok (.goto (-18), 3) := by decide +kernel
theorem dX11_layDrift_81 : decode cX11_layDrift 81 = .ok (.iconst 0, 1) := by decide +kernel
theorem dX11_layDrift_82 : decode cX11_layDrift 82 = .ok (.istore 5, 2) := by decide +kernel
theorem dX11_layDrift_84 : decode cX11_layDrift 84 = .ok (.iload 5, 2) := by decide +kernel
theorem dX11_layDrift_86 : decode cX11_layDrift 86 = .ok (.bipush 25, 2) := by decide +kernel
theorem dX11_layDrift_88 : decode cX11_layDrift 88 = .ok (.if_icmp .ge 109, 3) := by decide +kernel
theorem dX11_layDrift_91 : decode cX11_layDrift 91 = .ok (.aload_n 0, 1) := by decide +kernel
theorem dX11_layDrift_92 : decode cX11_layDrift 92 = .ok (.getfield 121, 3) := by decide +kernel
theorem dX11_layDrift_95 : decode cX11_layDrift 95 = .ok (.iload 5, 2) := by decide +kernel
theorem dX11_layDrift_97 : decode cX11_layDrift 97 = .ok (.laload, 1) := by decide +kernel
theorem dX11_layDrift_98 : decode cX11_layDrift 98 = .ok (.iload_n 3, 1) := by decide +kernel
theorem dX11_layDrift_99 : decode cX11_layDrift 99 = .ok (.i2l, 1) := by decide +kernel
theorem dX11_layDrift_100 : decode cX11_layDrift 100 = .ok (.lmul, 1) := by decide +kernel
theorem dX11_layDrift_101 : decode cX11_layDrift 101 = .ok (.ldc2_w 282, 3) := by decide +kernel
theorem dX11_layDrift_104 : decode cX11_layDrift 104 = .ok (.ldiv, 1) := by decide +kernel
theorem dX11_layDrift_105 : decode cX11_layDrift 105 = .ok (.lstore 6, 2) := by decide +kernel
theorem dX11_layDrift_107 : decode cX11_layDrift 107 = .ok (.aload_n 0, 1) := by decide +kernel
theorem dX11_layDrift_108 : decode cX11_layDrift 108 = .ok (.getfield 121, 3) := by decide +kernel
theorem dX11_layDrift_111 : decode cX11_layDrift 111 = .ok (.iload 5, 2) := by decide +kernel
theorem dX11_layDrift_113 : decode cX11_layDrift 113 = .ok (.laload, 1) := by decide +kernel
theorem dX11_layDrift_114 : decode cX11_layDrift 114 = .ok (.lstore 8, 2) := by decide +kernel
theorem dX11_layDrift_116 : decode cX11_layDrift 116 = .ok (.iconst 1, 1) := by decide +kernel
theorem dX11_layDrift_117 : decode cX11_layDrift 117 = .ok (.istore 10, 2) := by decide +kernel
theorem dX11_layDrift_119 : decode cX11_layDrift 119 = .ok (.iload 10, 2) := by decide +kernel
theorem dX11_layDrift_121 : decode cX11_layDrift 121 = .ok (.iconst 5, 1) := by decide +kernel
theorem dX11_layDrift_122 : decode cX11_layDrift 122 = .ok (.if_icmp .ge 57, 3) := by decide +kernel
theorem dX11_layDrift_125 : decode cX11_layDrift 125 = .ok (.iload 5, 2) := by decide +kernel
theorem dX11_layDrift_127 : decode cX11_layDrift 127 = .ok (.iload 10, 2) := by decide +kernel
theorem dX11_layDrift_129 : decode cX11_layDrift 129 = .ok (.invokestatic 454, 3) := by decide +kernel
theorem dX11_layDrift_132 : decode cX11_layDrift 132 = .ok (.istore 11, 2) := by decide +kernel
theorem dX11_layDrift_134 : decode cX11_layDrift 134 = .ok (.iload 11, 2) := by decide +kernel
theorem dX11_layDrift_136 : decode cX11_layDrift 136 = .ok (.iconst (-1), 1) := by decide +kernel
theorem dX11_layDrift_137 : decode cX11_layDrift 137 = .ok (.if_icmp .eq 36, 3) := by decide +kernel
theorem dX11_layDrift_140 : decode cX11_layDrift 140 = .ok (.aload_n 0, 1) := by decide +kernel
theorem dX11_layDrift_141 : decode cX11_layDrift 141 = .ok (.getfield 13, 3) := by decide +kernel
theorem dX11_layDrift_144 : decode cX11_layDrift 144 = .ok (.bipush 26, 2) := by decide +kernel
theorem dX11_layDrift_146 : decode cX11_layDrift 146 = .ok (.iload 11, 2) := by decide +kernel
theorem dX11_layDrift_148 : decode cX11_layDrift 148 = .ok (.iadd, 1) := by decide +kernel
theorem dX11_layDrift_149 : decode cX11_layDrift 149 = .ok (.iaload, 1) := by decide +kernel
theorem dX11_layDrift_150 : decode cX11_layDrift 150 = .ok (.iconst 3, 1) := by decide +kernel
theorem dX11_layDrift_151 : decode cX11_layDrift 151 = .ok (.if_icmp .eq 22, 3) := by decide +kernel
theorem dX11_layDrift_154 : decode cX11_layDrift 154 = .ok (.aload_n 0, 1) := by decide +kernel
theorem dX11_layDrift_155 : decode cX11_layDrift 155 = .ok (.getfield 124, 3) := by decide +kernel
theorem dX11_layDrift_158 : decode cX11_layDrift 158 = .ok (.iload 11, 2) := by decide +kernel
theorem dX11_layDrift_160 : decode cX11_layDrift 160 = .ok (.dup2, 1) := by decide +kernel
theorem dX11_layDrift_161 : decode cX11_layDrift 161 = .ok (.laload, 1) := by decide +kernel
theorem dX11_layDrift_162 : decode cX11_layDrift 162 = .ok (.lload 6, 2) := by decide +kernel
theorem dX11_layDrift_164 : decode cX11_layDrift 164 = .ok (.ladd, 1) := by decide +kernel
theorem dX11_layDrift_165 : decode cX11_layDrift 165 = .ok (.lastore, 1) := by decide +kernel
theorem dX11_layDrift_166 : decode cX11_layDrift 166 = .ok (.lload 8, 2) := by decide +kernel
theorem dX11_layDrift_168 : decode cX11_layDrift 168 = .ok (.lload 6, 2) := by decide +kernel
theorem dX11_layDrift_170 : decode cX11_layDrift 170 = .ok (.lsub, 1) := by decide +kernel
theorem dX11_layDrift_171 : decode cX11_layDrift 171 = .ok (.lstore 8, 2) := by decide +kernel
theorem dX11_layDrift_173 : decode cX11_layDrift 173 = .ok (.iinc 10 1, 3) := by decide +kernel
theorem dX11_layDrift_176 : decode cX11_layDrift 176 = .ok (.goto (-57), 3) := by decide +kernel
theorem dX11_layDrift_179 : decode cX11_layDrift 179 = .ok (.aload_n 0, 1) := by decide +kernel
theorem dX11_layDrift_180 : decode cX11_layDrift 180 = .ok (.getfield 124, 3) := by decide +kernel
theorem dX11_layDrift_183 : decode cX11_layDrift 183 = .ok (.iload 5, 2) := by decide +kernel
theorem dX11_layDrift_185 : decode cX11_layDrift 185 = .ok (.dup2, 1) := by decide +kernel
theorem dX11_layDrift_186 : decode cX11_layDrift 186 = .ok (.laload, 1) := by decide +kernel
theorem dX11_layDrift_187 : decode cX11_layDrift 187 = .ok (.lload 8, 2) := by decide +kernel
theorem dX11_layDrift_189 : decode cX11_layDrift 189 = .ok (.ladd, 1) := by decide +kernel
theorem dX11_layDrift_190 : decode cX11_layDrift 190 = .ok (.lastore, 1) := by decide +kernel
theorem dX11_layDrift_191 : decode cX11_layDrift 191 = .ok (.iinc 5 1, 3) := by decide +kernel
theorem dX11_layDrift_194 : decode cX11_layDrift 194 = .ok (.goto (-110), 3) := by decide +kernel
theorem dX11_layDrift_197 : decode cX11_layDrift 197 = .ok (.iconst 0, 1) := by decide +kernel
theorem dX11_layDrift_198 : decode cX11_layDrift 198 = .ok (.istore 5, 2) := by decide +kernel
theorem dX11_layDrift_200 : decode cX11_layDrift 200 = .ok (.iload 5, 2) := by decide +kernel
theorem dX11_layDrift_202 : decode cX11_layDrift 202 = .ok (.bipush 25, 2) := by decide +kernel
theorem dX11_layDrift_204 : decode cX11_layDrift 204 = .ok (.if_icmp .ge 23, 3) := by decide +kernel
theorem dX11_layDrift_207 : decode cX11_layDrift 207 = .ok (.aload_n 0, 1) := by decide +kernel
theorem dX11_layDrift_208 : decode cX11_layDrift 208 = .ok (.getfield 121, 3) := by decide +kernel
theorem dX11_layDrift_211 : decode cX11_layDrift 211 = .ok (.iload 5, 2) := by decide +kernel
theorem dX11_layDrift_213 : decode cX11_layDrift 213 = .ok (.aload_n 0, 1) := by decide +kernel
theorem dX11_layDrift_214 : decode cX11_layDrift 214 = .ok (.getfield 124, 3) := by decide +kernel
theorem dX11_layDrift_217 : decode cX11_layDrift 217 = .ok (.iload 5, 2) := by decide +kernel
theorem dX11_layDrift_219 : decode cX11_layDrift 219 = .ok (.laload, 1) := by decide +kernel
theorem dX11_layDrift_220 : decode cX11_layDrift 220 = .ok (.lastore, 1) := by decide +kernel
theorem dX11_layDrift_221 : decode cX11_layDrift 221 = .ok (.iinc 5 1, 3) := by decide +kernel
theorem dX11_layDrift_224 : decode cX11_layDrift 224 = .ok (.goto (-24), 3) := by decide +kernel
theorem dX11_layDrift_227 : decode cX11_layDrift 227 = .ok (.iinc 4 1, 3) := by decide +kernel
theorem dX11_layDrift_230 : decode cX11_layDrift 230 = .ok (.goto (-179), 3) := by decide +kernel
theorem dX11_layDrift_233 : decode cX11_layDrift 233 = .ok (.return_, 1) := by decide +kernel
theorem dX11_drift_0 : decode cX11_drift 0 = .ok (.aload_n 0, 1) := by decide +kernel
theorem dX11_drift_1 : decode cX11_drift 1 = .ok (.iconst 0, 1) := by decide +kernel
theorem dX11_drift_2 : decode cX11_drift 2 = .ok (.putfield 153, 3) := by decide +kernel
theorem dX11_drift_5 : decode cX11_drift 5 = .ok (.aload_n 0, 1) := by decide +kernel
theorem dX11_drift_6 : decode cX11_drift 6 = .ok (.iload_n 1, 1) := by decide +kernel
theorem dX11_drift_7 : decode cX11_drift 7 = .ok (.invokevirtual 197, 3) := by decide +kernel
theorem dX11_drift_10 : decode cX11_drift 10 = .ok (.ifCond .eq 30, 3) := by decide +kernel
theorem dX11_drift_13 : decode cX11_drift 13 = .ok (.iload_n 2, 1) := by decide +kernel
theorem dX11_drift_14 : decode cX11_drift 14 = .ok (.i2l, 1) := by decide +kernel
theorem dX11_drift_15 : decode cX11_drift 15 = .ok (.lconst 0, 1) := by decide +kernel
theorem dX11_drift_16 : decode cX11_drift 16 = .ok (.ldc2_w 472, 3) := by decide +kernel
theorem dX11_drift_19 : decode cX11_drift 19 = .ok (.invokestatic 173, 3) := by decide +kernel
theorem dX11_drift_22 : decode cX11_drift 22 = .ok (.ifCond .eq 18, 3) := by decide +kernel
theorem dX11_drift_25 : decode cX11_drift 25 = .ok (.iload_n 3, 1) := by decide +kernel
theorem dX11_drift_26 : decode cX11_drift 26 = .ok (.invokestatic 190, 3) := by decide +kernel
theorem dX11_drift_29 : decode cX11_drift 29 = .ok (.ifCond .eq 11, 3) := by decide +kernel
theorem dX11_drift_32 : decode cX11_drift 32 = .ok (.aload_n 0, 1) := by decide +kernel
theorem dX11_drift_33 : decode cX11_drift 33 = .ok (.iload_n 1, 1) := by decide +kernel
theorem dX11_drift_34 : decode cX11_drift 34 = .ok (.invokevirtual 182, 3) := by decide +kernel
theorem dX11_drift_37 : decode cX11_drift 37 = .ok (.ifCond .ne 7, 3) := by decide +kernel
theorem dX11_drift_40 : decode cX11_drift 40 = .ok (.ldc2_w 278, 3) := by decide +kernel
theorem dX11_drift_43 : decode cX11_drift 43 = .ok (.lreturn, 1) := by decide +kernel
theorem dX11_drift_44 : decode cX11_drift 44 = .ok (.aload_n 0, 1) := by decide +kernel
theorem dX11_drift_45 : decode cX11_drift 45 = .ok (.iload_n 1, 1) := by decide +kernel
theorem dX11_drift_46 : decode cX11_drift 46 = .ok (.iload_n 2, 1) := by decide +kernel
theorem dX11_drift_47 : decode cX11_drift 47 = .ok (.invokevirtual 507, 3) := by decide +kernel
theorem dX11_drift_50 : decode cX11_drift 50 = .ok (.aload_n 0, 1) := by decide +kernel
theorem dX11_drift_51 : decode cX11_drift 51 = .ok (.getfield 121, 3) := by decide +kernel
theorem dX11_drift_54 : decode cX11_drift 54 = .ok (.iload_n 3, 1) := by decide +kernel
theorem dX11_drift_55 : decode cX11_drift 55 = .ok (.laload, 1) := by decide +kernel
theorem dX11_drift_56 : decode cX11_drift 56 = .ok (.lreturn, 1) := by decide +kernel
theorem dX11_sodden_0 : decode cX11_sodden 0 = .ok (.aload_n 0, 1) := by decide +kernel
theorem dX11_sodden_1 : decode cX11_sodden 1 = .ok (.iconst 0, 1) := by decide +kernel
theorem dX11_sodden_2 : decode cX11_sodden 2 = .ok (.putfield 153, 3) := by decide +kernel
theorem dX11_sodden_5 : decode cX11_sodden 5 = .ok (.aload_n 0, 1) := by decide +kernel
theorem dX11_sodden_6 : decode cX11_sodden 6 = .ok (.iload_n 1, 1) := by decide +kernel
theorem dX11_sodden_7 : decode cX11_sodden 7 = .ok (.invokevirtual 197, 3) := by decide +kernel
theorem dX11_sodden_10 : decode cX11_sodden 10 = .ok (.ifCond .eq 23, 3) := by decide +kernel
theorem dX11_sodden_13 : decode cX11_sodden 13 = .ok (.iload_n 2, 1) := by decide +kernel
theorem dX11_sodden_14 : decode cX11_sodden 14 = .ok (.i2l, 1) := by decide +kernel
theorem dX11_sodden_15 : decode cX11_sodden 15 = .ok (.lconst 0, 1) := by decide +kernel
theorem dX11_sodden_16 : decode cX11_sodden 16 = .ok (.ldc2_w 472, 3) := by decide +kernel
theorem dX11_sodden_19 : decode cX11_sodden 19 = .ok (.invokestatic 173, 3) := by decide +kernel
theorem dX11_sodden_22 : decode cX11_sodden 22 = .ok (.ifCond .eq 11, 3) := by decide +kernel
theorem dX11_sodden_25 : decode cX11_sodden 25 = .ok (.aload_n 0, 1) := by decide +kernel
theorem dX11_sodden_26 : decode cX11_sodden 26 = .ok (.iload_n 1, 1) := by decide +kernel
theorem dX11_sodden_27 : decode cX11_sodden 27 = .ok (.invokevirtual 182, 3) := by decide +kernel
theorem dX11_sodden_30 : decode cX11_sodden 30 = .ok (.ifCond .ne 5, 3) := by decide +kernel
theorem dX11_sodden_33 : decode cX11_sodden 33 = .ok (.iconst (-1), 1) := by decide +kernel
theorem dX11_sodden_34 : decode cX11_sodden 34 = .ok (.ireturn, 1) := by decide +kernel
theorem dX11_sodden_35 : decode cX11_sodden 35 = .ok (.aload_n 0, 1) := by decide +kernel
theorem dX11_sodden_36 : decode cX11_sodden 36 = .ok (.iload_n 1, 1) := by decide +kernel
theorem dX11_sodden_37 : decode cX11_sodden 37 = .ok (.iload_n 2, 1) := by decide +kernel
theorem dX11_sodden_38 : decode cX11_sodden 38 = .ok (.invokevirtual 507, 3) := by decide +kernel
theorem dX11_sodden_41 : decode cX11_sodden 41 = .ok (.iconst 0, 1) := by decide +kernel
theorem dX11_sodden_42 : decode cX11_sodden 42 = .ok (.istore_n 3, 1) := by decide +kernel
theorem dX11_sodden_43 : decode cX11_sodden 43 = .ok (.iconst 1, 1) := by decide +kernel
theorem dX11_sodden_44 : decode cX11_sodden 44 = .ok (.istore 4, 2) := by decide +kernel
theorem dX11_sodden_46 : decode cX11_sodden 46 = .ok (.iload 4, 2) := by decide +kernel
theorem dX11_sodden_48 : decode cX11_sodden 48 = .ok (.bipush 25, 2) := by decide +kernel
theorem dX11_sodden_50 : decode cX11_sodden 50 = .ok (.if_icmp .ge 33, 3) := by decide +kernel
theorem dX11_sodden_53 : decode cX11_sodden 53 = .ok (.aload_n 0, 1) := by decide +kernel
theorem dX11_sodden_54 : decode cX11_sodden 54 = .ok (.getfield 121, 3) := by decide +kernel
theorem dX11_sodden_57 : decode cX11_sodden 57 = .ok (.iload 4, 2) := by decide +kernel
theorem dX11_sodden_59 : decode cX11_sodden 59 = .ok (.laload, 1) := by decide +kernel
theorem dX11_sodden_60 : decode cX11_sodden 60 = .ok (.aload_n 0, 1) := by decide +kernel
theorem dX11_sodden_61 : decode cX11_sodden 61 = .ok (.getfield 121, 3) := by decide +kernel
theorem dX11_sodden_64 : decode cX11_sodden 64 = .ok (.iload_n 3, 1) := by decide +kernel
theorem dX11_sodden_65 : decode cX11_sodden 65 = .ok (.laload, 1) := by decide +kernel
theorem dX11_sodden_66 : decode cX11_sodden 66 = .ok (.lcmp, 1) := by decide +kernel
theorem dX11_sodden_67 : decode cX11_sodden 67 = .ok (.ifCond .le 8, 3) := by decide +kernel
theorem dX11_sodden_70 : decode cX11_sodden 70 = .ok (.iload 4, 2) := by decide +kernel
theorem dX11_sodden_72 : decode cX11_sodden 72 = .ok (.goto 4, 3) := by decide +kernel
theorem dX11_sodden_75 : decode cX11_sodden 75 = .ok (.iload_n 3, 1) := by decide +kernel
theorem dX11_sodden_76 : decode cX11_sodden 76 = .ok (.istore_n 3, 1) := by decide +kernel
theorem dX11_sodden_77 : decode cX11_sodden 77 = .ok (.iinc 4 1, 3) := by decide +kernel
theorem dX11_sodden_80 : decode cX11_sodden 80 = .ok (.goto (-34), 3) := by decide +kernel
theorem dX11_sodden_83 : decode cX11_sodden 83 = .ok (.iload_n 3, 1) := by decide +kernel
theorem dX11_sodden_84 : decode cX11_sodden 84 = .ok (.ireturn, 1) := by decide +kernel
theorem dX11_hot_0 : decode cX11_hot 0 = .ok (.aload_n 0, 1) := by decide +kernel
theorem dX11_hot_1 : decode cX11_hot 1 = .ok (.iconst 0, 1) := by decide +kernel
theorem dX11_hot_2 : decode cX11_hot 2 = .ok (.putfield 153, 3) := by decide +kernel
theorem dX11_hot_5 : decode cX11_hot 5 = .ok (.aload_n 0, 1) := by decide +kernel
theorem dX11_hot_6 : decode cX11_hot 6 = .ok (.iload_n 1, 1) := by decide +kernel
theorem dX11_hot_7 : decode cX11_hot 7 = .ok (.invokevirtual 397, 3) := by decide +kernel
theorem dX11_hot_10 : decode cX11_hot 10 = .ok (.ifCond .eq 15, 3) := by decide +kernel
theorem dX11_hot_13 : decode cX11_hot 13 = .ok (.iload_n 2, 1) := by decide +kernel
theorem dX11_hot_14 : decode cX11_hot 14 = .ok (.i2l, 1) := by decide +kernel
theorem dX11_hot_15 : decode cX11_hot 15 = .ok (.lconst 0, 1) := by decide +kernel
theorem dX11_hot_16 : decode cX11_hot 16 = .ok (.ldc2_w 472, 3) := by decide +kernel
theorem dX11_hot_19 : decode cX11_hot 19 = .ok (.invokestatic 173, 3) := by decide +kernel
theorem dX11_hot_22 : decode cX11_hot 22 = .ok (.ifCond .ne 5, 3) := by decide +kernel
theorem dX11_hot_25 : decode cX11_hot 25 = .ok (.iconst (-1), 1) := by decide +kernel
theorem dX11_hot_26 : decode cX11_hot 26 = .ok (.ireturn, 1) := by decide +kernel
theorem dX11_hot_27 : decode cX11_hot 27 = .ok (.aload_n 0, 1) := by decide +kernel
theorem dX11_hot_28 : decode cX11_hot 28 = .ok (.getfield 13, 3) := by decide +kernel
theorem dX11_hot_31 : decode cX11_hot 31 = .ok (.iconst 4, 1) := by decide +kernel
theorem dX11_hot_32 : decode cX11_hot 32 = .ok (.iaload, 1) := by decide +kernel
theorem dX11_hot_33 : decode cX11_hot 33 = .ok (.istore_n 3, 1) := by decide +kernel
theorem dX11_hot_34 : decode cX11_hot 34 = .ok (.aload_n 0, 1) := by decide +kernel
theorem dX11_hot_35 : decode cX11_hot 35 = .ok (.getfield 13, 3) := by decide +kernel
theorem dX11_hot_38 : decode cX11_hot 38 = .ok (.iconst 4, 1) := by decide +kernel
theorem dX11_hot_39 : decode cX11_hot 39 = .ok (.iload_n 1, 1) := by decide +kernel
theorem dX11_hot_40 : decode cX11_hot 40 = .ok (.iastore, 1) := by decide +kernel
theorem dX11_hot_41 : decode cX11_hot 41 = .ok (.aload_n 0, 1) := by decide +kernel
theorem dX11_hot_42 : decode cX11_hot 42 = .ok (.bipush 16, 2) := by decide +kernel
theorem dX11_hot_44 : decode cX11_hot 44 = .ok (.invokevirtual 166, 3) := by decide +kernel
theorem dX11_hot_47 : decode cX11_hot 47 = .ok (.iconst 0, 1) := by decide +kernel
theorem dX11_hot_48 : decode cX11_hot 48 = .ok (.istore 4, 2) := by decide +kernel
theorem dX11_hot_50 : decode cX11_hot 50 = .ok (.iload 4, 2) := by decide +kernel
theorem dX11_hot_52 : decode cX11_hot 52 = .ok (.iload_n 2, 1) := by decide +kernel
theorem dX11_hot_53 : decode cX11_hot 53 = .ok (.if_icmp .ge 13, 3) := by decide +kernel
theorem dX11_hot_56 : decode cX11_hot 56 = .ok (.aload_n 0, 1) := by decide +kernel
theorem dX11_hot_57 : decode cX11_hot 57 = .ok (.invokevirtual 466, 3) := by decide +kernel
theorem dX11_hot_60 : decode cX11_hot 60 = .ok (.iinc 4 1, 3) := by decide +kernel
theorem dX11_hot_63 : decode cX11_hot 63 = .ok (.goto (-13), 3) := by decide +kernel
theorem dX11_hot_66 : decode cX11_hot 66 = .ok (.iconst 0, 1) := by decide +kernel
theorem dX11_hot_67 : decode cX11_hot 67 = .ok (.istore 4, 2) := by decide +kernel
theorem dX11_hot_69 : decode cX11_hot 69 = .ok (.iconst 0, 1) := by decide +kernel
theorem dX11_hot_70 : decode cX11_hot 70 = .ok (.istore 5, 2) := by decide +kernel
theorem dX11_hot_72 : decode cX11_hot 72 = .ok (.iload 5, 2) := by decide +kernel
theorem dX11_hot_74 : decode cX11_hot 74 = .ok (.aload_n 0, 1) := by decide +kernel
theorem dX11_hot_75 : decode cX11_hot 75 = .ok (.getfield 13, 3) := by decide +kernel
theorem dX11_hot_78 : decode cX11_hot 78 = .ok (.iconst 0, 1) := by decide +kernel
theorem dX11_hot_79 : decode cX11_hot 79 = .ok (.iaload, 1) := by decide +kernel
theorem dX11_hot_80 : decode cX11_hot 80 = .ok (.if_icmp .ge 24, 3) := by decide +kernel
theorem dX11_hot_83 : decode cX11_hot 83 = .ok (.iload 4, 2) := by decide +kernel
theorem dX11_hot_85 : decode cX11_hot 85 = .ok (.aload_n 0, 1) := by decide +kernel
theorem dX11_hot_86 : decode cX11_hot 86 = .ok (.getfield 13, 3) := by decide +kernel
theorem dX11_hot_89 : decode cX11_hot 89 = .ok (.bipush 15, 2) := by decide +kernel
theorem dX11_hot_91 : decode cX11_hot 91 = .ok (.iload 5, 2) := by decide +kernel
theorem dX11_hot_93 : decode cX11_hot 93 = .ok (.iadd, 1) := by decide +kernel
theorem dX11_hot_94 : decode cX11_hot 94 = .ok (.iaload, 1) := by decide +kernel
theorem dX11_hot_95 : decode cX11_hot 95 = .ok (.iadd, 1) := by decide +kernel
theorem dX11_hot_96 : decode cX11_hot 96 = .ok (.istore 4, 2) := by decide +kernel
theorem dX11_hot_98 : decode cX11_hot 98 = .ok (.iinc 5 1, 3) := by decide +kernel
theorem dX11_hot_101 : decode cX11_hot 101 = .ok (.goto (-29), 3) := by decide +kernel
theorem dX11_hot_104 : decode cX11_hot 104 = .ok (.aload_n 0, 1) := by decide +kernel
theorem dX11_hot_105 : decode cX11_hot 105 = .ok (.bipush 16, 2) := by decide +kernel
theorem dX11_hot_107 : decode cX11_hot 107 = .ok (.invokevirtual 170, 3) := by decide +kernel
theorem dX11_hot_110 : decode cX11_hot 110 = .ok (.aload_n 0, 1) := by decide +kernel
theorem dX11_hot_111 : decode cX11_hot 111 = .ok (.getfield 13, 3) := by decide +kernel
theorem dX11_hot_114 : decode cX11_hot 114 = .ok (.iconst 4, 1) := by decide +kernel
theorem dX11_hot_115 : decode cX11_hot 115 = .ok (.iload_n 3, 1) := by decide +kernel
theorem dX11_hot_116 : decode cX11_hot 116 = .ok (.iastore, 1) := by decide +kernel
theorem dX11_hot_117 : decode cX11_hot 117 = .ok (.iload 4, 2) := by decide +kernel
theorem dX11_hot_119 : decode cX11_hot 119 = .ok (.ireturn, 1) := by decide +kernel
theorem dX11_readSum_0 : decode cX11_readSum 0 = .ok (.aload_n 0, 1) := by decide +kernel
theorem dX11_readSum_1 : decode cX11_readSum 1 = .ok (.getfield 138, 3) := by decide +kernel
theorem dX11_readSum_4 : decode cX11_readSum 4 = .ok (.iload_n 1, 1) := by decide +kernel
theorem dX11_readSum_5 : decode cX11_readSum 5 = .ok (.aload_n 0, 1) := by decide +kernel
theorem dX11_readSum_6 : decode cX11_readSum 6 = .ok (.getfield 290, 3) := by decide +kernel
theorem dX11_readSum_9 : decode cX11_readSum 9 = .ok (.iastore, 1) := by decide +kernel
theorem dX11_readSum_10 : decode cX11_readSum 10 = .ok (.aload_n 0, 1) := by decide +kernel
theorem dX11_readSum_11 : decode cX11_readSum 11 = .ok (.getfield 251, 3) := by decide +kernel
theorem dX11_readSum_14 : decode cX11_readSum 14 = .ok (.ifCond .ne 8, 3) := by decide +kernel
theorem dX11_readSum_17 : decode cX11_readSum 17 = .ok (.aload_n 0, 1) := by decide +kernel
theorem dX11_readSum_18 : decode cX11_readSum 18 = .ok (.iconst 0, 1) := by decide +kernel
theorem dX11_readSum_19 : decode cX11_readSum 19 = .ok (.invokevirtual 383, 3) := by decide +kernel
theorem dX11_readSum_22 : decode cX11_readSum 22 = .ok (.aload_n 0, 1) := by decide +kernel
theorem dX11_readSum_23 : decode cX11_readSum 23 = .ok (.getfield 138, 3) := by decide +kernel
theorem dX11_readSum_26 : decode cX11_readSum 26 = .ok (.iload_n 1, 1) := by decide +kernel
theorem dX11_readSum_27 : decode cX11_readSum 27 = .ok (.iconst 1, 1) := by decide +kernel
theorem dX11_readSum_28 : decode cX11_readSum 28 = .ok (.iadd, 1) := by decide +kernel
theorem dX11_readSum_29 : decode cX11_readSum 29 = .ok (.aload_n 0, 1) := by decide +kernel
theorem dX11_readSum_30 : decode cX11_readSum 30 = .ok (.getfield 290, 3) := by decide +kernel
theorem dX11_readSum_33 : decode cX11_readSum 33 = .ok (.iastore, 1) := by decide +kernel
