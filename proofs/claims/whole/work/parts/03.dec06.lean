theorem dX10_row_4 : decode cX10_row 4 = .ok (.getfield 183, 3) := by decide +kernel
theorem dX10_row_7 : decode cX10_row 7 = .ok (.ifCond .ne 10, 3) := by decide +kernel
theorem dX10_row_10 : decode cX10_row 10 = .ok (.aload_n 0, 1) := by decide +kernel
theorem dX10_row_11 : decode cX10_row 11 = .ok (.bipush (-6), 2) := by decide +kernel
theorem dX10_row_13 : decode cX10_row 13 = .ok (.invokevirtual 89, 3) := by decide +kernel
theorem dX10_row_16 : decode cX10_row 16 = .ok (.ireturn, 1) := by decide +kernel
theorem dX10_row_17 : decode cX10_row 17 = .ok (.iconst 0, 1) := by decide +kernel
theorem dX10_row_18 : decode cX10_row 18 = .ok (.istore_n 1, 1) := by decide +kernel
theorem dX10_row_19 : decode cX10_row 19 = .ok (.aload_n 0, 1) := by decide +kernel
theorem dX10_row_20 : decode cX10_row 20 = .ok (.iconst 0, 1) := by decide +kernel
theorem dX10_row_21 : decode cX10_row 21 = .ok (.putfield 186, 3) := by decide +kernel
theorem dX10_row_24 : decode cX10_row 24 = .ok (.iconst 0, 1) := by decide +kernel
theorem dX10_row_25 : decode cX10_row 25 = .ok (.istore_n 2, 1) := by decide +kernel
theorem dX10_row_26 : decode cX10_row 26 = .ok (.iload_n 2, 1) := by decide +kernel
theorem dX10_row_27 : decode cX10_row 27 = .ok (.aload_n 0, 1) := by decide +kernel
theorem dX10_row_28 : decode cX10_row 28 = .ok (.getfield 57, 3) := by decide +kernel
theorem dX10_row_31 : decode cX10_row 31 = .ok (.getfield 183, 3) := by decide +kernel
theorem dX10_row_34 : decode cX10_row 34 = .ok (.if_icmp .ge 74, 3) := by decide +kernel
theorem dX10_row_37 : decode cX10_row 37 = .ok (.aload_n 0, 1) := by decide +kernel
theorem dX10_row_38 : decode cX10_row 38 = .ok (.getfield 57, 3) := by decide +kernel
theorem dX10_row_41 : decode cX10_row 41 = .ok (.iload_n 2, 1) := by decide +kernel
theorem dX10_row_42 : decode cX10_row 42 = .ok (.invokevirtual 189, 3) := by decide +kernel
theorem dX10_row_45 : decode cX10_row 45 = .ok (.istore_n 3, 1) := by decide +kernel
theorem dX10_row_46 : decode cX10_row 46 = .ok (.aload_n 0, 1) := by decide +kernel
theorem dX10_row_47 : decode cX10_row 47 = .ok (.getfield 57, 3) := by decide +kernel
theorem dX10_row_50 : decode cX10_row 50 = .ok (.iload_n 2, 1) := by decide +kernel
theorem dX10_row_51 : decode cX10_row 51 = .ok (.iconst 1, 1) := by decide +kernel
theorem dX10_row_52 : decode cX10_row 52 = .ok (.iadd, 1) := by decide +kernel
theorem dX10_row_53 : decode cX10_row 53 = .ok (.invokevirtual 189, 3) := by decide +kernel
theorem dX10_row_56 : decode cX10_row 56 = .ok (.istore 4, 2) := by decide +kernel
theorem dX10_row_58 : decode cX10_row 58 = .ok (.iload_n 3, 1) := by decide +kernel
theorem dX10_row_59 : decode cX10_row 59 = .ok (.invokestatic 81, 3) := by decide +kernel
theorem dX10_row_62 : decode cX10_row 62 = .ok (.ifCond .eq 30, 3) := by decide +kernel
theorem dX10_row_65 : decode cX10_row 65 = .ok (.iload 4, 2) := by decide +kernel
theorem dX10_row_67 : decode cX10_row 67 = .ok (.iconst 0, 1) := by decide +kernel
theorem dX10_row_68 : decode cX10_row 68 = .ok (.iconst 3, 1) := by decide +kernel
theorem dX10_row_69 : decode cX10_row 69 = .ok (.invokestatic 85, 3) := by decide +kernel
theorem dX10_row_72 : decode cX10_row 72 = .ok (.ifCond .eq 20, 3) := by decide +kernel
theorem dX10_row_75 : decode cX10_row 75 = .ok (.aload_n 0, 1) := by decide +kernel
theorem dX10_row_76 : decode cX10_row 76 = .ok (.getfield 32, 3) := by decide +kernel
theorem dX10_row_79 : decode cX10_row 79 = .ok (.getfield 93, 3) := by decide +kernel
theorem dX10_row_82 : decode cX10_row 82 = .ok (.iload_n 3, 1) := by decide +kernel
theorem dX10_row_83 : decode cX10_row 83 = .ok (.iload 4, 2) := by decide +kernel
theorem dX10_row_85 : decode cX10_row 85 = .ok (.iastore, 1) := by decide +kernel
theorem dX10_row_86 : decode cX10_row 86 = .ok (.iinc 1 1, 3) := by decide +kernel
theorem dX10_row_89 : decode cX10_row 89 = .ok (.goto 13, 3) := by decide +kernel
theorem dX10_row_92 : decode cX10_row 92 = .ok (.aload_n 0, 1) := by decide +kernel
theorem dX10_row_93 : decode cX10_row 93 = .ok (.dup, 1) := by decide +kernel
theorem dX10_row_94 : decode cX10_row 94 = .ok (.getfield 186, 3) := by decide +kernel
theorem dX10_row_97 : decode cX10_row 97 = .ok (.iconst 1, 1) := by decide +kernel
theorem dX10_row_98 : decode cX10_row 98 = .ok (.iadd, 1) := by decide +kernel
theorem dX10_row_99 : decode cX10_row 99 = .ok (.putfield 186, 3) := by decide +kernel
theorem dX10_row_102 : decode cX10_row 102 = .ok (.iinc 2 2, 3) := by decide +kernel
theorem dX10_row_105 : decode cX10_row 105 = .ok (.goto (-79), 3) := by decide +kernel
theorem dX10_row_108 : decode cX10_row 108 = .ok (.aload_n 0, 1) := by decide +kernel
theorem dX10_row_109 : decode cX10_row 109 = .ok (.getfield 57, 3) := by decide +kernel
theorem dX10_row_112 : decode cX10_row 112 = .ok (.iconst 0, 1) := by decide +kernel
theorem dX10_row_113 : decode cX10_row 113 = .ok (.putfield 183, 3) := by decide +kernel
theorem dX10_row_116 : decode cX10_row 116 = .ok (.aload_n 0, 1) := by decide +kernel
theorem dX10_row_117 : decode cX10_row 117 = .ok (.getfield 21, 3) := by decide +kernel
theorem dX10_row_120 : decode cX10_row 120 = .ok (.getfield 99, 3) := by decide +kernel
theorem dX10_row_123 : decode cX10_row 123 = .ok (.invokevirtual 103, 3) := by decide +kernel
theorem dX10_row_126 : decode cX10_row 126 = .ok (.aload_n 0, 1) := by decide +kernel
theorem dX10_row_127 : decode cX10_row 127 = .ok (.iload_n 1, 1) := by decide +kernel
theorem dX10_row_128 : decode cX10_row 128 = .ok (.invokevirtual 112, 3) := by decide +kernel
theorem dX10_row_131 : decode cX10_row 131 = .ok (.ireturn, 1) := by decide +kernel
theorem dX10_ash_0 : decode cX10_ash 0 = .ok (.aload_n 0, 1) := by decide +kernel
theorem dX10_ash_1 : decode cX10_ash 1 = .ok (.getfield 186, 3) := by decide +kernel
theorem dX10_ash_4 : decode cX10_ash 4 = .ok (.ireturn, 1) := by decide +kernel
theorem dX10_law_0 : decode cX10_law 0 = .ok (.aload_n 0, 1) := by decide +kernel
theorem dX10_law_1 : decode cX10_law 1 = .ok (.getfield 32, 3) := by decide +kernel
theorem dX10_law_4 : decode cX10_law 4 = .ok (.getfield 192, 3) := by decide +kernel
theorem dX10_law_7 : decode cX10_law 7 = .ok (.bipush 6, 2) := by decide +kernel
theorem dX10_law_9 : decode cX10_law 9 = .ok (.if_icmp .lt 18, 3) := by decide +kernel
theorem dX10_law_12 : decode cX10_law 12 = .ok (.aload_n 0, 1) := by decide +kernel
theorem dX10_law_13 : decode cX10_law 13 = .ok (.getfield 57, 3) := by decide +kernel
theorem dX10_law_16 : decode cX10_law 16 = .ok (.iconst 0, 1) := by decide +kernel
theorem dX10_law_17 : decode cX10_law 17 = .ok (.putfield 183, 3) := by decide +kernel
theorem dX10_law_20 : decode cX10_law 20 = .ok (.aload_n 0, 1) := by decide +kernel
theorem dX10_law_21 : decode cX10_law 21 = .ok (.bipush (-5), 2) := by decide +kernel
theorem dX10_law_23 : decode cX10_law 23 = .ok (.invokevirtual 89, 3) := by decide +kernel
theorem dX10_law_26 : decode cX10_law 26 = .ok (.ireturn, 1) := by decide +kernel
theorem dX10_law_27 : decode cX10_law 27 = .ok (.aload_n 0, 1) := by decide +kernel
theorem dX10_law_28 : decode cX10_law 28 = .ok (.aload_n 0, 1) := by decide +kernel
theorem dX10_law_29 : decode cX10_law 29 = .ok (.getfield 66, 3) := by decide +kernel
theorem dX10_law_32 : decode cX10_law 32 = .ok (.iconst 0, 1) := by decide +kernel
theorem dX10_law_33 : decode cX10_law 33 = .ok (.invokevirtual 195, 3) := by decide +kernel
theorem dX10_law_36 : decode cX10_law 36 = .ok (.putfield 74, 3) := by decide +kernel
theorem dX10_law_39 : decode cX10_law 39 = .ok (.aload_n 0, 1) := by decide +kernel
theorem dX10_law_40 : decode cX10_law 40 = .ok (.getfield 57, 3) := by decide +kernel
theorem dX10_law_43 : decode cX10_law 43 = .ok (.iconst 0, 1) := by decide +kernel
theorem dX10_law_44 : decode cX10_law 44 = .ok (.putfield 183, 3) := by decide +kernel
theorem dX10_law_47 : decode cX10_law 47 = .ok (.aload_n 0, 1) := by decide +kernel
theorem dX10_law_48 : decode cX10_law 48 = .ok (.getfield 74, 3) := by decide +kernel
theorem dX10_law_51 : decode cX10_law 51 = .ok (.iconst (-1), 1) := by decide +kernel
theorem dX10_law_52 : decode cX10_law 52 = .ok (.if_icmp .eq 10, 3) := by decide +kernel
theorem dX10_law_55 : decode cX10_law 55 = .ok (.aload_n 0, 1) := by decide +kernel
theorem dX10_law_56 : decode cX10_law 56 = .ok (.bipush (-6), 2) := by decide +kernel
theorem dX10_law_58 : decode cX10_law 58 = .ok (.invokevirtual 89, 3) := by decide +kernel
theorem dX10_law_61 : decode cX10_law 61 = .ok (.ireturn, 1) := by decide +kernel
theorem dX10_law_62 : decode cX10_law 62 = .ok (.aload_n 0, 1) := by decide +kernel
theorem dX10_law_63 : decode cX10_law 63 = .ok (.aload_n 0, 1) := by decide +kernel
theorem dX10_law_64 : decode cX10_law 64 = .ok (.getfield 32, 3) := by decide +kernel
theorem dX10_law_67 : decode cX10_law 67 = .ok (.aload_n 0, 1) := by decide +kernel
theorem dX10_law_68 : decode cX10_law 68 = .ok (.getfield 66, 3) := by decide +kernel
theorem dX10_law_71 : decode cX10_law 71 = .ok (.getfield 199, 3) := by decide +kernel
theorem dX10_law_74 : decode cX10_law 74 = .ok (.invokevirtual 203, 3) := by decide +kernel
theorem dX10_law_77 : decode cX10_law 77 = .ok (.invokevirtual 209, 3) := by decide +kernel
theorem dX10_law_80 : decode cX10_law 80 = .ok (.invokevirtual 112, 3) := by decide +kernel
theorem dX10_law_83 : decode cX10_law 83 = .ok (.ireturn, 1) := by decide +kernel
theorem dX10_orders_0 : decode cX10_orders 0 = .ok (.aload_n 0, 1) := by decide +kernel
theorem dX10_orders_1 : decode cX10_orders 1 = .ok (.iconst (-1), 1) := by decide +kernel
theorem dX10_orders_2 : decode cX10_orders 2 = .ok (.putfield 78, 3) := by decide +kernel
theorem dX10_orders_5 : decode cX10_orders 5 = .ok (.aload_n 0, 1) := by decide +kernel
theorem dX10_orders_6 : decode cX10_orders 6 = .ok (.aload_n 0, 1) := by decide +kernel
theorem dX10_orders_7 : decode cX10_orders 7 = .ok (.getfield 66, 3) := by decide +kernel
theorem dX10_orders_10 : decode cX10_orders 10 = .ok (.iconst 1, 1) := by decide +kernel
theorem dX10_orders_11 : decode cX10_orders 11 = .ok (.invokevirtual 195, 3) := by decide +kernel
theorem dX10_orders_14 : decode cX10_orders 14 = .ok (.putfield 74, 3) := by decide +kernel
theorem dX10_orders_17 : decode cX10_orders 17 = .ok (.aload_n 0, 1) := by decide +kernel
theorem dX10_orders_18 : decode cX10_orders 18 = .ok (.getfield 57, 3) := by decide +kernel
theorem dX10_orders_21 : decode cX10_orders 21 = .ok (.iconst 0, 1) := by decide +kernel
theorem dX10_orders_22 : decode cX10_orders 22 = .ok (.putfield 183, 3) := by decide +kernel
theorem dX10_orders_25 : decode cX10_orders 25 = .ok (.aload_n 0, 1) := by decide +kernel
theorem dX10_orders_26 : decode cX10_orders 26 = .ok (.getfield 74, 3) := by decide +kernel
theorem dX10_orders_29 : decode cX10_orders 29 = .ok (.iconst (-1), 1) := by decide +kernel
theorem dX10_orders_30 : decode cX10_orders 30 = .ok (.if_icmp .eq 10, 3) := by decide +kernel
theorem dX10_orders_33 : decode cX10_orders 33 = .ok (.aload_n 0, 1) := by decide +kernel
theorem dX10_orders_34 : decode cX10_orders 34 = .ok (.bipush (-6), 2) := by decide +kernel
theorem dX10_orders_36 : decode cX10_orders 36 = .ok (.invokevirtual 89, 3) := by decide +kernel
theorem dX10_orders_39 : decode cX10_orders 39 = .ok (.ireturn, 1) := by decide +kernel
theorem dX10_orders_40 : decode cX10_orders 40 = .ok (.aload_n 0, 1) := by decide +kernel
theorem dX10_orders_41 : decode cX10_orders 41 = .ok (.getfield 25, 3) := by decide +kernel
theorem dX10_orders_44 : decode cX10_orders 44 = .ok (.aload_n 0, 1) := by decide +kernel
theorem dX10_orders_45 : decode cX10_orders 45 = .ok (.getfield 21, 3) := by decide +kernel
theorem dX10_orders_48 : decode cX10_orders 48 = .ok (.invokevirtual 213, 3) := by decide +kernel
theorem dX10_orders_51 : decode cX10_orders 51 = .ok (.aload_n 0, 1) := by decide +kernel
theorem dX10_orders_52 : decode cX10_orders 52 = .ok (.getfield 25, 3) := by decide +kernel
theorem dX10_orders_55 : decode cX10_orders 55 = .ok (.invokevirtual 217, 3) := by decide +kernel
theorem dX10_orders_58 : decode cX10_orders 58 = .ok (.iconst 0, 1) := by decide +kernel
theorem dX10_orders_59 : decode cX10_orders 59 = .ok (.istore_n 1, 1) := by decide +kernel
theorem dX10_orders_60 : decode cX10_orders 60 = .ok (.iload_n 1, 1) := by decide +kernel
theorem dX10_orders_61 : decode cX10_orders 61 = .ok (.aload_n 0, 1) := by decide +kernel
theorem dX10_orders_62 : decode cX10_orders 62 = .ok (.getfield 66, 3) := by decide +kernel
theorem dX10_orders_65 : decode cX10_orders 65 = .ok (.getfield 199, 3) := by decide +kernel
theorem dX10_orders_68 : decode cX10_orders 68 = .ok (.getfield 220, 3) := by decide +kernel
theorem dX10_orders_71 : decode cX10_orders 71 = .ok (.if_icmp .ge 39, 3) := by decide +kernel
theorem dX10_orders_74 : decode cX10_orders 74 = .ok (.aload_n 0, 1) := by decide +kernel
theorem dX10_orders_75 : decode cX10_orders 75 = .ok (.getfield 25, 3) := by decide +kernel
theorem dX10_orders_78 : decode cX10_orders 78 = .ok (.aload_n 0, 1) := by decide +kernel
theorem dX10_orders_79 : decode cX10_orders 79 = .ok (.getfield 66, 3) := by decide +kernel
theorem dX10_orders_82 : decode cX10_orders 82 = .ok (.getfield 199, 3) := by decide +kernel
theorem dX10_orders_85 : decode cX10_orders 85 = .ok (.iload_n 1, 1) := by decide +kernel
theorem dX10_orders_86 : decode cX10_orders 86 = .ok (.invokevirtual 223, 3) := by decide +kernel
theorem dX10_orders_89 : decode cX10_orders 89 = .ok (.ifCond .ne 15, 3) := by decide +kernel
theorem dX10_orders_92 : decode cX10_orders 92 = .ok (.aload_n 0, 1) := by decide +kernel
theorem dX10_orders_93 : decode cX10_orders 93 = .ok (.iload_n 1, 1) := by decide +kernel
theorem dX10_orders_94 : decode cX10_orders 94 = .ok (.putfield 78, 3) := by decide +kernel
theorem dX10_orders_97 : decode cX10_orders 97 = .ok (.aload_n 0, 1) := by decide +kernel
theorem dX10_orders_98 : decode cX10_orders 98 = .ok (.bipush (-3), 2) := by decide +kernel
theorem dX10_orders_100 : decode cX10_orders 100 = .ok (.invokevirtual 89, 3) := by decide +kernel
theorem dX10_orders_103 : decode cX10_orders 103 = .ok (.ireturn, 1) := by decide +kernel
theorem dX10_orders_104 : decode cX10_orders 104 = .ok (.iinc 1 1, 3) := by decide +kernel
theorem dX10_orders_107 : decode cX10_orders 107 = .ok (.goto (-47), 3) := by decide +kernel
theorem dX10_orders_110 : decode cX10_orders 110 = .ok (.aload_n 0, 1) := by decide +kernel
theorem dX10_orders_111 : decode cX10_orders 111 = .ok (.getfield 21, 3) := by decide +kernel
theorem dX10_orders_114 : decode cX10_orders 114 = .ok (.aload_n 0, 1) := by decide +kernel
theorem dX10_orders_115 : decode cX10_orders 115 = .ok (.getfield 25, 3) := by decide +kernel
theorem dX10_orders_118 : decode cX10_orders 118 = .ok (.invokevirtual 213, 3) := by decide +kernel
theorem dX10_orders_121 : decode cX10_orders 121 = .ok (.aload_n 0, 1) := by decide +kernel
theorem dX10_orders_122 : decode cX10_orders 122 = .ok (.aload_n 0, 1) := by decide +kernel
theorem dX10_orders_123 : decode cX10_orders 123 = .ok (.getfield 25, 3) := by decide +kernel
theorem dX10_orders_126 : decode cX10_orders 126 = .ok (.getfield 227, 3) := by decide +kernel
theorem dX10_orders_129 : decode cX10_orders 129 = .ok (.invokevirtual 112, 3) := by decide +kernel
theorem dX10_orders_132 : decode cX10_orders 132 = .ok (.ireturn, 1) := by decide +kernel
theorem dX10_fault_0 : decode cX10_fault 0 = .ok (.aload_n 0, 1) := by decide +kernel
theorem dX10_fault_1 : decode cX10_fault 1 = .ok (.getfield 74, 3) := by decide +kernel
theorem dX10_fault_4 : decode cX10_fault 4 = .ok (.ireturn, 1) := by decide +kernel
theorem dX10_stopped_0 : decode cX10_stopped 0 = .ok (.aload_n 0, 1) := by decide +kernel
theorem dX10_stopped_1 : decode cX10_stopped 1 = .ok (.getfield 78, 3) := by decide +kernel
theorem dX10_stopped_4 : decode cX10_stopped 4 = .ok (.ireturn, 1) := by decide +kernel
theorem dX10_force_0 : decode cX10_force 0 = .ok (.iload_n 1, 1) := by decide +kernel
theorem dX10_force_1 : decode cX10_force 1 = .ok (.iconst (-1), 1) := by decide +kernel
theorem dX10_force_2 : decode cX10_force 2 = .ok (.if_icmp .eq 21, 3) := by decide +kernel
theorem dX10_force_5 : decode cX10_force 5 = .ok (.aload_n 0, 1) := by decide +kernel
theorem dX10_force_6 : decode cX10_force 6 = .ok (.getfield 32, 3) := by decide +kernel
theorem dX10_force_9 : decode cX10_force 9 = .ok (.iload_n 1, 1) := by decide +kernel
theorem dX10_force_10 : decode cX10_force 10 = .ok (.invokevirtual 230, 3) := by decide +kernel
theorem dX10_force_13 : decode cX10_force 13 = .ok (.ifCond .ne 10, 3) := by decide +kernel
theorem dX10_force_16 : decode cX10_force 16 = .ok (.aload_n 0, 1) := by decide +kernel
theorem dX10_force_17 : decode cX10_force 17 = .ok (.bipush (-2), 2) := by decide +kernel
theorem dX10_force_19 : decode cX10_force 19 = .ok (.invokevirtual 89, 3) := by decide +kernel
theorem dX10_force_22 : decode cX10_force 22 = .ok (.ireturn, 1) := by decide +kernel
theorem dX10_force_23 : decode cX10_force 23 = .ok (.aload_n 0, 1) := by decide +kernel
theorem dX10_force_24 : decode cX10_force 24 = .ok (.getfield 32, 3) := by decide +kernel
theorem dX10_force_27 : decode cX10_force 27 = .ok (.getfield 233, 3) := by decide +kernel
theorem dX10_force_30 : decode cX10_force 30 = .ok (.istore_n 2, 1) := by decide +kernel
theorem dX10_force_31 : decode cX10_force 31 = .ok (.aload_n 0, 1) := by decide +kernel
theorem dX10_force_32 : decode cX10_force 32 = .ok (.getfield 32, 3) := by decide +kernel
theorem dX10_force_35 : decode cX10_force 35 = .ok (.iload_n 1, 1) := by decide +kernel
theorem dX10_force_36 : decode cX10_force 36 = .ok (.putfield 233, 3) := by decide +kernel
theorem dX10_force_39 : decode cX10_force 39 = .ok (.aload_n 0, 1) := by decide +kernel
theorem dX10_force_40 : decode cX10_force 40 = .ok (.iload_n 2, 1) := by decide +kernel
theorem dX10_force_41 : decode cX10_force 41 = .ok (.invokevirtual 112, 3) := by decide +kernel
theorem dX10_force_44 : decode cX10_force 44 = .ok (.ireturn, 1) := by decide +kernel
theorem dX10_call_0 : decode cX10_call 0 = .ok (.aload_n 0, 1) := by decide +kernel
theorem dX10_call_1 : decode cX10_call 1 = .ok (.aload_n 0, 1) := by decide +kernel
theorem dX10_call_2 : decode cX10_call 2 = .ok (.getfield 21, 3) := by decide +kernel
theorem dX10_call_5 : decode cX10_call 5 = .ok (.iconst 0, 1) := by decide +kernel
theorem dX10_call_6 : decode cX10_call 6 = .ok (.iload_n 1, 1) := by decide +kernel
theorem dX10_call_7 : decode cX10_call 7 = .ok (.iload_n 2, 1) := by decide +kernel
theorem dX10_call_8 : decode cX10_call 8 = .ok (.invokevirtual 236, 3) := by decide +kernel
theorem dX10_call_11 : decode cX10_call 11 = .ok (.invokevirtual 239, 3) := by decide +kernel
theorem dX10_call_14 : decode cX10_call 14 = .ok (.ireturn, 1) := by decide +kernel
theorem dX10_wet_0 : decode cX10_wet 0 = .ok (.aload_n 0, 1) := by decide +kernel
theorem dX10_wet_1 : decode cX10_wet 1 = .ok (.aload_n 0, 1) := by decide +kernel
theorem dX10_wet_2 : decode cX10_wet 2 = .ok (.getfield 21, 3) := by decide +kernel
theorem dX10_wet_5 : decode cX10_wet 5 = .ok (.iconst 1, 1) := by decide +kernel
theorem dX10_wet_6 : decode cX10_wet 6 = .ok (.iload_n 1, 1) := by decide +kernel
theorem dX10_wet_7 : decode cX10_wet 7 = .ok (.iconst 0, 1) := by decide +kernel
theorem dX10_wet_8 : decode cX10_wet 8 = .ok (.invokevirtual 236, 3) := by decide +kernel
theorem dX10_wet_11 : decode cX10_wet 11 = .ok (.invokevirtual 239, 3) := by decide +kernel
theorem dX10_wet_14 : decode cX10_wet 14 = .ok (.ireturn, 1) := by decide +kernel
theorem dX10_walk_0 : decode cX10_walk 0 = .ok (.aload_n 0, 1) := by decide +kernel
theorem dX10_walk_1 : decode cX10_walk 1 = .ok (.aload_n 0, 1) := by decide +kernel
theorem dX10_walk_2 : decode cX10_walk 2 = .ok (.getfield 21, 3) := by decide +kernel
theorem dX10_walk_5 : decode cX10_walk 5 = .ok (.iconst 2, 1) := by decide +kernel
theorem dX10_walk_6 : decode cX10_walk 6 = .ok (.iload_n 1, 1) := by decide +kernel
theorem dX10_walk_7 : decode cX10_walk 7 = .ok (.iload_n 2, 1) := by decide +kernel
theorem dX10_walk_8 : decode cX10_walk 8 = .ok (.invokevirtual 236, 3) := by decide +kernel
theorem dX10_walk_11 : decode cX10_walk 11 = .ok (.invokevirtual 239, 3) := by decide +kernel
theorem dX10_walk_14 : decode cX10_walk 14 = .ok (.ireturn, 1) := by decide +kernel
theorem dX10_pass_0 : decode cX10_pass 0 = .ok (.aload_n 0, 1) := by decide +kernel
theorem dX10_pass_1 : decode cX10_pass 1 = .ok (.aload_n 0, 1) := by decide +kernel
theorem dX10_pass_2 : decode cX10_pass 2 = .ok (.getfield 21, 3) := by decide +kernel
theorem dX10_pass_5 : decode cX10_pass 5 = .ok (.iconst 3, 1) := by decide +kernel
theorem dX10_pass_6 : decode cX10_pass 6 = .ok (.iconst 0, 1) := by decide +kernel
theorem dX10_pass_7 : decode cX10_pass 7 = .ok (.iconst 0, 1) := by decide +kernel
theorem dX10_pass_8 : decode cX10_pass 8 = .ok (.invokevirtual 236, 3) := by decide +kernel
theorem dX10_pass_11 : decode cX10_pass 11 = .ok (.invokevirtual 239, 3) := by decide +kernel
theorem dX10_pass_14 : decode cX10_pass 14 = .ok (.ireturn, 1) := by decide +kernel
theorem dX10_undo_0 : decode cX10_undo 0 = .ok (.aload_n 0, 1) := by decide +kernel
theorem dX10_undo_1 : decode cX10_undo 1 = .ok (.aload_n 0, 1) := by decide +kernel
theorem dX10_undo_2 : decode cX10_undo 2 = .ok (.getfield 21, 3) := by decide +kernel
theorem dX10_undo_5 : decode cX10_undo 5 = .ok (.getfield 99, 3) := by decide +kernel
theorem dX10_undo_8 : decode cX10_undo 8 = .ok (.aload_n 0, 1) := by decide +kernel
theorem dX10_undo_9 : decode cX10_undo 9 = .ok (.getfield 32, 3) := by decide +kernel
theorem dX10_undo_12 : decode cX10_undo 12 = .ok (.invokevirtual 242, 3) := by decide +kernel
theorem dX10_undo_15 : decode cX10_undo 15 = .ok (.invokevirtual 239, 3) := by decide +kernel
theorem dX10_undo_18 : decode cX10_undo 18 = .ok (.ireturn, 1) := by decide +kernel
theorem dX10_where_0 : decode cX10_where 0 = .ok (.aload_n 0, 1) := by decide +kernel
theorem dX10_where_1 : decode cX10_where 1 = .ok (.getfield 32, 3) := by decide +kernel
theorem dX10_where_4 : decode cX10_where 4 = .ok (.iload_n 1, 1) := by decide +kernel
theorem dX10_where_5 : decode cX10_where 5 = .ok (.invokevirtual 115, 3) := by decide +kernel
theorem dX10_where_8 : decode cX10_where 8 = .ok (.ifCond .eq 13, 3) := by decide +kernel
theorem dX10_where_11 : decode cX10_where 11 = .ok (.iload_n 2, 1) := by decide +kernel
theorem dX10_where_12 : decode cX10_where 12 = .ok (.iconst 0, 1) := by decide +kernel
theorem dX10_where_13 : decode cX10_where 13 = .ok (.bipush 60, 2) := by decide +kernel
theorem dX10_where_15 : decode cX10_where 15 = .ok (.invokestatic 85, 3) := by decide +kernel
theorem dX10_where_18 : decode cX10_where 18 = .ok (.ifCond .ne 6, 3) := by decide +kernel
theorem dX10_where_21 : decode cX10_where 21 = .ok (.bipush (-100), 2) := by decide +kernel
theorem dX10_where_23 : decode cX10_where 23 = .ok (.ireturn, 1) := by decide +kernel
theorem dX10_where_24 : decode cX10_where 24 = .ok (.aload_n 0, 1) := by decide +kernel
theorem dX10_where_25 : decode cX10_where 25 = .ok (.getfield 50, 3) := by decide +kernel
theorem dX10_where_28 : decode cX10_where 28 = .ok (.aload_n 0, 1) := by decide +kernel
theorem dX10_where_29 : decode cX10_where 29 = .ok (.getfield 32, 3) := by decide +kernel
theorem dX10_where_32 : decode cX10_where 32 = .ok (.iload_n 1, 1) := by decide +kernel
theorem dX10_where_33 : decode cX10_where 33 = .ok (.iload_n 2, 1) := by decide +kernel
theorem dX10_where_34 : decode cX10_where 34 = .ok (.invokevirtual 246, 3) := by decide +kernel
theorem dX10_where_37 : decode cX10_where 37 = .ok (.ireturn, 1) := by decide +kernel
theorem dX10_first_0 : decode cX10_first 0 = .ok (.iload_n 1, 1) := by decide +kernel
theorem dX10_first_1 : decode cX10_first 1 = .ok (.invokestatic 81, 3) := by decide +kernel
theorem dX10_first_4 : decode cX10_first 4 = .ok (.ifCond .eq 12, 3) := by decide +kernel
theorem dX10_first_7 : decode cX10_first 7 = .ok (.iload_n 2, 1) := by decide +kernel
theorem dX10_first_8 : decode cX10_first 8 = .ok (.iconst 0, 1) := by decide +kernel
theorem dX10_first_9 : decode cX10_first 9 = .ok (.iconst 1, 1) := by decide +kernel
theorem dX10_first_10 : decode cX10_first 10 = .ok (.invokestatic 85, 3) := by decide +kernel
theorem dX10_first_13 : decode cX10_first 13 = .ok (.ifCond .ne 5, 3) := by decide +kernel
theorem dX10_first_16 : decode cX10_first 16 = .ok (.iconst (-1), 1) := by decide +kernel
theorem dX10_first_17 : decode cX10_first 17 = .ok (.ireturn, 1) := by decide +kernel
theorem dX10_first_18 : decode cX10_first 18 = .ok (.aload_n 0, 1) := by decide +kernel
theorem dX10_first_19 : decode cX10_first 19 = .ok (.getfield 50, 3) := by decide +kernel
theorem dX10_first_22 : decode cX10_first 22 = .ok (.aload_n 0, 1) := by decide +kernel
theorem dX10_first_23 : decode cX10_first 23 = .ok (.getfield 32, 3) := by decide +kernel
theorem dX10_first_26 : decode cX10_first 26 = .ok (.iload_n 1, 1) := by decide +kernel
theorem dX10_first_27 : decode cX10_first 27 = .ok (.iload_n 2, 1) := by decide +kernel
theorem dX10_first_28 : decode cX10_first 28 = .ok (.invokevirtual 250, 3) := by decide +kernel
theorem dX10_first_31 : decode cX10_first 31 = .ok (.ireturn, 1) := by decide +kernel
theorem dX10_chain_0 : decode cX10_chain 0 = .ok (.aload_n 0, 1) := by decide +kernel
theorem dX10_chain_1 : decode cX10_chain 1 = .ok (.getfield 32, 3) := by decide +kernel
theorem dX10_chain_4 : decode cX10_chain 4 = .ok (.iload_n 1, 1) := by decide +kernel
theorem dX10_chain_5 : decode cX10_chain 5 = .ok (.invokevirtual 156, 3) := by decide +kernel
theorem dX10_chain_8 : decode cX10_chain 8 = .ok (.ifCond .ne 5, 3) := by decide +kernel
theorem dX10_chain_11 : decode cX10_chain 11 = .ok (.iconst (-1), 1) := by decide +kernel
theorem dX10_chain_12 : decode cX10_chain 12 = .ok (.ireturn, 1) := by decide +kernel
theorem dX10_chain_13 : decode cX10_chain 13 = .ok (.aload_n 0, 1) := by decide +kernel
theorem dX10_chain_14 : decode cX10_chain 14 = .ok (.getfield 50, 3) := by decide +kernel
theorem dX10_chain_17 : decode cX10_chain 17 = .ok (.aload_n 0, 1) := by decide +kernel
theorem dX10_chain_18 : decode cX10_chain 18 = .ok (.getfield 32, 3) := by decide +kernel
theorem dX10_chain_21 : decode cX10_chain 21 = .ok (.iload_n 1, 1) := by decide +kernel
theorem dX10_chain_22 : decode cX10_chain 22 = .ok (.invokevirtual 253, 3) := by decide +kernel
theorem dX10_chain_25 : decode cX10_chain 25 = .ok (.istore_n 3, 1) := by decide +kernel
theorem dX10_chain_26 : decode cX10_chain 26 = .ok (.iload_n 2, 1) := by decide +kernel
theorem dX10_chain_27 : decode cX10_chain 27 = .ok (.iconst (-1), 1) := by decide +kernel
theorem dX10_chain_28 : decode cX10_chain 28 = .ok (.if_icmp .ne 5, 3) := by decide +kernel
theorem dX10_chain_31 : decode cX10_chain 31 = .ok (.iload_n 3, 1) := by decide +kernel
theorem dX10_chain_32 : decode cX10_chain 32 = .ok (.ireturn, 1) := by decide +kernel
theorem dX10_chain_33 : decode cX10_chain 33 = .ok (.iload_n 2, 1) := by decide +kernel
theorem dX10_chain_34 : decode cX10_chain 34 = .ok (.iconst 0, 1) := by decide +kernel
theorem dX10_chain_35 : decode cX10_chain 35 = .ok (.iload_n 3, 1) := by decide +kernel
theorem dX10_chain_36 : decode cX10_chain 36 = .ok (.iconst 1, 1) := by decide +kernel
theorem dX10_chain_37 : decode cX10_chain 37 = .ok (.isub, 1) := by decide +kernel
theorem dX10_chain_38 : decode cX10_chain 38 = .ok (.invokestatic 85, 3) := by decide +kernel
theorem dX10_chain_41 : decode cX10_chain 41 = .ok (.ifCond .eq 18, 3) := by decide +kernel
theorem dX10_chain_44 : decode cX10_chain 44 = .ok (.aload_n 0, 1) := by decide +kernel
theorem dX10_chain_45 : decode cX10_chain 45 = .ok (.getfield 50, 3) := by decide +kernel
theorem dX10_chain_48 : decode cX10_chain 48 = .ok (.aload_n 0, 1) := by decide +kernel
theorem dX10_chain_49 : decode cX10_chain 49 = .ok (.getfield 32, 3) := by decide +kernel
theorem dX10_chain_52 : decode cX10_chain 52 = .ok (.iload_n 2, 1) := by decide +kernel
theorem dX10_chain_53 : decode cX10_chain 53 = .ok (.invokevirtual 256, 3) := by decide +kernel
theorem dX10_chain_56 : decode cX10_chain 56 = .ok (.goto 4, 3) := by decide +kernel
theorem dX10_chain_59 : decode cX10_chain 59 = .ok (.iconst (-1), 1) := by decide +kernel
theorem dX10_chain_60 : decode cX10_chain 60 = .ok (.ireturn, 1) := by decide +kernel
theorem dX10_answer_0 : decode cX10_answer 0 = .ok (.iload_n 2, 1) := by decide +kernel
theorem dX10_answer_1 : decode cX10_answer 1 = .ok (.iconst 0, 1) := by decide +kernel
theorem dX10_answer_2 : decode cX10_answer 2 = .ok (.iconst 1, 1) := by decide +kernel
theorem dX10_answer_3 : decode cX10_answer 3 = .ok (.invokestatic 85, 3) := by decide +kernel
theorem dX10_answer_6 : decode cX10_answer 6 = .ok (.ifCond .ne 9, 3) := by decide +kernel
theorem dX10_answer_9 : decode cX10_answer 9 = .ok (.aload_n 0, 1) := by decide +kernel
theorem dX10_answer_10 : decode cX10_answer 10 = .ok (.iconst (-1), 1) := by decide +kernel
theorem dX10_answer_11 : decode cX10_answer 11 = .ok (.invokevirtual 89, 3) := by decide +kernel
theorem dX10_answer_14 : decode cX10_answer 14 = .ok (.ireturn, 1) := by decide +kernel
theorem dX10_answer_15 : decode cX10_answer 15 = .ok (.aload_n 0, 1) := by decide +kernel
theorem dX10_answer_16 : decode cX10_answer 16 = .ok (.getfield 32, 3) := by decide +kernel
theorem dX10_answer_19 : decode cX10_answer 19 = .ok (.iload_n 1, 1) := by decide +kernel
theorem dX10_answer_20 : decode cX10_answer 20 = .ok (.invokevirtual 144, 3) := by decide +kernel
theorem dX10_answer_23 : decode cX10_answer 23 = .ok (.ifCond .ne 10, 3) := by decide +kernel
theorem dX10_answer_26 : decode cX10_answer 26 = .ok (.aload_n 0, 1) := by decide +kernel
theorem dX10_answer_27 : decode cX10_answer 27 = .ok (.bipush (-2), 2) := by decide +kernel
theorem dX10_answer_29 : decode cX10_answer 29 = .ok (.invokevirtual 89, 3) := by decide +kernel
theorem dX10_answer_32 : decode cX10_answer 32 = .ok (.ireturn, 1) := by decide +kernel
theorem dX10_answer_33 : decode cX10_answer 33 = .ok (.aload_n 0, 1) := by decide +kernel
theorem dX10_answer_34 : decode cX10_answer 34 = .ok (.getfield 32, 3) := by decide +kernel
theorem dX10_answer_37 : decode cX10_answer 37 = .ok (.getfield 259, 3) := by decide +kernel
theorem dX10_answer_40 : decode cX10_answer 40 = .ok (.bipush 6, 2) := by decide +kernel
theorem dX10_answer_42 : decode cX10_answer 42 = .ok (.if_icmp .lt 10, 3) := by decide +kernel
theorem dX10_answer_45 : decode cX10_answer 45 = .ok (.aload_n 0, 1) := by decide +kernel
theorem dX10_answer_46 : decode cX10_answer 46 = .ok (.bipush (-5), 2) := by decide +kernel
theorem dX10_answer_48 : decode cX10_answer 48 = .ok (.invokevirtual 89, 3) := by decide +kernel
theorem dX10_answer_51 : decode cX10_answer 51 = .ok (.ireturn, 1) := by decide +kernel
theorem dX10_answer_52 : decode cX10_answer 52 = .ok (.aload_n 0, 1) := by decide +kernel
theorem dX10_answer_53 : decode cX10_answer 53 = .ok (.aload_n 0, 1) := by decide +kernel
theorem dX10_answer_54 : decode cX10_answer 54 = .ok (.getfield 32, 3) := by decide +kernel
theorem dX10_answer_57 : decode cX10_answer 57 = .ok (.iload_n 1, 1) := by decide +kernel
theorem dX10_answer_58 : decode cX10_answer 58 = .ok (.iload_n 2, 1) := by decide +kernel
theorem dX10_answer_59 : decode cX10_answer 59 = .ok (.invokevirtual 262, 3) := by decide +kernel
theorem dX10_answer_62 : decode cX10_answer 62 = .ok (.invokevirtual 112, 3) := by decide +kernel
theorem dX10_answer_65 : decode cX10_answer 65 = .ok (.ireturn, 1) := by decide +kernel
theorem dX10_forget_0 : decode cX10_forget 0 = .ok (.aload_n 0, 1) := by decide +kernel
theorem dX10_forget_1 : decode cX10_forget 1 = .ok (.getfield 32, 3) := by decide +kernel
theorem dX10_forget_4 : decode cX10_forget 4 = .ok (.getfield 259, 3) := by decide +kernel
theorem dX10_forget_7 : decode cX10_forget 7 = .ok (.istore_n 1, 1) := by decide +kernel
theorem dX10_forget_8 : decode cX10_forget 8 = .ok (.aload_n 0, 1) := by decide +kernel
theorem dX10_forget_9 : decode cX10_forget 9 = .ok (.getfield 32, 3) := by decide +kernel
theorem dX10_forget_12 : decode cX10_forget 12 = .ok (.iconst 0, 1) := by decide +kernel
theorem dX10_forget_13 : decode cX10_forget 13 = .ok (.putfield 259, 3) := by decide +kernel
theorem dX10_forget_16 : decode cX10_forget 16 = .ok (.iload_n 1, 1) := by decide +kernel
theorem dX10_forget_17 : decode cX10_forget 17 = .ok (.ireturn, 1) := by decide +kernel
theorem dX10_which_0 : decode cX10_which 0 = .ok (.aload_n 0, 1) := by decide +kernel
theorem dX10_which_1 : decode cX10_which 1 = .ok (.getfield 32, 3) := by decide +kernel
theorem dX10_which_4 : decode cX10_which 4 = .ok (.invokestatic 265, 3) := by decide +kernel
theorem dX10_which_7 : decode cX10_which 7 = .ok (.ireturn, 1) := by decide +kernel
theorem dX10_let_0 : decode cX10_let 0 = .ok (.iload_n 1, 1) := by decide +kernel
theorem dX10_let_1 : decode cX10_let 1 = .ok (.iconst 0, 1) := by decide +kernel
theorem dX10_let_2 : decode cX10_let 2 = .ok (.iconst 1, 1) := by decide +kernel
theorem dX10_let_3 : decode cX10_let 3 = .ok (.invokestatic 85, 3) := by decide +kernel
theorem dX10_let_6 : decode cX10_let 6 = .ok (.ifCond .eq 14, 3) := by decide +kernel
theorem dX10_let_9 : decode cX10_let 9 = .ok (.aload_n 0, 1) := by decide +kernel
theorem dX10_let_10 : decode cX10_let 10 = .ok (.getfield 32, 3) := by decide +kernel
theorem dX10_let_13 : decode cX10_let 13 = .ok (.iload_n 1, 1) := by decide +kernel
theorem dX10_let_14 : decode cX10_let 14 = .ok (.invokestatic 270, 3) := by decide +kernel
theorem dX10_let_17 : decode cX10_let 17 = .ok (.goto 4, 3) := by decide +kernel
theorem dX10_let_20 : decode cX10_let 20 = .ok (.iconst (-1), 1) := by decide +kernel
theorem dX10_let_21 : decode cX10_let 21 = .ok (.ireturn, 1) := by decide +kernel
theorem dX10_alike_0 : decode cX10_alike 0 = .ok (.iload_n 1, 1) := by decide +kernel
theorem dX10_alike_1 : decode cX10_alike 1 = .ok (.iconst (-1), 1) := by decide +kernel
theorem dX10_alike_2 : decode cX10_alike 2 = .ok (.if_icmp .lt 14, 3) := by decide +kernel
theorem dX10_alike_5 : decode cX10_alike 5 = .ok (.aload_n 0, 1) := by decide +kernel
theorem dX10_alike_6 : decode cX10_alike 6 = .ok (.getfield 32, 3) := by decide +kernel
theorem dX10_alike_9 : decode cX10_alike 9 = .ok (.iload_n 1, 1) := by decide +kernel
theorem dX10_alike_10 : decode cX10_alike 10 = .ok (.invokestatic 273, 3) := by decide +kernel
theorem dX10_alike_13 : decode cX10_alike 13 = .ok (.goto 4, 3) := by decide +kernel
theorem dX10_alike_16 : decode cX10_alike 16 = .ok (.iconst (-1), 1) := by decide +kernel
theorem dX10_alike_17 : decode cX10_alike 17 = .ok (.ireturn, 1) := by decide +kernel
theorem dX10_anew_0 : decode cX10_anew 0 = .ok (.iload_n 1, 1) := by decide +kernel
theorem dX10_anew_1 : decode cX10_anew 1 = .ok (.iconst 0, 1) := by decide +kernel
theorem dX10_anew_2 : decode cX10_anew 2 = .ok (.iconst 1, 1) := by decide +kernel
theorem dX10_anew_3 : decode cX10_anew 3 = .ok (.invokestatic 85, 3) := by decide +kernel
theorem dX10_anew_6 : decode cX10_anew 6 = .ok (.ifCond .eq 17, 3) := by decide +kernel
theorem dX10_anew_9 : decode cX10_anew 9 = .ok (.aload_n 0, 1) := by decide +kernel
theorem dX10_anew_10 : decode cX10_anew 10 = .ok (.getfield 32, 3) := by decide +kernel
theorem dX10_anew_13 : decode cX10_anew 13 = .ok (.invokestatic 276, 3) := by decide +kernel
theorem dX10_anew_16 : decode cX10_anew 16 = .ok (.iload_n 1, 1) := by decide +kernel
theorem dX10_anew_17 : decode cX10_anew 17 = .ok (.invokestatic 279, 3) := by decide +kernel
theorem dX10_anew_20 : decode cX10_anew 20 = .ok (.goto 4, 3) := by decide +kernel
theorem dX10_anew_23 : decode cX10_anew 23 = .ok (.iconst (-1), 1) := by decide +kernel
theorem dX10_anew_24 : decode cX10_anew 24 = .ok (.ireturn, 1) := by decide +kernel
theorem dX10_guard_0 : decode cX10_guard 0 = .ok (.iload_n 1, 1) := by decide +kernel
theorem dX10_guard_1 : decode cX10_guard 1 = .ok (.iconst 0, 1) := by decide +kernel
theorem dX10_guard_2 : decode cX10_guard 2 = .ok (.iconst 4, 1) := by decide +kernel
theorem dX10_guard_3 : decode cX10_guard 3 = .ok (.invokestatic 85, 3) := by decide +kernel
theorem dX10_guard_6 : decode cX10_guard 6 = .ok (.ifCond .eq 12, 3) := by decide +kernel
theorem dX10_guard_9 : decode cX10_guard 9 = .ok (.iload_n 2, 1) := by decide +kernel
theorem dX10_guard_10 : decode cX10_guard 10 = .ok (.iconst 0, 1) := by decide +kernel
theorem dX10_guard_11 : decode cX10_guard 11 = .ok (.iconst 1, 1) := by decide +kernel
theorem dX10_guard_12 : decode cX10_guard 12 = .ok (.invokestatic 85, 3) := by decide +kernel
theorem dX10_guard_15 : decode cX10_guard 15 = .ok (.ifCond .ne 5, 3) := by decide +kernel
theorem dX10_guard_18 : decode cX10_guard 18 = .ok (.iconst (-1), 1) := by decide +kernel
theorem dX10_guard_19 : decode cX10_guard 19 = .ok (.ireturn, 1) := by decide +kernel
theorem dX10_guard_20 : decode cX10_guard 20 = .ok (.aload_n 0, 1) := by decide +kernel
theorem dX10_guard_21 : decode cX10_guard 21 = .ok (.getfield 32, 3) := by decide +kernel
theorem dX10_guard_24 : decode cX10_guard 24 = .ok (.iload_n 1, 1) := by decide +kernel
theorem dX10_guard_25 : decode cX10_guard 25 = .ok (.invokestatic 282, 3) := by decide +kernel
theorem dX10_guard_28 : decode cX10_guard 28 = .ok (.istore_n 3, 1) := by decide +kernel
theorem dX10_guard_29 : decode cX10_guard 29 = .ok (.iload_n 3, 1) := by decide +kernel
theorem dX10_guard_30 : decode cX10_guard 30 = .ok (.iconst (-1), 1) := by decide +kernel
theorem dX10_guard_31 : decode cX10_guard 31 = .ok (.if_icmp .ne 7, 3) := by decide +kernel
theorem dX10_guard_34 : decode cX10_guard 34 = .ok (.iconst (-1), 1) := by decide +kernel
theorem dX10_guard_35 : decode cX10_guard 35 = .ok (.goto 8, 3) := by decide +kernel
theorem dX10_guard_38 : decode cX10_guard 38 = .ok (.iload_n 3, 1) := by decide +kernel
theorem dX10_guard_39 : decode cX10_guard 39 = .ok (.iload_n 2, 1) := by decide +kernel
theorem dX10_guard_40 : decode cX10_guard 40 = .ok (.invokestatic 279, 3) := by decide +kernel
theorem dX10_guard_43 : decode cX10_guard 43 = .ok (.ireturn, 1) := by decide +kernel
theorem dX10_lessons_0 : decode cX10_lessons 0 = .ok (.iload_n 1, 1) := by decide +kernel
theorem dX10_lessons_1 : decode cX10_lessons 1 = .ok (.iconst 0, 1) := by decide +kernel
theorem dX10_lessons_2 : decode cX10_lessons 2 = .ok (.aload_n 0, 1) := by decide +kernel
theorem dX10_lessons_3 : decode cX10_lessons 3 = .ok (.getfield 32, 3) := by decide +kernel
theorem dX10_lessons_6 : decode cX10_lessons 6 = .ok (.getfield 137, 3) := by decide +kernel
theorem dX10_lessons_9 : decode cX10_lessons 9 = .ok (.invokestatic 85, 3) := by decide +kernel
theorem dX10_lessons_12 : decode cX10_lessons 12 = .ok (.ifCond .eq 14, 3) := by decide +kernel
theorem dX10_lessons_15 : decode cX10_lessons 15 = .ok (.aload_n 0, 1) := by decide +kernel
theorem dX10_lessons_16 : decode cX10_lessons 16 = .ok (.getfield 32, 3) := by decide +kernel
theorem dX10_lessons_19 : decode cX10_lessons 19 = .ok (.iload_n 1, 1) := by decide +kernel
theorem dX10_lessons_20 : decode cX10_lessons 20 = .ok (.invokestatic 285, 3) := by decide +kernel
theorem dX10_lessons_23 : decode cX10_lessons 23 = .ok (.goto 4, 3) := by decide +kernel
theorem dX10_lessons_26 : decode cX10_lessons 26 = .ok (.iconst (-1), 1) := by decide +kernel
theorem dX10_lessons_27 : decode cX10_lessons 27 = .ok (.ireturn, 1) := by decide +kernel
theorem dX10_drift_0 : decode cX10_drift 0 = .ok (.aload_n 0, 1) := by decide +kernel
theorem dX10_drift_1 : decode cX10_drift 1 = .ok (.getfield 32, 3) := by decide +kernel
theorem dX10_drift_4 : decode cX10_drift 4 = .ok (.iload_n 1, 1) := by decide +kernel
theorem dX10_drift_5 : decode cX10_drift 5 = .ok (.invokevirtual 156, 3) := by decide +kernel
theorem dX10_drift_8 : decode cX10_drift 8 = .ok (.ifCond .eq 20, 3) := by decide +kernel
theorem dX10_drift_11 : decode cX10_drift 11 = .ok (.iload_n 2, 1) := by decide +kernel
theorem dX10_drift_12 : decode cX10_drift 12 = .ok (.iconst 0, 1) := by decide +kernel
theorem dX10_drift_13 : decode cX10_drift 13 = .ok (.bipush 60, 2) := by decide +kernel
theorem dX10_drift_15 : decode cX10_drift 15 = .ok (.invokestatic 85, 3) := by decide +kernel
theorem dX10_drift_18 : decode cX10_drift 18 = .ok (.ifCond .eq 10, 3) := by decide +kernel
theorem dX10_drift_21 : decode cX10_drift 21 = .ok (.iload_n 3, 1) := by decide +kernel
theorem dX10_drift_22 : decode cX10_drift 22 = .ok (.invokestatic 81, 3) := by decide +kernel
theorem dX10_drift_25 : decode cX10_drift 25 = .ok (.ifCond .ne 7, 3) := by decide +kernel
theorem dX10_drift_28 : decode cX10_drift 28 = .ok (.ldc2_w 288, 3) := by decide +kernel
theorem dX10_drift_31 : decode cX10_drift 31 = .ok (.lreturn, 1) := by decide +kernel
theorem dX10_drift_32 : decode cX10_drift 32 = .ok (.aload_n 0, 1) := by decide +kernel
theorem dX10_drift_33 : decode cX10_drift 33 = .ok (.getfield 50, 3) := by decide +kernel
theorem dX10_drift_36 : decode cX10_drift 36 = .ok (.aload_n 0, 1) := by decide +kernel
theorem dX10_drift_37 : decode cX10_drift 37 = .ok (.getfield 32, 3) := by decide +kernel
theorem dX10_drift_40 : decode cX10_drift 40 = .ok (.iload_n 1, 1) := by decide +kernel
theorem dX10_drift_41 : decode cX10_drift 41 = .ok (.iload_n 2, 1) := by decide +kernel
theorem dX10_drift_42 : decode cX10_drift 42 = .ok (.invokevirtual 290, 3) := by decide +kernel
theorem dX10_drift_45 : decode cX10_drift 45 = .ok (.aload_n 0, 1) := by decide +kernel
theorem dX10_drift_46 : decode cX10_drift 46 = .ok (.getfield 50, 3) := by decide +kernel
theorem dX10_drift_49 : decode cX10_drift 49 = .ok (.iload_n 3, 1) := by decide +kernel
theorem dX10_drift_50 : decode cX10_drift 50 = .ok (.invokevirtual 294, 3) := by decide +kernel
theorem dX10_drift_53 : decode cX10_drift 53 = .ok (.lreturn, 1) := by decide +kernel
theorem dX10_sodden_0 : decode cX10_sodden 0 = .ok (.aload_n 0, 1) := by decide +kernel
theorem dX10_sodden_1 : decode cX10_sodden 1 = .ok (.getfield 32, 3) := by decide +kernel
theorem dX10_sodden_4 : decode cX10_sodden 4 = .ok (.iload_n 1, 1) := by decide +kernel
theorem dX10_sodden_5 : decode cX10_sodden 5 = .ok (.invokevirtual 156, 3) := by decide +kernel
theorem dX10_sodden_8 : decode cX10_sodden 8 = .ok (.ifCond .eq 13, 3) := by decide +kernel
theorem dX10_sodden_11 : decode cX10_sodden 11 = .ok (.iload_n 2, 1) := by decide +kernel
theorem dX10_sodden_12 : decode cX10_sodden 12 = .ok (.iconst 0, 1) := by decide +kernel
theorem dX10_sodden_13 : decode cX10_sodden 13 = .ok (.bipush 60, 2) := by decide +kernel
theorem dX10_sodden_15 : decode cX10_sodden 15 = .ok (.invokestatic 85, 3) := by decide +kernel
theorem dX10_sodden_18 : decode cX10_sodden 18 = .ok (.ifCond .ne 5, 3) := by decide +kernel
theorem dX10_sodden_21 : decode cX10_sodden 21 = .ok (.iconst (-1), 1) := by decide +kernel
theorem dX10_sodden_22 : decode cX10_sodden 22 = .ok (.ireturn, 1) := by decide +kernel
theorem dX10_sodden_23 : decode cX10_sodden 23 = .ok (.aload_n 0, 1) := by decide +kernel
theorem dX10_sodden_24 : decode cX10_sodden 24 = .ok (.getfield 50, 3) := by decide +kernel
theorem dX10_sodden_27 : decode cX10_sodden 27 = .ok (.aload_n 0, 1) := by decide +kernel
theorem dX10_sodden_28 : decode cX10_sodden 28 = .ok (.getfield 32, 3) := by decide +kernel
theorem dX10_sodden_31 : decode cX10_sodden 31 = .ok (.iload_n 1, 1) := by decide +kernel
theorem dX10_sodden_32 : decode cX10_sodden 32 = .ok (.iload_n 2, 1) := by decide +kernel
theorem dX10_sodden_33 : decode cX10_sodden 33 = .ok (.invokevirtual 290, 3) := by decide +kernel
theorem dX10_sodden_36 : decode cX10_sodden 36 = .ok (.aload_n 0, 1) := by decide +kernel
theorem dX10_sodden_37 : decode cX10_sodden 37 = .ok (.getfield 50, 3) := by decide +kernel
theorem dX10_sodden_40 : decode cX10_sodden 40 = .ok (.invokevirtual 298, 3) := by decide +kernel
theorem dX10_sodden_43 : decode cX10_sodden 43 = .ok (.ireturn, 1) := by decide +kernel
theorem dX10_hot_0 : decode cX10_hot 0 = .ok (.iload_n 1, 1) := by decide +kernel
theorem dX10_hot_1 : decode cX10_hot 1 = .ok (.iconst (-1), 1) := by decide +kernel
theorem dX10_hot_2 : decode cX10_hot 2 = .ok (.if_icmp .eq 14, 3) := by decide +kernel
theorem dX10_hot_5 : decode cX10_hot 5 = .ok (.aload_n 0, 1) := by decide +kernel
theorem dX10_hot_6 : decode cX10_hot 6 = .ok (.getfield 32, 3) := by decide +kernel
theorem dX10_hot_9 : decode cX10_hot 9 = .ok (.iload_n 1, 1) := by decide +kernel
theorem dX10_hot_10 : decode cX10_hot 10 = .ok (.invokevirtual 230, 3) := by decide +kernel
theorem dX10_hot_13 : decode cX10_hot 13 = .ok (.ifCond .eq 13, 3) := by decide +kernel
theorem dX10_hot_16 : decode cX10_hot 16 = .ok (.iload_n 2, 1) := by decide +kernel
theorem dX10_hot_17 : decode cX10_hot 17 = .ok (.iconst 0, 1) := by decide +kernel
theorem dX10_hot_18 : decode cX10_hot 18 = .ok (.bipush 60, 2) := by decide +kernel
theorem dX10_hot_20 : decode cX10_hot 20 = .ok (.invokestatic 85, 3) := by decide +kernel
theorem dX10_hot_23 : decode cX10_hot 23 = .ok (.ifCond .ne 5, 3) := by decide +kernel
theorem dX10_hot_26 : decode cX10_hot 26 = .ok (.iconst (-1), 1) := by decide +kernel
theorem dX10_hot_27 : decode cX10_hot 27 = .ok (.ireturn, 1) := by decide +kernel
theorem dX10_hot_28 : decode cX10_hot 28 = .ok (.aload_n 0, 1) := by decide +kernel
theorem dX10_hot_29 : decode cX10_hot 29 = .ok (.getfield 50, 3) := by decide +kernel
theorem dX10_hot_32 : decode cX10_hot 32 = .ok (.aload_n 0, 1) := by decide +kernel
theorem dX10_hot_33 : decode cX10_hot 33 = .ok (.getfield 32, 3) := by decide +kernel
theorem dX10_hot_36 : decode cX10_hot 36 = .ok (.iload_n 1, 1) := by decide +kernel
theorem dX10_hot_37 : decode cX10_hot 37 = .ok (.iload_n 2, 1) := by decide +kernel
theorem dX10_hot_38 : decode cX10_hot 38 = .ok (.invokevirtual 302, 3) := by decide +kernel
theorem dX10_hot_41 : decode cX10_hot 41 = .ok (.ireturn, 1) := by decide +kernel
theorem dX10_nights_0 : decode cX10_nights 0 = .ok (.iload_n 1, 1) := by decide +kernel
theorem dX10_nights_1 : decode cX10_nights 1 = .ok (.iconst 0, 1) := by decide +kernel
theorem dX10_nights_2 : decode cX10_nights 2 = .ok (.ldc_w 305, 3) := by decide +kernel
theorem dX10_nights_5 : decode cX10_nights 5 = .ok (.invokestatic 85, 3) := by decide +kernel
theorem dX10_nights_8 : decode cX10_nights 8 = .ok (.ifCond .eq 13, 3) := by decide +kernel
theorem dX10_nights_11 : decode cX10_nights 11 = .ok (.iload_n 2, 1) := by decide +kernel
theorem dX10_nights_12 : decode cX10_nights 12 = .ok (.iconst 1, 1) := by decide +kernel
theorem dX10_nights_13 : decode cX10_nights 13 = .ok (.bipush 60, 2) := by decide +kernel
theorem dX10_nights_15 : decode cX10_nights 15 = .ok (.invokestatic 85, 3) := by decide +kernel
theorem dX10_nights_18 : decode cX10_nights 18 = .ok (.ifCond .ne 9, 3) := by decide +kernel
theorem dX10_nights_21 : decode cX10_nights 21 = .ok (.aload_n 0, 1) := by decide +kernel
theorem dX10_nights_22 : decode cX10_nights 22 = .ok (.iconst (-1), 1) := by decide +kernel
theorem dX10_nights_23 : decode cX10_nights 23 = .ok (.invokevirtual 89, 3) := by decide +kernel
theorem dX10_nights_26 : decode cX10_nights 26 = .ok (.ireturn, 1) := by decide +kernel
theorem dX10_nights_27 : decode cX10_nights 27 = .ok (.aload_n 0, 1) := by decide +kernel
theorem dX10_nights_28 : decode cX10_nights 28 = .ok (.getfield 32, 3) := by decide +kernel
theorem dX10_nights_31 : decode cX10_nights 31 = .ok (.getfield 96, 3) := by decide +kernel
theorem dX10_nights_34 : decode cX10_nights 34 = .ok (.ifCond .eq 13, 3) := by decide +kernel
theorem dX10_nights_37 : decode cX10_nights 37 = .ok (.aload_n 0, 1) := by decide +kernel
theorem dX10_nights_38 : decode cX10_nights 38 = .ok (.getfield 32, 3) := by decide +kernel
theorem dX10_nights_41 : decode cX10_nights 41 = .ok (.getfield 137, 3) := by decide +kernel
theorem dX10_nights_44 : decode cX10_nights 44 = .ok (.ifCond .ne 10, 3) := by decide +kernel
theorem dX10_nights_47 : decode cX10_nights 47 = .ok (.aload_n 0, 1) := by decide +kernel
theorem dX10_nights_48 : decode cX10_nights 48 = .ok (.bipush (-3), 2) := by decide +kernel
theorem dX10_nights_50 : decode cX10_nights 50 = .ok (.invokevirtual 89, 3) := by decide +kernel
theorem dX10_nights_53 : decode cX10_nights 53 = .ok (.ireturn, 1) := by decide +kernel
theorem dX10_nights_54 : decode cX10_nights 54 = .ok (.aload_n 0, 1) := by decide +kernel
theorem dX10_nights_55 : decode cX10_nights 55 = .ok (.getfield 36, 3) := by decide +kernel
theorem dX10_nights_58 : decode cX10_nights 58 = .ok (.aload_n 0, 1) := by decide +kernel
theorem dX10_nights_59 : decode cX10_nights 59 = .ok (.getfield 32, 3) := by decide +kernel
theorem dX10_nights_62 : decode cX10_nights 62 = .ok (.invokevirtual 306, 3) := by decide +kernel
theorem dX10_nights_65 : decode cX10_nights 65 = .ok (.aload_n 0, 1) := by decide +kernel
theorem dX10_nights_66 : decode cX10_nights 66 = .ok (.iconst 1, 1) := by decide +kernel
theorem dX10_nights_67 : decode cX10_nights 67 = .ok (.putfield 309, 3) := by decide +kernel
theorem dX10_nights_70 : decode cX10_nights 70 = .ok (.aload_n 0, 1) := by decide +kernel
theorem dX10_nights_71 : decode cX10_nights 71 = .ok (.aload_n 0, 1) := by decide +kernel
theorem dX10_nights_72 : decode cX10_nights 72 = .ok (.getfield 50, 3) := by decide +kernel
theorem dX10_nights_75 : decode cX10_nights 75 = .ok (.aload_n 0, 1) := by decide +kernel
theorem dX10_nights_76 : decode cX10_nights 76 = .ok (.getfield 36, 3) := by decide +kernel
theorem dX10_nights_79 : decode cX10_nights 79 = .ok (.iload_n 1, 1) := by decide +kernel
theorem dX10_nights_80 : decode cX10_nights 80 = .ok (.iload_n 2, 1) := by decide +kernel
theorem dX10_nights_81 : decode cX10_nights 81 = .ok (.invokevirtual 313, 3) := by decide +kernel
theorem dX10_nights_84 : decode cX10_nights 84 = .ok (.invokevirtual 112, 3) := by decide +kernel
theorem dX10_nights_87 : decode cX10_nights 87 = .ok (.ireturn, 1) := by decide +kernel
theorem dX10_drawn_0 : decode cX10_drawn 0 = .ok (.aload_n 0, 1) := by decide +kernel
theorem dX10_drawn_1 : decode cX10_drawn 1 = .ok (.getfield 309, 3) := by decide +kernel
theorem dX10_drawn_4 : decode cX10_drawn 4 = .ok (.ifCond .ne 6, 3) := by decide +kernel
theorem dX10_drawn_7 : decode cX10_drawn 7 = .ok (.bipush (-100), 2) := by decide +kernel
theorem dX10_drawn_9 : decode cX10_drawn 9 = .ok (.ireturn, 1) := by decide +kernel
theorem dX10_drawn_10 : decode cX10_drawn 10 = .ok (.iload_n 2, 1) := by decide +kernel
theorem dX10_drawn_11 : decode cX10_drawn 11 = .ok (.tableswitch 103 0 2 #[25, 51, 77], 25) := by decide +kernel
theorem dX10_drawn_36 : decode cX10_drawn 36 = .ok (.aload_n 0, 1) := by decide +kernel
theorem dX10_drawn_37 : decode cX10_drawn 37 = .ok (.getfield 36, 3) := by decide +kernel
theorem dX10_drawn_40 : decode cX10_drawn 40 = .ok (.iload_n 1, 1) := by decide +kernel
theorem dX10_drawn_41 : decode cX10_drawn 41 = .ok (.invokevirtual 115, 3) := by decide +kernel
theorem dX10_drawn_44 : decode cX10_drawn 44 = .ok (.ifCond .eq 15, 3) := by decide +kernel
theorem dX10_drawn_47 : decode cX10_drawn 47 = .ok (.aload_n 0, 1) := by decide +kernel
theorem dX10_drawn_48 : decode cX10_drawn 48 = .ok (.getfield 36, 3) := by decide +kernel
theorem dX10_drawn_51 : decode cX10_drawn 51 = .ok (.getfield 118, 3) := by decide +kernel
theorem dX10_drawn_54 : decode cX10_drawn 54 = .ok (.iload_n 1, 1) := by decide +kernel
theorem dX10_drawn_55 : decode cX10_drawn 55 = .ok (.iaload, 1) := by decide +kernel
theorem dX10_drawn_56 : decode cX10_drawn 56 = .ok (.goto 5, 3) := by decide +kernel
theorem dX10_drawn_59 : decode cX10_drawn 59 = .ok (.bipush (-100), 2) := by decide +kernel
theorem dX10_drawn_61 : decode cX10_drawn 61 = .ok (.ireturn, 1) := by decide +kernel
theorem dX10_drawn_62 : decode cX10_drawn 62 = .ok (.aload_n 0, 1) := by decide +kernel
theorem dX10_drawn_63 : decode cX10_drawn 63 = .ok (.getfield 36, 3) := by decide +kernel
theorem dX10_drawn_66 : decode cX10_drawn 66 = .ok (.iload_n 1, 1) := by decide +kernel
theorem dX10_drawn_67 : decode cX10_drawn 67 = .ok (.invokevirtual 115, 3) := by decide +kernel
theorem dX10_drawn_70 : decode cX10_drawn 70 = .ok (.ifCond .eq 15, 3) := by decide +kernel
theorem dX10_drawn_73 : decode cX10_drawn 73 = .ok (.aload_n 0, 1) := by decide +kernel
theorem dX10_drawn_74 : decode cX10_drawn 74 = .ok (.getfield 36, 3) := by decide +kernel
theorem dX10_drawn_77 : decode cX10_drawn 77 = .ok (.getfield 121, 3) := by decide +kernel
theorem dX10_drawn_80 : decode cX10_drawn 80 = .ok (.iload_n 1, 1) := by decide +kernel
theorem dX10_drawn_81 : decode cX10_drawn 81 = .ok (.iaload, 1) := by decide +kernel
theorem dX10_drawn_82 : decode cX10_drawn 82 = .ok (.goto 5, 3) := by decide +kernel
theorem dX10_drawn_85 : decode cX10_drawn 85 = .ok (.bipush (-100), 2) := by decide +kernel
theorem dX10_drawn_87 : decode cX10_drawn 87 = .ok (.ireturn, 1) := by decide +kernel
theorem dX10_drawn_88 : decode cX10_drawn 88 = .ok (.aload_n 0, 1) := by decide +kernel
theorem dX10_drawn_89 : decode cX10_drawn 89 = .ok (.getfield 36, 3) := by decide +kernel
theorem dX10_drawn_92 : decode cX10_drawn 92 = .ok (.iload_n 1, 1) := by decide +kernel
theorem dX10_drawn_93 : decode cX10_drawn 93 = .ok (.invokevirtual 144, 3) := by decide +kernel
theorem dX10_drawn_96 : decode cX10_drawn 96 = .ok (.ifCond .eq 15, 3) := by decide +kernel
theorem dX10_drawn_99 : decode cX10_drawn 99 = .ok (.aload_n 0, 1) := by decide +kernel
theorem dX10_drawn_100 : decode cX10_drawn 100 = .ok (.getfield 36, 3) := by decide +kernel
theorem dX10_drawn_103 : decode cX10_drawn 103 = .ok (.getfield 147, 3) := by decide +kernel
theorem dX10_drawn_106 : decode cX10_drawn 106 = .ok (.iload_n 1, 1) := by decide +kernel
theorem dX10_drawn_107 : decode cX10_drawn 107 = .ok (.iaload, 1) := by decide +kernel
theorem dX10_drawn_108 : decode cX10_drawn 108 = .ok (.goto 5, 3) := by decide +kernel
theorem dX10_drawn_111 : decode cX10_drawn 111 = .ok (.bipush (-100), 2) := by decide +kernel
theorem dX10_drawn_113 : decode cX10_drawn 113 = .ok (.ireturn, 1) := by decide +kernel
theorem dX10_drawn_114 : decode cX10_drawn 114 = .ok (.bipush (-100), 2) := by decide +kernel
theorem dX10_drawn_116 : decode cX10_drawn 116 = .ok (.ireturn, 1) := by decide +kernel
theorem dX10_image_0 : decode cX10_image 0 = .ok (.iload_n 1, 1) := by decide +kernel
theorem dX10_image_1 : decode cX10_image 1 = .ok (.iconst 0, 1) := by decide +kernel
theorem dX10_image_2 : decode cX10_image 2 = .ok (.iconst 1, 1) := by decide +kernel
theorem dX10_image_3 : decode cX10_image 3 = .ok (.invokestatic 85, 3) := by decide +kernel
theorem dX10_image_6 : decode cX10_image 6 = .ok (.ifCond .ne 9, 3) := by decide +kernel
theorem dX10_image_9 : decode cX10_image 9 = .ok (.aload_n 0, 1) := by decide +kernel
theorem dX10_image_10 : decode cX10_image 10 = .ok (.iconst (-1), 1) := by decide +kernel
theorem dX10_image_11 : decode cX10_image 11 = .ok (.invokevirtual 89, 3) := by decide +kernel
theorem dX10_image_14 : decode cX10_image 14 = .ok (.ireturn, 1) := by decide +kernel
theorem dX10_image_15 : decode cX10_image 15 = .ok (.aload_n 0, 1) := by decide +kernel
theorem dX10_image_16 : decode cX10_image 16 = .ok (.getfield 39, 3) := by decide +kernel
theorem dX10_image_19 : decode cX10_image 19 = .ok (.iload_n 1, 1) := by decide +kernel
theorem dX10_image_20 : decode cX10_image 20 = .ok (.aaload, 1) := by decide +kernel
theorem dX10_image_21 : decode cX10_image 21 = .ok (.aload_n 0, 1) := by decide +kernel
theorem dX10_image_22 : decode cX10_image 22 = .ok (.getfield 32, 3) := by decide +kernel
theorem dX10_image_25 : decode cX10_image 25 = .ok (.invokevirtual 306, 3) := by decide +kernel
theorem dX10_image_28 : decode cX10_image 28 = .ok (.aload_n 0, 1) := by decide +kernel
theorem dX10_image_29 : decode cX10_image 29 = .ok (.getfield 43, 3) := by decide +kernel
theorem dX10_image_32 : decode cX10_image 32 = .ok (.iload_n 1, 1) := by decide +kernel
theorem dX10_image_33 : decode cX10_image 33 = .ok (.iconst 1, 1) := by decide +kernel
theorem dX10_image_34 : decode cX10_image 34 = .ok (.bastore, 1) := by decide +kernel
theorem dX10_image_35 : decode cX10_image 35 = .ok (.aload_n 0, 1) := by decide +kernel
theorem dX10_image_36 : decode cX10_image 36 = .ok (.iconst 0, 1) := by decide +kernel
theorem dX10_image_37 : decode cX10_image 37 = .ok (.invokevirtual 112, 3) := by decide +kernel
theorem dX10_image_40 : decode cX10_image 40 = .ok (.ireturn, 1) := by decide +kernel
theorem dX10_back_0 : decode cX10_back 0 = .ok (.iload_n 1, 1) := by decide +kernel
theorem dX10_back_1 : decode cX10_back 1 = .ok (.iconst 0, 1) := by decide +kernel
theorem dX10_back_2 : decode cX10_back 2 = .ok (.iconst 1, 1) := by decide +kernel
theorem dX10_back_3 : decode cX10_back 3 = .ok (.invokestatic 85, 3) := by decide +kernel
theorem dX10_back_6 : decode cX10_back 6 = .ok (.ifCond .ne 9, 3) := by decide +kernel
theorem dX10_back_9 : decode cX10_back 9 = .ok (.aload_n 0, 1) := by decide +kernel
theorem dX10_back_10 : decode cX10_back 10 = .ok (.iconst (-1), 1) := by decide +kernel
theorem dX10_back_11 : decode cX10_back 11 = .ok (.invokevirtual 89, 3) := by decide +kernel
theorem dX10_back_14 : decode cX10_back 14 = .ok (.ireturn, 1) := by decide +kernel
theorem dX10_back_15 : decode cX10_back 15 = .ok (.aload_n 0, 1) := by decide +kernel
theorem dX10_back_16 : decode cX10_back 16 = .ok (.getfield 43, 3) := by decide +kernel
theorem dX10_back_19 : decode cX10_back 19 = .ok (.iload_n 1, 1) := by decide +kernel
theorem dX10_back_20 : decode cX10_back 20 = .ok (.baload, 1) := by decide +kernel
theorem dX10_back_21 : decode cX10_back 21 = .ok (.ifCond .ne 10, 3) := by decide +kernel
theorem dX10_back_24 : decode cX10_back 24 = .ok (.aload_n 0, 1) := by decide +kernel
theorem dX10_back_25 : decode cX10_back 25 = .ok (.bipush (-2), 2) := by decide +kernel
theorem dX10_back_27 : decode cX10_back 27 = .ok (.invokevirtual 89, 3) := by decide +kernel
theorem dX10_back_30 : decode cX10_back 30 = .ok (.ireturn, 1) := by decide +kernel
theorem dX10_back_31 : decode cX10_back 31 = .ok (.aload_n 0, 1) := by decide +kernel
theorem dX10_back_32 : decode cX10_back 32 = .ok (.getfield 32, 3) := by decide +kernel
theorem dX10_back_35 : decode cX10_back 35 = .ok (.aload_n 0, 1) := by decide +kernel
theorem dX10_back_36 : decode cX10_back 36 = .ok (.getfield 39, 3) := by decide +kernel
theorem dX10_back_39 : decode cX10_back 39 = .ok (.iload_n 1, 1) := by decide +kernel
theorem dX10_back_40 : decode cX10_back 40 = .ok (.aaload, 1) := by decide +kernel
theorem dX10_back_41 : decode cX10_back 41 = .ok (.invokevirtual 306, 3) := by decide +kernel
theorem dX10_back_44 : decode cX10_back 44 = .ok (.aload_n 0, 1) := by decide +kernel
theorem dX10_back_45 : decode cX10_back 45 = .ok (.getfield 21, 3) := by decide +kernel
theorem dX10_back_48 : decode cX10_back 48 = .ok (.getfield 99, 3) := by decide +kernel
theorem dX10_back_51 : decode cX10_back 51 = .ok (.invokevirtual 103, 3) := by decide +kernel
theorem dX10_back_54 : decode cX10_back 54 = .ok (.aload_n 0, 1) := by decide +kernel
theorem dX10_back_55 : decode cX10_back 55 = .ok (.iconst 0, 1) := by decide +kernel
theorem dX10_back_56 : decode cX10_back 56 = .ok (.invokevirtual 112, 3) := by decide +kernel
theorem dX10_back_59 : decode cX10_back 59 = .ok (.ireturn, 1) := by decide +kernel
theorem dX10_count_0 : decode cX10_count 0 = .ok (.iload_n 1, 1) := by decide +kernel
theorem dX10_count_1 : decode cX10_count 1 = .ok (.tableswitch 170 0 12 #[67, 75, 83, 91, 99, 107, 118, 126, 133, 140, 147, 154, 162], 67) := by decide +kernel
theorem dX10_count_68 : decode cX10_count 68 = .ok (.aload_n 0, 1) := by decide +kernel
theorem dX10_count_69 : decode cX10_count 69 = .ok (.getfield 32, 3) := by decide +kernel
theorem dX10_count_72 : decode cX10_count 72 = .ok (.getfield 96, 3) := by decide +kernel
theorem dX10_count_75 : decode cX10_count 75 = .ok (.ireturn, 1) := by decide +kernel
theorem dX10_count_76 : decode cX10_count 76 = .ok (.aload_n 0, 1) := by decide +kernel
theorem dX10_count_77 : decode cX10_count 77 = .ok (.getfield 32, 3) := by decide +kernel
theorem dX10_count_80 : decode cX10_count 80 = .ok (.invokevirtual 316, 3) := by decide +kernel
theorem dX10_count_83 : decode cX10_count 83 = .ok (.ireturn, 1) := by decide +kernel
theorem dX10_count_84 : decode cX10_count 84 = .ok (.aload_n 0, 1) := by decide +kernel
theorem dX10_count_85 : decode cX10_count 85 = .ok (.getfield 32, 3) := by decide +kernel
theorem dX10_count_88 : decode cX10_count 88 = .ok (.getfield 137, 3) := by decide +kernel
theorem dX10_count_91 : decode cX10_count 91 = .ok (.ireturn, 1) := by decide +kernel
theorem dX10_count_92 : decode cX10_count 92 = .ok (.aload_n 0, 1) := by decide +kernel
theorem dX10_count_93 : decode cX10_count 93 = .ok (.getfield 32, 3) := by decide +kernel
theorem dX10_count_96 : decode cX10_count 96 = .ok (.getfield 259, 3) := by decide +kernel
theorem dX10_count_99 : decode cX10_count 99 = .ok (.ireturn, 1) := by decide +kernel
theorem dX10_count_100 : decode cX10_count 100 = .ok (.aload_n 0, 1) := by decide +kernel
theorem dX10_count_101 : decode cX10_count 101 = .ok (.getfield 32, 3) := by decide +kernel
theorem dX10_count_104 : decode cX10_count 104 = .ok (.getfield 192, 3) := by decide +kernel
theorem dX10_count_107 : decode cX10_count 107 = .ok (.ireturn, 1) := by decide +kernel
theorem dX10_count_108 : decode cX10_count 108 = .ok (.aload_n 0, 1) := by decide +kernel
theorem dX10_count_109 : decode cX10_count 109 = .ok (.getfield 21, 3) := by decide +kernel
theorem dX10_count_112 : decode cX10_count 112 = .ok (.getfield 99, 3) := by decide +kernel
theorem dX10_count_115 : decode cX10_count 115 = .ok (.getfield 319, 3) := by decide +kernel
theorem dX10_count_118 : decode cX10_count 118 = .ok (.ireturn, 1) := by decide +kernel
theorem dX10_count_119 : decode cX10_count 119 = .ok (.aload_n 0, 1) := by decide +kernel
theorem dX10_count_120 : decode cX10_count 120 = .ok (.getfield 57, 3) := by decide +kernel
theorem dX10_count_123 : decode cX10_count 123 = .ok (.getfield 183, 3) := by decide +kernel
