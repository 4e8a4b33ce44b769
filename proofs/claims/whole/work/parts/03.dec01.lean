theorem dX1_playNights_79 : decode cX1_playNights 79 = .ok (.goto 22, 3) := by decide +kernel
theorem dX1_playNights_82 : decode cX1_playNights 82 = .ok (.iload 8, 2) := by decide +kernel
theorem dX1_playNights_84 : decode cX1_playNights 84 = .ok (.iconst 1, 1) := by decide +kernel
theorem dX1_playNights_85 : decode cX1_playNights 85 = .ok (.if_icmp .ne 16, 3) := by decide +kernel
theorem dX1_playNights_88 : decode cX1_playNights 88 = .ok (.aload_n 1, 1) := by decide +kernel
theorem dX1_playNights_89 : decode cX1_playNights 89 = .ok (.iload 7, 2) := by decide +kernel
theorem dX1_playNights_91 : decode cX1_playNights 91 = .ok (.iload 6, 2) := by decide +kernel
theorem dX1_playNights_93 : decode cX1_playNights 93 = .ok (.iconst 4, 1) := by decide +kernel
theorem dX1_playNights_94 : decode cX1_playNights 94 = .ok (.irem, 1) := by decide +kernel
theorem dX1_playNights_95 : decode cX1_playNights 95 = .ok (.iconst 1, 1) := by decide +kernel
theorem dX1_playNights_96 : decode cX1_playNights 96 = .ok (.iadd, 1) := by decide +kernel
theorem dX1_playNights_97 : decode cX1_playNights 97 = .ok (.invokevirtual 117, 3) := by decide +kernel
theorem dX1_playNights_100 : decode cX1_playNights 100 = .ok (.pop, 1) := by decide +kernel
theorem dX1_playNights_101 : decode cX1_playNights 101 = .ok (.aload_n 0, 1) := by decide +kernel
theorem dX1_playNights_102 : decode cX1_playNights 102 = .ok (.getfield 33, 3) := by decide +kernel
theorem dX1_playNights_105 : decode cX1_playNights 105 = .ok (.aload_n 1, 1) := by decide +kernel
theorem dX1_playNights_106 : decode cX1_playNights 106 = .ok (.iconst 0, 1) := by decide +kernel
theorem dX1_playNights_107 : decode cX1_playNights 107 = .ok (.aload_n 1, 1) := by decide +kernel
theorem dX1_playNights_108 : decode cX1_playNights 108 = .ok (.getfield 54, 3) := by decide +kernel
theorem dX1_playNights_111 : decode cX1_playNights 111 = .ok (.iconst 1, 1) := by decide +kernel
theorem dX1_playNights_112 : decode cX1_playNights 112 = .ok (.isub, 1) := by decide +kernel
theorem dX1_playNights_113 : decode cX1_playNights 113 = .ok (.invokevirtual 41, 3) := by decide +kernel
theorem dX1_playNights_116 : decode cX1_playNights 116 = .ok (.iinc 5 1, 3) := by decide +kernel
theorem dX1_playNights_119 : decode cX1_playNights 119 = .ok (.goto (-108), 3) := by decide +kernel
theorem dX1_playNights_122 : decode cX1_playNights 122 = .ok (.iload 4, 2) := by decide +kernel
theorem dX1_playNights_124 : decode cX1_playNights 124 = .ok (.ireturn, 1) := by decide +kernel
theorem dX1_draw_0 : decode cX1_draw 0 = .ok (.aload_n 0, 1) := by decide +kernel
theorem dX1_draw_1 : decode cX1_draw 1 = .ok (.aload_n 0, 1) := by decide +kernel
theorem dX1_draw_2 : decode cX1_draw 2 = .ok (.getfield 108, 3) := by decide +kernel
theorem dX1_draw_5 : decode cX1_draw 5 = .ok (.i2l, 1) := by decide +kernel
theorem dX1_draw_6 : decode cX1_draw 6 = .ok (.ldc2_w 120, 3) := by decide +kernel
theorem dX1_draw_9 : decode cX1_draw 9 = .ok (.lmul, 1) := by decide +kernel
theorem dX1_draw_10 : decode cX1_draw 10 = .ok (.ldc2_w 122, 3) := by decide +kernel
theorem dX1_draw_13 : decode cX1_draw 13 = .ok (.ladd, 1) := by decide +kernel
theorem dX1_draw_14 : decode cX1_draw 14 = .ok (.ldc2_w 124, 3) := by decide +kernel
theorem dX1_draw_17 : decode cX1_draw 17 = .ok (.lrem, 1) := by decide +kernel
theorem dX1_draw_18 : decode cX1_draw 18 = .ok (.l2i, 1) := by decide +kernel
theorem dX1_draw_19 : decode cX1_draw 19 = .ok (.putfield 108, 3) := by decide +kernel
theorem dX1_draw_22 : decode cX1_draw 22 = .ok (.iload_n 1, 1) := by decide +kernel
theorem dX1_draw_23 : decode cX1_draw 23 = .ok (.ifCond .le 12, 3) := by decide +kernel
theorem dX1_draw_26 : decode cX1_draw 26 = .ok (.aload_n 0, 1) := by decide +kernel
theorem dX1_draw_27 : decode cX1_draw 27 = .ok (.getfield 108, 3) := by decide +kernel
theorem dX1_draw_30 : decode cX1_draw 30 = .ok (.iload_n 1, 1) := by decide +kernel
theorem dX1_draw_31 : decode cX1_draw 31 = .ok (.irem, 1) := by decide +kernel
theorem dX1_draw_32 : decode cX1_draw 32 = .ok (.goto 4, 3) := by decide +kernel
theorem dX1_draw_35 : decode cX1_draw 35 = .ok (.iconst 0, 1) := by decide +kernel
theorem dX1_draw_36 : decode cX1_draw 36 = .ok (.ireturn, 1) := by decide +kernel
theorem dX2_init_0 : decode cX2_init 0 = .ok (.aload_n 0, 1) := by decide +kernel
theorem dX2_init_1 : decode cX2_init 1 = .ok (.invokespecial 3, 3) := by decide +kernel
theorem dX2_init_4 : decode cX2_init 4 = .ok (.aload_n 0, 1) := by decide +kernel
theorem dX2_init_5 : decode cX2_init 5 = .ok (.new 9, 3) := by decide +kernel
theorem dX2_init_8 : decode cX2_init 8 = .ok (.dup, 1) := by decide +kernel
theorem dX2_init_9 : decode cX2_init 9 = .ok (.invokespecial 11, 3) := by decide +kernel
theorem dX2_init_12 : decode cX2_init 12 = .ok (.putfield 12, 3) := by decide +kernel
theorem dX2_init_15 : decode cX2_init 15 = .ok (.aload_n 0, 1) := by decide +kernel
theorem dX2_init_16 : decode cX2_init 16 = .ok (.sipush 160, 3) := by decide +kernel
theorem dX2_init_19 : decode cX2_init 19 = .ok (.newarray .int, 2) := by decide +kernel
theorem dX2_init_21 : decode cX2_init 21 = .ok (.putfield 18, 3) := by decide +kernel
theorem dX2_init_24 : decode cX2_init 24 = .ok (.aload_n 0, 1) := by decide +kernel
theorem dX2_init_25 : decode cX2_init 25 = .ok (.sipush 160, 3) := by decide +kernel
theorem dX2_init_28 : decode cX2_init 28 = .ok (.newarray .int, 2) := by decide +kernel
theorem dX2_init_30 : decode cX2_init 30 = .ok (.putfield 22, 3) := by decide +kernel
theorem dX2_init_33 : decode cX2_init 33 = .ok (.aload_n 0, 1) := by decide +kernel
theorem dX2_init_34 : decode cX2_init 34 = .ok (.aload_n 1, 1) := by decide +kernel
theorem dX2_init_35 : decode cX2_init 35 = .ok (.putfield 25, 3) := by decide +kernel
theorem dX2_init_38 : decode cX2_init 38 = .ok (.return_, 1) := by decide +kernel
theorem dX2_read_0 : decode cX2_read 0 = .ok (.aload_n 0, 1) := by decide +kernel
theorem dX2_read_1 : decode cX2_read 1 = .ok (.iload_n 1, 1) := by decide +kernel
theorem dX2_read_2 : decode cX2_read 2 = .ok (.putfield 29, 3) := by decide +kernel
theorem dX2_read_5 : decode cX2_read 5 = .ok (.aload_n 0, 1) := by decide +kernel
theorem dX2_read_6 : decode cX2_read 6 = .ok (.iconst 0, 1) := by decide +kernel
theorem dX2_read_7 : decode cX2_read 7 = .ok (.putfield 33, 3) := by decide +kernel
theorem dX2_read_10 : decode cX2_read 10 = .ok (.aload_n 0, 1) := by decide +kernel
theorem dX2_read_11 : decode cX2_read 11 = .ok (.getfield 12, 3) := by decide +kernel
theorem dX2_read_14 : decode cX2_read 14 = .ok (.invokevirtual 37, 3) := by decide +kernel
theorem dX2_read_17 : decode cX2_read 17 = .ok (.aload_n 0, 1) := by decide +kernel
theorem dX2_read_18 : decode cX2_read 18 = .ok (.getfield 25, 3) := by decide +kernel
theorem dX2_read_21 : decode cX2_read 21 = .ok (.invokevirtual 40, 3) := by decide +kernel
theorem dX2_read_24 : decode cX2_read 24 = .ok (.iconst 0, 1) := by decide +kernel
theorem dX2_read_25 : decode cX2_read 25 = .ok (.istore_n 2, 1) := by decide +kernel
theorem dX2_read_26 : decode cX2_read 26 = .ok (.iload_n 2, 1) := by decide +kernel
theorem dX2_read_27 : decode cX2_read 27 = .ok (.bipush 12, 2) := by decide +kernel
theorem dX2_read_29 : decode cX2_read 29 = .ok (.if_icmp .ge 72, 3) := by decide +kernel
theorem dX2_read_32 : decode cX2_read 32 = .ok (.iload_n 1, 1) := by decide +kernel
theorem dX2_read_33 : decode cX2_read 33 = .ok (.ifCond .eq 10, 3) := by decide +kernel
theorem dX2_read_36 : decode cX2_read 36 = .ok (.aload_n 0, 1) := by decide +kernel
theorem dX2_read_37 : decode cX2_read 37 = .ok (.invokevirtual 45, 3) := by decide +kernel
theorem dX2_read_40 : decode cX2_read 40 = .ok (.goto 7, 3) := by decide +kernel
theorem dX2_read_43 : decode cX2_read 43 = .ok (.aload_n 0, 1) := by decide +kernel
theorem dX2_read_44 : decode cX2_read 44 = .ok (.invokevirtual 49, 3) := by decide +kernel
theorem dX2_read_47 : decode cX2_read 47 = .ok (.istore_n 3, 1) := by decide +kernel
theorem dX2_read_48 : decode cX2_read 48 = .ok (.iload_n 3, 1) := by decide +kernel
theorem dX2_read_49 : decode cX2_read 49 = .ok (.ifCond .eq 15, 3) := by decide +kernel
theorem dX2_read_52 : decode cX2_read 52 = .ok (.aload_n 0, 1) := by decide +kernel
theorem dX2_read_53 : decode cX2_read 53 = .ok (.getfield 25, 3) := by decide +kernel
theorem dX2_read_56 : decode cX2_read 56 = .ok (.getfield 52, 3) := by decide +kernel
theorem dX2_read_59 : decode cX2_read 59 = .ok (.ifCond .ne 5, 3) := by decide +kernel
theorem dX2_read_62 : decode cX2_read 62 = .ok (.iconst (-1), 1) := by decide +kernel
theorem dX2_read_63 : decode cX2_read 63 = .ok (.ireturn, 1) := by decide +kernel
theorem dX2_read_64 : decode cX2_read 64 = .ok (.iload_n 3, 1) := by decide +kernel
theorem dX2_read_65 : decode cX2_read 65 = .ok (.ifCond .eq 15, 3) := by decide +kernel
theorem dX2_read_68 : decode cX2_read 68 = .ok (.aload_n 0, 1) := by decide +kernel
theorem dX2_read_69 : decode cX2_read 69 = .ok (.getfield 25, 3) := by decide +kernel
theorem dX2_read_72 : decode cX2_read 72 = .ok (.bipush 59, 2) := by decide +kernel
theorem dX2_read_74 : decode cX2_read 74 = .ok (.invokevirtual 55, 3) := by decide +kernel
theorem dX2_read_77 : decode cX2_read 77 = .ok (.ifCond .ne 11, 3) := by decide +kernel
theorem dX2_read_80 : decode cX2_read 80 = .ok (.aload_n 0, 1) := by decide +kernel
theorem dX2_read_81 : decode cX2_read 81 = .ok (.getfield 25, 3) := by decide +kernel
theorem dX2_read_84 : decode cX2_read 84 = .ok (.getfield 59, 3) := by decide +kernel
theorem dX2_read_87 : decode cX2_read 87 = .ok (.ireturn, 1) := by decide +kernel
theorem dX2_read_88 : decode cX2_read 88 = .ok (.aload_n 0, 1) := by decide +kernel
theorem dX2_read_89 : decode cX2_read 89 = .ok (.getfield 25, 3) := by decide +kernel
theorem dX2_read_92 : decode cX2_read 92 = .ok (.invokevirtual 62, 3) := by decide +kernel
theorem dX2_read_95 : decode cX2_read 95 = .ok (.iinc 2 1, 3) := by decide +kernel
theorem dX2_read_98 : decode cX2_read 98 = .ok (.goto (-72), 3) := by decide +kernel
theorem dX2_read_101 : decode cX2_read 101 = .ok (.aload_n 0, 1) := by decide +kernel
theorem dX2_read_102 : decode cX2_read 102 = .ok (.getfield 25, 3) := by decide +kernel
theorem dX2_read_105 : decode cX2_read 105 = .ok (.getfield 59, 3) := by decide +kernel
theorem dX2_read_108 : decode cX2_read 108 = .ok (.ireturn, 1) := by decide +kernel
theorem dX2_readLaw_0 : decode cX2_readLaw 0 = .ok (.aload_n 0, 1) := by decide +kernel
theorem dX2_readLaw_1 : decode cX2_readLaw 1 = .ok (.getfield 25, 3) := by decide +kernel
theorem dX2_readLaw_4 : decode cX2_readLaw 4 = .ok (.ldc 65, 2) := by decide +kernel
theorem dX2_readLaw_6 : decode cX2_readLaw 6 = .ok (.invokevirtual 67, 3) := by decide +kernel
theorem dX2_readLaw_9 : decode cX2_readLaw 9 = .ok (.istore_n 1, 1) := by decide +kernel
theorem dX2_readLaw_10 : decode cX2_readLaw 10 = .ok (.iload_n 1, 1) := by decide +kernel
theorem dX2_readLaw_11 : decode cX2_readLaw 11 = .ok (.iconst (-1), 1) := by decide +kernel
theorem dX2_readLaw_12 : decode cX2_readLaw 12 = .ok (.if_icmp .ne 5, 3) := by decide +kernel
theorem dX2_readLaw_15 : decode cX2_readLaw 15 = .ok (.iconst 0, 1) := by decide +kernel
theorem dX2_readLaw_16 : decode cX2_readLaw 16 = .ok (.ireturn, 1) := by decide +kernel
theorem dX2_readLaw_17 : decode cX2_readLaw 17 = .ok (.aload_n 0, 1) := by decide +kernel
theorem dX2_readLaw_18 : decode cX2_readLaw 18 = .ok (.getfield 12, 3) := by decide +kernel
theorem dX2_readLaw_21 : decode cX2_readLaw 21 = .ok (.iload_n 1, 1) := by decide +kernel
theorem dX2_readLaw_22 : decode cX2_readLaw 22 = .ok (.invokevirtual 71, 3) := by decide +kernel
theorem dX2_readLaw_25 : decode cX2_readLaw 25 = .ok (.aload_n 0, 1) := by decide +kernel
theorem dX2_readLaw_26 : decode cX2_readLaw 26 = .ok (.getfield 25, 3) := by decide +kernel
theorem dX2_readLaw_29 : decode cX2_readLaw 29 = .ok (.invokevirtual 62, 3) := by decide +kernel
theorem dX2_readLaw_32 : decode cX2_readLaw 32 = .ok (.iload_n 1, 1) := by decide +kernel
theorem dX2_readLaw_33 : decode cX2_readLaw 33 = .ok (.ifCond .eq 8, 3) := by decide +kernel
theorem dX2_readLaw_36 : decode cX2_readLaw 36 = .ok (.iload_n 1, 1) := by decide +kernel
theorem dX2_readLaw_37 : decode cX2_readLaw 37 = .ok (.iconst 1, 1) := by decide +kernel
theorem dX2_readLaw_38 : decode cX2_readLaw 38 = .ok (.if_icmp .ne 7, 3) := by decide +kernel
theorem dX2_readLaw_41 : decode cX2_readLaw 41 = .ok (.iconst 1, 1) := by decide +kernel
theorem dX2_readLaw_42 : decode cX2_readLaw 42 = .ok (.goto 4, 3) := by decide +kernel
theorem dX2_readLaw_45 : decode cX2_readLaw 45 = .ok (.iconst 0, 1) := by decide +kernel
theorem dX2_readLaw_46 : decode cX2_readLaw 46 = .ok (.istore_n 2, 1) := by decide +kernel
theorem dX2_readLaw_47 : decode cX2_readLaw 47 = .ok (.iload_n 2, 1) := by decide +kernel
theorem dX2_readLaw_48 : decode cX2_readLaw 48 = .ok (.ifCond .eq 11, 3) := by decide +kernel
theorem dX2_readLaw_51 : decode cX2_readLaw 51 = .ok (.aload_n 0, 1) := by decide +kernel
theorem dX2_readLaw_52 : decode cX2_readLaw 52 = .ok (.iconst 1, 1) := by decide +kernel
theorem dX2_readLaw_53 : decode cX2_readLaw 53 = .ok (.invokevirtual 75, 3) := by decide +kernel
theorem dX2_readLaw_56 : decode cX2_readLaw 56 = .ok (.ifCond .eq 24, 3) := by decide +kernel
theorem dX2_readLaw_59 : decode cX2_readLaw 59 = .ok (.aload_n 0, 1) := by decide +kernel
theorem dX2_readLaw_60 : decode cX2_readLaw 60 = .ok (.ldc 79, 2) := by decide +kernel
theorem dX2_readLaw_62 : decode cX2_readLaw 62 = .ok (.invokevirtual 81, 3) := by decide +kernel
theorem dX2_readLaw_65 : decode cX2_readLaw 65 = .ok (.ifCond .eq 11, 3) := by decide +kernel
theorem dX2_readLaw_68 : decode cX2_readLaw 68 = .ok (.aload_n 0, 1) := by decide +kernel
theorem dX2_readLaw_69 : decode cX2_readLaw 69 = .ok (.iconst 4, 1) := by decide +kernel
theorem dX2_readLaw_70 : decode cX2_readLaw 70 = .ok (.invokevirtual 75, 3) := by decide +kernel
theorem dX2_readLaw_73 : decode cX2_readLaw 73 = .ok (.ifCond .eq 7, 3) := by decide +kernel
theorem dX2_readLaw_76 : decode cX2_readLaw 76 = .ok (.iconst 1, 1) := by decide +kernel
theorem dX2_readLaw_77 : decode cX2_readLaw 77 = .ok (.goto 4, 3) := by decide +kernel
theorem dX2_readLaw_80 : decode cX2_readLaw 80 = .ok (.iconst 0, 1) := by decide +kernel
theorem dX2_readLaw_81 : decode cX2_readLaw 81 = .ok (.ireturn, 1) := by decide +kernel
theorem dX2_readOrder_0 : decode cX2_readOrder 0 = .ok (.aload_n 0, 1) := by decide +kernel
theorem dX2_readOrder_1 : decode cX2_readOrder 1 = .ok (.getfield 25, 3) := by decide +kernel
theorem dX2_readOrder_4 : decode cX2_readOrder 4 = .ok (.ldc 85, 2) := by decide +kernel
theorem dX2_readOrder_6 : decode cX2_readOrder 6 = .ok (.invokevirtual 67, 3) := by decide +kernel
theorem dX2_readOrder_9 : decode cX2_readOrder 9 = .ok (.istore_n 1, 1) := by decide +kernel
theorem dX2_readOrder_10 : decode cX2_readOrder 10 = .ok (.iload_n 1, 1) := by decide +kernel
theorem dX2_readOrder_11 : decode cX2_readOrder 11 = .ok (.iconst (-1), 1) := by decide +kernel
theorem dX2_readOrder_12 : decode cX2_readOrder 12 = .ok (.if_icmp .ne 5, 3) := by decide +kernel
theorem dX2_readOrder_15 : decode cX2_readOrder 15 = .ok (.iconst 0, 1) := by decide +kernel
theorem dX2_readOrder_16 : decode cX2_readOrder 16 = .ok (.ireturn, 1) := by decide +kernel
theorem dX2_readOrder_17 : decode cX2_readOrder 17 = .ok (.aload_n 0, 1) := by decide +kernel
theorem dX2_readOrder_18 : decode cX2_readOrder 18 = .ok (.getfield 12, 3) := by decide +kernel
theorem dX2_readOrder_21 : decode cX2_readOrder 21 = .ok (.iload_n 1, 1) := by decide +kernel
theorem dX2_readOrder_22 : decode cX2_readOrder 22 = .ok (.invokevirtual 71, 3) := by decide +kernel
theorem dX2_readOrder_25 : decode cX2_readOrder 25 = .ok (.aload_n 0, 1) := by decide +kernel
theorem dX2_readOrder_26 : decode cX2_readOrder 26 = .ok (.getfield 25, 3) := by decide +kernel
theorem dX2_readOrder_29 : decode cX2_readOrder 29 = .ok (.invokevirtual 62, 3) := by decide +kernel
theorem dX2_readOrder_32 : decode cX2_readOrder 32 = .ok (.iload_n 1, 1) := by decide +kernel
theorem dX2_readOrder_33 : decode cX2_readOrder 33 = .ok (.iconst 3, 1) := by decide +kernel
theorem dX2_readOrder_34 : decode cX2_readOrder 34 = .ok (.if_icmp .eq 13, 3) := by decide +kernel
theorem dX2_readOrder_37 : decode cX2_readOrder 37 = .ok (.aload_n 0, 1) := by decide +kernel
theorem dX2_readOrder_38 : decode cX2_readOrder 38 = .ok (.iconst 1, 1) := by decide +kernel
theorem dX2_readOrder_39 : decode cX2_readOrder 39 = .ok (.invokevirtual 75, 3) := by decide +kernel
theorem dX2_readOrder_42 : decode cX2_readOrder 42 = .ok (.ifCond .ne 5, 3) := by decide +kernel
theorem dX2_readOrder_45 : decode cX2_readOrder 45 = .ok (.iconst 0, 1) := by decide +kernel
theorem dX2_readOrder_46 : decode cX2_readOrder 46 = .ok (.ireturn, 1) := by decide +kernel
theorem dX2_readOrder_47 : decode cX2_readOrder 47 = .ok (.iload_n 1, 1) := by decide +kernel
theorem dX2_readOrder_48 : decode cX2_readOrder 48 = .ok (.ifCond .eq 8, 3) := by decide +kernel
theorem dX2_readOrder_51 : decode cX2_readOrder 51 = .ok (.iload_n 1, 1) := by decide +kernel
theorem dX2_readOrder_52 : decode cX2_readOrder 52 = .ok (.iconst 2, 1) := by decide +kernel
theorem dX2_readOrder_53 : decode cX2_readOrder 53 = .ok (.if_icmp .ne 7, 3) := by decide +kernel
theorem dX2_readOrder_56 : decode cX2_readOrder 56 = .ok (.iconst 1, 1) := by decide +kernel
theorem dX2_readOrder_57 : decode cX2_readOrder 57 = .ok (.goto 4, 3) := by decide +kernel
theorem dX2_readOrder_60 : decode cX2_readOrder 60 = .ok (.iconst 0, 1) := by decide +kernel
theorem dX2_readOrder_61 : decode cX2_readOrder 61 = .ok (.istore_n 2, 1) := by decide +kernel
theorem dX2_readOrder_62 : decode cX2_readOrder 62 = .ok (.iload_n 2, 1) := by decide +kernel
theorem dX2_readOrder_63 : decode cX2_readOrder 63 = .ok (.ifCond .eq 31, 3) := by decide +kernel
theorem dX2_readOrder_66 : decode cX2_readOrder 66 = .ok (.aload_n 0, 1) := by decide +kernel
theorem dX2_readOrder_67 : decode cX2_readOrder 67 = .ok (.iload_n 1, 1) := by decide +kernel
theorem dX2_readOrder_68 : decode cX2_readOrder 68 = .ok (.ifCond .ne 8, 3) := by decide +kernel
theorem dX2_readOrder_71 : decode cX2_readOrder 71 = .ok (.ldc 87, 2) := by decide +kernel
theorem dX2_readOrder_73 : decode cX2_readOrder 73 = .ok (.goto 5, 3) := by decide +kernel
theorem dX2_readOrder_76 : decode cX2_readOrder 76 = .ok (.ldc 89, 2) := by decide +kernel
theorem dX2_readOrder_78 : decode cX2_readOrder 78 = .ok (.invokevirtual 81, 3) := by decide +kernel
theorem dX2_readOrder_81 : decode cX2_readOrder 81 = .ok (.ifCond .eq 11, 3) := by decide +kernel
theorem dX2_readOrder_84 : decode cX2_readOrder 84 = .ok (.aload_n 0, 1) := by decide +kernel
theorem dX2_readOrder_85 : decode cX2_readOrder 85 = .ok (.iconst 2, 1) := by decide +kernel
theorem dX2_readOrder_86 : decode cX2_readOrder 86 = .ok (.invokevirtual 75, 3) := by decide +kernel
theorem dX2_readOrder_89 : decode cX2_readOrder 89 = .ok (.ifCond .ne 5, 3) := by decide +kernel
theorem dX2_readOrder_92 : decode cX2_readOrder 92 = .ok (.iconst 0, 1) := by decide +kernel
theorem dX2_readOrder_93 : decode cX2_readOrder 93 = .ok (.ireturn, 1) := by decide +kernel
theorem dX2_readOrder_94 : decode cX2_readOrder 94 = .ok (.aload_n 0, 1) := by decide +kernel
theorem dX2_readOrder_95 : decode cX2_readOrder 95 = .ok (.ldc 91, 2) := by decide +kernel
theorem dX2_readOrder_97 : decode cX2_readOrder 97 = .ok (.invokevirtual 81, 3) := by decide +kernel
theorem dX2_readOrder_100 : decode cX2_readOrder 100 = .ok (.ifCond .eq 10, 3) := by decide +kernel
theorem dX2_readOrder_103 : decode cX2_readOrder 103 = .ok (.aload_n 0, 1) := by decide +kernel
theorem dX2_readOrder_104 : decode cX2_readOrder 104 = .ok (.invokevirtual 93, 3) := by decide +kernel
theorem dX2_readOrder_107 : decode cX2_readOrder 107 = .ok (.ifCond .eq 24, 3) := by decide +kernel
theorem dX2_readOrder_110 : decode cX2_readOrder 110 = .ok (.aload_n 0, 1) := by decide +kernel
theorem dX2_readOrder_111 : decode cX2_readOrder 111 = .ok (.ldc 79, 2) := by decide +kernel
theorem dX2_readOrder_113 : decode cX2_readOrder 113 = .ok (.invokevirtual 81, 3) := by decide +kernel
theorem dX2_readOrder_116 : decode cX2_readOrder 116 = .ok (.ifCond .eq 11, 3) := by decide +kernel
theorem dX2_readOrder_119 : decode cX2_readOrder 119 = .ok (.aload_n 0, 1) := by decide +kernel
theorem dX2_readOrder_120 : decode cX2_readOrder 120 = .ok (.iconst 4, 1) := by decide +kernel
theorem dX2_readOrder_121 : decode cX2_readOrder 121 = .ok (.invokevirtual 75, 3) := by decide +kernel
theorem dX2_readOrder_124 : decode cX2_readOrder 124 = .ok (.ifCond .eq 7, 3) := by decide +kernel
theorem dX2_readOrder_127 : decode cX2_readOrder 127 = .ok (.iconst 1, 1) := by decide +kernel
theorem dX2_readOrder_128 : decode cX2_readOrder 128 = .ok (.goto 4, 3) := by decide +kernel
theorem dX2_readOrder_131 : decode cX2_readOrder 131 = .ok (.iconst 0, 1) := by decide +kernel
theorem dX2_readOrder_132 : decode cX2_readOrder 132 = .ok (.ireturn, 1) := by decide +kernel
theorem dX2_takes_0 : decode cX2_takes 0 = .ok (.aload_n 0, 1) := by decide +kernel
theorem dX2_takes_1 : decode cX2_takes 1 = .ok (.getfield 25, 3) := by decide +kernel
theorem dX2_takes_4 : decode cX2_takes 4 = .ok (.aload_n 1, 1) := by decide +kernel
theorem dX2_takes_5 : decode cX2_takes 5 = .ok (.invokevirtual 67, 3) := by decide +kernel
theorem dX2_takes_8 : decode cX2_takes 8 = .ok (.iconst (-1), 1) := by decide +kernel
theorem dX2_takes_9 : decode cX2_takes 9 = .ok (.if_icmp .eq 7, 3) := by decide +kernel
theorem dX2_takes_12 : decode cX2_takes 12 = .ok (.iconst 1, 1) := by decide +kernel
theorem dX2_takes_13 : decode cX2_takes 13 = .ok (.goto 4, 3) := by decide +kernel
theorem dX2_takes_16 : decode cX2_takes 16 = .ok (.iconst 0, 1) := by decide +kernel
theorem dX2_takes_17 : decode cX2_takes 17 = .ok (.istore_n 2, 1) := by decide +kernel
theorem dX2_takes_18 : decode cX2_takes 18 = .ok (.iload_n 2, 1) := by decide +kernel
theorem dX2_takes_19 : decode cX2_takes 19 = .ok (.ifCond .eq 10, 3) := by decide +kernel
theorem dX2_takes_22 : decode cX2_takes 22 = .ok (.aload_n 0, 1) := by decide +kernel
theorem dX2_takes_23 : decode cX2_takes 23 = .ok (.getfield 25, 3) := by decide +kernel
theorem dX2_takes_26 : decode cX2_takes 26 = .ok (.invokevirtual 62, 3) := by decide +kernel
theorem dX2_takes_29 : decode cX2_takes 29 = .ok (.iload_n 2, 1) := by decide +kernel
theorem dX2_takes_30 : decode cX2_takes 30 = .ok (.ireturn, 1) := by decide +kernel
theorem dX2_readTimes_0 : decode cX2_readTimes 0 = .ok (.aload_n 0, 1) := by decide +kernel
theorem dX2_readTimes_1 : decode cX2_readTimes 1 = .ok (.getfield 25, 3) := by decide +kernel
theorem dX2_readTimes_4 : decode cX2_readTimes 4 = .ok (.bipush 20, 2) := by decide +kernel
theorem dX2_readTimes_6 : decode cX2_readTimes 6 = .ok (.invokevirtual 96, 3) := by decide +kernel
theorem dX2_readTimes_9 : decode cX2_readTimes 9 = .ok (.istore_n 1, 1) := by decide +kernel
theorem dX2_readTimes_10 : decode cX2_readTimes 10 = .ok (.iload_n 1, 1) := by decide +kernel
theorem dX2_readTimes_11 : decode cX2_readTimes 11 = .ok (.iconst 1, 1) := by decide +kernel
theorem dX2_readTimes_12 : decode cX2_readTimes 12 = .ok (.bipush 20, 2) := by decide +kernel
theorem dX2_readTimes_14 : decode cX2_readTimes 14 = .ok (.invokestatic 100, 3) := by decide +kernel
theorem dX2_readTimes_17 : decode cX2_readTimes 17 = .ok (.ifCond .ne 5, 3) := by decide +kernel
theorem dX2_readTimes_20 : decode cX2_readTimes 20 = .ok (.iconst 0, 1) := by decide +kernel
theorem dX2_readTimes_21 : decode cX2_readTimes 21 = .ok (.ireturn, 1) := by decide +kernel
theorem dX2_readTimes_22 : decode cX2_readTimes 22 = .ok (.aload_n 0, 1) := by decide +kernel
theorem dX2_readTimes_23 : decode cX2_readTimes 23 = .ok (.getfield 12, 3) := by decide +kernel
theorem dX2_readTimes_26 : decode cX2_readTimes 26 = .ok (.iconst 3, 1) := by decide +kernel
theorem dX2_readTimes_27 : decode cX2_readTimes 27 = .ok (.iload_n 1, 1) := by decide +kernel
theorem dX2_readTimes_28 : decode cX2_readTimes 28 = .ok (.invokevirtual 104, 3) := by decide +kernel
theorem dX2_readTimes_31 : decode cX2_readTimes 31 = .ok (.aload_n 0, 1) := by decide +kernel
theorem dX2_readTimes_32 : decode cX2_readTimes 32 = .ok (.getfield 25, 3) := by decide +kernel
theorem dX2_readTimes_35 : decode cX2_readTimes 35 = .ok (.invokevirtual 62, 3) := by decide +kernel
theorem dX2_readTimes_38 : decode cX2_readTimes 38 = .ok (.iconst 1, 1) := by decide +kernel
theorem dX2_readTimes_39 : decode cX2_readTimes 39 = .ok (.ireturn, 1) := by decide +kernel
theorem dX2_readValue_0 : decode cX2_readValue 0 = .ok (.aload_n 0, 1) := by decide +kernel
theorem dX2_readValue_1 : decode cX2_readValue 1 = .ok (.getfield 12, 3) := by decide +kernel
theorem dX2_readValue_4 : decode cX2_readValue 4 = .ok (.iload_n 1, 1) := by decide +kernel
theorem dX2_readValue_5 : decode cX2_readValue 5 = .ok (.aload_n 0, 1) := by decide +kernel
theorem dX2_readValue_6 : decode cX2_readValue 6 = .ok (.getfield 12, 3) := by decide +kernel
theorem dX2_readValue_9 : decode cX2_readValue 9 = .ok (.getfield 108, 3) := by decide +kernel
theorem dX2_readValue_12 : decode cX2_readValue 12 = .ok (.invokevirtual 104, 3) := by decide +kernel
theorem dX2_readValue_15 : decode cX2_readValue 15 = .ok (.aload_n 0, 1) := by decide +kernel
theorem dX2_readValue_16 : decode cX2_readValue 16 = .ok (.iconst 0, 1) := by decide +kernel
theorem dX2_readValue_17 : decode cX2_readValue 17 = .ok (.putfield 111, 3) := by decide +kernel
theorem dX2_readValue_20 : decode cX2_readValue 20 = .ok (.aload_n 0, 1) := by decide +kernel
theorem dX2_readValue_21 : decode cX2_readValue 21 = .ok (.iconst 0, 1) := by decide +kernel
theorem dX2_readValue_22 : decode cX2_readValue 22 = .ok (.putfield 114, 3) := by decide +kernel
theorem dX2_readValue_25 : decode cX2_readValue 25 = .ok (.aload_n 0, 1) := by decide +kernel
theorem dX2_readValue_26 : decode cX2_readValue 26 = .ok (.iload_n 1, 1) := by decide +kernel
theorem dX2_readValue_27 : decode cX2_readValue 27 = .ok (.iconst 4, 1) := by decide +kernel
theorem dX2_readValue_28 : decode cX2_readValue 28 = .ok (.if_icmp .ne 8, 3) := by decide +kernel
theorem dX2_readValue_31 : decode cX2_readValue 31 = .ok (.bipush 21, 2) := by decide +kernel
theorem dX2_readValue_33 : decode cX2_readValue 33 = .ok (.goto 5, 3) := by decide +kernel
theorem dX2_readValue_36 : decode cX2_readValue 36 = .ok (.bipush 20, 2) := by decide +kernel
theorem dX2_readValue_38 : decode cX2_readValue 38 = .ok (.invokevirtual 117, 3) := by decide +kernel
theorem dX2_readValue_41 : decode cX2_readValue 41 = .ok (.istore_n 2, 1) := by decide +kernel
theorem dX2_readValue_42 : decode cX2_readValue 42 = .ok (.iconst 0, 1) := by decide +kernel
theorem dX2_readValue_43 : decode cX2_readValue 43 = .ok (.istore_n 3, 1) := by decide +kernel
theorem dX2_readValue_44 : decode cX2_readValue 44 = .ok (.iload_n 3, 1) := by decide +kernel
theorem dX2_readValue_45 : decode cX2_readValue 45 = .ok (.sipush 400, 3) := by decide +kernel
theorem dX2_readValue_48 : decode cX2_readValue 48 = .ok (.if_icmp .gt 58, 3) := by decide +kernel
theorem dX2_readValue_51 : decode cX2_readValue 51 = .ok (.iload_n 2, 1) := by decide +kernel
theorem dX2_readValue_52 : decode cX2_readValue 52 = .ok (.ifCond .eq 24, 3) := by decide +kernel
theorem dX2_readValue_55 : decode cX2_readValue 55 = .ok (.aload_n 0, 1) := by decide +kernel
theorem dX2_readValue_56 : decode cX2_readValue 56 = .ok (.invokevirtual 120, 3) := by decide +kernel
theorem dX2_readValue_59 : decode cX2_readValue 59 = .ok (.ifCond .ne 41, 3) := by decide +kernel
theorem dX2_readValue_62 : decode cX2_readValue 62 = .ok (.aload_n 0, 1) := by decide +kernel
theorem dX2_readValue_63 : decode cX2_readValue 63 = .ok (.invokevirtual 123, 3) := by decide +kernel
theorem dX2_readValue_66 : decode cX2_readValue 66 = .ok (.ifCond .ne 5, 3) := by decide +kernel
theorem dX2_readValue_69 : decode cX2_readValue 69 = .ok (.iconst 0, 1) := by decide +kernel
theorem dX2_readValue_70 : decode cX2_readValue 70 = .ok (.ireturn, 1) := by decide +kernel
theorem dX2_readValue_71 : decode cX2_readValue 71 = .ok (.iconst 0, 1) := by decide +kernel
theorem dX2_readValue_72 : decode cX2_readValue 72 = .ok (.istore_n 2, 1) := by decide +kernel
theorem dX2_readValue_73 : decode cX2_readValue 73 = .ok (.goto 27, 3) := by decide +kernel
theorem dX2_readValue_76 : decode cX2_readValue 76 = .ok (.aload_n 0, 1) := by decide +kernel
theorem dX2_readValue_77 : decode cX2_readValue 77 = .ok (.invokevirtual 126, 3) := by decide +kernel
theorem dX2_readValue_80 : decode cX2_readValue 80 = .ok (.ifCond .eq 8, 3) := by decide +kernel
theorem dX2_readValue_83 : decode cX2_readValue 83 = .ok (.iconst 1, 1) := by decide +kernel
theorem dX2_readValue_84 : decode cX2_readValue 84 = .ok (.istore_n 2, 1) := by decide +kernel
theorem dX2_readValue_85 : decode cX2_readValue 85 = .ok (.goto 15, 3) := by decide +kernel
theorem dX2_readValue_88 : decode cX2_readValue 88 = .ok (.aload_n 0, 1) := by decide +kernel
theorem dX2_readValue_89 : decode cX2_readValue 89 = .ok (.invokevirtual 129, 3) := by decide +kernel
theorem dX2_readValue_92 : decode cX2_readValue 92 = .ok (.ifCond .ne 8, 3) := by decide +kernel
theorem dX2_readValue_95 : decode cX2_readValue 95 = .ok (.aload_n 0, 1) := by decide +kernel
theorem dX2_readValue_96 : decode cX2_readValue 96 = .ok (.invokevirtual 132, 3) := by decide +kernel
theorem dX2_readValue_99 : decode cX2_readValue 99 = .ok (.ireturn, 1) := by decide +kernel
theorem dX2_readValue_100 : decode cX2_readValue 100 = .ok (.iinc 3 1, 3) := by decide +kernel
theorem dX2_readValue_103 : decode cX2_readValue 103 = .ok (.goto (-59), 3) := by decide +kernel
theorem dX2_readValue_106 : decode cX2_readValue 106 = .ok (.iconst 0, 1) := by decide +kernel
theorem dX2_readValue_107 : decode cX2_readValue 107 = .ok (.ireturn, 1) := by decide +kernel
theorem dX2_opens_0 : decode cX2_opens 0 = .ok (.aload_n 0, 1) := by decide +kernel
theorem dX2_opens_1 : decode cX2_opens 1 = .ok (.getfield 25, 3) := by decide +kernel
theorem dX2_opens_4 : decode cX2_opens 4 = .ok (.ldc 135, 2) := by decide +kernel
theorem dX2_opens_6 : decode cX2_opens 6 = .ok (.invokevirtual 67, 3) := by decide +kernel
theorem dX2_opens_9 : decode cX2_opens 9 = .ok (.iconst (-1), 1) := by decide +kernel
theorem dX2_opens_10 : decode cX2_opens 10 = .ok (.if_icmp .eq 7, 3) := by decide +kernel
theorem dX2_opens_13 : decode cX2_opens 13 = .ok (.iconst 1, 1) := by decide +kernel
theorem dX2_opens_14 : decode cX2_opens 14 = .ok (.goto 4, 3) := by decide +kernel
theorem dX2_opens_17 : decode cX2_opens 17 = .ok (.iconst 0, 1) := by decide +kernel
theorem dX2_opens_18 : decode cX2_opens 18 = .ok (.istore_n 1, 1) := by decide +kernel
theorem dX2_opens_19 : decode cX2_opens 19 = .ok (.aload_n 0, 1) := by decide +kernel
theorem dX2_opens_20 : decode cX2_opens 20 = .ok (.getfield 25, 3) := by decide +kernel
theorem dX2_opens_23 : decode cX2_opens 23 = .ok (.bipush 40, 2) := by decide +kernel
theorem dX2_opens_25 : decode cX2_opens 25 = .ok (.invokevirtual 55, 3) := by decide +kernel
theorem dX2_opens_28 : decode cX2_opens 28 = .ok (.istore_n 2, 1) := by decide +kernel
theorem dX2_opens_29 : decode cX2_opens 29 = .ok (.iload_n 1, 1) := by decide +kernel
theorem dX2_opens_30 : decode cX2_opens 30 = .ok (.ifCond .ne 21, 3) := by decide +kernel
theorem dX2_opens_33 : decode cX2_opens 33 = .ok (.iload_n 2, 1) := by decide +kernel
theorem dX2_opens_34 : decode cX2_opens 34 = .ok (.ifCond .ne 17, 3) := by decide +kernel
theorem dX2_opens_37 : decode cX2_opens 37 = .ok (.aload_n 0, 1) := by decide +kernel
theorem dX2_opens_38 : decode cX2_opens 38 = .ok (.getfield 25, 3) := by decide +kernel
theorem dX2_opens_41 : decode cX2_opens 41 = .ok (.bipush 91, 2) := by decide +kernel
theorem dX2_opens_43 : decode cX2_opens 43 = .ok (.invokevirtual 55, 3) := by decide +kernel
theorem dX2_opens_46 : decode cX2_opens 46 = .ok (.ifCond .ne 5, 3) := by decide +kernel
theorem dX2_opens_49 : decode cX2_opens 49 = .ok (.iconst 0, 1) := by decide +kernel
theorem dX2_opens_50 : decode cX2_opens 50 = .ok (.ireturn, 1) := by decide +kernel
theorem dX2_opens_51 : decode cX2_opens 51 = .ok (.iload_n 1, 1) := by decide +kernel
theorem dX2_opens_52 : decode cX2_opens 52 = .ok (.ifCond .ne 7, 3) := by decide +kernel
theorem dX2_opens_55 : decode cX2_opens 55 = .ok (.iload_n 2, 1) := by decide +kernel
theorem dX2_opens_56 : decode cX2_opens 56 = .ok (.ifCond .eq 12, 3) := by decide +kernel
theorem dX2_opens_59 : decode cX2_opens 59 = .ok (.aload_n 0, 1) := by decide +kernel
theorem dX2_opens_60 : decode cX2_opens 60 = .ok (.invokevirtual 137, 3) := by decide +kernel
theorem dX2_opens_63 : decode cX2_opens 63 = .ok (.ifCond .ne 5, 3) := by decide +kernel
theorem dX2_opens_66 : decode cX2_opens 66 = .ok (.iconst 0, 1) := by decide +kernel
theorem dX2_opens_67 : decode cX2_opens 67 = .ok (.ireturn, 1) := by decide +kernel
theorem dX2_opens_68 : decode cX2_opens 68 = .ok (.iload_n 1, 1) := by decide +kernel
theorem dX2_opens_69 : decode cX2_opens 69 = .ok (.ifCond .eq 25, 3) := by decide +kernel
theorem dX2_opens_72 : decode cX2_opens 72 = .ok (.aload_n 0, 1) := by decide +kernel
theorem dX2_opens_73 : decode cX2_opens 73 = .ok (.invokevirtual 140, 3) := by decide +kernel
theorem dX2_opens_76 : decode cX2_opens 76 = .ok (.bipush 11, 2) := by decide +kernel
theorem dX2_opens_78 : decode cX2_opens 78 = .ok (.if_icmp .ne 16, 3) := by decide +kernel
theorem dX2_opens_81 : decode cX2_opens 81 = .ok (.aload_n 0, 1) := by decide +kernel
theorem dX2_opens_82 : decode cX2_opens 82 = .ok (.dup, 1) := by decide +kernel
theorem dX2_opens_83 : decode cX2_opens 83 = .ok (.getfield 111, 3) := by decide +kernel
theorem dX2_opens_86 : decode cX2_opens 86 = .ok (.iconst 1, 1) := by decide +kernel
theorem dX2_opens_87 : decode cX2_opens 87 = .ok (.isub, 1) := by decide +kernel
theorem dX2_opens_88 : decode cX2_opens 88 = .ok (.putfield 111, 3) := by decide +kernel
theorem dX2_opens_91 : decode cX2_opens 91 = .ok (.goto 45, 3) := by decide +kernel
theorem dX2_opens_94 : decode cX2_opens 94 = .ok (.iload_n 1, 1) := by decide +kernel
theorem dX2_opens_95 : decode cX2_opens 95 = .ok (.ifCond .ne 12, 3) := by decide +kernel
theorem dX2_opens_98 : decode cX2_opens 98 = .ok (.aload_n 0, 1) := by decide +kernel
theorem dX2_opens_99 : decode cX2_opens 99 = .ok (.getfield 114, 3) := by decide +kernel
theorem dX2_opens_102 : decode cX2_opens 102 = .ok (.bipush 8, 2) := by decide +kernel
theorem dX2_opens_104 : decode cX2_opens 104 = .ok (.if_icmp .ge 30, 3) := by decide +kernel
theorem dX2_opens_107 : decode cX2_opens 107 = .ok (.aload_n 0, 1) := by decide +kernel
theorem dX2_opens_108 : decode cX2_opens 108 = .ok (.iload_n 1, 1) := by decide +kernel
theorem dX2_opens_109 : decode cX2_opens 109 = .ok (.ifCond .eq 8, 3) := by decide +kernel
theorem dX2_opens_112 : decode cX2_opens 112 = .ok (.bipush 11, 2) := by decide +kernel
theorem dX2_opens_114 : decode cX2_opens 114 = .ok (.goto 14, 3) := by decide +kernel
theorem dX2_opens_117 : decode cX2_opens 117 = .ok (.iload_n 2, 1) := by decide +kernel
theorem dX2_opens_118 : decode cX2_opens 118 = .ok (.ifCond .eq 8, 3) := by decide +kernel
theorem dX2_opens_121 : decode cX2_opens 121 = .ok (.bipush 23, 2) := by decide +kernel
theorem dX2_opens_123 : decode cX2_opens 123 = .ok (.goto 5, 3) := by decide +kernel
theorem dX2_opens_126 : decode cX2_opens 126 = .ok (.bipush 22, 2) := by decide +kernel
theorem dX2_opens_128 : decode cX2_opens 128 = .ok (.invokevirtual 117, 3) := by decide +kernel
theorem dX2_opens_131 : decode cX2_opens 131 = .ok (.ifCond .ne 5, 3) := by decide +kernel
theorem dX2_opens_134 : decode cX2_opens 134 = .ok (.iconst 0, 1) := by decide +kernel
theorem dX2_opens_135 : decode cX2_opens 135 = .ok (.ireturn, 1) := by decide +kernel
theorem dX2_opens_136 : decode cX2_opens 136 = .ok (.aload_n 0, 1) := by decide +kernel
theorem dX2_opens_137 : decode cX2_opens 137 = .ok (.dup, 1) := by decide +kernel
theorem dX2_opens_138 : decode cX2_opens 138 = .ok (.getfield 114, 3) := by decide +kernel
theorem dX2_opens_141 : decode cX2_opens 141 = .ok (.iload_n 1, 1) := by decide +kernel
theorem dX2_opens_142 : decode cX2_opens 142 = .ok (.ifCond .eq 7, 3) := by decide +kernel
theorem dX2_opens_145 : decode cX2_opens 145 = .ok (.iconst 0, 1) := by decide +kernel
theorem dX2_opens_146 : decode cX2_opens 146 = .ok (.goto 4, 3) := by decide +kernel
theorem dX2_opens_149 : decode cX2_opens 149 = .ok (.iconst 1, 1) := by decide +kernel
theorem dX2_opens_150 : decode cX2_opens 150 = .ok (.iadd, 1) := by decide +kernel
theorem dX2_opens_151 : decode cX2_opens 151 = .ok (.putfield 114, 3) := by decide +kernel
theorem dX2_opens_154 : decode cX2_opens 154 = .ok (.aload_n 0, 1) := by decide +kernel
theorem dX2_opens_155 : decode cX2_opens 155 = .ok (.getfield 25, 3) := by decide +kernel
theorem dX2_opens_158 : decode cX2_opens 158 = .ok (.invokevirtual 62, 3) := by decide +kernel
theorem dX2_opens_161 : decode cX2_opens 161 = .ok (.iconst 1, 1) := by decide +kernel
theorem dX2_opens_162 : decode cX2_opens 162 = .ok (.ireturn, 1) := by decide +kernel
theorem dX2_readPart_0 : decode cX2_readPart 0 = .ok (.aload_n 0, 1) := by decide +kernel
theorem dX2_readPart_1 : decode cX2_readPart 1 = .ok (.getfield 33, 3) := by decide +kernel
theorem dX2_readPart_4 : decode cX2_readPart 4 = .ok (.bipush 50, 2) := by decide +kernel
theorem dX2_readPart_6 : decode cX2_readPart 6 = .ok (.if_icmp .lt 5, 3) := by decide +kernel
theorem dX2_readPart_9 : decode cX2_readPart 9 = .ok (.iconst 0, 1) := by decide +kernel
theorem dX2_readPart_10 : decode cX2_readPart 10 = .ok (.ireturn, 1) := by decide +kernel
theorem dX2_readPart_11 : decode cX2_readPart 11 = .ok (.aload_n 0, 1) := by decide +kernel
theorem dX2_readPart_12 : decode cX2_readPart 12 = .ok (.getfield 25, 3) := by decide +kernel
theorem dX2_readPart_15 : decode cX2_readPart 15 = .ok (.sipush 1000, 3) := by decide +kernel
theorem dX2_readPart_18 : decode cX2_readPart 18 = .ok (.invokevirtual 96, 3) := by decide +kernel
theorem dX2_readPart_21 : decode cX2_readPart 21 = .ok (.istore_n 1, 1) := by decide +kernel
theorem dX2_readPart_22 : decode cX2_readPart 22 = .ok (.iload_n 1, 1) := by decide +kernel
theorem dX2_readPart_23 : decode cX2_readPart 23 = .ok (.iconst (-1), 1) := by decide +kernel
theorem dX2_readPart_24 : decode cX2_readPart 24 = .ok (.if_icmp .ne 94, 3) := by decide +kernel
theorem dX2_readPart_27 : decode cX2_readPart 27 = .ok (.aload_n 0, 1) := by decide +kernel
theorem dX2_readPart_28 : decode cX2_readPart 28 = .ok (.getfield 25, 3) := by decide +kernel
theorem dX2_readPart_31 : decode cX2_readPart 31 = .ok (.aload_n 0, 1) := by decide +kernel
theorem dX2_readPart_32 : decode cX2_readPart 32 = .ok (.getfield 29, 3) := by decide +kernel
theorem dX2_readPart_35 : decode cX2_readPart 35 = .ok (.ifCond .eq 8, 3) := by decide +kernel
theorem dX2_readPart_38 : decode cX2_readPart 38 = .ok (.ldc 146, 2) := by decide +kernel
theorem dX2_readPart_40 : decode cX2_readPart 40 = .ok (.goto 5, 3) := by decide +kernel
theorem dX2_readPart_43 : decode cX2_readPart 43 = .ok (.ldc 148, 2) := by decide +kernel
theorem dX2_readPart_45 : decode cX2_readPart 45 = .ok (.invokevirtual 67, 3) := by decide +kernel
theorem dX2_readPart_48 : decode cX2_readPart 48 = .ok (.istore_n 2, 1) := by decide +kernel
theorem dX2_readPart_49 : decode cX2_readPart 49 = .ok (.iload_n 2, 1) := by decide +kernel
theorem dX2_readPart_50 : decode cX2_readPart 50 = .ok (.iconst (-1), 1) := by decide +kernel
theorem dX2_readPart_51 : decode cX2_readPart 51 = .ok (.if_icmp .ne 5, 3) := by decide +kernel
theorem dX2_readPart_54 : decode cX2_readPart 54 = .ok (.iconst 0, 1) := by decide +kernel
theorem dX2_readPart_55 : decode cX2_readPart 55 = .ok (.ireturn, 1) := by decide +kernel
theorem dX2_readPart_56 : decode cX2_readPart 56 = .ok (.aload_n 0, 1) := by decide +kernel
theorem dX2_readPart_57 : decode cX2_readPart 57 = .ok (.getfield 29, 3) := by decide +kernel
theorem dX2_readPart_60 : decode cX2_readPart 60 = .ok (.ifCond .eq 46, 3) := by decide +kernel
theorem dX2_readPart_63 : decode cX2_readPart 63 = .ok (.iload_n 2, 1) := by decide +kernel
theorem dX2_readPart_64 : decode cX2_readPart 64 = .ok (.iconst 4, 1) := by decide +kernel
theorem dX2_readPart_65 : decode cX2_readPart 65 = .ok (.if_icmp .lt 41, 3) := by decide +kernel
theorem dX2_readPart_68 : decode cX2_readPart 68 = .ok (.aload_n 0, 1) := by decide +kernel
theorem dX2_readPart_69 : decode cX2_readPart 69 = .ok (.getfield 25, 3) := by decide +kernel
theorem dX2_readPart_72 : decode cX2_readPart 72 = .ok (.invokevirtual 62, 3) := by decide +kernel
theorem dX2_readPart_75 : decode cX2_readPart 75 = .ok (.aload_n 0, 1) := by decide +kernel
theorem dX2_readPart_76 : decode cX2_readPart 76 = .ok (.getfield 25, 3) := by decide +kernel
theorem dX2_readPart_79 : decode cX2_readPart 79 = .ok (.iconst 5, 1) := by decide +kernel
theorem dX2_readPart_80 : decode cX2_readPart 80 = .ok (.invokevirtual 96, 3) := by decide +kernel
theorem dX2_readPart_83 : decode cX2_readPart 83 = .ok (.istore_n 3, 1) := by decide +kernel
theorem dX2_readPart_84 : decode cX2_readPart 84 = .ok (.iload_n 3, 1) := by decide +kernel
theorem dX2_readPart_85 : decode cX2_readPart 85 = .ok (.iconst 0, 1) := by decide +kernel
theorem dX2_readPart_86 : decode cX2_readPart 86 = .ok (.iconst 5, 1) := by decide +kernel
theorem dX2_readPart_87 : decode cX2_readPart 87 = .ok (.invokestatic 100, 3) := by decide +kernel
theorem dX2_readPart_90 : decode cX2_readPart 90 = .ok (.ifCond .ne 5, 3) := by decide +kernel
theorem dX2_readPart_93 : decode cX2_readPart 93 = .ok (.iconst 0, 1) := by decide +kernel
theorem dX2_readPart_94 : decode cX2_readPart 94 = .ok (.ireturn, 1) := by decide +kernel
theorem dX2_readPart_95 : decode cX2_readPart 95 = .ok (.iconst 4, 1) := by decide +kernel
theorem dX2_readPart_96 : decode cX2_readPart 96 = .ok (.iload_n 2, 1) := by decide +kernel
theorem dX2_readPart_97 : decode cX2_readPart 97 = .ok (.iconst 4, 1) := by decide +kernel
theorem dX2_readPart_98 : decode cX2_readPart 98 = .ok (.isub, 1) := by decide +kernel
theorem dX2_readPart_99 : decode cX2_readPart 99 = .ok (.bipush 6, 2) := by decide +kernel
theorem dX2_readPart_101 : decode cX2_readPart 101 = .ok (.imul, 1) := by decide +kernel
theorem dX2_readPart_102 : decode cX2_readPart 102 = .ok (.iadd, 1) := by decide +kernel
theorem dX2_readPart_103 : decode cX2_readPart 103 = .ok (.iload_n 3, 1) := by decide +kernel
theorem dX2_readPart_104 : decode cX2_readPart 104 = .ok (.iadd, 1) := by decide +kernel
theorem dX2_readPart_105 : decode cX2_readPart 105 = .ok (.istore_n 2, 1) := by decide +kernel
theorem dX2_readPart_106 : decode cX2_readPart 106 = .ok (.aload_n 0, 1) := by decide +kernel
theorem dX2_readPart_107 : decode cX2_readPart 107 = .ok (.getfield 12, 3) := by decide +kernel
theorem dX2_readPart_110 : decode cX2_readPart 110 = .ok (.iconst 2, 1) := by decide +kernel
theorem dX2_readPart_111 : decode cX2_readPart 111 = .ok (.iload_n 2, 1) := by decide +kernel
theorem dX2_readPart_112 : decode cX2_readPart 112 = .ok (.invokevirtual 150, 3) := by decide +kernel
theorem dX2_readPart_115 : decode cX2_readPart 115 = .ok (.goto 21, 3) := by decide +kernel
theorem dX2_readPart_118 : decode cX2_readPart 118 = .ok (.iload_n 1, 1) := by decide +kernel
theorem dX2_readPart_119 : decode cX2_readPart 119 = .ok (.sipush 1000, 3) := by decide +kernel
theorem dX2_readPart_122 : decode cX2_readPart 122 = .ok (.if_icmp .le 5, 3) := by decide +kernel
theorem dX2_readPart_125 : decode cX2_readPart 125 = .ok (.iconst 0, 1) := by decide +kernel
theorem dX2_readPart_126 : decode cX2_readPart 126 = .ok (.ireturn, 1) := by decide +kernel
theorem dX2_readPart_127 : decode cX2_readPart 127 = .ok (.aload_n 0, 1) := by decide +kernel
theorem dX2_readPart_128 : decode cX2_readPart 128 = .ok (.getfield 12, 3) := by decide +kernel
theorem dX2_readPart_131 : decode cX2_readPart 131 = .ok (.iconst 1, 1) := by decide +kernel
theorem dX2_readPart_132 : decode cX2_readPart 132 = .ok (.iload_n 1, 1) := by decide +kernel
theorem dX2_readPart_133 : decode cX2_readPart 133 = .ok (.invokevirtual 150, 3) := by decide +kernel
theorem dX2_readPart_136 : decode cX2_readPart 136 = .ok (.aload_n 0, 1) := by decide +kernel
theorem dX2_readPart_137 : decode cX2_readPart 137 = .ok (.dup, 1) := by decide +kernel
theorem dX2_readPart_138 : decode cX2_readPart 138 = .ok (.getfield 33, 3) := by decide +kernel
theorem dX2_readPart_141 : decode cX2_readPart 141 = .ok (.iconst 1, 1) := by decide +kernel
theorem dX2_readPart_142 : decode cX2_readPart 142 = .ok (.iadd, 1) := by decide +kernel
theorem dX2_readPart_143 : decode cX2_readPart 143 = .ok (.putfield 33, 3) := by decide +kernel
theorem dX2_readPart_146 : decode cX2_readPart 146 = .ok (.aload_n 0, 1) := by decide +kernel
theorem dX2_readPart_147 : decode cX2_readPart 147 = .ok (.iconst 0, 1) := by decide +kernel
theorem dX2_readPart_148 : decode cX2_readPart 148 = .ok (.putfield 153, 3) := by decide +kernel
theorem dX2_readPart_151 : decode cX2_readPart 151 = .ok (.aload_n 0, 1) := by decide +kernel
theorem dX2_readPart_152 : decode cX2_readPart 152 = .ok (.getfield 25, 3) := by decide +kernel
theorem dX2_readPart_155 : decode cX2_readPart 155 = .ok (.invokevirtual 62, 3) := by decide +kernel
theorem dX2_readPart_158 : decode cX2_readPart 158 = .ok (.iconst 1, 1) := by decide +kernel
theorem dX2_readPart_159 : decode cX2_readPart 159 = .ok (.ireturn, 1) := by decide +kernel
theorem dX2_joins_0 : decode cX2_joins 0 = .ok (.aload_n 0, 1) := by decide +kernel
theorem dX2_joins_1 : decode cX2_joins 1 = .ok (.invokevirtual 156, 3) := by decide +kernel
theorem dX2_joins_4 : decode cX2_joins 4 = .ok (.istore_n 1, 1) := by decide +kernel
theorem dX2_joins_5 : decode cX2_joins 5 = .ok (.iload_n 1, 1) := by decide +kernel
theorem dX2_joins_6 : decode cX2_joins 6 = .ok (.invokestatic 159, 3) := by decide +kernel
theorem dX2_joins_9 : decode cX2_joins 9 = .ok (.istore_n 2, 1) := by decide +kernel
theorem dX2_joins_10 : decode cX2_joins 10 = .ok (.iload_n 2, 1) := by decide +kernel
theorem dX2_joins_11 : decode cX2_joins 11 = .ok (.iconst 5, 1) := by decide +kernel
theorem dX2_joins_12 : decode cX2_joins 12 = .ok (.if_icmp .lt 18, 3) := by decide +kernel
theorem dX2_joins_15 : decode cX2_joins 15 = .ok (.aload_n 0, 1) := by decide +kernel
theorem dX2_joins_16 : decode cX2_joins 16 = .ok (.getfield 153, 3) := by decide +kernel
theorem dX2_joins_19 : decode cX2_joins 19 = .ok (.ifCond .ne 11, 3) := by decide +kernel
theorem dX2_joins_22 : decode cX2_joins 22 = .ok (.aload_n 0, 1) := by decide +kernel
theorem dX2_joins_23 : decode cX2_joins 23 = .ok (.iload_n 2, 1) := by decide +kernel
theorem dX2_joins_24 : decode cX2_joins 24 = .ok (.invokevirtual 162, 3) := by decide +kernel
theorem dX2_joins_27 : decode cX2_joins 27 = .ok (.goto 56, 3) := by decide +kernel
theorem dX2_joins_30 : decode cX2_joins 30 = .ok (.iload_n 2, 1) := by decide +kernel
theorem dX2_joins_31 : decode cX2_joins 31 = .ok (.iconst 4, 1) := by decide +kernel
theorem dX2_joins_32 : decode cX2_joins 32 = .ok (.if_icmp .ne 24, 3) := by decide +kernel
theorem dX2_joins_35 : decode cX2_joins 35 = .ok (.aload_n 0, 1) := by decide +kernel
theorem dX2_joins_36 : decode cX2_joins 36 = .ok (.getfield 153, 3) := by decide +kernel
theorem dX2_joins_39 : decode cX2_joins 39 = .ok (.ifCond .ne 17, 3) := by decide +kernel
theorem dX2_joins_42 : decode cX2_joins 42 = .ok (.aload_n 0, 1) := by decide +kernel
theorem dX2_joins_43 : decode cX2_joins 43 = .ok (.iconst 5, 1) := by decide +kernel
theorem dX2_joins_44 : decode cX2_joins 44 = .ok (.invokevirtual 162, 3) := by decide +kernel
theorem dX2_joins_47 : decode cX2_joins 47 = .ok (.aload_n 0, 1) := by decide +kernel
theorem dX2_joins_48 : decode cX2_joins 48 = .ok (.invokevirtual 137, 3) := by decide +kernel
theorem dX2_joins_51 : decode cX2_joins 51 = .ok (.ifCond .ne 32, 3) := by decide +kernel
theorem dX2_joins_54 : decode cX2_joins 54 = .ok (.iconst 0, 1) := by decide +kernel
theorem dX2_joins_55 : decode cX2_joins 55 = .ok (.ireturn, 1) := by decide +kernel
theorem dX2_joins_56 : decode cX2_joins 56 = .ok (.iload_n 2, 1) := by decide +kernel
theorem dX2_joins_57 : decode cX2_joins 57 = .ok (.iconst 2, 1) := by decide +kernel
theorem dX2_joins_58 : decode cX2_joins 58 = .ok (.if_icmp .eq 8, 3) := by decide +kernel
theorem dX2_joins_61 : decode cX2_joins 61 = .ok (.iload_n 2, 1) := by decide +kernel
theorem dX2_joins_62 : decode cX2_joins 62 = .ok (.iconst 1, 1) := by decide +kernel
theorem dX2_joins_63 : decode cX2_joins 63 = .ok (.if_icmp .ne 18, 3) := by decide +kernel
theorem dX2_joins_66 : decode cX2_joins 66 = .ok (.aload_n 0, 1) := by decide +kernel
theorem dX2_joins_67 : decode cX2_joins 67 = .ok (.invokevirtual 165, 3) := by decide +kernel
theorem dX2_joins_70 : decode cX2_joins 70 = .ok (.ifCond .eq 11, 3) := by decide +kernel
theorem dX2_joins_73 : decode cX2_joins 73 = .ok (.aload_n 0, 1) := by decide +kernel
theorem dX2_joins_74 : decode cX2_joins 74 = .ok (.iload_n 2, 1) := by decide +kernel
theorem dX2_joins_75 : decode cX2_joins 75 = .ok (.invokevirtual 162, 3) := by decide +kernel
theorem dX2_joins_78 : decode cX2_joins 78 = .ok (.goto 5, 3) := by decide +kernel
theorem dX2_joins_81 : decode cX2_joins 81 = .ok (.iconst 0, 1) := by decide +kernel
theorem dX2_joins_82 : decode cX2_joins 82 = .ok (.ireturn, 1) := by decide +kernel
theorem dX2_joins_83 : decode cX2_joins 83 = .ok (.aload_n 0, 1) := by decide +kernel
theorem dX2_joins_84 : decode cX2_joins 84 = .ok (.iload_n 1, 1) := by decide +kernel
theorem dX2_joins_85 : decode cX2_joins 85 = .ok (.invokevirtual 117, 3) := by decide +kernel
theorem dX2_joins_88 : decode cX2_joins 88 = .ok (.ifCond .ne 5, 3) := by decide +kernel
theorem dX2_joins_91 : decode cX2_joins 91 = .ok (.iconst 0, 1) := by decide +kernel
theorem dX2_joins_92 : decode cX2_joins 92 = .ok (.ireturn, 1) := by decide +kernel
theorem dX2_joins_93 : decode cX2_joins 93 = .ok (.iload_n 2, 1) := by decide +kernel
theorem dX2_joins_94 : decode cX2_joins 94 = .ok (.iconst 2, 1) := by decide +kernel
theorem dX2_joins_95 : decode cX2_joins 95 = .ok (.if_icmp .eq 8, 3) := by decide +kernel
theorem dX2_joins_98 : decode cX2_joins 98 = .ok (.iload_n 2, 1) := by decide +kernel
theorem dX2_joins_99 : decode cX2_joins 99 = .ok (.iconst 1, 1) := by decide +kernel
theorem dX2_joins_100 : decode cX2_joins 100 = .ok (.if_icmp .ne 30, 3) := by decide +kernel
theorem dX2_joins_103 : decode cX2_joins 103 = .ok (.aload_n 0, 1) := by decide +kernel
theorem dX2_joins_104 : decode cX2_joins 104 = .ok (.getfield 22, 3) := by decide +kernel
theorem dX2_joins_107 : decode cX2_joins 107 = .ok (.aload_n 0, 1) := by decide +kernel
theorem dX2_joins_108 : decode cX2_joins 108 = .ok (.getfield 111, 3) := by decide +kernel
theorem dX2_joins_111 : decode cX2_joins 111 = .ok (.iconst 1, 1) := by decide +kernel
theorem dX2_joins_112 : decode cX2_joins 112 = .ok (.isub, 1) := by decide +kernel
theorem dX2_joins_113 : decode cX2_joins 113 = .ok (.aload_n 0, 1) := by decide +kernel
theorem dX2_joins_114 : decode cX2_joins 114 = .ok (.getfield 12, 3) := by decide +kernel
theorem dX2_joins_117 : decode cX2_joins 117 = .ok (.getfield 108, 3) := by decide +kernel
theorem dX2_joins_120 : decode cX2_joins 120 = .ok (.iastore, 1) := by decide +kernel
theorem dX2_joins_121 : decode cX2_joins 121 = .ok (.aload_n 0, 1) := by decide +kernel
theorem dX2_joins_122 : decode cX2_joins 122 = .ok (.getfield 12, 3) := by decide +kernel
theorem dX2_joins_125 : decode cX2_joins 125 = .ok (.iload_n 1, 1) := by decide +kernel
theorem dX2_joins_126 : decode cX2_joins 126 = .ok (.iconst 0, 1) := by decide +kernel
theorem dX2_joins_127 : decode cX2_joins 127 = .ok (.invokevirtual 150, 3) := by decide +kernel
theorem dX2_joins_130 : decode cX2_joins 130 = .ok (.aload_n 0, 1) := by decide +kernel
theorem dX2_joins_131 : decode cX2_joins 131 = .ok (.getfield 25, 3) := by decide +kernel
theorem dX2_joins_134 : decode cX2_joins 134 = .ok (.invokevirtual 62, 3) := by decide +kernel
theorem dX2_joins_137 : decode cX2_joins 137 = .ok (.iconst 1, 1) := by decide +kernel
theorem dX2_joins_138 : decode cX2_joins 138 = .ok (.ireturn, 1) := by decide +kernel
theorem dX2_closes_0 : decode cX2_closes 0 = .ok (.aload_n 0, 1) := by decide +kernel
theorem dX2_closes_1 : decode cX2_closes 1 = .ok (.getfield 25, 3) := by decide +kernel
theorem dX2_closes_4 : decode cX2_closes 4 = .ok (.bipush 41, 2) := by decide +kernel
theorem dX2_closes_6 : decode cX2_closes 6 = .ok (.invokevirtual 55, 3) := by decide +kernel
theorem dX2_closes_9 : decode cX2_closes 9 = .ok (.istore_n 1, 1) := by decide +kernel
theorem dX2_closes_10 : decode cX2_closes 10 = .ok (.iload_n 1, 1) := by decide +kernel
theorem dX2_closes_11 : decode cX2_closes 11 = .ok (.ifCond .eq 13, 3) := by decide +kernel
theorem dX2_closes_14 : decode cX2_closes 14 = .ok (.aload_n 0, 1) := by decide +kernel
theorem dX2_closes_15 : decode cX2_closes 15 = .ok (.invokevirtual 165, 3) := by decide +kernel
theorem dX2_closes_18 : decode cX2_closes 18 = .ok (.ifCond .ne 20, 3) := by decide +kernel
theorem dX2_closes_21 : decode cX2_closes 21 = .ok (.goto 15, 3) := by decide +kernel
theorem dX2_closes_24 : decode cX2_closes 24 = .ok (.aload_n 0, 1) := by decide +kernel
theorem dX2_closes_25 : decode cX2_closes 25 = .ok (.getfield 25, 3) := by decide +kernel
theorem dX2_closes_28 : decode cX2_closes 28 = .ok (.bipush 93, 2) := by decide +kernel
theorem dX2_closes_30 : decode cX2_closes 30 = .ok (.invokevirtual 55, 3) := by decide +kernel
theorem dX2_closes_33 : decode cX2_closes 33 = .ok (.ifCond .ne 5, 3) := by decide +kernel
theorem dX2_closes_36 : decode cX2_closes 36 = .ok (.iconst 0, 1) := by decide +kernel
theorem dX2_closes_37 : decode cX2_closes 37 = .ok (.ireturn, 1) := by decide +kernel
theorem dX2_closes_38 : decode cX2_closes 38 = .ok (.aload_n 0, 1) := by decide +kernel
theorem dX2_closes_39 : decode cX2_closes 39 = .ok (.iload_n 1, 1) := by decide +kernel
theorem dX2_closes_40 : decode cX2_closes 40 = .ok (.ifCond .eq 7, 3) := by decide +kernel
theorem dX2_closes_43 : decode cX2_closes 43 = .ok (.iconst 1, 1) := by decide +kernel
theorem dX2_closes_44 : decode cX2_closes 44 = .ok (.goto 4, 3) := by decide +kernel
theorem dX2_closes_47 : decode cX2_closes 47 = .ok (.iconst 5, 1) := by decide +kernel
theorem dX2_closes_48 : decode cX2_closes 48 = .ok (.invokevirtual 162, 3) := by decide +kernel
theorem dX2_closes_51 : decode cX2_closes 51 = .ok (.aload_n 0, 1) := by decide +kernel
theorem dX2_closes_52 : decode cX2_closes 52 = .ok (.invokevirtual 140, 3) := by decide +kernel
theorem dX2_closes_55 : decode cX2_closes 55 = .ok (.iload_n 1, 1) := by decide +kernel
theorem dX2_closes_56 : decode cX2_closes 56 = .ok (.ifCond .eq 8, 3) := by decide +kernel
theorem dX2_closes_59 : decode cX2_closes 59 = .ok (.bipush 23, 2) := by decide +kernel
theorem dX2_closes_61 : decode cX2_closes 61 = .ok (.goto 5, 3) := by decide +kernel
theorem dX2_closes_64 : decode cX2_closes 64 = .ok (.bipush 22, 2) := by decide +kernel
theorem dX2_closes_66 : decode cX2_closes 66 = .ok (.if_icmp .eq 5, 3) := by decide +kernel
theorem dX2_closes_69 : decode cX2_closes 69 = .ok (.iconst 0, 1) := by decide +kernel
theorem dX2_closes_70 : decode cX2_closes 70 = .ok (.ireturn, 1) := by decide +kernel
theorem dX2_closes_71 : decode cX2_closes 71 = .ok (.aload_n 0, 1) := by decide +kernel
theorem dX2_closes_72 : decode cX2_closes 72 = .ok (.dup, 1) := by decide +kernel
theorem dX2_closes_73 : decode cX2_closes 73 = .ok (.getfield 111, 3) := by decide +kernel
theorem dX2_closes_76 : decode cX2_closes 76 = .ok (.iconst 1, 1) := by decide +kernel
theorem dX2_closes_77 : decode cX2_closes 77 = .ok (.isub, 1) := by decide +kernel
theorem dX2_closes_78 : decode cX2_closes 78 = .ok (.putfield 111, 3) := by decide +kernel
theorem dX2_closes_81 : decode cX2_closes 81 = .ok (.aload_n 0, 1) := by decide +kernel
theorem dX2_closes_82 : decode cX2_closes 82 = .ok (.dup, 1) := by decide +kernel
theorem dX2_closes_83 : decode cX2_closes 83 = .ok (.getfield 114, 3) := by decide +kernel
theorem dX2_closes_86 : decode cX2_closes 86 = .ok (.iconst 1, 1) := by decide +kernel
theorem dX2_closes_87 : decode cX2_closes 87 = .ok (.isub, 1) := by decide +kernel
theorem dX2_closes_88 : decode cX2_closes 88 = .ok (.putfield 114, 3) := by decide +kernel
theorem dX2_closes_91 : decode cX2_closes 91 = .ok (.aload_n 0, 1) := by decide +kernel
theorem dX2_closes_92 : decode cX2_closes 92 = .ok (.iload_n 1, 1) := by decide +kernel
theorem dX2_closes_93 : decode cX2_closes 93 = .ok (.putfield 153, 3) := by decide +kernel
theorem dX2_closes_96 : decode cX2_closes 96 = .ok (.aload_n 0, 1) := by decide +kernel
theorem dX2_closes_97 : decode cX2_closes 97 = .ok (.getfield 25, 3) := by decide +kernel
theorem dX2_closes_100 : decode cX2_closes 100 = .ok (.invokevirtual 62, 3) := by decide +kernel
theorem dX2_closes_103 : decode cX2_closes 103 = .ok (.iconst 1, 1) := by decide +kernel
theorem dX2_closes_104 : decode cX2_closes 104 = .ok (.ireturn, 1) := by decide +kernel
theorem dX2_isWhole_0 : decode cX2_isWhole 0 = .ok (.aload_n 0, 1) := by decide +kernel
theorem dX2_isWhole_1 : decode cX2_isWhole 1 = .ok (.iconst 5, 1) := by decide +kernel
theorem dX2_isWhole_2 : decode cX2_isWhole 2 = .ok (.invokevirtual 162, 3) := by decide +kernel
theorem dX2_isWhole_5 : decode cX2_isWhole 5 = .ok (.aload_n 0, 1) := by decide +kernel
theorem dX2_isWhole_6 : decode cX2_isWhole 6 = .ok (.invokevirtual 140, 3) := by decide +kernel
theorem dX2_isWhole_9 : decode cX2_isWhole 9 = .ok (.bipush 20, 2) := by decide +kernel
theorem dX2_isWhole_11 : decode cX2_isWhole 11 = .ok (.if_icmp .eq 28, 3) := by decide +kernel
theorem dX2_isWhole_14 : decode cX2_isWhole 14 = .ok (.aload_n 0, 1) := by decide +kernel
theorem dX2_isWhole_15 : decode cX2_isWhole 15 = .ok (.invokevirtual 165, 3) := by decide +kernel
theorem dX2_isWhole_18 : decode cX2_isWhole 18 = .ok (.ifCond .ne 5, 3) := by decide +kernel
theorem dX2_isWhole_21 : decode cX2_isWhole 21 = .ok (.iconst 0, 1) := by decide +kernel
theorem dX2_isWhole_22 : decode cX2_isWhole 22 = .ok (.ireturn, 1) := by decide +kernel
theorem dX2_isWhole_23 : decode cX2_isWhole 23 = .ok (.aload_n 0, 1) := by decide +kernel
theorem dX2_isWhole_24 : decode cX2_isWhole 24 = .ok (.iconst 1, 1) := by decide +kernel
theorem dX2_isWhole_25 : decode cX2_isWhole 25 = .ok (.invokevirtual 162, 3) := by decide +kernel
theorem dX2_isWhole_28 : decode cX2_isWhole 28 = .ok (.aload_n 0, 1) := by decide +kernel
theorem dX2_isWhole_29 : decode cX2_isWhole 29 = .ok (.invokevirtual 140, 3) := by decide +kernel
theorem dX2_isWhole_32 : decode cX2_isWhole 32 = .ok (.bipush 21, 2) := by decide +kernel
theorem dX2_isWhole_34 : decode cX2_isWhole 34 = .ok (.if_icmp .eq 5, 3) := by decide +kernel
theorem dX2_isWhole_37 : decode cX2_isWhole 37 = .ok (.iconst 0, 1) := by decide +kernel
theorem dX2_isWhole_38 : decode cX2_isWhole 38 = .ok (.ireturn, 1) := by decide +kernel
theorem dX2_isWhole_39 : decode cX2_isWhole 39 = .ok (.aload_n 0, 1) := by decide +kernel
theorem dX2_isWhole_40 : decode cX2_isWhole 40 = .ok (.getfield 12, 3) := by decide +kernel
theorem dX2_isWhole_43 : decode cX2_isWhole 43 = .ok (.iconst 0, 1) := by decide +kernel
theorem dX2_isWhole_44 : decode cX2_isWhole 44 = .ok (.iconst 0, 1) := by decide +kernel
theorem dX2_isWhole_45 : decode cX2_isWhole 45 = .ok (.invokevirtual 150, 3) := by decide +kernel
theorem dX2_isWhole_48 : decode cX2_isWhole 48 = .ok (.iconst 1, 1) := by decide +kernel
theorem dX2_isWhole_49 : decode cX2_isWhole 49 = .ok (.ireturn, 1) := by decide +kernel
theorem dX2_isTest_0 : decode cX2_isTest 0 = .ok (.aload_n 0, 1) := by decide +kernel
theorem dX2_isTest_1 : decode cX2_isTest 1 = .ok (.iconst 5, 1) := by decide +kernel
theorem dX2_isTest_2 : decode cX2_isTest 2 = .ok (.invokevirtual 162, 3) := by decide +kernel
theorem dX2_isTest_5 : decode cX2_isTest 5 = .ok (.aload_n 0, 1) := by decide +kernel
theorem dX2_isTest_6 : decode cX2_isTest 6 = .ok (.getfield 153, 3) := by decide +kernel
theorem dX2_isTest_9 : decode cX2_isTest 9 = .ok (.ifCond .ne 14, 3) := by decide +kernel
theorem dX2_isTest_12 : decode cX2_isTest 12 = .ok (.aload_n 0, 1) := by decide +kernel
theorem dX2_isTest_13 : decode cX2_isTest 13 = .ok (.invokevirtual 140, 3) := by decide +kernel
theorem dX2_isTest_16 : decode cX2_isTest 16 = .ok (.invokestatic 159, 3) := by decide +kernel
theorem dX2_isTest_19 : decode cX2_isTest 19 = .ok (.iconst 4, 1) := by decide +kernel
theorem dX2_isTest_20 : decode cX2_isTest 20 = .ok (.if_icmp .ne 7, 3) := by decide +kernel
theorem dX2_isTest_23 : decode cX2_isTest 23 = .ok (.iconst 1, 1) := by decide +kernel
theorem dX2_isTest_24 : decode cX2_isTest 24 = .ok (.goto 4, 3) := by decide +kernel
theorem dX2_isTest_27 : decode cX2_isTest 27 = .ok (.iconst 0, 1) := by decide +kernel
theorem dX2_isTest_28 : decode cX2_isTest 28 = .ok (.ireturn, 1) := by decide +kernel
theorem dX2_canTestBegin_0 : decode cX2_canTestBegin 0 = .ok (.aload_n 0, 1) := by decide +kernel
theorem dX2_canTestBegin_1 : decode cX2_canTestBegin 1 = .ok (.invokevirtual 140, 3) := by decide +kernel
theorem dX2_canTestBegin_4 : decode cX2_canTestBegin 4 = .ok (.istore_n 1, 1) := by decide +kernel
theorem dX2_canTestBegin_5 : decode cX2_canTestBegin 5 = .ok (.iload_n 1, 1) := by decide +kernel
theorem dX2_canTestBegin_6 : decode cX2_canTestBegin 6 = .ok (.bipush 21, 2) := by decide +kernel
theorem dX2_canTestBegin_8 : decode cX2_canTestBegin 8 = .ok (.if_icmp .eq 21, 3) := by decide +kernel
theorem dX2_canTestBegin_11 : decode cX2_canTestBegin 11 = .ok (.iload_n 1, 1) := by decide +kernel
theorem dX2_canTestBegin_12 : decode cX2_canTestBegin 12 = .ok (.bipush 23, 2) := by decide +kernel
theorem dX2_canTestBegin_14 : decode cX2_canTestBegin 14 = .ok (.if_icmp .eq 15, 3) := by decide +kernel
theorem dX2_canTestBegin_17 : decode cX2_canTestBegin 17 = .ok (.iload_n 1, 1) := by decide +kernel
theorem dX2_canTestBegin_18 : decode cX2_canTestBegin 18 = .ok (.invokestatic 159, 3) := by decide +kernel
theorem dX2_canTestBegin_21 : decode cX2_canTestBegin 21 = .ok (.iconst 1, 1) := by decide +kernel
theorem dX2_canTestBegin_22 : decode cX2_canTestBegin 22 = .ok (.iconst 3, 1) := by decide +kernel
theorem dX2_canTestBegin_23 : decode cX2_canTestBegin 23 = .ok (.invokestatic 100, 3) := by decide +kernel
theorem dX2_canTestBegin_26 : decode cX2_canTestBegin 26 = .ok (.ifCond .eq 7, 3) := by decide +kernel
theorem dX2_canTestBegin_29 : decode cX2_canTestBegin 29 = .ok (.iconst 1, 1) := by decide +kernel
theorem dX2_canTestBegin_30 : decode cX2_canTestBegin 30 = .ok (.goto 4, 3) := by decide +kernel
theorem dX2_canTestBegin_33 : decode cX2_canTestBegin 33 = .ok (.iconst 0, 1) := by decide +kernel
theorem dX2_canTestBegin_34 : decode cX2_canTestBegin 34 = .ok (.ireturn, 1) := by decide +kernel
theorem dX2_fold_0 : decode cX2_fold 0 = .ok (.aload_n 0, 1) := by decide +kernel
theorem dX2_fold_1 : decode cX2_fold 1 = .ok (.getfield 111, 3) := by decide +kernel
theorem dX2_fold_4 : decode cX2_fold 4 = .ok (.ifCond .le 74, 3) := by decide +kernel
theorem dX2_fold_7 : decode cX2_fold 7 = .ok (.aload_n 0, 1) := by decide +kernel
theorem dX2_fold_8 : decode cX2_fold 8 = .ok (.invokevirtual 140, 3) := by decide +kernel
