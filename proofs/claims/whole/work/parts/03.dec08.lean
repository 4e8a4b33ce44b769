theorem dX11_image_39 : decode cX11_image 39 = .ok (.iload_n 2, 1) := by decide +kernel
theorem dX11_image_40 : decode cX11_image 40 = .ok (.iadd, 1) := by decide +kernel
theorem dX11_image_41 : decode cX11_image 41 = .ok (.aload_n 0, 1) := by decide +kernel
theorem dX11_image_42 : decode cX11_image 42 = .ok (.getfield 13, 3) := by decide +kernel
theorem dX11_image_45 : decode cX11_image 45 = .ok (.iload_n 2, 1) := by decide +kernel
theorem dX11_image_46 : decode cX11_image 46 = .ok (.iaload, 1) := by decide +kernel
theorem dX11_image_47 : decode cX11_image 47 = .ok (.iastore, 1) := by decide +kernel
theorem dX11_image_48 : decode cX11_image 48 = .ok (.iinc 2 1, 3) := by decide +kernel
theorem dX11_image_51 : decode cX11_image 51 = .ok (.goto (-28), 3) := by decide +kernel
theorem dX11_image_54 : decode cX11_image 54 = .ok (.aload_n 0, 1) := by decide +kernel
theorem dX11_image_55 : decode cX11_image 55 = .ok (.getfield 19, 3) := by decide +kernel
theorem dX11_image_58 : decode cX11_image 58 = .ok (.iload_n 1, 1) := by decide +kernel
theorem dX11_image_59 : decode cX11_image 59 = .ok (.iconst 1, 1) := by decide +kernel
theorem dX11_image_60 : decode cX11_image 60 = .ok (.bastore, 1) := by decide +kernel
theorem dX11_image_61 : decode cX11_image 61 = .ok (.aload_n 0, 1) := by decide +kernel
theorem dX11_image_62 : decode cX11_image 62 = .ok (.iconst 0, 1) := by decide +kernel
theorem dX11_image_63 : decode cX11_image 63 = .ok (.invokevirtual 162, 3) := by decide +kernel
theorem dX11_image_66 : decode cX11_image 66 = .ok (.ireturn, 1) := by decide +kernel
theorem dX11_back_0 : decode cX11_back 0 = .ok (.aload_n 0, 1) := by decide +kernel
theorem dX11_back_1 : decode cX11_back 1 = .ok (.iconst 0, 1) := by decide +kernel
theorem dX11_back_2 : decode cX11_back 2 = .ok (.putfield 153, 3) := by decide +kernel
theorem dX11_back_5 : decode cX11_back 5 = .ok (.iload_n 1, 1) := by decide +kernel
theorem dX11_back_6 : decode cX11_back 6 = .ok (.i2l, 1) := by decide +kernel
theorem dX11_back_7 : decode cX11_back 7 = .ok (.lconst 0, 1) := by decide +kernel
theorem dX11_back_8 : decode cX11_back 8 = .ok (.lconst 1, 1) := by decide +kernel
theorem dX11_back_9 : decode cX11_back 9 = .ok (.invokestatic 173, 3) := by decide +kernel
theorem dX11_back_12 : decode cX11_back 12 = .ok (.ifCond .ne 9, 3) := by decide +kernel
theorem dX11_back_15 : decode cX11_back 15 = .ok (.aload_n 0, 1) := by decide +kernel
theorem dX11_back_16 : decode cX11_back 16 = .ok (.iconst (-1), 1) := by decide +kernel
theorem dX11_back_17 : decode cX11_back 17 = .ok (.invokevirtual 162, 3) := by decide +kernel
theorem dX11_back_20 : decode cX11_back 20 = .ok (.ireturn, 1) := by decide +kernel
theorem dX11_back_21 : decode cX11_back 21 = .ok (.aload_n 0, 1) := by decide +kernel
theorem dX11_back_22 : decode cX11_back 22 = .ok (.getfield 19, 3) := by decide +kernel
theorem dX11_back_25 : decode cX11_back 25 = .ok (.iload_n 1, 1) := by decide +kernel
theorem dX11_back_26 : decode cX11_back 26 = .ok (.baload, 1) := by decide +kernel
theorem dX11_back_27 : decode cX11_back 27 = .ok (.ifCond .ne 10, 3) := by decide +kernel
theorem dX11_back_30 : decode cX11_back 30 = .ok (.aload_n 0, 1) := by decide +kernel
theorem dX11_back_31 : decode cX11_back 31 = .ok (.bipush (-2), 2) := by decide +kernel
theorem dX11_back_33 : decode cX11_back 33 = .ok (.invokevirtual 162, 3) := by decide +kernel
theorem dX11_back_36 : decode cX11_back 36 = .ok (.ireturn, 1) := by decide +kernel
theorem dX11_back_37 : decode cX11_back 37 = .ok (.iconst 0, 1) := by decide +kernel
theorem dX11_back_38 : decode cX11_back 38 = .ok (.istore_n 2, 1) := by decide +kernel
theorem dX11_back_39 : decode cX11_back 39 = .ok (.iload_n 2, 1) := by decide +kernel
theorem dX11_back_40 : decode cX11_back 40 = .ok (.sipush 5480, 3) := by decide +kernel
theorem dX11_back_43 : decode cX11_back 43 = .ok (.if_icmp .ge 27, 3) := by decide +kernel
theorem dX11_back_46 : decode cX11_back 46 = .ok (.aload_n 0, 1) := by decide +kernel
theorem dX11_back_47 : decode cX11_back 47 = .ok (.getfield 13, 3) := by decide +kernel
theorem dX11_back_50 : decode cX11_back 50 = .ok (.iload_n 2, 1) := by decide +kernel
theorem dX11_back_51 : decode cX11_back 51 = .ok (.aload_n 0, 1) := by decide +kernel
theorem dX11_back_52 : decode cX11_back 52 = .ok (.getfield 16, 3) := by decide +kernel
theorem dX11_back_55 : decode cX11_back 55 = .ok (.sipush 5480, 3) := by decide +kernel
theorem dX11_back_58 : decode cX11_back 58 = .ok (.iload_n 1, 1) := by decide +kernel
theorem dX11_back_59 : decode cX11_back 59 = .ok (.imul, 1) := by decide +kernel
theorem dX11_back_60 : decode cX11_back 60 = .ok (.iload_n 2, 1) := by decide +kernel
theorem dX11_back_61 : decode cX11_back 61 = .ok (.iadd, 1) := by decide +kernel
theorem dX11_back_62 : decode cX11_back 62 = .ok (.iaload, 1) := by decide +kernel
theorem dX11_back_63 : decode cX11_back 63 = .ok (.iastore, 1) := by decide +kernel
theorem dX11_back_64 : decode cX11_back 64 = .ok (.iinc 2 1, 3) := by decide +kernel
theorem dX11_back_67 : decode cX11_back 67 = .ok (.goto (-28), 3) := by decide +kernel
theorem dX11_back_70 : decode cX11_back 70 = .ok (.aload_n 0, 1) := by decide +kernel
theorem dX11_back_71 : decode cX11_back 71 = .ok (.iconst 0, 1) := by decide +kernel
theorem dX11_back_72 : decode cX11_back 72 = .ok (.invokevirtual 177, 3) := by decide +kernel
theorem dX11_back_75 : decode cX11_back 75 = .ok (.ireturn, 1) := by decide +kernel
theorem dX11_isSpark_0 : decode cX11_isSpark 0 = .ok (.iload_n 1, 1) := by decide +kernel
theorem dX11_isSpark_1 : decode cX11_isSpark 1 = .ok (.i2l, 1) := by decide +kernel
theorem dX11_isSpark_2 : decode cX11_isSpark 2 = .ok (.lconst 0, 1) := by decide +kernel
theorem dX11_isSpark_3 : decode cX11_isSpark 3 = .ok (.aload_n 0, 1) := by decide +kernel
theorem dX11_isSpark_4 : decode cX11_isSpark 4 = .ok (.getfield 13, 3) := by decide +kernel
theorem dX11_isSpark_7 : decode cX11_isSpark 7 = .ok (.iconst 0, 1) := by decide +kernel
theorem dX11_isSpark_8 : decode cX11_isSpark 8 = .ok (.iaload, 1) := by decide +kernel
theorem dX11_isSpark_9 : decode cX11_isSpark 9 = .ok (.i2l, 1) := by decide +kernel
theorem dX11_isSpark_10 : decode cX11_isSpark 10 = .ok (.lconst 1, 1) := by decide +kernel
theorem dX11_isSpark_11 : decode cX11_isSpark 11 = .ok (.lsub, 1) := by decide +kernel
theorem dX11_isSpark_12 : decode cX11_isSpark 12 = .ok (.invokestatic 173, 3) := by decide +kernel
theorem dX11_isSpark_15 : decode cX11_isSpark 15 = .ok (.ireturn, 1) := by decide +kernel
theorem dX11_isPerson_0 : decode cX11_isPerson 0 = .ok (.iload_n 1, 1) := by decide +kernel
theorem dX11_isPerson_1 : decode cX11_isPerson 1 = .ok (.i2l, 1) := by decide +kernel
theorem dX11_isPerson_2 : decode cX11_isPerson 2 = .ok (.lconst 0, 1) := by decide +kernel
theorem dX11_isPerson_3 : decode cX11_isPerson 3 = .ok (.aload_n 0, 1) := by decide +kernel
theorem dX11_isPerson_4 : decode cX11_isPerson 4 = .ok (.getfield 13, 3) := by decide +kernel
theorem dX11_isPerson_7 : decode cX11_isPerson 7 = .ok (.iconst 1, 1) := by decide +kernel
theorem dX11_isPerson_8 : decode cX11_isPerson 8 = .ok (.iaload, 1) := by decide +kernel
theorem dX11_isPerson_9 : decode cX11_isPerson 9 = .ok (.i2l, 1) := by decide +kernel
theorem dX11_isPerson_10 : decode cX11_isPerson 10 = .ok (.lconst 1, 1) := by decide +kernel
theorem dX11_isPerson_11 : decode cX11_isPerson 11 = .ok (.lsub, 1) := by decide +kernel
theorem dX11_isPerson_12 : decode cX11_isPerson 12 = .ok (.invokestatic 173, 3) := by decide +kernel
theorem dX11_isPerson_15 : decode cX11_isPerson 15 = .ok (.ireturn, 1) := by decide +kernel
theorem dX11_isCell_0 : decode cX11_isCell 0 = .ok (.iload_n 0, 1) := by decide +kernel
theorem dX11_isCell_1 : decode cX11_isCell 1 = .ok (.i2l, 1) := by decide +kernel
theorem dX11_isCell_2 : decode cX11_isCell 2 = .ok (.lconst 0, 1) := by decide +kernel
theorem dX11_isCell_3 : decode cX11_isCell 3 = .ok (.ldc2_w 63, 3) := by decide +kernel
theorem dX11_isCell_6 : decode cX11_isCell 6 = .ok (.invokestatic 173, 3) := by decide +kernel
theorem dX11_isCell_9 : decode cX11_isCell 9 = .ok (.ireturn, 1) := by decide +kernel
theorem dX11_isLoose_0 : decode cX11_isLoose 0 = .ok (.aload_n 0, 1) := by decide +kernel
theorem dX11_isLoose_1 : decode cX11_isLoose 1 = .ok (.getfield 13, 3) := by decide +kernel
theorem dX11_isLoose_4 : decode cX11_isLoose 4 = .ok (.bipush 9, 2) := by decide +kernel
theorem dX11_isLoose_6 : decode cX11_isLoose 6 = .ok (.iload_n 1, 1) := by decide +kernel
theorem dX11_isLoose_7 : decode cX11_isLoose 7 = .ok (.iadd, 1) := by decide +kernel
theorem dX11_isLoose_8 : decode cX11_isLoose 8 = .ok (.iaload, 1) := by decide +kernel
theorem dX11_isLoose_9 : decode cX11_isLoose 9 = .ok (.iconst (-1), 1) := by decide +kernel
theorem dX11_isLoose_10 : decode cX11_isLoose 10 = .ok (.if_icmp .eq 7, 3) := by decide +kernel
theorem dX11_isLoose_13 : decode cX11_isLoose 13 = .ok (.iconst 1, 1) := by decide +kernel
theorem dX11_isLoose_14 : decode cX11_isLoose 14 = .ok (.goto 4, 3) := by decide +kernel
theorem dX11_isLoose_17 : decode cX11_isLoose 17 = .ok (.iconst 0, 1) := by decide +kernel
theorem dX11_isLoose_18 : decode cX11_isLoose 18 = .ok (.ireturn, 1) := by decide +kernel
theorem dX11_apart_0 : decode cX11_apart 0 = .ok (.iload_n 0, 1) := by decide +kernel
theorem dX11_apart_1 : decode cX11_apart 1 = .ok (.iconst 5, 1) := by decide +kernel
theorem dX11_apart_2 : decode cX11_apart 2 = .ok (.idiv, 1) := by decide +kernel
theorem dX11_apart_3 : decode cX11_apart 3 = .ok (.iload_n 1, 1) := by decide +kernel
theorem dX11_apart_4 : decode cX11_apart 4 = .ok (.iconst 5, 1) := by decide +kernel
theorem dX11_apart_5 : decode cX11_apart 5 = .ok (.idiv, 1) := by decide +kernel
theorem dX11_apart_6 : decode cX11_apart 6 = .ok (.isub, 1) := by decide +kernel
theorem dX11_apart_7 : decode cX11_apart 7 = .ok (.istore_n 2, 1) := by decide +kernel
theorem dX11_apart_8 : decode cX11_apart 8 = .ok (.iload_n 0, 1) := by decide +kernel
theorem dX11_apart_9 : decode cX11_apart 9 = .ok (.iconst 5, 1) := by decide +kernel
theorem dX11_apart_10 : decode cX11_apart 10 = .ok (.irem, 1) := by decide +kernel
theorem dX11_apart_11 : decode cX11_apart 11 = .ok (.iload_n 1, 1) := by decide +kernel
theorem dX11_apart_12 : decode cX11_apart 12 = .ok (.iconst 5, 1) := by decide +kernel
theorem dX11_apart_13 : decode cX11_apart 13 = .ok (.irem, 1) := by decide +kernel
theorem dX11_apart_14 : decode cX11_apart 14 = .ok (.isub, 1) := by decide +kernel
theorem dX11_apart_15 : decode cX11_apart 15 = .ok (.istore_n 3, 1) := by decide +kernel
theorem dX11_apart_16 : decode cX11_apart 16 = .ok (.iload_n 2, 1) := by decide +kernel
theorem dX11_apart_17 : decode cX11_apart 17 = .ok (.ifCond .ge 8, 3) := by decide +kernel
theorem dX11_apart_20 : decode cX11_apart 20 = .ok (.iload_n 2, 1) := by decide +kernel
theorem dX11_apart_21 : decode cX11_apart 21 = .ok (.ineg, 1) := by decide +kernel
theorem dX11_apart_22 : decode cX11_apart 22 = .ok (.goto 4, 3) := by decide +kernel
theorem dX11_apart_25 : decode cX11_apart 25 = .ok (.iload_n 2, 1) := by decide +kernel
theorem dX11_apart_26 : decode cX11_apart 26 = .ok (.iload_n 3, 1) := by decide +kernel
theorem dX11_apart_27 : decode cX11_apart 27 = .ok (.ifCond .ge 8, 3) := by decide +kernel
theorem dX11_apart_30 : decode cX11_apart 30 = .ok (.iload_n 3, 1) := by decide +kernel
theorem dX11_apart_31 : decode cX11_apart 31 = .ok (.ineg, 1) := by decide +kernel
theorem dX11_apart_32 : decode cX11_apart 32 = .ok (.goto 4, 3) := by decide +kernel
theorem dX11_apart_35 : decode cX11_apart 35 = .ok (.iload_n 3, 1) := by decide +kernel
theorem dX11_apart_36 : decode cX11_apart 36 = .ok (.iadd, 1) := by decide +kernel
theorem dX11_apart_37 : decode cX11_apart 37 = .ok (.ireturn, 1) := by decide +kernel
theorem dX11_nextTo_0 : decode cX11_nextTo 0 = .ok (.iload_n 0, 1) := by decide +kernel
theorem dX11_nextTo_1 : decode cX11_nextTo 1 = .ok (.iconst 5, 1) := by decide +kernel
theorem dX11_nextTo_2 : decode cX11_nextTo 2 = .ok (.idiv, 1) := by decide +kernel
theorem dX11_nextTo_3 : decode cX11_nextTo 3 = .ok (.iload_n 1, 1) := by decide +kernel
theorem dX11_nextTo_4 : decode cX11_nextTo 4 = .ok (.iconst 1, 1) := by decide +kernel
theorem dX11_nextTo_5 : decode cX11_nextTo 5 = .ok (.if_icmp .ne 7, 3) := by decide +kernel
theorem dX11_nextTo_8 : decode cX11_nextTo 8 = .ok (.iconst 1, 1) := by decide +kernel
theorem dX11_nextTo_9 : decode cX11_nextTo 9 = .ok (.goto 13, 3) := by decide +kernel
theorem dX11_nextTo_12 : decode cX11_nextTo 12 = .ok (.iload_n 1, 1) := by decide +kernel
theorem dX11_nextTo_13 : decode cX11_nextTo 13 = .ok (.iconst 3, 1) := by decide +kernel
theorem dX11_nextTo_14 : decode cX11_nextTo 14 = .ok (.if_icmp .ne 7, 3) := by decide +kernel
theorem dX11_nextTo_17 : decode cX11_nextTo 17 = .ok (.iconst (-1), 1) := by decide +kernel
theorem dX11_nextTo_18 : decode cX11_nextTo 18 = .ok (.goto 4, 3) := by decide +kernel
theorem dX11_nextTo_21 : decode cX11_nextTo 21 = .ok (.iconst 0, 1) := by decide +kernel
theorem dX11_nextTo_22 : decode cX11_nextTo 22 = .ok (.iadd, 1) := by decide +kernel
theorem dX11_nextTo_23 : decode cX11_nextTo 23 = .ok (.istore_n 2, 1) := by decide +kernel
theorem dX11_nextTo_24 : decode cX11_nextTo 24 = .ok (.iload_n 0, 1) := by decide +kernel
theorem dX11_nextTo_25 : decode cX11_nextTo 25 = .ok (.iconst 5, 1) := by decide +kernel
theorem dX11_nextTo_26 : decode cX11_nextTo 26 = .ok (.irem, 1) := by decide +kernel
theorem dX11_nextTo_27 : decode cX11_nextTo 27 = .ok (.iload_n 1, 1) := by decide +kernel
theorem dX11_nextTo_28 : decode cX11_nextTo 28 = .ok (.iconst 2, 1) := by decide +kernel
theorem dX11_nextTo_29 : decode cX11_nextTo 29 = .ok (.if_icmp .ne 7, 3) := by decide +kernel
theorem dX11_nextTo_32 : decode cX11_nextTo 32 = .ok (.iconst 1, 1) := by decide +kernel
theorem dX11_nextTo_33 : decode cX11_nextTo 33 = .ok (.goto 13, 3) := by decide +kernel
theorem dX11_nextTo_36 : decode cX11_nextTo 36 = .ok (.iload_n 1, 1) := by decide +kernel
theorem dX11_nextTo_37 : decode cX11_nextTo 37 = .ok (.iconst 4, 1) := by decide +kernel
theorem dX11_nextTo_38 : decode cX11_nextTo 38 = .ok (.if_icmp .ne 7, 3) := by decide +kernel
theorem dX11_nextTo_41 : decode cX11_nextTo 41 = .ok (.iconst (-1), 1) := by decide +kernel
theorem dX11_nextTo_42 : decode cX11_nextTo 42 = .ok (.goto 4, 3) := by decide +kernel
theorem dX11_nextTo_45 : decode cX11_nextTo 45 = .ok (.iconst 0, 1) := by decide +kernel
theorem dX11_nextTo_46 : decode cX11_nextTo 46 = .ok (.iadd, 1) := by decide +kernel
theorem dX11_nextTo_47 : decode cX11_nextTo 47 = .ok (.istore_n 3, 1) := by decide +kernel
theorem dX11_nextTo_48 : decode cX11_nextTo 48 = .ok (.iload_n 2, 1) := by decide +kernel
theorem dX11_nextTo_49 : decode cX11_nextTo 49 = .ok (.i2l, 1) := by decide +kernel
theorem dX11_nextTo_50 : decode cX11_nextTo 50 = .ok (.lconst 0, 1) := by decide +kernel
theorem dX11_nextTo_51 : decode cX11_nextTo 51 = .ok (.ldc2_w 180, 3) := by decide +kernel
theorem dX11_nextTo_54 : decode cX11_nextTo 54 = .ok (.invokestatic 173, 3) := by decide +kernel
theorem dX11_nextTo_57 : decode cX11_nextTo 57 = .ok (.ifCond .eq 23, 3) := by decide +kernel
theorem dX11_nextTo_60 : decode cX11_nextTo 60 = .ok (.iload_n 3, 1) := by decide +kernel
theorem dX11_nextTo_61 : decode cX11_nextTo 61 = .ok (.i2l, 1) := by decide +kernel
theorem dX11_nextTo_62 : decode cX11_nextTo 62 = .ok (.lconst 0, 1) := by decide +kernel
theorem dX11_nextTo_63 : decode cX11_nextTo 63 = .ok (.ldc2_w 180, 3) := by decide +kernel
theorem dX11_nextTo_66 : decode cX11_nextTo 66 = .ok (.invokestatic 173, 3) := by decide +kernel
theorem dX11_nextTo_69 : decode cX11_nextTo 69 = .ok (.ifCond .eq 11, 3) := by decide +kernel
theorem dX11_nextTo_72 : decode cX11_nextTo 72 = .ok (.iconst 5, 1) := by decide +kernel
theorem dX11_nextTo_73 : decode cX11_nextTo 73 = .ok (.iload_n 2, 1) := by decide +kernel
theorem dX11_nextTo_74 : decode cX11_nextTo 74 = .ok (.imul, 1) := by decide +kernel
theorem dX11_nextTo_75 : decode cX11_nextTo 75 = .ok (.iload_n 3, 1) := by decide +kernel
theorem dX11_nextTo_76 : decode cX11_nextTo 76 = .ok (.iadd, 1) := by decide +kernel
theorem dX11_nextTo_77 : decode cX11_nextTo 77 = .ok (.goto 4, 3) := by decide +kernel
theorem dX11_nextTo_80 : decode cX11_nextTo 80 = .ok (.iconst (-1), 1) := by decide +kernel
theorem dX11_nextTo_81 : decode cX11_nextTo 81 = .ok (.ireturn, 1) := by decide +kernel
theorem dX11_looseOnes_0 : decode cX11_looseOnes 0 = .ok (.iconst 0, 1) := by decide +kernel
theorem dX11_looseOnes_1 : decode cX11_looseOnes 1 = .ok (.istore_n 1, 1) := by decide +kernel
theorem dX11_looseOnes_2 : decode cX11_looseOnes 2 = .ok (.iconst 0, 1) := by decide +kernel
theorem dX11_looseOnes_3 : decode cX11_looseOnes 3 = .ok (.istore_n 2, 1) := by decide +kernel
theorem dX11_looseOnes_4 : decode cX11_looseOnes 4 = .ok (.iload_n 2, 1) := by decide +kernel
theorem dX11_looseOnes_5 : decode cX11_looseOnes 5 = .ok (.aload_n 0, 1) := by decide +kernel
theorem dX11_looseOnes_6 : decode cX11_looseOnes 6 = .ok (.getfield 13, 3) := by decide +kernel
theorem dX11_looseOnes_9 : decode cX11_looseOnes 9 = .ok (.iconst 0, 1) := by decide +kernel
theorem dX11_looseOnes_10 : decode cX11_looseOnes 10 = .ok (.iaload, 1) := by decide +kernel
theorem dX11_looseOnes_11 : decode cX11_looseOnes 11 = .ok (.if_icmp .ge 27, 3) := by decide +kernel
theorem dX11_looseOnes_14 : decode cX11_looseOnes 14 = .ok (.iload_n 1, 1) := by decide +kernel
theorem dX11_looseOnes_15 : decode cX11_looseOnes 15 = .ok (.aload_n 0, 1) := by decide +kernel
theorem dX11_looseOnes_16 : decode cX11_looseOnes 16 = .ok (.iload_n 2, 1) := by decide +kernel
theorem dX11_looseOnes_17 : decode cX11_looseOnes 17 = .ok (.invokevirtual 182, 3) := by decide +kernel
theorem dX11_looseOnes_20 : decode cX11_looseOnes 20 = .ok (.ifCond .eq 9, 3) := by decide +kernel
theorem dX11_looseOnes_23 : decode cX11_looseOnes 23 = .ok (.iconst 1, 1) := by decide +kernel
theorem dX11_looseOnes_24 : decode cX11_looseOnes 24 = .ok (.iload_n 2, 1) := by decide +kernel
theorem dX11_looseOnes_25 : decode cX11_looseOnes 25 = .ok (.ishl, 1) := by decide +kernel
theorem dX11_looseOnes_26 : decode cX11_looseOnes 26 = .ok (.goto 4, 3) := by decide +kernel
theorem dX11_looseOnes_29 : decode cX11_looseOnes 29 = .ok (.iconst 0, 1) := by decide +kernel
theorem dX11_looseOnes_30 : decode cX11_looseOnes 30 = .ok (.ior, 1) := by decide +kernel
theorem dX11_looseOnes_31 : decode cX11_looseOnes 31 = .ok (.istore_n 1, 1) := by decide +kernel
theorem dX11_looseOnes_32 : decode cX11_looseOnes 32 = .ok (.iinc 2 1, 3) := by decide +kernel
theorem dX11_looseOnes_35 : decode cX11_looseOnes 35 = .ok (.goto (-31), 3) := by decide +kernel
theorem dX11_looseOnes_38 : decode cX11_looseOnes 38 = .ok (.iload_n 1, 1) := by decide +kernel
theorem dX11_looseOnes_39 : decode cX11_looseOnes 39 = .ok (.ireturn, 1) := by decide +kernel
theorem dX11_knownTo_0 : decode cX11_knownTo 0 = .ok (.iconst 0, 1) := by decide +kernel
theorem dX11_knownTo_1 : decode cX11_knownTo 1 = .ok (.istore_n 2, 1) := by decide +kernel
theorem dX11_knownTo_2 : decode cX11_knownTo 2 = .ok (.iconst 0, 1) := by decide +kernel
theorem dX11_knownTo_3 : decode cX11_knownTo 3 = .ok (.istore_n 3, 1) := by decide +kernel
theorem dX11_knownTo_4 : decode cX11_knownTo 4 = .ok (.iload_n 3, 1) := by decide +kernel
theorem dX11_knownTo_5 : decode cX11_knownTo 5 = .ok (.aload_n 0, 1) := by decide +kernel
theorem dX11_knownTo_6 : decode cX11_knownTo 6 = .ok (.getfield 13, 3) := by decide +kernel
theorem dX11_knownTo_9 : decode cX11_knownTo 9 = .ok (.iconst 1, 1) := by decide +kernel
theorem dX11_knownTo_10 : decode cX11_knownTo 10 = .ok (.iaload, 1) := by decide +kernel
theorem dX11_knownTo_11 : decode cX11_knownTo 11 = .ok (.if_icmp .ge 35, 3) := by decide +kernel
theorem dX11_knownTo_14 : decode cX11_knownTo 14 = .ok (.iload_n 2, 1) := by decide +kernel
theorem dX11_knownTo_15 : decode cX11_knownTo 15 = .ok (.aload_n 0, 1) := by decide +kernel
theorem dX11_knownTo_16 : decode cX11_knownTo 16 = .ok (.getfield 13, 3) := by decide +kernel
theorem dX11_knownTo_19 : decode cX11_knownTo 19 = .ok (.bipush 62, 2) := by decide +kernel
theorem dX11_knownTo_21 : decode cX11_knownTo 21 = .ok (.iload_n 3, 1) := by decide +kernel
theorem dX11_knownTo_22 : decode cX11_knownTo 22 = .ok (.iadd, 1) := by decide +kernel
theorem dX11_knownTo_23 : decode cX11_knownTo 23 = .ok (.iaload, 1) := by decide +kernel
theorem dX11_knownTo_24 : decode cX11_knownTo 24 = .ok (.iload_n 1, 1) := by decide +kernel
theorem dX11_knownTo_25 : decode cX11_knownTo 25 = .ok (.invokestatic 186, 3) := by decide +kernel
theorem dX11_knownTo_28 : decode cX11_knownTo 28 = .ok (.ifCond .eq 9, 3) := by decide +kernel
theorem dX11_knownTo_31 : decode cX11_knownTo 31 = .ok (.iconst 1, 1) := by decide +kernel
theorem dX11_knownTo_32 : decode cX11_knownTo 32 = .ok (.iload_n 3, 1) := by decide +kernel
theorem dX11_knownTo_33 : decode cX11_knownTo 33 = .ok (.ishl, 1) := by decide +kernel
theorem dX11_knownTo_34 : decode cX11_knownTo 34 = .ok (.goto 4, 3) := by decide +kernel
theorem dX11_knownTo_37 : decode cX11_knownTo 37 = .ok (.iconst 0, 1) := by decide +kernel
theorem dX11_knownTo_38 : decode cX11_knownTo 38 = .ok (.ior, 1) := by decide +kernel
theorem dX11_knownTo_39 : decode cX11_knownTo 39 = .ok (.istore_n 2, 1) := by decide +kernel
theorem dX11_knownTo_40 : decode cX11_knownTo 40 = .ok (.iinc 3 1, 3) := by decide +kernel
theorem dX11_knownTo_43 : decode cX11_knownTo 43 = .ok (.goto (-39), 3) := by decide +kernel
theorem dX11_knownTo_46 : decode cX11_knownTo 46 = .ok (.iload_n 2, 1) := by decide +kernel
theorem dX11_knownTo_47 : decode cX11_knownTo 47 = .ok (.ireturn, 1) := by decide +kernel
theorem dX11_spark_0 : decode cX11_spark 0 = .ok (.aload_n 0, 1) := by decide +kernel
theorem dX11_spark_1 : decode cX11_spark 1 = .ok (.iconst 0, 1) := by decide +kernel
theorem dX11_spark_2 : decode cX11_spark 2 = .ok (.putfield 153, 3) := by decide +kernel
theorem dX11_spark_5 : decode cX11_spark 5 = .ok (.iload_n 1, 1) := by decide +kernel
theorem dX11_spark_6 : decode cX11_spark 6 = .ok (.invokestatic 190, 3) := by decide +kernel
theorem dX11_spark_9 : decode cX11_spark 9 = .ok (.ifCond .eq 27, 3) := by decide +kernel
theorem dX11_spark_12 : decode cX11_spark 12 = .ok (.iload_n 2, 1) := by decide +kernel
theorem dX11_spark_13 : decode cX11_spark 13 = .ok (.i2l, 1) := by decide +kernel
theorem dX11_spark_14 : decode cX11_spark 14 = .ok (.lconst 1, 1) := by decide +kernel
theorem dX11_spark_15 : decode cX11_spark 15 = .ok (.ldc2_w 193, 3) := by decide +kernel
theorem dX11_spark_18 : decode cX11_spark 18 = .ok (.invokestatic 173, 3) := by decide +kernel
theorem dX11_spark_21 : decode cX11_spark 21 = .ok (.ifCond .eq 15, 3) := by decide +kernel
theorem dX11_spark_24 : decode cX11_spark 24 = .ok (.iload_n 3, 1) := by decide +kernel
theorem dX11_spark_25 : decode cX11_spark 25 = .ok (.i2l, 1) := by decide +kernel
theorem dX11_spark_26 : decode cX11_spark 26 = .ok (.lconst 0, 1) := by decide +kernel
theorem dX11_spark_27 : decode cX11_spark 27 = .ok (.ldc2_w 195, 3) := by decide +kernel
theorem dX11_spark_30 : decode cX11_spark 30 = .ok (.invokestatic 173, 3) := by decide +kernel
theorem dX11_spark_33 : decode cX11_spark 33 = .ok (.ifCond .ne 9, 3) := by decide +kernel
theorem dX11_spark_36 : decode cX11_spark 36 = .ok (.aload_n 0, 1) := by decide +kernel
theorem dX11_spark_37 : decode cX11_spark 37 = .ok (.iconst (-1), 1) := by decide +kernel
theorem dX11_spark_38 : decode cX11_spark 38 = .ok (.invokevirtual 162, 3) := by decide +kernel
theorem dX11_spark_41 : decode cX11_spark 41 = .ok (.ireturn, 1) := by decide +kernel
theorem dX11_spark_42 : decode cX11_spark 42 = .ok (.aload_n 0, 1) := by decide +kernel
theorem dX11_spark_43 : decode cX11_spark 43 = .ok (.getfield 13, 3) := by decide +kernel
theorem dX11_spark_46 : decode cX11_spark 46 = .ok (.bipush 26, 2) := by decide +kernel
theorem dX11_spark_48 : decode cX11_spark 48 = .ok (.iload_n 1, 1) := by decide +kernel
theorem dX11_spark_49 : decode cX11_spark 49 = .ok (.iadd, 1) := by decide +kernel
theorem dX11_spark_50 : decode cX11_spark 50 = .ok (.iaload, 1) := by decide +kernel
theorem dX11_spark_51 : decode cX11_spark 51 = .ok (.iconst 3, 1) := by decide +kernel
theorem dX11_spark_52 : decode cX11_spark 52 = .ok (.if_icmp .ne 10, 3) := by decide +kernel
theorem dX11_spark_55 : decode cX11_spark 55 = .ok (.aload_n 0, 1) := by decide +kernel
theorem dX11_spark_56 : decode cX11_spark 56 = .ok (.bipush (-3), 2) := by decide +kernel
theorem dX11_spark_58 : decode cX11_spark 58 = .ok (.invokevirtual 162, 3) := by decide +kernel
theorem dX11_spark_61 : decode cX11_spark 61 = .ok (.ireturn, 1) := by decide +kernel
theorem dX11_spark_62 : decode cX11_spark 62 = .ok (.aload_n 0, 1) := by decide +kernel
theorem dX11_spark_63 : decode cX11_spark 63 = .ok (.getfield 13, 3) := by decide +kernel
theorem dX11_spark_66 : decode cX11_spark 66 = .ok (.iconst 0, 1) := by decide +kernel
theorem dX11_spark_67 : decode cX11_spark 67 = .ok (.iaload, 1) := by decide +kernel
theorem dX11_spark_68 : decode cX11_spark 68 = .ok (.istore 4, 2) := by decide +kernel
theorem dX11_spark_70 : decode cX11_spark 70 = .ok (.iload 4, 2) := by decide +kernel
theorem dX11_spark_72 : decode cX11_spark 72 = .ok (.bipush 6, 2) := by decide +kernel
theorem dX11_spark_74 : decode cX11_spark 74 = .ok (.if_icmp .ne 10, 3) := by decide +kernel
theorem dX11_spark_77 : decode cX11_spark 77 = .ok (.aload_n 0, 1) := by decide +kernel
theorem dX11_spark_78 : decode cX11_spark 78 = .ok (.bipush (-5), 2) := by decide +kernel
theorem dX11_spark_80 : decode cX11_spark 80 = .ok (.invokevirtual 162, 3) := by decide +kernel
theorem dX11_spark_83 : decode cX11_spark 83 = .ok (.ireturn, 1) := by decide +kernel
theorem dX11_spark_84 : decode cX11_spark 84 = .ok (.aload_n 0, 1) := by decide +kernel
theorem dX11_spark_85 : decode cX11_spark 85 = .ok (.getfield 13, 3) := by decide +kernel
theorem dX11_spark_88 : decode cX11_spark 88 = .ok (.bipush 9, 2) := by decide +kernel
theorem dX11_spark_90 : decode cX11_spark 90 = .ok (.iload 4, 2) := by decide +kernel
theorem dX11_spark_92 : decode cX11_spark 92 = .ok (.iadd, 1) := by decide +kernel
theorem dX11_spark_93 : decode cX11_spark 93 = .ok (.iload_n 1, 1) := by decide +kernel
theorem dX11_spark_94 : decode cX11_spark 94 = .ok (.iastore, 1) := by decide +kernel
theorem dX11_spark_95 : decode cX11_spark 95 = .ok (.aload_n 0, 1) := by decide +kernel
theorem dX11_spark_96 : decode cX11_spark 96 = .ok (.getfield 13, 3) := by decide +kernel
theorem dX11_spark_99 : decode cX11_spark 99 = .ok (.bipush 15, 2) := by decide +kernel
theorem dX11_spark_101 : decode cX11_spark 101 = .ok (.iload 4, 2) := by decide +kernel
theorem dX11_spark_103 : decode cX11_spark 103 = .ok (.iadd, 1) := by decide +kernel
theorem dX11_spark_104 : decode cX11_spark 104 = .ok (.iload_n 2, 1) := by decide +kernel
theorem dX11_spark_105 : decode cX11_spark 105 = .ok (.iastore, 1) := by decide +kernel
theorem dX11_spark_106 : decode cX11_spark 106 = .ok (.aload_n 0, 1) := by decide +kernel
theorem dX11_spark_107 : decode cX11_spark 107 = .ok (.getfield 13, 3) := by decide +kernel
theorem dX11_spark_110 : decode cX11_spark 110 = .ok (.bipush 51, 2) := by decide +kernel
theorem dX11_spark_112 : decode cX11_spark 112 = .ok (.iload 4, 2) := by decide +kernel
theorem dX11_spark_114 : decode cX11_spark 114 = .ok (.iadd, 1) := by decide +kernel
theorem dX11_spark_115 : decode cX11_spark 115 = .ok (.iload_n 3, 1) := by decide +kernel
theorem dX11_spark_116 : decode cX11_spark 116 = .ok (.iastore, 1) := by decide +kernel
theorem dX11_spark_117 : decode cX11_spark 117 = .ok (.aload_n 0, 1) := by decide +kernel
theorem dX11_spark_118 : decode cX11_spark 118 = .ok (.getfield 13, 3) := by decide +kernel
theorem dX11_spark_121 : decode cX11_spark 121 = .ok (.iconst 0, 1) := by decide +kernel
theorem dX11_spark_122 : decode cX11_spark 122 = .ok (.dup2, 1) := by decide +kernel
theorem dX11_spark_123 : decode cX11_spark 123 = .ok (.iaload, 1) := by decide +kernel
theorem dX11_spark_124 : decode cX11_spark 124 = .ok (.iconst 1, 1) := by decide +kernel
theorem dX11_spark_125 : decode cX11_spark 125 = .ok (.iadd, 1) := by decide +kernel
theorem dX11_spark_126 : decode cX11_spark 126 = .ok (.iastore, 1) := by decide +kernel
theorem dX11_spark_127 : decode cX11_spark 127 = .ok (.aload_n 0, 1) := by decide +kernel
theorem dX11_spark_128 : decode cX11_spark 128 = .ok (.iload 4, 2) := by decide +kernel
theorem dX11_spark_130 : decode cX11_spark 130 = .ok (.invokevirtual 177, 3) := by decide +kernel
theorem dX11_spark_133 : decode cX11_spark 133 = .ok (.ireturn, 1) := by decide +kernel
theorem dX11_of_0 : decode cX11_of 0 = .ok (.aload_n 0, 1) := by decide +kernel
theorem dX11_of_1 : decode cX11_of 1 = .ok (.iconst 0, 1) := by decide +kernel
theorem dX11_of_2 : decode cX11_of 2 = .ok (.putfield 153, 3) := by decide +kernel
theorem dX11_of_5 : decode cX11_of 5 = .ok (.aload_n 0, 1) := by decide +kernel
theorem dX11_of_6 : decode cX11_of 6 = .ok (.iload_n 1, 1) := by decide +kernel
theorem dX11_of_7 : decode cX11_of 7 = .ok (.invokevirtual 197, 3) := by decide +kernel
theorem dX11_of_10 : decode cX11_of 10 = .ok (.ifCond .ne 6, 3) := by decide +kernel
theorem dX11_of_13 : decode cX11_of 13 = .ok (.bipush (-100), 2) := by decide +kernel
theorem dX11_of_15 : decode cX11_of 15 = .ok (.ireturn, 1) := by decide +kernel
theorem dX11_of_16 : decode cX11_of 16 = .ok (.iload_n 2, 1) := by decide +kernel
theorem dX11_of_17 : decode cX11_of 17 = .ok (.tableswitch 113 0 5 #[39, 49, 59, 69, 88, 107], 39) := by decide +kernel
theorem dX11_of_56 : decode cX11_of 56 = .ok (.aload_n 0, 1) := by decide +kernel
theorem dX11_of_57 : decode cX11_of 57 = .ok (.getfield 13, 3) := by decide +kernel
theorem dX11_of_60 : decode cX11_of 60 = .ok (.bipush 9, 2) := by decide +kernel
theorem dX11_of_62 : decode cX11_of 62 = .ok (.iload_n 1, 1) := by decide +kernel
theorem dX11_of_63 : decode cX11_of 63 = .ok (.iadd, 1) := by decide +kernel
theorem dX11_of_64 : decode cX11_of 64 = .ok (.iaload, 1) := by decide +kernel
theorem dX11_of_65 : decode cX11_of 65 = .ok (.ireturn, 1) := by decide +kernel
theorem dX11_of_66 : decode cX11_of 66 = .ok (.aload_n 0, 1) := by decide +kernel
theorem dX11_of_67 : decode cX11_of 67 = .ok (.getfield 13, 3) := by decide +kernel
theorem dX11_of_70 : decode cX11_of 70 = .ok (.bipush 15, 2) := by decide +kernel
theorem dX11_of_72 : decode cX11_of 72 = .ok (.iload_n 1, 1) := by decide +kernel
theorem dX11_of_73 : decode cX11_of 73 = .ok (.iadd, 1) := by decide +kernel
theorem dX11_of_74 : decode cX11_of 74 = .ok (.iaload, 1) := by decide +kernel
theorem dX11_of_75 : decode cX11_of 75 = .ok (.ireturn, 1) := by decide +kernel
theorem dX11_of_76 : decode cX11_of 76 = .ok (.aload_n 0, 1) := by decide +kernel
theorem dX11_of_77 : decode cX11_of 77 = .ok (.getfield 13, 3) := by decide +kernel
theorem dX11_of_80 : decode cX11_of 80 = .ok (.bipush 51, 2) := by decide +kernel
theorem dX11_of_82 : decode cX11_of 82 = .ok (.iload_n 1, 1) := by decide +kernel
theorem dX11_of_83 : decode cX11_of 83 = .ok (.iadd, 1) := by decide +kernel
theorem dX11_of_84 : decode cX11_of 84 = .ok (.iaload, 1) := by decide +kernel
theorem dX11_of_85 : decode cX11_of 85 = .ok (.ireturn, 1) := by decide +kernel
theorem dX11_of_86 : decode cX11_of 86 = .ok (.aload_n 0, 1) := by decide +kernel
theorem dX11_of_87 : decode cX11_of 87 = .ok (.iload_n 1, 1) := by decide +kernel
theorem dX11_of_88 : decode cX11_of 88 = .ok (.invokevirtual 182, 3) := by decide +kernel
theorem dX11_of_91 : decode cX11_of 91 = .ok (.ifCond .eq 11, 3) := by decide +kernel
theorem dX11_of_94 : decode cX11_of 94 = .ok (.aload_n 0, 1) := by decide +kernel
theorem dX11_of_95 : decode cX11_of 95 = .ok (.iload_n 1, 1) := by decide +kernel
theorem dX11_of_96 : decode cX11_of 96 = .ok (.invokevirtual 200, 3) := by decide +kernel
theorem dX11_of_99 : decode cX11_of 99 = .ok (.goto 5, 3) := by decide +kernel
theorem dX11_of_102 : decode cX11_of 102 = .ok (.bipush (-100), 2) := by decide +kernel
theorem dX11_of_104 : decode cX11_of 104 = .ok (.ireturn, 1) := by decide +kernel
theorem dX11_of_105 : decode cX11_of 105 = .ok (.aload_n 0, 1) := by decide +kernel
theorem dX11_of_106 : decode cX11_of 106 = .ok (.iload_n 1, 1) := by decide +kernel
theorem dX11_of_107 : decode cX11_of 107 = .ok (.invokevirtual 182, 3) := by decide +kernel
theorem dX11_of_110 : decode cX11_of 110 = .ok (.ifCond .eq 11, 3) := by decide +kernel
theorem dX11_of_113 : decode cX11_of 113 = .ok (.aload_n 0, 1) := by decide +kernel
theorem dX11_of_114 : decode cX11_of 114 = .ok (.iload_n 1, 1) := by decide +kernel
theorem dX11_of_115 : decode cX11_of 115 = .ok (.invokevirtual 203, 3) := by decide +kernel
theorem dX11_of_118 : decode cX11_of 118 = .ok (.goto 5, 3) := by decide +kernel
theorem dX11_of_121 : decode cX11_of 121 = .ok (.bipush (-100), 2) := by decide +kernel
theorem dX11_of_123 : decode cX11_of 123 = .ok (.ireturn, 1) := by decide +kernel
theorem dX11_of_124 : decode cX11_of 124 = .ok (.aload_n 0, 1) := by decide +kernel
theorem dX11_of_125 : decode cX11_of 125 = .ok (.iload_n 1, 1) := by decide +kernel
theorem dX11_of_126 : decode cX11_of 126 = .ok (.invokevirtual 206, 3) := by decide +kernel
theorem dX11_of_129 : decode cX11_of 129 = .ok (.ireturn, 1) := by decide +kernel
theorem dX11_of_130 : decode cX11_of 130 = .ok (.bipush (-100), 2) := by decide +kernel
theorem dX11_of_132 : decode cX11_of 132 = .ok (.ireturn, 1) := by decide +kernel
theorem dX11_person_0 : decode cX11_person 0 = .ok (.aload_n 0, 1) := by decide +kernel
theorem dX11_person_1 : decode cX11_person 1 = .ok (.iconst 0, 1) := by decide +kernel
theorem dX11_person_2 : decode cX11_person 2 = .ok (.putfield 153, 3) := by decide +kernel
theorem dX11_person_5 : decode cX11_person 5 = .ok (.iload_n 1, 1) := by decide +kernel
theorem dX11_person_6 : decode cX11_person 6 = .ok (.invokestatic 190, 3) := by decide +kernel
theorem dX11_person_9 : decode cX11_person 9 = .ok (.ifCond .eq 15, 3) := by decide +kernel
theorem dX11_person_12 : decode cX11_person 12 = .ok (.iload_n 2, 1) := by decide +kernel
theorem dX11_person_13 : decode cX11_person 13 = .ok (.i2l, 1) := by decide +kernel
theorem dX11_person_14 : decode cX11_person 14 = .ok (.lconst 0, 1) := by decide +kernel
theorem dX11_person_15 : decode cX11_person 15 = .ok (.ldc2_w 209, 3) := by decide +kernel
theorem dX11_person_18 : decode cX11_person 18 = .ok (.invokestatic 173, 3) := by decide +kernel
theorem dX11_person_21 : decode cX11_person 21 = .ok (.ifCond .ne 9, 3) := by decide +kernel
theorem dX11_person_24 : decode cX11_person 24 = .ok (.aload_n 0, 1) := by decide +kernel
theorem dX11_person_25 : decode cX11_person 25 = .ok (.iconst (-1), 1) := by decide +kernel
theorem dX11_person_26 : decode cX11_person 26 = .ok (.invokevirtual 162, 3) := by decide +kernel
theorem dX11_person_29 : decode cX11_person 29 = .ok (.ireturn, 1) := by decide +kernel
theorem dX11_person_30 : decode cX11_person 30 = .ok (.aload_n 0, 1) := by decide +kernel
theorem dX11_person_31 : decode cX11_person 31 = .ok (.getfield 13, 3) := by decide +kernel
theorem dX11_person_34 : decode cX11_person 34 = .ok (.bipush 26, 2) := by decide +kernel
theorem dX11_person_36 : decode cX11_person 36 = .ok (.iload_n 1, 1) := by decide +kernel
theorem dX11_person_37 : decode cX11_person 37 = .ok (.iadd, 1) := by decide +kernel
theorem dX11_person_38 : decode cX11_person 38 = .ok (.iaload, 1) := by decide +kernel
theorem dX11_person_39 : decode cX11_person 39 = .ok (.iconst 3, 1) := by decide +kernel
theorem dX11_person_40 : decode cX11_person 40 = .ok (.if_icmp .ne 10, 3) := by decide +kernel
theorem dX11_person_43 : decode cX11_person 43 = .ok (.aload_n 0, 1) := by decide +kernel
theorem dX11_person_44 : decode cX11_person 44 = .ok (.bipush (-3), 2) := by decide +kernel
theorem dX11_person_46 : decode cX11_person 46 = .ok (.invokevirtual 162, 3) := by decide +kernel
theorem dX11_person_49 : decode cX11_person 49 = .ok (.ireturn, 1) := by decide +kernel
theorem dX11_person_50 : decode cX11_person 50 = .ok (.aload_n 0, 1) := by decide +kernel
theorem dX11_person_51 : decode cX11_person 51 = .ok (.getfield 13, 3) := by decide +kernel
theorem dX11_person_54 : decode cX11_person 54 = .ok (.iconst 1, 1) := by decide +kernel
theorem dX11_person_55 : decode cX11_person 55 = .ok (.iaload, 1) := by decide +kernel
theorem dX11_person_56 : decode cX11_person 56 = .ok (.istore_n 3, 1) := by decide +kernel
theorem dX11_person_57 : decode cX11_person 57 = .ok (.iload_n 3, 1) := by decide +kernel
theorem dX11_person_58 : decode cX11_person 58 = .ok (.iconst 5, 1) := by decide +kernel
theorem dX11_person_59 : decode cX11_person 59 = .ok (.if_icmp .ne 10, 3) := by decide +kernel
theorem dX11_person_62 : decode cX11_person 62 = .ok (.aload_n 0, 1) := by decide +kernel
theorem dX11_person_63 : decode cX11_person 63 = .ok (.bipush (-5), 2) := by decide +kernel
theorem dX11_person_65 : decode cX11_person 65 = .ok (.invokevirtual 162, 3) := by decide +kernel
theorem dX11_person_68 : decode cX11_person 68 = .ok (.ireturn, 1) := by decide +kernel
theorem dX11_person_69 : decode cX11_person 69 = .ok (.aload_n 0, 1) := by decide +kernel
theorem dX11_person_70 : decode cX11_person 70 = .ok (.getfield 13, 3) := by decide +kernel
theorem dX11_person_73 : decode cX11_person 73 = .ok (.bipush 21, 2) := by decide +kernel
theorem dX11_person_75 : decode cX11_person 75 = .ok (.iload_n 3, 1) := by decide +kernel
theorem dX11_person_76 : decode cX11_person 76 = .ok (.iadd, 1) := by decide +kernel
theorem dX11_person_77 : decode cX11_person 77 = .ok (.iload_n 1, 1) := by decide +kernel
theorem dX11_person_78 : decode cX11_person 78 = .ok (.iastore, 1) := by decide +kernel
theorem dX11_person_79 : decode cX11_person 79 = .ok (.aload_n 0, 1) := by decide +kernel
theorem dX11_person_80 : decode cX11_person 80 = .ok (.getfield 13, 3) := by decide +kernel
theorem dX11_person_83 : decode cX11_person 83 = .ok (.bipush 57, 2) := by decide +kernel
theorem dX11_person_85 : decode cX11_person 85 = .ok (.iload_n 3, 1) := by decide +kernel
theorem dX11_person_86 : decode cX11_person 86 = .ok (.iadd, 1) := by decide +kernel
theorem dX11_person_87 : decode cX11_person 87 = .ok (.iload_n 2, 1) := by decide +kernel
theorem dX11_person_88 : decode cX11_person 88 = .ok (.iastore, 1) := by decide +kernel
theorem dX11_person_89 : decode cX11_person 89 = .ok (.aload_n 0, 1) := by decide +kernel
theorem dX11_person_90 : decode cX11_person 90 = .ok (.getfield 13, 3) := by decide +kernel
theorem dX11_person_93 : decode cX11_person 93 = .ok (.bipush 62, 2) := by decide +kernel
theorem dX11_person_95 : decode cX11_person 95 = .ok (.iload_n 3, 1) := by decide +kernel
theorem dX11_person_96 : decode cX11_person 96 = .ok (.iadd, 1) := by decide +kernel
theorem dX11_person_97 : decode cX11_person 97 = .ok (.iconst 0, 1) := by decide +kernel
theorem dX11_person_98 : decode cX11_person 98 = .ok (.iastore, 1) := by decide +kernel
theorem dX11_person_99 : decode cX11_person 99 = .ok (.aload_n 0, 1) := by decide +kernel
theorem dX11_person_100 : decode cX11_person 100 = .ok (.getfield 13, 3) := by decide +kernel
theorem dX11_person_103 : decode cX11_person 103 = .ok (.iconst 1, 1) := by decide +kernel
theorem dX11_person_104 : decode cX11_person 104 = .ok (.dup2, 1) := by decide +kernel
theorem dX11_person_105 : decode cX11_person 105 = .ok (.iaload, 1) := by decide +kernel
theorem dX11_person_106 : decode cX11_person 106 = .ok (.iconst 1, 1) := by decide +kernel
theorem dX11_person_107 : decode cX11_person 107 = .ok (.iadd, 1) := by decide +kernel
theorem dX11_person_108 : decode cX11_person 108 = .ok (.iastore, 1) := by decide +kernel
theorem dX11_person_109 : decode cX11_person 109 = .ok (.aload_n 0, 1) := by decide +kernel
theorem dX11_person_110 : decode cX11_person 110 = .ok (.iload_n 3, 1) := by decide +kernel
theorem dX11_person_111 : decode cX11_person 111 = .ok (.invokevirtual 177, 3) := by decide +kernel
theorem dX11_person_114 : decode cX11_person 114 = .ok (.ireturn, 1) := by decide +kernel
theorem dX11_at_0 : decode cX11_at 0 = .ok (.aload_n 0, 1) := by decide +kernel
theorem dX11_at_1 : decode cX11_at 1 = .ok (.iconst 0, 1) := by decide +kernel
theorem dX11_at_2 : decode cX11_at 2 = .ok (.putfield 153, 3) := by decide +kernel
theorem dX11_at_5 : decode cX11_at 5 = .ok (.aload_n 0, 1) := by decide +kernel
theorem dX11_at_6 : decode cX11_at 6 = .ok (.iload_n 1, 1) := by decide +kernel
theorem dX11_at_7 : decode cX11_at 7 = .ok (.invokevirtual 211, 3) := by decide +kernel
theorem dX11_at_10 : decode cX11_at 10 = .ok (.ifCond .ne 5, 3) := by decide +kernel
theorem dX11_at_13 : decode cX11_at 13 = .ok (.iconst (-1), 1) := by decide +kernel
theorem dX11_at_14 : decode cX11_at 14 = .ok (.ireturn, 1) := by decide +kernel
theorem dX11_at_15 : decode cX11_at 15 = .ok (.iload_n 2, 1) := by decide +kernel
theorem dX11_at_16 : decode cX11_at 16 = .ok (.tableswitch 58 0 2 #[28, 38, 48], 28) := by decide +kernel
theorem dX11_at_44 : decode cX11_at 44 = .ok (.aload_n 0, 1) := by decide +kernel
theorem dX11_at_45 : decode cX11_at 45 = .ok (.getfield 13, 3) := by decide +kernel
theorem dX11_at_48 : decode cX11_at 48 = .ok (.bipush 21, 2) := by decide +kernel
theorem dX11_at_50 : decode cX11_at 50 = .ok (.iload_n 1, 1) := by decide +kernel
theorem dX11_at_51 : decode cX11_at 51 = .ok (.iadd, 1) := by decide +kernel
theorem dX11_at_52 : decode cX11_at 52 = .ok (.iaload, 1) := by decide +kernel
theorem dX11_at_53 : decode cX11_at 53 = .ok (.ireturn, 1) := by decide +kernel
theorem dX11_at_54 : decode cX11_at 54 = .ok (.aload_n 0, 1) := by decide +kernel
theorem dX11_at_55 : decode cX11_at 55 = .ok (.getfield 13, 3) := by decide +kernel
theorem dX11_at_58 : decode cX11_at 58 = .ok (.bipush 57, 2) := by decide +kernel
theorem dX11_at_60 : decode cX11_at 60 = .ok (.iload_n 1, 1) := by decide +kernel
theorem dX11_at_61 : decode cX11_at 61 = .ok (.iadd, 1) := by decide +kernel
theorem dX11_at_62 : decode cX11_at 62 = .ok (.iaload, 1) := by decide +kernel
theorem dX11_at_63 : decode cX11_at 63 = .ok (.ireturn, 1) := by decide +kernel
theorem dX11_at_64 : decode cX11_at 64 = .ok (.aload_n 0, 1) := by decide +kernel
theorem dX11_at_65 : decode cX11_at 65 = .ok (.getfield 13, 3) := by decide +kernel
theorem dX11_at_68 : decode cX11_at 68 = .ok (.bipush 62, 2) := by decide +kernel
theorem dX11_at_70 : decode cX11_at 70 = .ok (.iload_n 1, 1) := by decide +kernel
theorem dX11_at_71 : decode cX11_at 71 = .ok (.iadd, 1) := by decide +kernel
theorem dX11_at_72 : decode cX11_at 72 = .ok (.iaload, 1) := by decide +kernel
theorem dX11_at_73 : decode cX11_at 73 = .ok (.ireturn, 1) := by decide +kernel
theorem dX11_at_74 : decode cX11_at 74 = .ok (.iconst (-1), 1) := by decide +kernel
theorem dX11_at_75 : decode cX11_at 75 = .ok (.ireturn, 1) := by decide +kernel
theorem dX11_knows_0 : decode cX11_knows 0 = .ok (.aload_n 0, 1) := by decide +kernel
theorem dX11_knows_1 : decode cX11_knows 1 = .ok (.iconst 0, 1) := by decide +kernel
theorem dX11_knows_2 : decode cX11_knows 2 = .ok (.putfield 153, 3) := by decide +kernel
theorem dX11_knows_5 : decode cX11_knows 5 = .ok (.iload_n 2, 1) := by decide +kernel
theorem dX11_knows_6 : decode cX11_knows 6 = .ok (.i2l, 1) := by decide +kernel
theorem dX11_knows_7 : decode cX11_knows 7 = .ok (.lconst 0, 1) := by decide +kernel
theorem dX11_knows_8 : decode cX11_knows 8 = .ok (.ldc2_w 214, 3) := by decide +kernel
theorem dX11_knows_11 : decode cX11_knows 11 = .ok (.invokestatic 173, 3) := by decide +kernel
theorem dX11_knows_14 : decode cX11_knows 14 = .ok (.ifCond .ne 9, 3) := by decide +kernel
theorem dX11_knows_17 : decode cX11_knows 17 = .ok (.aload_n 0, 1) := by decide +kernel
theorem dX11_knows_18 : decode cX11_knows 18 = .ok (.iconst (-1), 1) := by decide +kernel
theorem dX11_knows_19 : decode cX11_knows 19 = .ok (.invokevirtual 162, 3) := by decide +kernel
theorem dX11_knows_22 : decode cX11_knows 22 = .ok (.ireturn, 1) := by decide +kernel
theorem dX11_knows_23 : decode cX11_knows 23 = .ok (.aload_n 0, 1) := by decide +kernel
theorem dX11_knows_24 : decode cX11_knows 24 = .ok (.iload_n 1, 1) := by decide +kernel
theorem dX11_knows_25 : decode cX11_knows 25 = .ok (.invokevirtual 211, 3) := by decide +kernel
theorem dX11_knows_28 : decode cX11_knows 28 = .ok (.ifCond .eq 15, 3) := by decide +kernel
theorem dX11_knows_31 : decode cX11_knows 31 = .ok (.aload_n 0, 1) := by decide +kernel
theorem dX11_knows_32 : decode cX11_knows 32 = .ok (.bipush 62, 2) := by decide +kernel
theorem dX11_knows_34 : decode cX11_knows 34 = .ok (.iload_n 1, 1) := by decide +kernel
theorem dX11_knows_35 : decode cX11_knows 35 = .ok (.iadd, 1) := by decide +kernel
theorem dX11_knows_36 : decode cX11_knows 36 = .ok (.iload_n 2, 1) := by decide +kernel
theorem dX11_knows_37 : decode cX11_knows 37 = .ok (.invokevirtual 216, 3) := by decide +kernel
theorem dX11_knows_40 : decode cX11_knows 40 = .ok (.goto 9, 3) := by decide +kernel
theorem dX11_knows_43 : decode cX11_knows 43 = .ok (.aload_n 0, 1) := by decide +kernel
theorem dX11_knows_44 : decode cX11_knows 44 = .ok (.bipush (-2), 2) := by decide +kernel
theorem dX11_knows_46 : decode cX11_knows 46 = .ok (.invokevirtual 162, 3) := by decide +kernel
theorem dX11_knows_49 : decode cX11_knows 49 = .ok (.ireturn, 1) := by decide +kernel
theorem dX11_asks_0 : decode cX11_asks 0 = .ok (.aload_n 0, 1) := by decide +kernel
theorem dX11_asks_1 : decode cX11_asks 1 = .ok (.iconst 0, 1) := by decide +kernel
theorem dX11_asks_2 : decode cX11_asks 2 = .ok (.putfield 153, 3) := by decide +kernel
theorem dX11_asks_5 : decode cX11_asks 5 = .ok (.aload_n 0, 1) := by decide +kernel
theorem dX11_asks_6 : decode cX11_asks 6 = .ok (.iload_n 1, 1) := by decide +kernel
theorem dX11_asks_7 : decode cX11_asks 7 = .ok (.invokevirtual 197, 3) := by decide +kernel
theorem dX11_asks_10 : decode cX11_asks 10 = .ok (.ifCond .eq 19, 3) := by decide +kernel
theorem dX11_asks_13 : decode cX11_asks 13 = .ok (.aload_n 0, 1) := by decide +kernel
theorem dX11_asks_14 : decode cX11_asks 14 = .ok (.iload_n 2, 1) := by decide +kernel
theorem dX11_asks_15 : decode cX11_asks 15 = .ok (.invokevirtual 211, 3) := by decide +kernel
theorem dX11_asks_18 : decode cX11_asks 18 = .ok (.ifCond .eq 11, 3) := by decide +kernel
theorem dX11_asks_21 : decode cX11_asks 21 = .ok (.aload_n 0, 1) := by decide +kernel
theorem dX11_asks_22 : decode cX11_asks 22 = .ok (.iload_n 1, 1) := by decide +kernel
theorem dX11_asks_23 : decode cX11_asks 23 = .ok (.invokevirtual 182, 3) := by decide +kernel
theorem dX11_asks_26 : decode cX11_asks 26 = .ok (.ifCond .ne 5, 3) := by decide +kernel
theorem dX11_asks_29 : decode cX11_asks 29 = .ok (.iconst (-1), 1) := by decide +kernel
theorem dX11_asks_30 : decode cX11_asks 30 = .ok (.ireturn, 1) := by decide +kernel
theorem dX11_asks_31 : decode cX11_asks 31 = .ok (.iload_n 3, 1) := by decide +kernel
theorem dX11_asks_32 : decode cX11_asks 32 = .ok (.tableswitch 98 0 2 #[28, 50, 74], 28) := by decide +kernel
theorem dX11_asks_60 : decode cX11_asks 60 = .ok (.aload_n 0, 1) := by decide +kernel
theorem dX11_asks_61 : decode cX11_asks 61 = .ok (.getfield 13, 3) := by decide +kernel
theorem dX11_asks_64 : decode cX11_asks 64 = .ok (.bipush 9, 2) := by decide +kernel
theorem dX11_asks_66 : decode cX11_asks 66 = .ok (.iload_n 1, 1) := by decide +kernel
theorem dX11_asks_67 : decode cX11_asks 67 = .ok (.iadd, 1) := by decide +kernel
theorem dX11_asks_68 : decode cX11_asks 68 = .ok (.iaload, 1) := by decide +kernel
theorem dX11_asks_69 : decode cX11_asks 69 = .ok (.aload_n 0, 1) := by decide +kernel
theorem dX11_asks_70 : decode cX11_asks 70 = .ok (.getfield 13, 3) := by decide +kernel
theorem dX11_asks_73 : decode cX11_asks 73 = .ok (.bipush 21, 2) := by decide +kernel
theorem dX11_asks_75 : decode cX11_asks 75 = .ok (.iload_n 2, 1) := by decide +kernel
theorem dX11_asks_76 : decode cX11_asks 76 = .ok (.iadd, 1) := by decide +kernel
theorem dX11_asks_77 : decode cX11_asks 77 = .ok (.iaload, 1) := by decide +kernel
theorem dX11_asks_78 : decode cX11_asks 78 = .ok (.invokestatic 220, 3) := by decide +kernel
theorem dX11_asks_81 : decode cX11_asks 81 = .ok (.ireturn, 1) := by decide +kernel
theorem dX11_asks_82 : decode cX11_asks 82 = .ok (.aload_n 0, 1) := by decide +kernel
theorem dX11_asks_83 : decode cX11_asks 83 = .ok (.iload_n 1, 1) := by decide +kernel
theorem dX11_asks_84 : decode cX11_asks 84 = .ok (.iload_n 2, 1) := by decide +kernel
theorem dX11_asks_85 : decode cX11_asks 85 = .ok (.aload_n 0, 1) := by decide +kernel
theorem dX11_asks_86 : decode cX11_asks 86 = .ok (.getfield 13, 3) := by decide +kernel
theorem dX11_asks_89 : decode cX11_asks 89 = .ok (.bipush 9, 2) := by decide +kernel
theorem dX11_asks_91 : decode cX11_asks 91 = .ok (.iload_n 1, 1) := by decide +kernel
theorem dX11_asks_92 : decode cX11_asks 92 = .ok (.iadd, 1) := by decide +kernel
theorem dX11_asks_93 : decode cX11_asks 93 = .ok (.iaload, 1) := by decide +kernel
theorem dX11_asks_94 : decode cX11_asks 94 = .ok (.invokevirtual 223, 3) := by decide +kernel
theorem dX11_asks_97 : decode cX11_asks 97 = .ok (.ifCond .eq 7, 3) := by decide +kernel
theorem dX11_asks_100 : decode cX11_asks 100 = .ok (.iconst 1, 1) := by decide +kernel
theorem dX11_asks_101 : decode cX11_asks 101 = .ok (.goto 4, 3) := by decide +kernel
theorem dX11_asks_104 : decode cX11_asks 104 = .ok (.iconst 0, 1) := by decide +kernel
theorem dX11_asks_105 : decode cX11_asks 105 = .ok (.ireturn, 1) := by decide +kernel
theorem dX11_asks_106 : decode cX11_asks 106 = .ok (.aload_n 0, 1) := by decide +kernel
theorem dX11_asks_107 : decode cX11_asks 107 = .ok (.iload_n 1, 1) := by decide +kernel
theorem dX11_asks_108 : decode cX11_asks 108 = .ok (.iload_n 2, 1) := by decide +kernel
theorem dX11_asks_109 : decode cX11_asks 109 = .ok (.aload_n 0, 1) := by decide +kernel
theorem dX11_asks_110 : decode cX11_asks 110 = .ok (.getfield 13, 3) := by decide +kernel
theorem dX11_asks_113 : decode cX11_asks 113 = .ok (.bipush 9, 2) := by decide +kernel
theorem dX11_asks_115 : decode cX11_asks 115 = .ok (.iload_n 1, 1) := by decide +kernel
theorem dX11_asks_116 : decode cX11_asks 116 = .ok (.iadd, 1) := by decide +kernel
theorem dX11_asks_117 : decode cX11_asks 117 = .ok (.iaload, 1) := by decide +kernel
theorem dX11_asks_118 : decode cX11_asks 118 = .ok (.invokevirtual 227, 3) := by decide +kernel
theorem dX11_asks_121 : decode cX11_asks 121 = .ok (.ifCond .eq 7, 3) := by decide +kernel
theorem dX11_asks_124 : decode cX11_asks 124 = .ok (.iconst 1, 1) := by decide +kernel
theorem dX11_asks_125 : decode cX11_asks 125 = .ok (.goto 4, 3) := by decide +kernel
theorem dX11_asks_128 : decode cX11_asks 128 = .ok (.iconst 0, 1) := by decide +kernel
theorem dX11_asks_129 : decode cX11_asks 129 = .ok (.ireturn, 1) := by decide +kernel
theorem dX11_asks_130 : decode cX11_asks 130 = .ok (.iconst (-1), 1) := by decide +kernel
theorem dX11_asks_131 : decode cX11_asks 131 = .ok (.ireturn, 1) := by decide +kernel
theorem dX11_floor_0 : decode cX11_floor 0 = .ok (.aload_n 0, 1) := by decide +kernel
theorem dX11_floor_1 : decode cX11_floor 1 = .ok (.iconst 0, 1) := by decide +kernel
theorem dX11_floor_2 : decode cX11_floor 2 = .ok (.putfield 153, 3) := by decide +kernel
theorem dX11_floor_5 : decode cX11_floor 5 = .ok (.iload_n 1, 1) := by decide +kernel
theorem dX11_floor_6 : decode cX11_floor 6 = .ok (.invokestatic 190, 3) := by decide +kernel
theorem dX11_floor_9 : decode cX11_floor 9 = .ok (.ifCond .eq 15, 3) := by decide +kernel
theorem dX11_floor_12 : decode cX11_floor 12 = .ok (.aload_n 0, 1) := by decide +kernel
theorem dX11_floor_13 : decode cX11_floor 13 = .ok (.getfield 13, 3) := by decide +kernel
theorem dX11_floor_16 : decode cX11_floor 16 = .ok (.bipush 26, 2) := by decide +kernel
theorem dX11_floor_18 : decode cX11_floor 18 = .ok (.iload_n 1, 1) := by decide +kernel
theorem dX11_floor_19 : decode cX11_floor 19 = .ok (.iadd, 1) := by decide +kernel
theorem dX11_floor_20 : decode cX11_floor 20 = .ok (.iaload, 1) := by decide +kernel
theorem dX11_floor_21 : decode cX11_floor 21 = .ok (.goto 4, 3) := by decide +kernel
theorem dX11_floor_24 : decode cX11_floor 24 = .ok (.iconst (-1), 1) := by decide +kernel
theorem dX11_floor_25 : decode cX11_floor 25 = .ok (.ireturn, 1) := by decide +kernel
theorem dX11_isTerm_0 : decode cX11_isTerm 0 = .ok (.iload_n 0, 1) := by decide +kernel
theorem dX11_isTerm_1 : decode cX11_isTerm 1 = .ok (.tableswitch 66 0 3 #[31, 41, 51, 61], 31) := by decide +kernel
theorem dX11_isTerm_32 : decode cX11_isTerm 32 = .ok (.iload_n 1, 1) := by decide +kernel
theorem dX11_isTerm_33 : decode cX11_isTerm 33 = .ok (.i2l, 1) := by decide +kernel
theorem dX11_isTerm_34 : decode cX11_isTerm 34 = .ok (.lconst 0, 1) := by decide +kernel
theorem dX11_isTerm_35 : decode cX11_isTerm 35 = .ok (.ldc2_w 230, 3) := by decide +kernel
theorem dX11_isTerm_38 : decode cX11_isTerm 38 = .ok (.invokestatic 173, 3) := by decide +kernel
theorem dX11_isTerm_41 : decode cX11_isTerm 41 = .ok (.ireturn, 1) := by decide +kernel
theorem dX11_isTerm_42 : decode cX11_isTerm 42 = .ok (.iload_n 1, 1) := by decide +kernel
theorem dX11_isTerm_43 : decode cX11_isTerm 43 = .ok (.i2l, 1) := by decide +kernel
theorem dX11_isTerm_44 : decode cX11_isTerm 44 = .ok (.lconst 0, 1) := by decide +kernel
theorem dX11_isTerm_45 : decode cX11_isTerm 45 = .ok (.ldc2_w 232, 3) := by decide +kernel
theorem dX11_isTerm_48 : decode cX11_isTerm 48 = .ok (.invokestatic 173, 3) := by decide +kernel
theorem dX11_isTerm_51 : decode cX11_isTerm 51 = .ok (.ireturn, 1) := by decide +kernel
theorem dX11_isTerm_52 : decode cX11_isTerm 52 = .ok (.iload_n 1, 1) := by decide +kernel
theorem dX11_isTerm_53 : decode cX11_isTerm 53 = .ok (.i2l, 1) := by decide +kernel
theorem dX11_isTerm_54 : decode cX11_isTerm 54 = .ok (.lconst 0, 1) := by decide +kernel
theorem dX11_isTerm_55 : decode cX11_isTerm 55 = .ok (.ldc2_w 193, 3) := by decide +kernel
theorem dX11_isTerm_58 : decode cX11_isTerm 58 = .ok (.invokestatic 173, 3) := by decide +kernel
theorem dX11_isTerm_61 : decode cX11_isTerm 61 = .ok (.ireturn, 1) := by decide +kernel
theorem dX11_isTerm_62 : decode cX11_isTerm 62 = .ok (.iload_n 1, 1) := by decide +kernel
theorem dX11_isTerm_63 : decode cX11_isTerm 63 = .ok (.invokestatic 190, 3) := by decide +kernel
theorem dX11_isTerm_66 : decode cX11_isTerm 66 = .ok (.ireturn, 1) := by decide +kernel
theorem dX11_isTerm_67 : decode cX11_isTerm 67 = .ok (.iconst 0, 1) := by decide +kernel
theorem dX11_isTerm_68 : decode cX11_isTerm 68 = .ok (.ireturn, 1) := by decide +kernel
theorem dX11_terms_0 : decode cX11_terms 0 = .ok (.aload_n 0, 1) := by decide +kernel
theorem dX11_terms_1 : decode cX11_terms 1 = .ok (.iconst 0, 1) := by decide +kernel
theorem dX11_terms_2 : decode cX11_terms 2 = .ok (.putfield 153, 3) := by decide +kernel
theorem dX11_terms_5 : decode cX11_terms 5 = .ok (.iload_n 1, 1) := by decide +kernel
theorem dX11_terms_6 : decode cX11_terms 6 = .ok (.iload_n 2, 1) := by decide +kernel
theorem dX11_terms_7 : decode cX11_terms 7 = .ok (.invokestatic 234, 3) := by decide +kernel
theorem dX11_terms_10 : decode cX11_terms 10 = .ok (.ifCond .ne 9, 3) := by decide +kernel
theorem dX11_terms_13 : decode cX11_terms 13 = .ok (.aload_n 0, 1) := by decide +kernel
theorem dX11_terms_14 : decode cX11_terms 14 = .ok (.iconst (-1), 1) := by decide +kernel
theorem dX11_terms_15 : decode cX11_terms 15 = .ok (.invokevirtual 162, 3) := by decide +kernel
theorem dX11_terms_18 : decode cX11_terms 18 = .ok (.ireturn, 1) := by decide +kernel
theorem dX11_terms_19 : decode cX11_terms 19 = .ok (.aload_n 0, 1) := by decide +kernel
theorem dX11_terms_20 : decode cX11_terms 20 = .ok (.iconst 0, 1) := by decide +kernel
theorem dX11_terms_21 : decode cX11_terms 21 = .ok (.putfield 159, 3) := by decide +kernel
theorem dX11_terms_24 : decode cX11_terms 24 = .ok (.aload_n 0, 1) := by decide +kernel
theorem dX11_terms_25 : decode cX11_terms 25 = .ok (.iconst 5, 1) := by decide +kernel
theorem dX11_terms_26 : decode cX11_terms 26 = .ok (.iload_n 1, 1) := by decide +kernel
theorem dX11_terms_27 : decode cX11_terms 27 = .ok (.iadd, 1) := by decide +kernel
theorem dX11_terms_28 : decode cX11_terms 28 = .ok (.iload_n 2, 1) := by decide +kernel
theorem dX11_terms_29 : decode cX11_terms 29 = .ok (.invokevirtual 216, 3) := by decide +kernel
theorem dX11_terms_32 : decode cX11_terms 32 = .ok (.ireturn, 1) := by decide +kernel
theorem dX11_row_0 : decode cX11_row 0 = .ok (.aload_n 0, 1) := by decide +kernel
theorem dX11_row_1 : decode cX11_row 1 = .ok (.iconst 0, 1) := by decide +kernel
theorem dX11_row_2 : decode cX11_row 2 = .ok (.putfield 153, 3) := by decide +kernel
theorem dX11_row_5 : decode cX11_row 5 = .ok (.aload_n 0, 1) := by decide +kernel
theorem dX11_row_6 : decode cX11_row 6 = .ok (.getfield 237, 3) := by decide +kernel
theorem dX11_row_9 : decode cX11_row 9 = .ok (.istore_n 1, 1) := by decide +kernel
theorem dX11_row_10 : decode cX11_row 10 = .ok (.aload_n 0, 1) := by decide +kernel
theorem dX11_row_11 : decode cX11_row 11 = .ok (.iconst 0, 1) := by decide +kernel
theorem dX11_row_12 : decode cX11_row 12 = .ok (.putfield 237, 3) := by decide +kernel
theorem dX11_row_15 : decode cX11_row 15 = .ok (.iload_n 1, 1) := by decide +kernel
theorem dX11_row_16 : decode cX11_row 16 = .ok (.ifCond .ne 10, 3) := by decide +kernel
theorem dX11_row_19 : decode cX11_row 19 = .ok (.aload_n 0, 1) := by decide +kernel
theorem dX11_row_20 : decode cX11_row 20 = .ok (.bipush (-6), 2) := by decide +kernel
theorem dX11_row_22 : decode cX11_row 22 = .ok (.invokevirtual 162, 3) := by decide +kernel
theorem dX11_row_25 : decode cX11_row 25 = .ok (.ireturn, 1) := by decide +kernel
theorem dX11_row_26 : decode cX11_row 26 = .ok (.aload_n 0, 1) := by decide +kernel
theorem dX11_row_27 : decode cX11_row 27 = .ok (.iconst 0, 1) := by decide +kernel
theorem dX11_row_28 : decode cX11_row 28 = .ok (.putfield 240, 3) := by decide +kernel
theorem dX11_row_31 : decode cX11_row 31 = .ok (.iconst 0, 1) := by decide +kernel
theorem dX11_row_32 : decode cX11_row 32 = .ok (.istore_n 2, 1) := by decide +kernel
theorem dX11_row_33 : decode cX11_row 33 = .ok (.iconst 0, 1) := by decide +kernel
theorem dX11_row_34 : decode cX11_row 34 = .ok (.istore_n 3, 1) := by decide +kernel
theorem dX11_row_35 : decode cX11_row 35 = .ok (.iload_n 3, 1) := by decide +kernel
theorem dX11_row_36 : decode cX11_row 36 = .ok (.iload_n 1, 1) := by decide +kernel
theorem dX11_row_37 : decode cX11_row 37 = .ok (.if_icmp .ge 85, 3) := by decide +kernel
theorem dX11_row_40 : decode cX11_row 40 = .ok (.iload_n 3, 1) := by decide +kernel
theorem dX11_row_41 : decode cX11_row 41 = .ok (.iconst 1, 1) := by decide +kernel
theorem dX11_row_42 : decode cX11_row 42 = .ok (.iadd, 1) := by decide +kernel
theorem dX11_row_43 : decode cX11_row 43 = .ok (.iload_n 1, 1) := by decide +kernel
theorem dX11_row_44 : decode cX11_row 44 = .ok (.if_icmp .ge 62, 3) := by decide +kernel
theorem dX11_row_47 : decode cX11_row 47 = .ok (.aload_n 0, 1) := by decide +kernel
theorem dX11_row_48 : decode cX11_row 48 = .ok (.getfield 35, 3) := by decide +kernel
theorem dX11_row_51 : decode cX11_row 51 = .ok (.iload_n 3, 1) := by decide +kernel
theorem dX11_row_52 : decode cX11_row 52 = .ok (.iaload, 1) := by decide +kernel
theorem dX11_row_53 : decode cX11_row 53 = .ok (.invokestatic 190, 3) := by decide +kernel
theorem dX11_row_56 : decode cX11_row 56 = .ok (.ifCond .eq 50, 3) := by decide +kernel
theorem dX11_row_59 : decode cX11_row 59 = .ok (.aload_n 0, 1) := by decide +kernel
theorem dX11_row_60 : decode cX11_row 60 = .ok (.getfield 35, 3) := by decide +kernel
theorem dX11_row_63 : decode cX11_row 63 = .ok (.iload_n 3, 1) := by decide +kernel
theorem dX11_row_64 : decode cX11_row 64 = .ok (.iconst 1, 1) := by decide +kernel
theorem dX11_row_65 : decode cX11_row 65 = .ok (.iadd, 1) := by decide +kernel
theorem dX11_row_66 : decode cX11_row 66 = .ok (.iaload, 1) := by decide +kernel
theorem dX11_row_67 : decode cX11_row 67 = .ok (.i2l, 1) := by decide +kernel
theorem dX11_row_68 : decode cX11_row 68 = .ok (.lconst 0, 1) := by decide +kernel
theorem dX11_row_69 : decode cX11_row 69 = .ok (.ldc2_w 243, 3) := by decide +kernel
theorem dX11_row_72 : decode cX11_row 72 = .ok (.invokestatic 173, 3) := by decide +kernel
theorem dX11_row_75 : decode cX11_row 75 = .ok (.ifCond .eq 31, 3) := by decide +kernel
theorem dX11_row_78 : decode cX11_row 78 = .ok (.aload_n 0, 1) := by decide +kernel
theorem dX11_row_79 : decode cX11_row 79 = .ok (.getfield 13, 3) := by decide +kernel
theorem dX11_row_82 : decode cX11_row 82 = .ok (.bipush 26, 2) := by decide +kernel
theorem dX11_row_84 : decode cX11_row 84 = .ok (.aload_n 0, 1) := by decide +kernel
theorem dX11_row_85 : decode cX11_row 85 = .ok (.getfield 35, 3) := by decide +kernel
theorem dX11_row_88 : decode cX11_row 88 = .ok (.iload_n 3, 1) := by decide +kernel
theorem dX11_row_89 : decode cX11_row 89 = .ok (.iaload, 1) := by decide +kernel
theorem dX11_row_90 : decode cX11_row 90 = .ok (.iadd, 1) := by decide +kernel
theorem dX11_row_91 : decode cX11_row 91 = .ok (.aload_n 0, 1) := by decide +kernel
theorem dX11_row_92 : decode cX11_row 92 = .ok (.getfield 35, 3) := by decide +kernel
theorem dX11_row_95 : decode cX11_row 95 = .ok (.iload_n 3, 1) := by decide +kernel
