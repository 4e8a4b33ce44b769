theorem dX5_looseSparks_31 : decode cX5_looseSparks 31 = .ok (.iload_n 1, 1) := by decide +kernel
theorem dX5_looseSparks_32 : decode cX5_looseSparks 32 = .ok (.ireturn, 1) := by decide +kernel
theorem dX5_knowers_0 : decode cX5_knowers 0 = .ok (.iconst 0, 1) := by decide +kernel
theorem dX5_knowers_1 : decode cX5_knowers 1 = .ok (.istore_n 2, 1) := by decide +kernel
theorem dX5_knowers_2 : decode cX5_knowers 2 = .ok (.iconst 0, 1) := by decide +kernel
theorem dX5_knowers_3 : decode cX5_knowers 3 = .ok (.istore_n 3, 1) := by decide +kernel
theorem dX5_knowers_4 : decode cX5_knowers 4 = .ok (.iload_n 3, 1) := by decide +kernel
theorem dX5_knowers_5 : decode cX5_knowers 5 = .ok (.aload_n 0, 1) := by decide +kernel
theorem dX5_knowers_6 : decode cX5_knowers 6 = .ok (.getfield 59, 3) := by decide +kernel
theorem dX5_knowers_9 : decode cX5_knowers 9 = .ok (.if_icmp .ge 24, 3) := by decide +kernel
theorem dX5_knowers_12 : decode cX5_knowers 12 = .ok (.iload_n 2, 1) := by decide +kernel
theorem dX5_knowers_13 : decode cX5_knowers 13 = .ok (.aload_n 0, 1) := by decide +kernel
theorem dX5_knowers_14 : decode cX5_knowers 14 = .ok (.getfield 30, 3) := by decide +kernel
theorem dX5_knowers_17 : decode cX5_knowers 17 = .ok (.iload_n 3, 1) := by decide +kernel
theorem dX5_knowers_18 : decode cX5_knowers 18 = .ok (.iaload, 1) := by decide +kernel
theorem dX5_knowers_19 : decode cX5_knowers 19 = .ok (.iload_n 1, 1) := by decide +kernel
theorem dX5_knowers_20 : decode cX5_knowers 20 = .ok (.ishr, 1) := by decide +kernel
theorem dX5_knowers_21 : decode cX5_knowers 21 = .ok (.iconst 1, 1) := by decide +kernel
theorem dX5_knowers_22 : decode cX5_knowers 22 = .ok (.iand, 1) := by decide +kernel
theorem dX5_knowers_23 : decode cX5_knowers 23 = .ok (.iload_n 3, 1) := by decide +kernel
theorem dX5_knowers_24 : decode cX5_knowers 24 = .ok (.ishl, 1) := by decide +kernel
theorem dX5_knowers_25 : decode cX5_knowers 25 = .ok (.ior, 1) := by decide +kernel
theorem dX5_knowers_26 : decode cX5_knowers 26 = .ok (.istore_n 2, 1) := by decide +kernel
theorem dX5_knowers_27 : decode cX5_knowers 27 = .ok (.iinc 3 1, 3) := by decide +kernel
theorem dX5_knowers_30 : decode cX5_knowers 30 = .ok (.goto (-26), 3) := by decide +kernel
theorem dX5_knowers_33 : decode cX5_knowers 33 = .ok (.iload_n 2, 1) := by decide +kernel
theorem dX5_knowers_34 : decode cX5_knowers 34 = .ok (.ireturn, 1) := by decide +kernel
theorem dX5_heatOfAll_0 : decode cX5_heatOfAll 0 = .ok (.iconst 0, 1) := by decide +kernel
theorem dX5_heatOfAll_1 : decode cX5_heatOfAll 1 = .ok (.istore_n 1, 1) := by decide +kernel
theorem dX5_heatOfAll_2 : decode cX5_heatOfAll 2 = .ok (.iconst 0, 1) := by decide +kernel
theorem dX5_heatOfAll_3 : decode cX5_heatOfAll 3 = .ok (.istore_n 2, 1) := by decide +kernel
theorem dX5_heatOfAll_4 : decode cX5_heatOfAll 4 = .ok (.iload_n 2, 1) := by decide +kernel
theorem dX5_heatOfAll_5 : decode cX5_heatOfAll 5 = .ok (.aload_n 0, 1) := by decide +kernel
theorem dX5_heatOfAll_6 : decode cX5_heatOfAll 6 = .ok (.getfield 52, 3) := by decide +kernel
theorem dX5_heatOfAll_9 : decode cX5_heatOfAll 9 = .ok (.if_icmp .ge 18, 3) := by decide +kernel
theorem dX5_heatOfAll_12 : decode cX5_heatOfAll 12 = .ok (.iload_n 1, 1) := by decide +kernel
theorem dX5_heatOfAll_13 : decode cX5_heatOfAll 13 = .ok (.aload_n 0, 1) := by decide +kernel
theorem dX5_heatOfAll_14 : decode cX5_heatOfAll 14 = .ok (.getfield 18, 3) := by decide +kernel
theorem dX5_heatOfAll_17 : decode cX5_heatOfAll 17 = .ok (.iload_n 2, 1) := by decide +kernel
theorem dX5_heatOfAll_18 : decode cX5_heatOfAll 18 = .ok (.iaload, 1) := by decide +kernel
theorem dX5_heatOfAll_19 : decode cX5_heatOfAll 19 = .ok (.iadd, 1) := by decide +kernel
theorem dX5_heatOfAll_20 : decode cX5_heatOfAll 20 = .ok (.istore_n 1, 1) := by decide +kernel
theorem dX5_heatOfAll_21 : decode cX5_heatOfAll 21 = .ok (.iinc 2 1, 3) := by decide +kernel
theorem dX5_heatOfAll_24 : decode cX5_heatOfAll 24 = .ok (.goto (-20), 3) := by decide +kernel
theorem dX5_heatOfAll_27 : decode cX5_heatOfAll 27 = .ok (.iload_n 1, 1) := by decide +kernel
theorem dX5_heatOfAll_28 : decode cX5_heatOfAll 28 = .ok (.ireturn, 1) := by decide +kernel
theorem dX5_sparkOn_0 : decode cX5_sparkOn 0 = .ok (.iconst 0, 1) := by decide +kernel
theorem dX5_sparkOn_1 : decode cX5_sparkOn 1 = .ok (.istore_n 2, 1) := by decide +kernel
theorem dX5_sparkOn_2 : decode cX5_sparkOn 2 = .ok (.iload_n 2, 1) := by decide +kernel
theorem dX5_sparkOn_3 : decode cX5_sparkOn 3 = .ok (.aload_n 0, 1) := by decide +kernel
theorem dX5_sparkOn_4 : decode cX5_sparkOn 4 = .ok (.getfield 52, 3) := by decide +kernel
theorem dX5_sparkOn_7 : decode cX5_sparkOn 7 = .ok (.if_icmp .ge 21, 3) := by decide +kernel
theorem dX5_sparkOn_10 : decode cX5_sparkOn 10 = .ok (.aload_n 0, 1) := by decide +kernel
theorem dX5_sparkOn_11 : decode cX5_sparkOn 11 = .ok (.getfield 15, 3) := by decide +kernel
theorem dX5_sparkOn_14 : decode cX5_sparkOn 14 = .ok (.iload_n 2, 1) := by decide +kernel
theorem dX5_sparkOn_15 : decode cX5_sparkOn 15 = .ok (.iaload, 1) := by decide +kernel
theorem dX5_sparkOn_16 : decode cX5_sparkOn 16 = .ok (.iload_n 1, 1) := by decide +kernel
theorem dX5_sparkOn_17 : decode cX5_sparkOn 17 = .ok (.if_icmp .ne 5, 3) := by decide +kernel
theorem dX5_sparkOn_20 : decode cX5_sparkOn 20 = .ok (.iload_n 2, 1) := by decide +kernel
theorem dX5_sparkOn_21 : decode cX5_sparkOn 21 = .ok (.ireturn, 1) := by decide +kernel
theorem dX5_sparkOn_22 : decode cX5_sparkOn 22 = .ok (.iinc 2 1, 3) := by decide +kernel
theorem dX5_sparkOn_25 : decode cX5_sparkOn 25 = .ok (.goto (-23), 3) := by decide +kernel
theorem dX5_sparkOn_28 : decode cX5_sparkOn 28 = .ok (.iconst (-1), 1) := by decide +kernel
theorem dX5_sparkOn_29 : decode cX5_sparkOn 29 = .ok (.ireturn, 1) := by decide +kernel
theorem dX5_addSpark_0 : decode cX5_addSpark 0 = .ok (.aload_n 0, 1) := by decide +kernel
theorem dX5_addSpark_1 : decode cX5_addSpark 1 = .ok (.getfield 52, 3) := by decide +kernel
theorem dX5_addSpark_4 : decode cX5_addSpark 4 = .ok (.bipush 6, 2) := by decide +kernel
theorem dX5_addSpark_6 : decode cX5_addSpark 6 = .ok (.if_icmp .lt 6, 3) := by decide +kernel
theorem dX5_addSpark_9 : decode cX5_addSpark 9 = .ok (.bipush (-5), 2) := by decide +kernel
theorem dX5_addSpark_11 : decode cX5_addSpark 11 = .ok (.ireturn, 1) := by decide +kernel
theorem dX5_addSpark_12 : decode cX5_addSpark 12 = .ok (.aload_n 0, 1) := by decide +kernel
theorem dX5_addSpark_13 : decode cX5_addSpark 13 = .ok (.getfield 15, 3) := by decide +kernel
theorem dX5_addSpark_16 : decode cX5_addSpark 16 = .ok (.aload_n 0, 1) := by decide +kernel
theorem dX5_addSpark_17 : decode cX5_addSpark 17 = .ok (.getfield 52, 3) := by decide +kernel
theorem dX5_addSpark_20 : decode cX5_addSpark 20 = .ok (.iload_n 1, 1) := by decide +kernel
theorem dX5_addSpark_21 : decode cX5_addSpark 21 = .ok (.iastore, 1) := by decide +kernel
theorem dX5_addSpark_22 : decode cX5_addSpark 22 = .ok (.aload_n 0, 1) := by decide +kernel
theorem dX5_addSpark_23 : decode cX5_addSpark 23 = .ok (.getfield 18, 3) := by decide +kernel
theorem dX5_addSpark_26 : decode cX5_addSpark 26 = .ok (.aload_n 0, 1) := by decide +kernel
theorem dX5_addSpark_27 : decode cX5_addSpark 27 = .ok (.getfield 52, 3) := by decide +kernel
theorem dX5_addSpark_30 : decode cX5_addSpark 30 = .ok (.iload_n 2, 1) := by decide +kernel
theorem dX5_addSpark_31 : decode cX5_addSpark 31 = .ok (.iastore, 1) := by decide +kernel
theorem dX5_addSpark_32 : decode cX5_addSpark 32 = .ok (.aload_n 0, 1) := by decide +kernel
theorem dX5_addSpark_33 : decode cX5_addSpark 33 = .ok (.getfield 21, 3) := by decide +kernel
theorem dX5_addSpark_36 : decode cX5_addSpark 36 = .ok (.aload_n 0, 1) := by decide +kernel
theorem dX5_addSpark_37 : decode cX5_addSpark 37 = .ok (.getfield 52, 3) := by decide +kernel
theorem dX5_addSpark_40 : decode cX5_addSpark 40 = .ok (.iload_n 3, 1) := by decide +kernel
theorem dX5_addSpark_41 : decode cX5_addSpark 41 = .ok (.iastore, 1) := by decide +kernel
theorem dX5_addSpark_42 : decode cX5_addSpark 42 = .ok (.aload_n 0, 1) := by decide +kernel
theorem dX5_addSpark_43 : decode cX5_addSpark 43 = .ok (.dup, 1) := by decide +kernel
theorem dX5_addSpark_44 : decode cX5_addSpark 44 = .ok (.getfield 52, 3) := by decide +kernel
theorem dX5_addSpark_47 : decode cX5_addSpark 47 = .ok (.dup_x1, 1) := by decide +kernel
theorem dX5_addSpark_48 : decode cX5_addSpark 48 = .ok (.iconst 1, 1) := by decide +kernel
theorem dX5_addSpark_49 : decode cX5_addSpark 49 = .ok (.iadd, 1) := by decide +kernel
theorem dX5_addSpark_50 : decode cX5_addSpark 50 = .ok (.putfield 52, 3) := by decide +kernel
theorem dX5_addSpark_53 : decode cX5_addSpark 53 = .ok (.ireturn, 1) := by decide +kernel
theorem dX5_addPerson_0 : decode cX5_addPerson 0 = .ok (.aload_n 0, 1) := by decide +kernel
theorem dX5_addPerson_1 : decode cX5_addPerson 1 = .ok (.getfield 59, 3) := by decide +kernel
theorem dX5_addPerson_4 : decode cX5_addPerson 4 = .ok (.iconst 5, 1) := by decide +kernel
theorem dX5_addPerson_5 : decode cX5_addPerson 5 = .ok (.if_icmp .lt 6, 3) := by decide +kernel
theorem dX5_addPerson_8 : decode cX5_addPerson 8 = .ok (.bipush (-5), 2) := by decide +kernel
theorem dX5_addPerson_10 : decode cX5_addPerson 10 = .ok (.ireturn, 1) := by decide +kernel
theorem dX5_addPerson_11 : decode cX5_addPerson 11 = .ok (.aload_n 0, 1) := by decide +kernel
theorem dX5_addPerson_12 : decode cX5_addPerson 12 = .ok (.getfield 24, 3) := by decide +kernel
theorem dX5_addPerson_15 : decode cX5_addPerson 15 = .ok (.aload_n 0, 1) := by decide +kernel
theorem dX5_addPerson_16 : decode cX5_addPerson 16 = .ok (.getfield 59, 3) := by decide +kernel
theorem dX5_addPerson_19 : decode cX5_addPerson 19 = .ok (.iload_n 1, 1) := by decide +kernel
theorem dX5_addPerson_20 : decode cX5_addPerson 20 = .ok (.iastore, 1) := by decide +kernel
theorem dX5_addPerson_21 : decode cX5_addPerson 21 = .ok (.aload_n 0, 1) := by decide +kernel
theorem dX5_addPerson_22 : decode cX5_addPerson 22 = .ok (.getfield 27, 3) := by decide +kernel
theorem dX5_addPerson_25 : decode cX5_addPerson 25 = .ok (.aload_n 0, 1) := by decide +kernel
theorem dX5_addPerson_26 : decode cX5_addPerson 26 = .ok (.getfield 59, 3) := by decide +kernel
theorem dX5_addPerson_29 : decode cX5_addPerson 29 = .ok (.iload_n 2, 1) := by decide +kernel
theorem dX5_addPerson_30 : decode cX5_addPerson 30 = .ok (.iastore, 1) := by decide +kernel
theorem dX5_addPerson_31 : decode cX5_addPerson 31 = .ok (.aload_n 0, 1) := by decide +kernel
theorem dX5_addPerson_32 : decode cX5_addPerson 32 = .ok (.getfield 30, 3) := by decide +kernel
theorem dX5_addPerson_35 : decode cX5_addPerson 35 = .ok (.aload_n 0, 1) := by decide +kernel
theorem dX5_addPerson_36 : decode cX5_addPerson 36 = .ok (.getfield 59, 3) := by decide +kernel
theorem dX5_addPerson_39 : decode cX5_addPerson 39 = .ok (.iconst 0, 1) := by decide +kernel
theorem dX5_addPerson_40 : decode cX5_addPerson 40 = .ok (.iastore, 1) := by decide +kernel
theorem dX5_addPerson_41 : decode cX5_addPerson 41 = .ok (.aload_n 0, 1) := by decide +kernel
theorem dX5_addPerson_42 : decode cX5_addPerson 42 = .ok (.dup, 1) := by decide +kernel
theorem dX5_addPerson_43 : decode cX5_addPerson 43 = .ok (.getfield 59, 3) := by decide +kernel
theorem dX5_addPerson_46 : decode cX5_addPerson 46 = .ok (.dup_x1, 1) := by decide +kernel
theorem dX5_addPerson_47 : decode cX5_addPerson 47 = .ok (.iconst 1, 1) := by decide +kernel
theorem dX5_addPerson_48 : decode cX5_addPerson 48 = .ok (.iadd, 1) := by decide +kernel
theorem dX5_addPerson_49 : decode cX5_addPerson 49 = .ok (.putfield 59, 3) := by decide +kernel
theorem dX5_addPerson_52 : decode cX5_addPerson 52 = .ok (.ireturn, 1) := by decide +kernel
theorem dX5_addAnswer_0 : decode cX5_addAnswer 0 = .ok (.aload_n 0, 1) := by decide +kernel
theorem dX5_addAnswer_1 : decode cX5_addAnswer 1 = .ok (.getfield 68, 3) := by decide +kernel
theorem dX5_addAnswer_4 : decode cX5_addAnswer 4 = .ok (.bipush 6, 2) := by decide +kernel
theorem dX5_addAnswer_6 : decode cX5_addAnswer 6 = .ok (.if_icmp .lt 6, 3) := by decide +kernel
theorem dX5_addAnswer_9 : decode cX5_addAnswer 9 = .ok (.bipush (-5), 2) := by decide +kernel
theorem dX5_addAnswer_11 : decode cX5_addAnswer 11 = .ok (.ireturn, 1) := by decide +kernel
theorem dX5_addAnswer_12 : decode cX5_addAnswer 12 = .ok (.aload_n 0, 1) := by decide +kernel
theorem dX5_addAnswer_13 : decode cX5_addAnswer 13 = .ok (.getfield 33, 3) := by decide +kernel
theorem dX5_addAnswer_16 : decode cX5_addAnswer 16 = .ok (.aload_n 0, 1) := by decide +kernel
theorem dX5_addAnswer_17 : decode cX5_addAnswer 17 = .ok (.getfield 68, 3) := by decide +kernel
theorem dX5_addAnswer_20 : decode cX5_addAnswer 20 = .ok (.iload_n 1, 1) := by decide +kernel
theorem dX5_addAnswer_21 : decode cX5_addAnswer 21 = .ok (.iastore, 1) := by decide +kernel
theorem dX5_addAnswer_22 : decode cX5_addAnswer 22 = .ok (.aload_n 0, 1) := by decide +kernel
theorem dX5_addAnswer_23 : decode cX5_addAnswer 23 = .ok (.getfield 36, 3) := by decide +kernel
theorem dX5_addAnswer_26 : decode cX5_addAnswer 26 = .ok (.aload_n 0, 1) := by decide +kernel
theorem dX5_addAnswer_27 : decode cX5_addAnswer 27 = .ok (.getfield 68, 3) := by decide +kernel
theorem dX5_addAnswer_30 : decode cX5_addAnswer 30 = .ok (.iload_n 2, 1) := by decide +kernel
theorem dX5_addAnswer_31 : decode cX5_addAnswer 31 = .ok (.iastore, 1) := by decide +kernel
theorem dX5_addAnswer_32 : decode cX5_addAnswer 32 = .ok (.aload_n 0, 1) := by decide +kernel
theorem dX5_addAnswer_33 : decode cX5_addAnswer 33 = .ok (.dup, 1) := by decide +kernel
theorem dX5_addAnswer_34 : decode cX5_addAnswer 34 = .ok (.getfield 68, 3) := by decide +kernel
theorem dX5_addAnswer_37 : decode cX5_addAnswer 37 = .ok (.iconst 1, 1) := by decide +kernel
theorem dX5_addAnswer_38 : decode cX5_addAnswer 38 = .ok (.iadd, 1) := by decide +kernel
theorem dX5_addAnswer_39 : decode cX5_addAnswer 39 = .ok (.putfield 68, 3) := by decide +kernel
theorem dX5_addAnswer_42 : decode cX5_addAnswer 42 = .ok (.aload_n 0, 1) := by decide +kernel
theorem dX5_addAnswer_43 : decode cX5_addAnswer 43 = .ok (.getfield 68, 3) := by decide +kernel
theorem dX5_addAnswer_46 : decode cX5_addAnswer 46 = .ok (.ireturn, 1) := by decide +kernel
theorem dX5_addLaw_0 : decode cX5_addLaw 0 = .ok (.aload_n 0, 1) := by decide +kernel
theorem dX5_addLaw_1 : decode cX5_addLaw 1 = .ok (.getfield 62, 3) := by decide +kernel
theorem dX5_addLaw_4 : decode cX5_addLaw 4 = .ok (.bipush 6, 2) := by decide +kernel
theorem dX5_addLaw_6 : decode cX5_addLaw 6 = .ok (.if_icmp .lt 6, 3) := by decide +kernel
theorem dX5_addLaw_9 : decode cX5_addLaw 9 = .ok (.bipush (-5), 2) := by decide +kernel
theorem dX5_addLaw_11 : decode cX5_addLaw 11 = .ok (.ireturn, 1) := by decide +kernel
theorem dX5_addLaw_12 : decode cX5_addLaw 12 = .ok (.aload_n 0, 1) := by decide +kernel
theorem dX5_addLaw_13 : decode cX5_addLaw 13 = .ok (.getfield 44, 3) := by decide +kernel
theorem dX5_addLaw_16 : decode cX5_addLaw 16 = .ok (.aload_n 0, 1) := by decide +kernel
theorem dX5_addLaw_17 : decode cX5_addLaw 17 = .ok (.getfield 62, 3) := by decide +kernel
theorem dX5_addLaw_20 : decode cX5_addLaw 20 = .ok (.aload_n 1, 1) := by decide +kernel
theorem dX5_addLaw_21 : decode cX5_addLaw 21 = .ok (.aastore, 1) := by decide +kernel
theorem dX5_addLaw_22 : decode cX5_addLaw 22 = .ok (.aload_n 0, 1) := by decide +kernel
theorem dX5_addLaw_23 : decode cX5_addLaw 23 = .ok (.dup, 1) := by decide +kernel
theorem dX5_addLaw_24 : decode cX5_addLaw 24 = .ok (.getfield 62, 3) := by decide +kernel
theorem dX5_addLaw_27 : decode cX5_addLaw 27 = .ok (.dup_x1, 1) := by decide +kernel
theorem dX5_addLaw_28 : decode cX5_addLaw 28 = .ok (.iconst 1, 1) := by decide +kernel
theorem dX5_addLaw_29 : decode cX5_addLaw 29 = .ok (.iadd, 1) := by decide +kernel
theorem dX5_addLaw_30 : decode cX5_addLaw 30 = .ok (.putfield 62, 3) := by decide +kernel
theorem dX5_addLaw_33 : decode cX5_addLaw 33 = .ok (.ireturn, 1) := by decide +kernel
theorem dX5_wetCell_0 : decode cX5_wetCell 0 = .ok (.iload_n 1, 1) := by decide +kernel
theorem dX5_wetCell_1 : decode cX5_wetCell 1 = .ok (.invokestatic 71, 3) := by decide +kernel
theorem dX5_wetCell_4 : decode cX5_wetCell 4 = .ok (.ifCond .ne 5, 3) := by decide +kernel
theorem dX5_wetCell_7 : decode cX5_wetCell 7 = .ok (.iconst (-1), 1) := by decide +kernel
theorem dX5_wetCell_8 : decode cX5_wetCell 8 = .ok (.ireturn, 1) := by decide +kernel
theorem dX5_wetCell_9 : decode cX5_wetCell 9 = .ok (.aload_n 0, 1) := by decide +kernel
theorem dX5_wetCell_10 : decode cX5_wetCell 10 = .ok (.getfield 9, 3) := by decide +kernel
theorem dX5_wetCell_13 : decode cX5_wetCell 13 = .ok (.iload_n 1, 1) := by decide +kernel
theorem dX5_wetCell_14 : decode cX5_wetCell 14 = .ok (.iaload, 1) := by decide +kernel
theorem dX5_wetCell_15 : decode cX5_wetCell 15 = .ok (.istore_n 2, 1) := by decide +kernel
theorem dX5_wetCell_16 : decode cX5_wetCell 16 = .ok (.iload_n 2, 1) := by decide +kernel
theorem dX5_wetCell_17 : decode cX5_wetCell 17 = .ok (.iconst 1, 1) := by decide +kernel
theorem dX5_wetCell_18 : decode cX5_wetCell 18 = .ok (.if_icmp .eq 8, 3) := by decide +kernel
theorem dX5_wetCell_21 : decode cX5_wetCell 21 = .ok (.iload_n 2, 1) := by decide +kernel
theorem dX5_wetCell_22 : decode cX5_wetCell 22 = .ok (.iconst 3, 1) := by decide +kernel
theorem dX5_wetCell_23 : decode cX5_wetCell 23 = .ok (.if_icmp .ne 6, 3) := by decide +kernel
theorem dX5_wetCell_26 : decode cX5_wetCell 26 = .ok (.bipush (-3), 2) := by decide +kernel
theorem dX5_wetCell_28 : decode cX5_wetCell 28 = .ok (.ireturn, 1) := by decide +kernel
theorem dX5_wetCell_29 : decode cX5_wetCell 29 = .ok (.aload_n 0, 1) := by decide +kernel
theorem dX5_wetCell_30 : decode cX5_wetCell 30 = .ok (.getfield 9, 3) := by decide +kernel
theorem dX5_wetCell_33 : decode cX5_wetCell 33 = .ok (.iload_n 1, 1) := by decide +kernel
theorem dX5_wetCell_34 : decode cX5_wetCell 34 = .ok (.iconst 1, 1) := by decide +kernel
theorem dX5_wetCell_35 : decode cX5_wetCell 35 = .ok (.iastore, 1) := by decide +kernel
theorem dX5_wetCell_36 : decode cX5_wetCell 36 = .ok (.iload_n 2, 1) := by decide +kernel
theorem dX5_wetCell_37 : decode cX5_wetCell 37 = .ok (.ireturn, 1) := by decide +kernel
theorem dX5_walkPerson_0 : decode cX5_walkPerson 0 = .ok (.iload_n 2, 1) := by decide +kernel
theorem dX5_walkPerson_1 : decode cX5_walkPerson 1 = .ok (.iconst 1, 1) := by decide +kernel
theorem dX5_walkPerson_2 : decode cX5_walkPerson 2 = .ok (.iconst 4, 1) := by decide +kernel
theorem dX5_walkPerson_3 : decode cX5_walkPerson 3 = .ok (.invokestatic 74, 3) := by decide +kernel
theorem dX5_walkPerson_6 : decode cX5_walkPerson 6 = .ok (.ifCond .ne 5, 3) := by decide +kernel
theorem dX5_walkPerson_9 : decode cX5_walkPerson 9 = .ok (.iconst (-1), 1) := by decide +kernel
theorem dX5_walkPerson_10 : decode cX5_walkPerson 10 = .ok (.ireturn, 1) := by decide +kernel
theorem dX5_walkPerson_11 : decode cX5_walkPerson 11 = .ok (.aload_n 0, 1) := by decide +kernel
theorem dX5_walkPerson_12 : decode cX5_walkPerson 12 = .ok (.iload_n 1, 1) := by decide +kernel
theorem dX5_walkPerson_13 : decode cX5_walkPerson 13 = .ok (.invokevirtual 78, 3) := by decide +kernel
theorem dX5_walkPerson_16 : decode cX5_walkPerson 16 = .ok (.ifCond .ne 6, 3) := by decide +kernel
theorem dX5_walkPerson_19 : decode cX5_walkPerson 19 = .ok (.bipush (-2), 2) := by decide +kernel
theorem dX5_walkPerson_21 : decode cX5_walkPerson 21 = .ok (.ireturn, 1) := by decide +kernel
theorem dX5_walkPerson_22 : decode cX5_walkPerson 22 = .ok (.aload_n 0, 1) := by decide +kernel
theorem dX5_walkPerson_23 : decode cX5_walkPerson 23 = .ok (.getfield 24, 3) := by decide +kernel
theorem dX5_walkPerson_26 : decode cX5_walkPerson 26 = .ok (.iload_n 1, 1) := by decide +kernel
theorem dX5_walkPerson_27 : decode cX5_walkPerson 27 = .ok (.iaload, 1) := by decide +kernel
theorem dX5_walkPerson_28 : decode cX5_walkPerson 28 = .ok (.iload_n 2, 1) := by decide +kernel
theorem dX5_walkPerson_29 : decode cX5_walkPerson 29 = .ok (.invokestatic 81, 3) := by decide +kernel
theorem dX5_walkPerson_32 : decode cX5_walkPerson 32 = .ok (.istore_n 3, 1) := by decide +kernel
theorem dX5_walkPerson_33 : decode cX5_walkPerson 33 = .ok (.iload_n 3, 1) := by decide +kernel
theorem dX5_walkPerson_34 : decode cX5_walkPerson 34 = .ok (.invokestatic 71, 3) := by decide +kernel
theorem dX5_walkPerson_37 : decode cX5_walkPerson 37 = .ok (.ifCond .eq 13, 3) := by decide +kernel
theorem dX5_walkPerson_40 : decode cX5_walkPerson 40 = .ok (.aload_n 0, 1) := by decide +kernel
theorem dX5_walkPerson_41 : decode cX5_walkPerson 41 = .ok (.getfield 9, 3) := by decide +kernel
theorem dX5_walkPerson_44 : decode cX5_walkPerson 44 = .ok (.iload_n 3, 1) := by decide +kernel
theorem dX5_walkPerson_45 : decode cX5_walkPerson 45 = .ok (.iaload, 1) := by decide +kernel
theorem dX5_walkPerson_46 : decode cX5_walkPerson 46 = .ok (.iconst 3, 1) := by decide +kernel
theorem dX5_walkPerson_47 : decode cX5_walkPerson 47 = .ok (.if_icmp .ne 6, 3) := by decide +kernel
theorem dX5_walkPerson_50 : decode cX5_walkPerson 50 = .ok (.bipush (-3), 2) := by decide +kernel
theorem dX5_walkPerson_52 : decode cX5_walkPerson 52 = .ok (.ireturn, 1) := by decide +kernel
theorem dX5_walkPerson_53 : decode cX5_walkPerson 53 = .ok (.aload_n 0, 1) := by decide +kernel
theorem dX5_walkPerson_54 : decode cX5_walkPerson 54 = .ok (.getfield 24, 3) := by decide +kernel
theorem dX5_walkPerson_57 : decode cX5_walkPerson 57 = .ok (.iload_n 1, 1) := by decide +kernel
theorem dX5_walkPerson_58 : decode cX5_walkPerson 58 = .ok (.iload_n 3, 1) := by decide +kernel
theorem dX5_walkPerson_59 : decode cX5_walkPerson 59 = .ok (.iastore, 1) := by decide +kernel
theorem dX5_walkPerson_60 : decode cX5_walkPerson 60 = .ok (.iload_n 3, 1) := by decide +kernel
theorem dX5_walkPerson_61 : decode cX5_walkPerson 61 = .ok (.ireturn, 1) := by decide +kernel
theorem dX5_copyFrom_0 : decode cX5_copyFrom 0 = .ok (.aload_n 1, 1) := by decide +kernel
theorem dX5_copyFrom_1 : decode cX5_copyFrom 1 = .ok (.getfield 9, 3) := by decide +kernel
theorem dX5_copyFrom_4 : decode cX5_copyFrom 4 = .ok (.iconst 0, 1) := by decide +kernel
theorem dX5_copyFrom_5 : decode cX5_copyFrom 5 = .ok (.aload_n 0, 1) := by decide +kernel
theorem dX5_copyFrom_6 : decode cX5_copyFrom 6 = .ok (.getfield 9, 3) := by decide +kernel
theorem dX5_copyFrom_9 : decode cX5_copyFrom 9 = .ok (.iconst 0, 1) := by decide +kernel
theorem dX5_copyFrom_10 : decode cX5_copyFrom 10 = .ok (.bipush 25, 2) := by decide +kernel
theorem dX5_copyFrom_12 : decode cX5_copyFrom 12 = .ok (.invokestatic 85, 3) := by decide +kernel
theorem dX5_copyFrom_15 : decode cX5_copyFrom 15 = .ok (.aload_n 1, 1) := by decide +kernel
theorem dX5_copyFrom_16 : decode cX5_copyFrom 16 = .ok (.getfield 15, 3) := by decide +kernel
theorem dX5_copyFrom_19 : decode cX5_copyFrom 19 = .ok (.iconst 0, 1) := by decide +kernel
theorem dX5_copyFrom_20 : decode cX5_copyFrom 20 = .ok (.aload_n 0, 1) := by decide +kernel
theorem dX5_copyFrom_21 : decode cX5_copyFrom 21 = .ok (.getfield 15, 3) := by decide +kernel
theorem dX5_copyFrom_24 : decode cX5_copyFrom 24 = .ok (.iconst 0, 1) := by decide +kernel
theorem dX5_copyFrom_25 : decode cX5_copyFrom 25 = .ok (.bipush 6, 2) := by decide +kernel
theorem dX5_copyFrom_27 : decode cX5_copyFrom 27 = .ok (.invokestatic 85, 3) := by decide +kernel
theorem dX5_copyFrom_30 : decode cX5_copyFrom 30 = .ok (.aload_n 1, 1) := by decide +kernel
theorem dX5_copyFrom_31 : decode cX5_copyFrom 31 = .ok (.getfield 18, 3) := by decide +kernel
theorem dX5_copyFrom_34 : decode cX5_copyFrom 34 = .ok (.iconst 0, 1) := by decide +kernel
theorem dX5_copyFrom_35 : decode cX5_copyFrom 35 = .ok (.aload_n 0, 1) := by decide +kernel
theorem dX5_copyFrom_36 : decode cX5_copyFrom 36 = .ok (.getfield 18, 3) := by decide +kernel
theorem dX5_copyFrom_39 : decode cX5_copyFrom 39 = .ok (.iconst 0, 1) := by decide +kernel
theorem dX5_copyFrom_40 : decode cX5_copyFrom 40 = .ok (.bipush 6, 2) := by decide +kernel
theorem dX5_copyFrom_42 : decode cX5_copyFrom 42 = .ok (.invokestatic 85, 3) := by decide +kernel
theorem dX5_copyFrom_45 : decode cX5_copyFrom 45 = .ok (.aload_n 1, 1) := by decide +kernel
theorem dX5_copyFrom_46 : decode cX5_copyFrom 46 = .ok (.getfield 21, 3) := by decide +kernel
theorem dX5_copyFrom_49 : decode cX5_copyFrom 49 = .ok (.iconst 0, 1) := by decide +kernel
theorem dX5_copyFrom_50 : decode cX5_copyFrom 50 = .ok (.aload_n 0, 1) := by decide +kernel
theorem dX5_copyFrom_51 : decode cX5_copyFrom 51 = .ok (.getfield 21, 3) := by decide +kernel
theorem dX5_copyFrom_54 : decode cX5_copyFrom 54 = .ok (.iconst 0, 1) := by decide +kernel
theorem dX5_copyFrom_55 : decode cX5_copyFrom 55 = .ok (.bipush 6, 2) := by decide +kernel
theorem dX5_copyFrom_57 : decode cX5_copyFrom 57 = .ok (.invokestatic 85, 3) := by decide +kernel
theorem dX5_copyFrom_60 : decode cX5_copyFrom 60 = .ok (.aload_n 0, 1) := by decide +kernel
theorem dX5_copyFrom_61 : decode cX5_copyFrom 61 = .ok (.aload_n 1, 1) := by decide +kernel
theorem dX5_copyFrom_62 : decode cX5_copyFrom 62 = .ok (.getfield 52, 3) := by decide +kernel
theorem dX5_copyFrom_65 : decode cX5_copyFrom 65 = .ok (.putfield 52, 3) := by decide +kernel
theorem dX5_copyFrom_68 : decode cX5_copyFrom 68 = .ok (.aload_n 1, 1) := by decide +kernel
theorem dX5_copyFrom_69 : decode cX5_copyFrom 69 = .ok (.getfield 24, 3) := by decide +kernel
theorem dX5_copyFrom_72 : decode cX5_copyFrom 72 = .ok (.iconst 0, 1) := by decide +kernel
theorem dX5_copyFrom_73 : decode cX5_copyFrom 73 = .ok (.aload_n 0, 1) := by decide +kernel
theorem dX5_copyFrom_74 : decode cX5_copyFrom 74 = .ok (.getfield 24, 3) := by decide +kernel
theorem dX5_copyFrom_77 : decode cX5_copyFrom 77 = .ok (.iconst 0, 1) := by decide +kernel
theorem dX5_copyFrom_78 : decode cX5_copyFrom 78 = .ok (.iconst 5, 1) := by decide +kernel
theorem dX5_copyFrom_79 : decode cX5_copyFrom 79 = .ok (.invokestatic 85, 3) := by decide +kernel
theorem dX5_copyFrom_82 : decode cX5_copyFrom 82 = .ok (.aload_n 1, 1) := by decide +kernel
theorem dX5_copyFrom_83 : decode cX5_copyFrom 83 = .ok (.getfield 27, 3) := by decide +kernel
theorem dX5_copyFrom_86 : decode cX5_copyFrom 86 = .ok (.iconst 0, 1) := by decide +kernel
theorem dX5_copyFrom_87 : decode cX5_copyFrom 87 = .ok (.aload_n 0, 1) := by decide +kernel
theorem dX5_copyFrom_88 : decode cX5_copyFrom 88 = .ok (.getfield 27, 3) := by decide +kernel
theorem dX5_copyFrom_91 : decode cX5_copyFrom 91 = .ok (.iconst 0, 1) := by decide +kernel
theorem dX5_copyFrom_92 : decode cX5_copyFrom 92 = .ok (.iconst 5, 1) := by decide +kernel
theorem dX5_copyFrom_93 : decode cX5_copyFrom 93 = .ok (.invokestatic 85, 3) := by decide +kernel
theorem dX5_copyFrom_96 : decode cX5_copyFrom 96 = .ok (.aload_n 1, 1) := by decide +kernel
theorem dX5_copyFrom_97 : decode cX5_copyFrom 97 = .ok (.getfield 30, 3) := by decide +kernel
theorem dX5_copyFrom_100 : decode cX5_copyFrom 100 = .ok (.iconst 0, 1) := by decide +kernel
theorem dX5_copyFrom_101 : decode cX5_copyFrom 101 = .ok (.aload_n 0, 1) := by decide +kernel
theorem dX5_copyFrom_102 : decode cX5_copyFrom 102 = .ok (.getfield 30, 3) := by decide +kernel
theorem dX5_copyFrom_105 : decode cX5_copyFrom 105 = .ok (.iconst 0, 1) := by decide +kernel
theorem dX5_copyFrom_106 : decode cX5_copyFrom 106 = .ok (.iconst 5, 1) := by decide +kernel
theorem dX5_copyFrom_107 : decode cX5_copyFrom 107 = .ok (.invokestatic 85, 3) := by decide +kernel
theorem dX5_copyFrom_110 : decode cX5_copyFrom 110 = .ok (.aload_n 0, 1) := by decide +kernel
theorem dX5_copyFrom_111 : decode cX5_copyFrom 111 = .ok (.aload_n 1, 1) := by decide +kernel
theorem dX5_copyFrom_112 : decode cX5_copyFrom 112 = .ok (.getfield 59, 3) := by decide +kernel
theorem dX5_copyFrom_115 : decode cX5_copyFrom 115 = .ok (.putfield 59, 3) := by decide +kernel
theorem dX5_copyFrom_118 : decode cX5_copyFrom 118 = .ok (.aload_n 1, 1) := by decide +kernel
theorem dX5_copyFrom_119 : decode cX5_copyFrom 119 = .ok (.getfield 33, 3) := by decide +kernel
theorem dX5_copyFrom_122 : decode cX5_copyFrom 122 = .ok (.iconst 0, 1) := by decide +kernel
theorem dX5_copyFrom_123 : decode cX5_copyFrom 123 = .ok (.aload_n 0, 1) := by decide +kernel
theorem dX5_copyFrom_124 : decode cX5_copyFrom 124 = .ok (.getfield 33, 3) := by decide +kernel
theorem dX5_copyFrom_127 : decode cX5_copyFrom 127 = .ok (.iconst 0, 1) := by decide +kernel
theorem dX5_copyFrom_128 : decode cX5_copyFrom 128 = .ok (.bipush 6, 2) := by decide +kernel
theorem dX5_copyFrom_130 : decode cX5_copyFrom 130 = .ok (.invokestatic 85, 3) := by decide +kernel
theorem dX5_copyFrom_133 : decode cX5_copyFrom 133 = .ok (.aload_n 1, 1) := by decide +kernel
theorem dX5_copyFrom_134 : decode cX5_copyFrom 134 = .ok (.getfield 36, 3) := by decide +kernel
theorem dX5_copyFrom_137 : decode cX5_copyFrom 137 = .ok (.iconst 0, 1) := by decide +kernel
theorem dX5_copyFrom_138 : decode cX5_copyFrom 138 = .ok (.aload_n 0, 1) := by decide +kernel
theorem dX5_copyFrom_139 : decode cX5_copyFrom 139 = .ok (.getfield 36, 3) := by decide +kernel
theorem dX5_copyFrom_142 : decode cX5_copyFrom 142 = .ok (.iconst 0, 1) := by decide +kernel
theorem dX5_copyFrom_143 : decode cX5_copyFrom 143 = .ok (.bipush 6, 2) := by decide +kernel
theorem dX5_copyFrom_145 : decode cX5_copyFrom 145 = .ok (.invokestatic 85, 3) := by decide +kernel
theorem dX5_copyFrom_148 : decode cX5_copyFrom 148 = .ok (.aload_n 0, 1) := by decide +kernel
theorem dX5_copyFrom_149 : decode cX5_copyFrom 149 = .ok (.aload_n 1, 1) := by decide +kernel
theorem dX5_copyFrom_150 : decode cX5_copyFrom 150 = .ok (.getfield 68, 3) := by decide +kernel
theorem dX5_copyFrom_153 : decode cX5_copyFrom 153 = .ok (.putfield 68, 3) := by decide +kernel
theorem dX5_copyFrom_156 : decode cX5_copyFrom 156 = .ok (.aload_n 1, 1) := by decide +kernel
theorem dX5_copyFrom_157 : decode cX5_copyFrom 157 = .ok (.getfield 39, 3) := by decide +kernel
theorem dX5_copyFrom_160 : decode cX5_copyFrom 160 = .ok (.iconst 0, 1) := by decide +kernel
theorem dX5_copyFrom_161 : decode cX5_copyFrom 161 = .ok (.aload_n 0, 1) := by decide +kernel
theorem dX5_copyFrom_162 : decode cX5_copyFrom 162 = .ok (.getfield 39, 3) := by decide +kernel
theorem dX5_copyFrom_165 : decode cX5_copyFrom 165 = .ok (.iconst 0, 1) := by decide +kernel
theorem dX5_copyFrom_166 : decode cX5_copyFrom 166 = .ok (.iconst 4, 1) := by decide +kernel
theorem dX5_copyFrom_167 : decode cX5_copyFrom 167 = .ok (.invokestatic 85, 3) := by decide +kernel
theorem dX5_copyFrom_170 : decode cX5_copyFrom 170 = .ok (.iconst 0, 1) := by decide +kernel
theorem dX5_copyFrom_171 : decode cX5_copyFrom 171 = .ok (.istore_n 2, 1) := by decide +kernel
theorem dX5_copyFrom_172 : decode cX5_copyFrom 172 = .ok (.iload_n 2, 1) := by decide +kernel
theorem dX5_copyFrom_173 : decode cX5_copyFrom 173 = .ok (.bipush 6, 2) := by decide +kernel
theorem dX5_copyFrom_175 : decode cX5_copyFrom 175 = .ok (.if_icmp .ge 21, 3) := by decide +kernel
theorem dX5_copyFrom_178 : decode cX5_copyFrom 178 = .ok (.aload_n 0, 1) := by decide +kernel
theorem dX5_copyFrom_179 : decode cX5_copyFrom 179 = .ok (.getfield 44, 3) := by decide +kernel
theorem dX5_copyFrom_182 : decode cX5_copyFrom 182 = .ok (.iload_n 2, 1) := by decide +kernel
theorem dX5_copyFrom_183 : decode cX5_copyFrom 183 = .ok (.aload_n 1, 1) := by decide +kernel
theorem dX5_copyFrom_184 : decode cX5_copyFrom 184 = .ok (.getfield 44, 3) := by decide +kernel
theorem dX5_copyFrom_187 : decode cX5_copyFrom 187 = .ok (.iload_n 2, 1) := by decide +kernel
theorem dX5_copyFrom_188 : decode cX5_copyFrom 188 = .ok (.aaload, 1) := by decide +kernel
theorem dX5_copyFrom_189 : decode cX5_copyFrom 189 = .ok (.aastore, 1) := by decide +kernel
theorem dX5_copyFrom_190 : decode cX5_copyFrom 190 = .ok (.iinc 2 1, 3) := by decide +kernel
theorem dX5_copyFrom_193 : decode cX5_copyFrom 193 = .ok (.goto (-21), 3) := by decide +kernel
theorem dX5_copyFrom_196 : decode cX5_copyFrom 196 = .ok (.aload_n 0, 1) := by decide +kernel
theorem dX5_copyFrom_197 : decode cX5_copyFrom 197 = .ok (.aload_n 1, 1) := by decide +kernel
theorem dX5_copyFrom_198 : decode cX5_copyFrom 198 = .ok (.getfield 62, 3) := by decide +kernel
theorem dX5_copyFrom_201 : decode cX5_copyFrom 201 = .ok (.putfield 62, 3) := by decide +kernel
theorem dX5_copyFrom_204 : decode cX5_copyFrom 204 = .ok (.aload_n 0, 1) := by decide +kernel
theorem dX5_copyFrom_205 : decode cX5_copyFrom 205 = .ok (.aload_n 1, 1) := by decide +kernel
theorem dX5_copyFrom_206 : decode cX5_copyFrom 206 = .ok (.getfield 48, 3) := by decide +kernel
theorem dX5_copyFrom_209 : decode cX5_copyFrom 209 = .ok (.putfield 48, 3) := by decide +kernel
theorem dX5_copyFrom_212 : decode cX5_copyFrom 212 = .ok (.return_, 1) := by decide +kernel
theorem dX5_saveMoves_0 : decode cX5_saveMoves 0 = .ok (.iload_n 2, 1) := by decide +kernel
theorem dX5_saveMoves_1 : decode cX5_saveMoves 1 = .ok (.istore_n 3, 1) := by decide +kernel
theorem dX5_saveMoves_2 : decode cX5_saveMoves 2 = .ok (.aload_n 0, 1) := by decide +kernel
theorem dX5_saveMoves_3 : decode cX5_saveMoves 3 = .ok (.getfield 9, 3) := by decide +kernel
theorem dX5_saveMoves_6 : decode cX5_saveMoves 6 = .ok (.iconst 0, 1) := by decide +kernel
theorem dX5_saveMoves_7 : decode cX5_saveMoves 7 = .ok (.aload_n 1, 1) := by decide +kernel
theorem dX5_saveMoves_8 : decode cX5_saveMoves 8 = .ok (.iload_n 3, 1) := by decide +kernel
theorem dX5_saveMoves_9 : decode cX5_saveMoves 9 = .ok (.bipush 25, 2) := by decide +kernel
theorem dX5_saveMoves_11 : decode cX5_saveMoves 11 = .ok (.invokestatic 85, 3) := by decide +kernel
theorem dX5_saveMoves_14 : decode cX5_saveMoves 14 = .ok (.iinc 3 25, 3) := by decide +kernel
theorem dX5_saveMoves_17 : decode cX5_saveMoves 17 = .ok (.aload_n 0, 1) := by decide +kernel
theorem dX5_saveMoves_18 : decode cX5_saveMoves 18 = .ok (.getfield 15, 3) := by decide +kernel
theorem dX5_saveMoves_21 : decode cX5_saveMoves 21 = .ok (.iconst 0, 1) := by decide +kernel
theorem dX5_saveMoves_22 : decode cX5_saveMoves 22 = .ok (.aload_n 1, 1) := by decide +kernel
theorem dX5_saveMoves_23 : decode cX5_saveMoves 23 = .ok (.iload_n 3, 1) := by decide +kernel
theorem dX5_saveMoves_24 : decode cX5_saveMoves 24 = .ok (.bipush 6, 2) := by decide +kernel
theorem dX5_saveMoves_26 : decode cX5_saveMoves 26 = .ok (.invokestatic 85, 3) := by decide +kernel
theorem dX5_saveMoves_29 : decode cX5_saveMoves 29 = .ok (.iinc 3 6, 3) := by decide +kernel
theorem dX5_saveMoves_32 : decode cX5_saveMoves 32 = .ok (.aload_n 0, 1) := by decide +kernel
theorem dX5_saveMoves_33 : decode cX5_saveMoves 33 = .ok (.getfield 18, 3) := by decide +kernel
theorem dX5_saveMoves_36 : decode cX5_saveMoves 36 = .ok (.iconst 0, 1) := by decide +kernel
theorem dX5_saveMoves_37 : decode cX5_saveMoves 37 = .ok (.aload_n 1, 1) := by decide +kernel
theorem dX5_saveMoves_38 : decode cX5_saveMoves 38 = .ok (.iload_n 3, 1) := by decide +kernel
theorem dX5_saveMoves_39 : decode cX5_saveMoves 39 = .ok (.bipush 6, 2) := by decide +kernel
theorem dX5_saveMoves_41 : decode cX5_saveMoves 41 = .ok (.invokestatic 85, 3) := by decide +kernel
theorem dX5_saveMoves_44 : decode cX5_saveMoves 44 = .ok (.iinc 3 6, 3) := by decide +kernel
theorem dX5_saveMoves_47 : decode cX5_saveMoves 47 = .ok (.aload_n 0, 1) := by decide +kernel
theorem dX5_saveMoves_48 : decode cX5_saveMoves 48 = .ok (.getfield 24, 3) := by decide +kernel
theorem dX5_saveMoves_51 : decode cX5_saveMoves 51 = .ok (.iconst 0, 1) := by decide +kernel
theorem dX5_saveMoves_52 : decode cX5_saveMoves 52 = .ok (.aload_n 1, 1) := by decide +kernel
theorem dX5_saveMoves_53 : decode cX5_saveMoves 53 = .ok (.iload_n 3, 1) := by decide +kernel
theorem dX5_saveMoves_54 : decode cX5_saveMoves 54 = .ok (.iconst 5, 1) := by decide +kernel
theorem dX5_saveMoves_55 : decode cX5_saveMoves 55 = .ok (.invokestatic 85, 3) := by decide +kernel
theorem dX5_saveMoves_58 : decode cX5_saveMoves 58 = .ok (.iinc 3 5, 3) := by decide +kernel
theorem dX5_saveMoves_61 : decode cX5_saveMoves 61 = .ok (.aload_n 1, 1) := by decide +kernel
theorem dX5_saveMoves_62 : decode cX5_saveMoves 62 = .ok (.iload_n 3, 1) := by decide +kernel
theorem dX5_saveMoves_63 : decode cX5_saveMoves 63 = .ok (.aload_n 0, 1) := by decide +kernel
theorem dX5_saveMoves_64 : decode cX5_saveMoves 64 = .ok (.getfield 39, 3) := by decide +kernel
theorem dX5_saveMoves_67 : decode cX5_saveMoves 67 = .ok (.iconst 0, 1) := by decide +kernel
theorem dX5_saveMoves_68 : decode cX5_saveMoves 68 = .ok (.iaload, 1) := by decide +kernel
theorem dX5_saveMoves_69 : decode cX5_saveMoves 69 = .ok (.iastore, 1) := by decide +kernel
theorem dX5_saveMoves_70 : decode cX5_saveMoves 70 = .ok (.return_, 1) := by decide +kernel
theorem dX5_loadMoves_0 : decode cX5_loadMoves 0 = .ok (.iload_n 2, 1) := by decide +kernel
theorem dX5_loadMoves_1 : decode cX5_loadMoves 1 = .ok (.istore_n 3, 1) := by decide +kernel
theorem dX5_loadMoves_2 : decode cX5_loadMoves 2 = .ok (.aload_n 1, 1) := by decide +kernel
theorem dX5_loadMoves_3 : decode cX5_loadMoves 3 = .ok (.iload_n 3, 1) := by decide +kernel
theorem dX5_loadMoves_4 : decode cX5_loadMoves 4 = .ok (.aload_n 0, 1) := by decide +kernel
theorem dX5_loadMoves_5 : decode cX5_loadMoves 5 = .ok (.getfield 9, 3) := by decide +kernel
theorem dX5_loadMoves_8 : decode cX5_loadMoves 8 = .ok (.iconst 0, 1) := by decide +kernel
theorem dX5_loadMoves_9 : decode cX5_loadMoves 9 = .ok (.bipush 25, 2) := by decide +kernel
theorem dX5_loadMoves_11 : decode cX5_loadMoves 11 = .ok (.invokestatic 85, 3) := by decide +kernel
theorem dX5_loadMoves_14 : decode cX5_loadMoves 14 = .ok (.iinc 3 25, 3) := by decide +kernel
theorem dX5_loadMoves_17 : decode cX5_loadMoves 17 = .ok (.aload_n 1, 1) := by decide +kernel
theorem dX5_loadMoves_18 : decode cX5_loadMoves 18 = .ok (.iload_n 3, 1) := by decide +kernel
theorem dX5_loadMoves_19 : decode cX5_loadMoves 19 = .ok (.aload_n 0, 1) := by decide +kernel
theorem dX5_loadMoves_20 : decode cX5_loadMoves 20 = .ok (.getfield 15, 3) := by decide +kernel
theorem dX5_loadMoves_23 : decode cX5_loadMoves 23 = .ok (.iconst 0, 1) := by decide +kernel
theorem dX5_loadMoves_24 : decode cX5_loadMoves 24 = .ok (.bipush 6, 2) := by decide +kernel
theorem dX5_loadMoves_26 : decode cX5_loadMoves 26 = .ok (.invokestatic 85, 3) := by decide +kernel
theorem dX5_loadMoves_29 : decode cX5_loadMoves 29 = .ok (.iinc 3 6, 3) := by decide +kernel
theorem dX5_loadMoves_32 : decode cX5_loadMoves 32 = .ok (.aload_n 1, 1) := by decide +kernel
theorem dX5_loadMoves_33 : decode cX5_loadMoves 33 = .ok (.iload_n 3, 1) := by decide +kernel
theorem dX5_loadMoves_34 : decode cX5_loadMoves 34 = .ok (.aload_n 0, 1) := by decide +kernel
theorem dX5_loadMoves_35 : decode cX5_loadMoves 35 = .ok (.getfield 18, 3) := by decide +kernel
theorem dX5_loadMoves_38 : decode cX5_loadMoves 38 = .ok (.iconst 0, 1) := by decide +kernel
theorem dX5_loadMoves_39 : decode cX5_loadMoves 39 = .ok (.bipush 6, 2) := by decide +kernel
theorem dX5_loadMoves_41 : decode cX5_loadMoves 41 = .ok (.invokestatic 85, 3) := by decide +kernel
theorem dX5_loadMoves_44 : decode cX5_loadMoves 44 = .ok (.iinc 3 6, 3) := by decide +kernel
theorem dX5_loadMoves_47 : decode cX5_loadMoves 47 = .ok (.aload_n 1, 1) := by decide +kernel
theorem dX5_loadMoves_48 : decode cX5_loadMoves 48 = .ok (.iload_n 3, 1) := by decide +kernel
theorem dX5_loadMoves_49 : decode cX5_loadMoves 49 = .ok (.aload_n 0, 1) := by decide +kernel
theorem dX5_loadMoves_50 : decode cX5_loadMoves 50 = .ok (.getfield 24, 3) := by decide +kernel
theorem dX5_loadMoves_53 : decode cX5_loadMoves 53 = .ok (.iconst 0, 1) := by decide +kernel
theorem dX5_loadMoves_54 : decode cX5_loadMoves 54 = .ok (.iconst 5, 1) := by decide +kernel
theorem dX5_loadMoves_55 : decode cX5_loadMoves 55 = .ok (.invokestatic 85, 3) := by decide +kernel
theorem dX5_loadMoves_58 : decode cX5_loadMoves 58 = .ok (.iinc 3 5, 3) := by decide +kernel
theorem dX5_loadMoves_61 : decode cX5_loadMoves 61 = .ok (.aload_n 0, 1) := by decide +kernel
theorem dX5_loadMoves_62 : decode cX5_loadMoves 62 = .ok (.getfield 39, 3) := by decide +kernel
theorem dX5_loadMoves_65 : decode cX5_loadMoves 65 = .ok (.iconst 0, 1) := by decide +kernel
theorem dX5_loadMoves_66 : decode cX5_loadMoves 66 = .ok (.aload_n 1, 1) := by decide +kernel
theorem dX5_loadMoves_67 : decode cX5_loadMoves 67 = .ok (.iload_n 3, 1) := by decide +kernel
theorem dX5_loadMoves_68 : decode cX5_loadMoves 68 = .ok (.iaload, 1) := by decide +kernel
theorem dX5_loadMoves_69 : decode cX5_loadMoves 69 = .ok (.iastore, 1) := by decide +kernel
theorem dX5_loadMoves_70 : decode cX5_loadMoves 70 = .ok (.return_, 1) := by decide +kernel
theorem dX6_init_0 : decode cX6_init 0 = .ok (.aload_n 0, 1) := by decide +kernel
theorem dX6_init_1 : decode cX6_init 1 = .ok (.invokespecial 3, 3) := by decide +kernel
theorem dX6_init_4 : decode cX6_init 4 = .ok (.aload_n 0, 1) := by decide +kernel
theorem dX6_init_5 : decode cX6_init 5 = .ok (.new 9, 3) := by decide +kernel
theorem dX6_init_8 : decode cX6_init 8 = .ok (.dup, 1) := by decide +kernel
theorem dX6_init_9 : decode cX6_init 9 = .ok (.invokespecial 11, 3) := by decide +kernel
theorem dX6_init_12 : decode cX6_init 12 = .ok (.putfield 12, 3) := by decide +kernel
theorem dX6_init_15 : decode cX6_init 15 = .ok (.aload_n 0, 1) := by decide +kernel
theorem dX6_init_16 : decode cX6_init 16 = .ok (.bipush 10, 2) := by decide +kernel
theorem dX6_init_18 : decode cX6_init 18 = .ok (.newarray .int, 2) := by decide +kernel
theorem dX6_init_20 : decode cX6_init 20 = .ok (.putfield 18, 3) := by decide +kernel
theorem dX6_init_23 : decode cX6_init 23 = .ok (.return_, 1) := by decide +kernel
theorem dX6_wayOf_0 : decode cX6_wayOf 0 = .ok (.aload_n 0, 1) := by decide +kernel
theorem dX6_wayOf_1 : decode cX6_wayOf 1 = .ok (.aload_n 1, 1) := by decide +kernel
theorem dX6_wayOf_2 : decode cX6_wayOf 2 = .ok (.iconst 0, 1) := by decide +kernel
theorem dX6_wayOf_3 : decode cX6_wayOf 3 = .ok (.iload_n 2, 1) := by decide +kernel
theorem dX6_wayOf_4 : decode cX6_wayOf 4 = .ok (.aload_n 1, 1) := by decide +kernel
theorem dX6_wayOf_5 : decode cX6_wayOf 5 = .ok (.getfield 22, 3) := by decide +kernel
theorem dX6_wayOf_8 : decode cX6_wayOf 8 = .ok (.iload_n 2, 1) := by decide +kernel
theorem dX6_wayOf_9 : decode cX6_wayOf 9 = .ok (.iaload, 1) := by decide +kernel
theorem dX6_wayOf_10 : decode cX6_wayOf 10 = .ok (.iconst (-1), 1) := by decide +kernel
theorem dX6_wayOf_11 : decode cX6_wayOf 11 = .ok (.invokevirtual 27, 3) := by decide +kernel
theorem dX6_wayOf_14 : decode cX6_wayOf 14 = .ok (.istore_n 3, 1) := by decide +kernel
theorem dX6_wayOf_15 : decode cX6_wayOf 15 = .ok (.iload_n 3, 1) := by decide +kernel
theorem dX6_wayOf_16 : decode cX6_wayOf 16 = .ok (.ldc 31, 2) := by decide +kernel
theorem dX6_wayOf_18 : decode cX6_wayOf 18 = .ok (.if_icmp .ne 16, 3) := by decide +kernel
theorem dX6_wayOf_21 : decode cX6_wayOf 21 = .ok (.iload_n 2, 1) := by decide +kernel
theorem dX6_wayOf_22 : decode cX6_wayOf 22 = .ok (.aload_n 1, 1) := by decide +kernel
theorem dX6_wayOf_23 : decode cX6_wayOf 23 = .ok (.getfield 32, 3) := by decide +kernel
theorem dX6_wayOf_26 : decode cX6_wayOf 26 = .ok (.iconst 0, 1) := by decide +kernel
theorem dX6_wayOf_27 : decode cX6_wayOf 27 = .ok (.iaload, 1) := by decide +kernel
theorem dX6_wayOf_28 : decode cX6_wayOf 28 = .ok (.iadd, 1) := by decide +kernel
theorem dX6_wayOf_29 : decode cX6_wayOf 29 = .ok (.iconst 5, 1) := by decide +kernel
theorem dX6_wayOf_30 : decode cX6_wayOf 30 = .ok (.irem, 1) := by decide +kernel
theorem dX6_wayOf_31 : decode cX6_wayOf 31 = .ok (.goto 9, 3) := by decide +kernel
theorem dX6_wayOf_34 : decode cX6_wayOf 34 = .ok (.iload_n 3, 1) := by decide +kernel
theorem dX6_wayOf_35 : decode cX6_wayOf 35 = .ok (.iconst 0, 1) := by decide +kernel
theorem dX6_wayOf_36 : decode cX6_wayOf 36 = .ok (.iconst 4, 1) := by decide +kernel
theorem dX6_wayOf_37 : decode cX6_wayOf 37 = .ok (.invokestatic 35, 3) := by decide +kernel
theorem dX6_wayOf_40 : decode cX6_wayOf 40 = .ok (.ireturn, 1) := by decide +kernel
theorem dX6_burnOf_0 : decode cX6_burnOf 0 = .ok (.aload_n 1, 1) := by decide +kernel
theorem dX6_burnOf_1 : decode cX6_burnOf 1 = .ok (.getfield 22, 3) := by decide +kernel
theorem dX6_burnOf_4 : decode cX6_burnOf 4 = .ok (.iload_n 2, 1) := by decide +kernel
theorem dX6_burnOf_5 : decode cX6_burnOf 5 = .ok (.iaload, 1) := by decide +kernel
theorem dX6_burnOf_6 : decode cX6_burnOf 6 = .ok (.istore_n 3, 1) := by decide +kernel
theorem dX6_burnOf_7 : decode cX6_burnOf 7 = .ok (.aload_n 0, 1) := by decide +kernel
theorem dX6_burnOf_8 : decode cX6_burnOf 8 = .ok (.aload_n 1, 1) := by decide +kernel
theorem dX6_burnOf_9 : decode cX6_burnOf 9 = .ok (.iconst 1, 1) := by decide +kernel
theorem dX6_burnOf_10 : decode cX6_burnOf 10 = .ok (.iload_n 2, 1) := by decide +kernel
theorem dX6_burnOf_11 : decode cX6_burnOf 11 = .ok (.iload_n 3, 1) := by decide +kernel
theorem dX6_burnOf_12 : decode cX6_burnOf 12 = .ok (.iconst (-1), 1) := by decide +kernel
theorem dX6_burnOf_13 : decode cX6_burnOf 13 = .ok (.invokevirtual 27, 3) := by decide +kernel
theorem dX6_burnOf_16 : decode cX6_burnOf 16 = .ok (.istore 4, 2) := by decide +kernel
theorem dX6_burnOf_18 : decode cX6_burnOf 18 = .ok (.iload 4, 2) := by decide +kernel
theorem dX6_burnOf_20 : decode cX6_burnOf 20 = .ok (.ldc 31, 2) := by decide +kernel
theorem dX6_burnOf_22 : decode cX6_burnOf 22 = .ok (.if_icmp .eq 12, 3) := by decide +kernel
theorem dX6_burnOf_25 : decode cX6_burnOf 25 = .ok (.iload 4, 2) := by decide +kernel
theorem dX6_burnOf_27 : decode cX6_burnOf 27 = .ok (.bipush (-3), 2) := by decide +kernel
theorem dX6_burnOf_29 : decode cX6_burnOf 29 = .ok (.iconst 3, 1) := by decide +kernel
theorem dX6_burnOf_30 : decode cX6_burnOf 30 = .ok (.invokestatic 35, 3) := by decide +kernel
theorem dX6_burnOf_33 : decode cX6_burnOf 33 = .ok (.ireturn, 1) := by decide +kernel
theorem dX6_burnOf_34 : decode cX6_burnOf 34 = .ok (.iload_n 3, 1) := by decide +kernel
theorem dX6_burnOf_35 : decode cX6_burnOf 35 = .ok (.invokestatic 39, 3) := by decide +kernel
theorem dX6_burnOf_38 : decode cX6_burnOf 38 = .ok (.ifCond .ne 5, 3) := by decide +kernel
theorem dX6_burnOf_41 : decode cX6_burnOf 41 = .ok (.iconst 0, 1) := by decide +kernel
theorem dX6_burnOf_42 : decode cX6_burnOf 42 = .ok (.ireturn, 1) := by decide +kernel
theorem dX6_burnOf_43 : decode cX6_burnOf 43 = .ok (.aload_n 1, 1) := by decide +kernel
theorem dX6_burnOf_44 : decode cX6_burnOf 44 = .ok (.getfield 43, 3) := by decide +kernel
theorem dX6_burnOf_47 : decode cX6_burnOf 47 = .ok (.iload_n 3, 1) := by decide +kernel
theorem dX6_burnOf_48 : decode cX6_burnOf 48 = .ok (.iaload, 1) := by decide +kernel
theorem dX6_burnOf_49 : decode cX6_burnOf 49 = .ok (.iconst 2, 1) := by decide +kernel
theorem dX6_burnOf_50 : decode cX6_burnOf 50 = .ok (.if_icmp .ne 7, 3) := by decide +kernel
theorem dX6_burnOf_53 : decode cX6_burnOf 53 = .ok (.iconst 1, 1) := by decide +kernel
theorem dX6_burnOf_54 : decode cX6_burnOf 54 = .ok (.goto 19, 3) := by decide +kernel
theorem dX6_burnOf_57 : decode cX6_burnOf 57 = .ok (.aload_n 1, 1) := by decide +kernel
theorem dX6_burnOf_58 : decode cX6_burnOf 58 = .ok (.getfield 43, 3) := by decide +kernel
theorem dX6_burnOf_61 : decode cX6_burnOf 61 = .ok (.iload_n 3, 1) := by decide +kernel
theorem dX6_burnOf_62 : decode cX6_burnOf 62 = .ok (.iaload, 1) := by decide +kernel
theorem dX6_burnOf_63 : decode cX6_burnOf 63 = .ok (.iconst 1, 1) := by decide +kernel
theorem dX6_burnOf_64 : decode cX6_burnOf 64 = .ok (.if_icmp .ne 8, 3) := by decide +kernel
theorem dX6_burnOf_67 : decode cX6_burnOf 67 = .ok (.bipush (-3), 2) := by decide +kernel
theorem dX6_burnOf_69 : decode cX6_burnOf 69 = .ok (.goto 4, 3) := by decide +kernel
theorem dX6_burnOf_72 : decode cX6_burnOf 72 = .ok (.iconst 0, 1) := by decide +kernel
theorem dX6_burnOf_73 : decode cX6_burnOf 73 = .ok (.ireturn, 1) := by decide +kernel
theorem dX6_isShunned_0 : decode cX6_isShunned 0 = .ok (.aload_n 0, 1) := by decide +kernel
theorem dX6_isShunned_1 : decode cX6_isShunned 1 = .ok (.aload_n 1, 1) := by decide +kernel
theorem dX6_isShunned_2 : decode cX6_isShunned 2 = .ok (.iconst 2, 1) := by decide +kernel
theorem dX6_isShunned_3 : decode cX6_isShunned 3 = .ok (.iload_n 2, 1) := by decide +kernel
theorem dX6_isShunned_4 : decode cX6_isShunned 4 = .ok (.iload_n 3, 1) := by decide +kernel
theorem dX6_isShunned_5 : decode cX6_isShunned 5 = .ok (.iload 4, 2) := by decide +kernel
theorem dX6_isShunned_7 : decode cX6_isShunned 7 = .ok (.invokevirtual 27, 3) := by decide +kernel
theorem dX6_isShunned_10 : decode cX6_isShunned 10 = .ok (.ldc 31, 2) := by decide +kernel
theorem dX6_isShunned_12 : decode cX6_isShunned 12 = .ok (.if_icmp .eq 7, 3) := by decide +kernel
theorem dX6_isShunned_15 : decode cX6_isShunned 15 = .ok (.iconst 1, 1) := by decide +kernel
theorem dX6_isShunned_16 : decode cX6_isShunned 16 = .ok (.goto 4, 3) := by decide +kernel
theorem dX6_isShunned_19 : decode cX6_isShunned 19 = .ok (.iconst 0, 1) := by decide +kernel
theorem dX6_isShunned_20 : decode cX6_isShunned 20 = .ok (.ireturn, 1) := by decide +kernel
theorem dX6_isBarred_0 : decode cX6_isBarred 0 = .ok (.aload_n 1, 1) := by decide +kernel
theorem dX6_isBarred_1 : decode cX6_isBarred 1 = .ok (.getfield 43, 3) := by decide +kernel
theorem dX6_isBarred_4 : decode cX6_isBarred 4 = .ok (.iload_n 3, 1) := by decide +kernel
theorem dX6_isBarred_5 : decode cX6_isBarred 5 = .ok (.iaload, 1) := by decide +kernel
theorem dX6_isBarred_6 : decode cX6_isBarred 6 = .ok (.iconst 3, 1) := by decide +kernel
theorem dX6_isBarred_7 : decode cX6_isBarred 7 = .ok (.if_icmp .eq 17, 3) := by decide +kernel
theorem dX6_isBarred_10 : decode cX6_isBarred 10 = .ok (.aload_n 0, 1) := by decide +kernel
theorem dX6_isBarred_11 : decode cX6_isBarred 11 = .ok (.aload_n 1, 1) := by decide +kernel
theorem dX6_isBarred_12 : decode cX6_isBarred 12 = .ok (.iconst 3, 1) := by decide +kernel
theorem dX6_isBarred_13 : decode cX6_isBarred 13 = .ok (.iload_n 2, 1) := by decide +kernel
theorem dX6_isBarred_14 : decode cX6_isBarred 14 = .ok (.iload_n 3, 1) := by decide +kernel
theorem dX6_isBarred_15 : decode cX6_isBarred 15 = .ok (.iconst (-1), 1) := by decide +kernel
theorem dX6_isBarred_16 : decode cX6_isBarred 16 = .ok (.invokevirtual 27, 3) := by decide +kernel
theorem dX6_isBarred_19 : decode cX6_isBarred 19 = .ok (.ldc 31, 2) := by decide +kernel
theorem dX6_isBarred_21 : decode cX6_isBarred 21 = .ok (.if_icmp .eq 7, 3) := by decide +kernel
theorem dX6_isBarred_24 : decode cX6_isBarred 24 = .ok (.iconst 1, 1) := by decide +kernel
theorem dX6_isBarred_25 : decode cX6_isBarred 25 = .ok (.goto 4, 3) := by decide +kernel
theorem dX6_isBarred_28 : decode cX6_isBarred 28 = .ok (.iconst 0, 1) := by decide +kernel
theorem dX6_isBarred_29 : decode cX6_isBarred 29 = .ok (.ireturn, 1) := by decide +kernel
theorem dX6_comes_0 : decode cX6_comes 0 = .ok (.iload_n 3, 1) := by decide +kernel
theorem dX6_comes_1 : decode cX6_comes 1 = .ok (.invokestatic 39, 3) := by decide +kernel
theorem dX6_comes_4 : decode cX6_comes 4 = .ok (.ifCond .eq 58, 3) := by decide +kernel
theorem dX6_comes_7 : decode cX6_comes 7 = .ok (.aload_n 1, 1) := by decide +kernel
theorem dX6_comes_8 : decode cX6_comes 8 = .ok (.getfield 46, 3) := by decide +kernel
theorem dX6_comes_11 : decode cX6_comes 11 = .ok (.iload 4, 2) := by decide +kernel
theorem dX6_comes_13 : decode cX6_comes 13 = .ok (.iaload, 1) := by decide +kernel
theorem dX6_comes_14 : decode cX6_comes 14 = .ok (.iload_n 2, 1) := by decide +kernel
theorem dX6_comes_15 : decode cX6_comes 15 = .ok (.ishr, 1) := by decide +kernel
theorem dX6_comes_16 : decode cX6_comes 16 = .ok (.iconst 1, 1) := by decide +kernel
theorem dX6_comes_17 : decode cX6_comes 17 = .ok (.iand, 1) := by decide +kernel
theorem dX6_comes_18 : decode cX6_comes 18 = .ok (.iconst 1, 1) := by decide +kernel
theorem dX6_comes_19 : decode cX6_comes 19 = .ok (.if_icmp .ne 43, 3) := by decide +kernel
theorem dX6_comes_22 : decode cX6_comes 22 = .ok (.iload_n 3, 1) := by decide +kernel
theorem dX6_comes_23 : decode cX6_comes 23 = .ok (.aload_n 1, 1) := by decide +kernel
theorem dX6_comes_24 : decode cX6_comes 24 = .ok (.getfield 49, 3) := by decide +kernel
theorem dX6_comes_27 : decode cX6_comes 27 = .ok (.iload 4, 2) := by decide +kernel
theorem dX6_comes_29 : decode cX6_comes 29 = .ok (.iaload, 1) := by decide +kernel
theorem dX6_comes_30 : decode cX6_comes 30 = .ok (.invokestatic 52, 3) := by decide +kernel
theorem dX6_comes_33 : decode cX6_comes 33 = .ok (.aload_n 1, 1) := by decide +kernel
theorem dX6_comes_34 : decode cX6_comes 34 = .ok (.getfield 56, 3) := by decide +kernel
theorem dX6_comes_37 : decode cX6_comes 37 = .ok (.iload 4, 2) := by decide +kernel
theorem dX6_comes_39 : decode cX6_comes 39 = .ok (.iaload, 1) := by decide +kernel
theorem dX6_comes_40 : decode cX6_comes 40 = .ok (.if_icmp .gt 22, 3) := by decide +kernel
theorem dX6_comes_43 : decode cX6_comes 43 = .ok (.aload_n 0, 1) := by decide +kernel
theorem dX6_comes_44 : decode cX6_comes 44 = .ok (.aload_n 1, 1) := by decide +kernel
theorem dX6_comes_45 : decode cX6_comes 45 = .ok (.iconst 2, 1) := by decide +kernel
theorem dX6_comes_46 : decode cX6_comes 46 = .ok (.iload_n 2, 1) := by decide +kernel
theorem dX6_comes_47 : decode cX6_comes 47 = .ok (.iload_n 3, 1) := by decide +kernel
theorem dX6_comes_48 : decode cX6_comes 48 = .ok (.iload 4, 2) := by decide +kernel
theorem dX6_comes_50 : decode cX6_comes 50 = .ok (.invokevirtual 27, 3) := by decide +kernel
theorem dX6_comes_53 : decode cX6_comes 53 = .ok (.ldc 31, 2) := by decide +kernel
theorem dX6_comes_55 : decode cX6_comes 55 = .ok (.if_icmp .ne 7, 3) := by decide +kernel
theorem dX6_comes_58 : decode cX6_comes 58 = .ok (.iconst 1, 1) := by decide +kernel
theorem dX6_comes_59 : decode cX6_comes 59 = .ok (.goto 4, 3) := by decide +kernel
theorem dX6_comes_62 : decode cX6_comes 62 = .ok (.iconst 0, 1) := by decide +kernel
theorem dX6_comes_63 : decode cX6_comes 63 = .ok (.ireturn, 1) := by decide +kernel
theorem dX6_callSpark_0 : decode cX6_callSpark 0 = .ok (.aload_n 1, 1) := by decide +kernel
theorem dX6_callSpark_1 : decode cX6_callSpark 1 = .ok (.iload_n 2, 1) := by decide +kernel
theorem dX6_callSpark_2 : decode cX6_callSpark 2 = .ok (.invokevirtual 59, 3) := by decide +kernel
theorem dX6_callSpark_5 : decode cX6_callSpark 5 = .ok (.ifCond .eq 11, 3) := by decide +kernel
theorem dX6_callSpark_8 : decode cX6_callSpark 8 = .ok (.aload_n 1, 1) := by decide +kernel
theorem dX6_callSpark_9 : decode cX6_callSpark 9 = .ok (.iload_n 3, 1) := by decide +kernel
theorem dX6_callSpark_10 : decode cX6_callSpark 10 = .ok (.invokevirtual 62, 3) := by decide +kernel
theorem dX6_callSpark_13 : decode cX6_callSpark 13 = .ok (.ifCond .ne 6, 3) := by decide +kernel
theorem dX6_callSpark_16 : decode cX6_callSpark 16 = .ok (.bipush (-2), 2) := by decide +kernel
theorem dX6_callSpark_18 : decode cX6_callSpark 18 = .ok (.ireturn, 1) := by decide +kernel
theorem dX6_callSpark_19 : decode cX6_callSpark 19 = .ok (.aload_n 1, 1) := by decide +kernel
theorem dX6_callSpark_20 : decode cX6_callSpark 20 = .ok (.getfield 22, 3) := by decide +kernel
theorem dX6_callSpark_23 : decode cX6_callSpark 23 = .ok (.iload_n 2, 1) := by decide +kernel
theorem dX6_callSpark_24 : decode cX6_callSpark 24 = .ok (.iaload, 1) := by decide +kernel
theorem dX6_callSpark_25 : decode cX6_callSpark 25 = .ok (.istore 4, 2) := by decide +kernel
theorem dX6_callSpark_27 : decode cX6_callSpark 27 = .ok (.aload_n 0, 1) := by decide +kernel
theorem dX6_callSpark_28 : decode cX6_callSpark 28 = .ok (.aload_n 1, 1) := by decide +kernel
theorem dX6_callSpark_29 : decode cX6_callSpark 29 = .ok (.iload_n 2, 1) := by decide +kernel
theorem dX6_callSpark_30 : decode cX6_callSpark 30 = .ok (.iload 4, 2) := by decide +kernel
theorem dX6_callSpark_32 : decode cX6_callSpark 32 = .ok (.iload_n 3, 1) := by decide +kernel
theorem dX6_callSpark_33 : decode cX6_callSpark 33 = .ok (.invokevirtual 65, 3) := by decide +kernel
theorem dX6_callSpark_36 : decode cX6_callSpark 36 = .ok (.ifCond .ne 6, 3) := by decide +kernel
theorem dX6_callSpark_39 : decode cX6_callSpark 39 = .ok (.bipush (-3), 2) := by decide +kernel
theorem dX6_callSpark_41 : decode cX6_callSpark 41 = .ok (.ireturn, 1) := by decide +kernel
theorem dX6_callSpark_42 : decode cX6_callSpark 42 = .ok (.aload_n 1, 1) := by decide +kernel
theorem dX6_callSpark_43 : decode cX6_callSpark 43 = .ok (.getfield 49, 3) := by decide +kernel
theorem dX6_callSpark_46 : decode cX6_callSpark 46 = .ok (.iload_n 3, 1) := by decide +kernel
theorem dX6_callSpark_47 : decode cX6_callSpark 47 = .ok (.iaload, 1) := by decide +kernel
theorem dX6_callSpark_48 : decode cX6_callSpark 48 = .ok (.istore 5, 2) := by decide +kernel
theorem dX6_callSpark_50 : decode cX6_callSpark 50 = .ok (.iload 5, 2) := by decide +kernel
theorem dX6_callSpark_52 : decode cX6_callSpark 52 = .ok (.aload_n 1, 1) := by decide +kernel
theorem dX6_callSpark_53 : decode cX6_callSpark 53 = .ok (.getfield 32, 3) := by decide +kernel
theorem dX6_callSpark_56 : decode cX6_callSpark 56 = .ok (.iconst 3, 1) := by decide +kernel
theorem dX6_callSpark_57 : decode cX6_callSpark 57 = .ok (.iaload, 1) := by decide +kernel
theorem dX6_callSpark_58 : decode cX6_callSpark 58 = .ok (.if_icmp .ne 7, 3) := by decide +kernel
theorem dX6_callSpark_61 : decode cX6_callSpark 61 = .ok (.iconst 1, 1) := by decide +kernel
theorem dX6_callSpark_62 : decode cX6_callSpark 62 = .ok (.goto 4, 3) := by decide +kernel
theorem dX6_callSpark_65 : decode cX6_callSpark 65 = .ok (.iconst 0, 1) := by decide +kernel
theorem dX6_callSpark_66 : decode cX6_callSpark 66 = .ok (.istore 6, 2) := by decide +kernel
theorem dX6_callSpark_68 : decode cX6_callSpark 68 = .ok (.aload_n 1, 1) := by decide +kernel
theorem dX6_callSpark_69 : decode cX6_callSpark 69 = .ok (.getfield 22, 3) := by decide +kernel
theorem dX6_callSpark_72 : decode cX6_callSpark 72 = .ok (.iload_n 2, 1) := by decide +kernel
theorem dX6_callSpark_73 : decode cX6_callSpark 73 = .ok (.iload 6, 2) := by decide +kernel
theorem dX6_callSpark_75 : decode cX6_callSpark 75 = .ok (.ifCond .eq 7, 3) := by decide +kernel
theorem dX6_callSpark_78 : decode cX6_callSpark 78 = .ok (.iconst (-1), 1) := by decide +kernel
theorem dX6_callSpark_79 : decode cX6_callSpark 79 = .ok (.goto 5, 3) := by decide +kernel
theorem dX6_callSpark_82 : decode cX6_callSpark 82 = .ok (.iload 5, 2) := by decide +kernel
theorem dX6_callSpark_84 : decode cX6_callSpark 84 = .ok (.iastore, 1) := by decide +kernel
theorem dX6_callSpark_85 : decode cX6_callSpark 85 = .ok (.aload_n 1, 1) := by decide +kernel
theorem dX6_callSpark_86 : decode cX6_callSpark 86 = .ok (.getfield 69, 3) := by decide +kernel
theorem dX6_callSpark_89 : decode cX6_callSpark 89 = .ok (.iload_n 2, 1) := by decide +kernel
theorem dX6_callSpark_90 : decode cX6_callSpark 90 = .ok (.iload 6, 2) := by decide +kernel
theorem dX6_callSpark_92 : decode cX6_callSpark 92 = .ok (.ifCond .eq 7, 3) := by decide +kernel
theorem dX6_callSpark_95 : decode cX6_callSpark 95 = .ok (.iconst 0, 1) := by decide +kernel
theorem dX6_callSpark_96 : decode cX6_callSpark 96 = .ok (.goto 9, 3) := by decide +kernel
theorem dX6_callSpark_99 : decode cX6_callSpark 99 = .ok (.aload_n 1, 1) := by decide +kernel
theorem dX6_callSpark_100 : decode cX6_callSpark 100 = .ok (.getfield 69, 3) := by decide +kernel
theorem dX6_callSpark_103 : decode cX6_callSpark 103 = .ok (.iload_n 2, 1) := by decide +kernel
theorem dX6_callSpark_104 : decode cX6_callSpark 104 = .ok (.iaload, 1) := by decide +kernel
theorem dX6_callSpark_105 : decode cX6_callSpark 105 = .ok (.iastore, 1) := by decide +kernel
theorem dX6_callSpark_106 : decode cX6_callSpark 106 = .ok (.iload 4, 2) := by decide +kernel
theorem dX6_callSpark_108 : decode cX6_callSpark 108 = .ok (.iload 5, 2) := by decide +kernel
theorem dX6_callSpark_110 : decode cX6_callSpark 110 = .ok (.invokestatic 52, 3) := by decide +kernel
theorem dX6_callSpark_113 : decode cX6_callSpark 113 = .ok (.ireturn, 1) := by decide +kernel
theorem dX6_passMinute_0 : decode cX6_passMinute 0 = .ok (.iload_n 2, 1) := by decide +kernel
theorem dX6_passMinute_1 : decode cX6_passMinute 1 = .ok (.istore 4, 2) := by decide +kernel
theorem dX6_passMinute_3 : decode cX6_passMinute 3 = .ok (.iload 4, 2) := by decide +kernel
theorem dX6_passMinute_5 : decode cX6_passMinute 5 = .ok (.iload_n 3, 1) := by decide +kernel
theorem dX6_passMinute_6 : decode cX6_passMinute 6 = .ok (.if_icmp .gt 122, 3) := by decide +kernel
theorem dX6_passMinute_9 : decode cX6_passMinute 9 = .ok (.aload_n 1, 1) := by decide +kernel
theorem dX6_passMinute_10 : decode cX6_passMinute 10 = .ok (.iload 4, 2) := by decide +kernel
theorem dX6_passMinute_12 : decode cX6_passMinute 12 = .ok (.invokevirtual 72, 3) := by decide +kernel
theorem dX6_passMinute_15 : decode cX6_passMinute 15 = .ok (.ifCond .eq 107, 3) := by decide +kernel
theorem dX6_passMinute_18 : decode cX6_passMinute 18 = .ok (.aload_n 1, 1) := by decide +kernel
theorem dX6_passMinute_19 : decode cX6_passMinute 19 = .ok (.getfield 22, 3) := by decide +kernel
theorem dX6_passMinute_22 : decode cX6_passMinute 22 = .ok (.iload 4, 2) := by decide +kernel
theorem dX6_passMinute_24 : decode cX6_passMinute 24 = .ok (.iaload, 1) := by decide +kernel
theorem dX6_passMinute_25 : decode cX6_passMinute 25 = .ok (.aload_n 0, 1) := by decide +kernel
theorem dX6_passMinute_26 : decode cX6_passMinute 26 = .ok (.aload_n 1, 1) := by decide +kernel
theorem dX6_passMinute_27 : decode cX6_passMinute 27 = .ok (.iload 4, 2) := by decide +kernel
theorem dX6_passMinute_29 : decode cX6_passMinute 29 = .ok (.invokevirtual 75, 3) := by decide +kernel
theorem dX6_passMinute_32 : decode cX6_passMinute 32 = .ok (.invokestatic 79, 3) := by decide +kernel
theorem dX6_passMinute_35 : decode cX6_passMinute 35 = .ok (.istore 5, 2) := by decide +kernel
theorem dX6_passMinute_37 : decode cX6_passMinute 37 = .ok (.iload 5, 2) := by decide +kernel
theorem dX6_passMinute_39 : decode cX6_passMinute 39 = .ok (.invokestatic 39, 3) := by decide +kernel
theorem dX6_passMinute_42 : decode cX6_passMinute 42 = .ok (.ifCond .eq 24, 3) := by decide +kernel
theorem dX6_passMinute_45 : decode cX6_passMinute 45 = .ok (.aload_n 0, 1) := by decide +kernel
theorem dX6_passMinute_46 : decode cX6_passMinute 46 = .ok (.aload_n 1, 1) := by decide +kernel
theorem dX6_passMinute_47 : decode cX6_passMinute 47 = .ok (.iload 4, 2) := by decide +kernel
theorem dX6_passMinute_49 : decode cX6_passMinute 49 = .ok (.iload 5, 2) := by decide +kernel
theorem dX6_passMinute_51 : decode cX6_passMinute 51 = .ok (.invokevirtual 82, 3) := by decide +kernel
theorem dX6_passMinute_54 : decode cX6_passMinute 54 = .ok (.ifCond .ne 12, 3) := by decide +kernel
theorem dX6_passMinute_57 : decode cX6_passMinute 57 = .ok (.aload_n 1, 1) := by decide +kernel
theorem dX6_passMinute_58 : decode cX6_passMinute 58 = .ok (.getfield 22, 3) := by decide +kernel
theorem dX6_passMinute_61 : decode cX6_passMinute 61 = .ok (.iload 4, 2) := by decide +kernel
theorem dX6_passMinute_63 : decode cX6_passMinute 63 = .ok (.iload 5, 2) := by decide +kernel
theorem dX6_passMinute_65 : decode cX6_passMinute 65 = .ok (.iastore, 1) := by decide +kernel
theorem dX6_passMinute_66 : decode cX6_passMinute 66 = .ok (.aload_n 1, 1) := by decide +kernel
theorem dX6_passMinute_67 : decode cX6_passMinute 67 = .ok (.getfield 69, 3) := by decide +kernel
theorem dX6_passMinute_70 : decode cX6_passMinute 70 = .ok (.iload 4, 2) := by decide +kernel
theorem dX6_passMinute_72 : decode cX6_passMinute 72 = .ok (.aload_n 1, 1) := by decide +kernel
theorem dX6_passMinute_73 : decode cX6_passMinute 73 = .ok (.getfield 69, 3) := by decide +kernel
theorem dX6_passMinute_76 : decode cX6_passMinute 76 = .ok (.iload 4, 2) := by decide +kernel
theorem dX6_passMinute_78 : decode cX6_passMinute 78 = .ok (.iaload, 1) := by decide +kernel
theorem dX6_passMinute_79 : decode cX6_passMinute 79 = .ok (.aload_n 0, 1) := by decide +kernel
theorem dX6_passMinute_80 : decode cX6_passMinute 80 = .ok (.aload_n 1, 1) := by decide +kernel
theorem dX6_passMinute_81 : decode cX6_passMinute 81 = .ok (.iload 4, 2) := by decide +kernel
theorem dX6_passMinute_83 : decode cX6_passMinute 83 = .ok (.invokevirtual 86, 3) := by decide +kernel
theorem dX6_passMinute_86 : decode cX6_passMinute 86 = .ok (.iadd, 1) := by decide +kernel
