theorem dX8_numberTo_5 : decode cX8_numberTo 5 = .ok (.if_icmp .eq 5, 3) := by decide +kernel
theorem dX8_numberTo_8 : decode cX8_numberTo 8 = .ok (.iconst (-1), 1) := by decide +kernel
theorem dX8_numberTo_9 : decode cX8_numberTo 9 = .ok (.ireturn, 1) := by decide +kernel
theorem dX8_numberTo_10 : decode cX8_numberTo 10 = .ok (.iconst 0, 1) := by decide +kernel
theorem dX8_numberTo_11 : decode cX8_numberTo 11 = .ok (.istore_n 2, 1) := by decide +kernel
theorem dX8_numberTo_12 : decode cX8_numberTo 12 = .ok (.aload_n 0, 1) := by decide +kernel
theorem dX8_numberTo_13 : decode cX8_numberTo 13 = .ok (.getfield 25, 3) := by decide +kernel
theorem dX8_numberTo_16 : decode cX8_numberTo 16 = .ok (.istore_n 3, 1) := by decide +kernel
theorem dX8_numberTo_17 : decode cX8_numberTo 17 = .ok (.iload_n 3, 1) := by decide +kernel
theorem dX8_numberTo_18 : decode cX8_numberTo 18 = .ok (.aload_n 0, 1) := by decide +kernel
theorem dX8_numberTo_19 : decode cX8_numberTo 19 = .ok (.getfield 19, 3) := by decide +kernel
theorem dX8_numberTo_22 : decode cX8_numberTo 22 = .ok (.if_icmp .ge 29, 3) := by decide +kernel
theorem dX8_numberTo_25 : decode cX8_numberTo 25 = .ok (.iload_n 2, 1) := by decide +kernel
theorem dX8_numberTo_26 : decode cX8_numberTo 26 = .ok (.bipush 10, 2) := by decide +kernel
theorem dX8_numberTo_28 : decode cX8_numberTo 28 = .ok (.imul, 1) := by decide +kernel
theorem dX8_numberTo_29 : decode cX8_numberTo 29 = .ok (.aload_n 0, 1) := by decide +kernel
theorem dX8_numberTo_30 : decode cX8_numberTo 30 = .ok (.iload_n 3, 1) := by decide +kernel
theorem dX8_numberTo_31 : decode cX8_numberTo 31 = .ok (.invokevirtual 28, 3) := by decide +kernel
theorem dX8_numberTo_34 : decode cX8_numberTo 34 = .ok (.iadd, 1) := by decide +kernel
theorem dX8_numberTo_35 : decode cX8_numberTo 35 = .ok (.bipush 48, 2) := by decide +kernel
theorem dX8_numberTo_37 : decode cX8_numberTo 37 = .ok (.isub, 1) := by decide +kernel
theorem dX8_numberTo_38 : decode cX8_numberTo 38 = .ok (.iload_n 1, 1) := by decide +kernel
theorem dX8_numberTo_39 : decode cX8_numberTo 39 = .ok (.iconst 1, 1) := by decide +kernel
theorem dX8_numberTo_40 : decode cX8_numberTo 40 = .ok (.iadd, 1) := by decide +kernel
theorem dX8_numberTo_41 : decode cX8_numberTo 41 = .ok (.invokestatic 38, 3) := by decide +kernel
theorem dX8_numberTo_44 : decode cX8_numberTo 44 = .ok (.istore_n 2, 1) := by decide +kernel
theorem dX8_numberTo_45 : decode cX8_numberTo 45 = .ok (.iinc 3 1, 3) := by decide +kernel
theorem dX8_numberTo_48 : decode cX8_numberTo 48 = .ok (.goto (-31), 3) := by decide +kernel
theorem dX8_numberTo_51 : decode cX8_numberTo 51 = .ok (.iload_n 2, 1) := by decide +kernel
theorem dX8_numberTo_52 : decode cX8_numberTo 52 = .ok (.ireturn, 1) := by decide +kernel
theorem dX8_sortOf_0 : decode cX8_sortOf 0 = .ok (.iload_n 0, 1) := by decide +kernel
theorem dX8_sortOf_1 : decode cX8_sortOf 1 = .ok (.iconst (-1), 1) := by decide +kernel
theorem dX8_sortOf_2 : decode cX8_sortOf 2 = .ok (.if_icmp .ne 5, 3) := by decide +kernel
theorem dX8_sortOf_5 : decode cX8_sortOf 5 = .ok (.iconst 0, 1) := by decide +kernel
theorem dX8_sortOf_6 : decode cX8_sortOf 6 = .ok (.ireturn, 1) := by decide +kernel
theorem dX8_sortOf_7 : decode cX8_sortOf 7 = .ok (.iload_n 0, 1) := by decide +kernel
theorem dX8_sortOf_8 : decode cX8_sortOf 8 = .ok (.bipush 97, 2) := by decide +kernel
theorem dX8_sortOf_10 : decode cX8_sortOf 10 = .ok (.if_icmp .lt 11, 3) := by decide +kernel
theorem dX8_sortOf_13 : decode cX8_sortOf 13 = .ok (.iload_n 0, 1) := by decide +kernel
theorem dX8_sortOf_14 : decode cX8_sortOf 14 = .ok (.bipush 122, 2) := by decide +kernel
theorem dX8_sortOf_16 : decode cX8_sortOf 16 = .ok (.if_icmp .gt 5, 3) := by decide +kernel
theorem dX8_sortOf_19 : decode cX8_sortOf 19 = .ok (.iconst 1, 1) := by decide +kernel
theorem dX8_sortOf_20 : decode cX8_sortOf 20 = .ok (.ireturn, 1) := by decide +kernel
theorem dX8_sortOf_21 : decode cX8_sortOf 21 = .ok (.iload_n 0, 1) := by decide +kernel
theorem dX8_sortOf_22 : decode cX8_sortOf 22 = .ok (.bipush 48, 2) := by decide +kernel
theorem dX8_sortOf_24 : decode cX8_sortOf 24 = .ok (.if_icmp .lt 13, 3) := by decide +kernel
theorem dX8_sortOf_27 : decode cX8_sortOf 27 = .ok (.iload_n 0, 1) := by decide +kernel
theorem dX8_sortOf_28 : decode cX8_sortOf 28 = .ok (.bipush 57, 2) := by decide +kernel
theorem dX8_sortOf_30 : decode cX8_sortOf 30 = .ok (.if_icmp .gt 7, 3) := by decide +kernel
theorem dX8_sortOf_33 : decode cX8_sortOf 33 = .ok (.iconst 2, 1) := by decide +kernel
theorem dX8_sortOf_34 : decode cX8_sortOf 34 = .ok (.goto 4, 3) := by decide +kernel
theorem dX8_sortOf_37 : decode cX8_sortOf 37 = .ok (.iconst 3, 1) := by decide +kernel
theorem dX8_sortOf_38 : decode cX8_sortOf 38 = .ok (.ireturn, 1) := by decide +kernel
theorem dX9_init_0 : decode cX9_init 0 = .ok (.aload_n 0, 1) := by decide +kernel
theorem dX9_init_1 : decode cX9_init 1 = .ok (.invokespecial 3, 3) := by decide +kernel
theorem dX9_init_4 : decode cX9_init 4 = .ok (.aload_n 0, 1) := by decide +kernel
theorem dX9_init_5 : decode cX9_init 5 = .ok (.bipush 60, 2) := by decide +kernel
theorem dX9_init_7 : decode cX9_init 7 = .ok (.newarray .int, 2) := by decide +kernel
theorem dX9_init_9 : decode cX9_init 9 = .ok (.putfield 11, 3) := by decide +kernel
theorem dX9_init_12 : decode cX9_init 12 = .ok (.aload_n 0, 1) := by decide +kernel
theorem dX9_init_13 : decode cX9_init 13 = .ok (.sipush 400, 3) := by decide +kernel
theorem dX9_init_16 : decode cX9_init 16 = .ok (.newarray .int, 2) := by decide +kernel
theorem dX9_init_18 : decode cX9_init 18 = .ok (.putfield 15, 3) := by decide +kernel
theorem dX9_init_21 : decode cX9_init 21 = .ok (.return_, 1) := by decide +kernel
theorem dX9_init__0 : decode cX9_init_ 0 = .ok (.aload_n 0, 1) := by decide +kernel
theorem dX9_init__1 : decode cX9_init_ 1 = .ok (.invokespecial 3, 3) := by decide +kernel
theorem dX9_init__4 : decode cX9_init_ 4 = .ok (.aload_n 0, 1) := by decide +kernel
theorem dX9_init__5 : decode cX9_init_ 5 = .ok (.aload_n 1, 1) := by decide +kernel
theorem dX9_init__6 : decode cX9_init_ 6 = .ok (.getfield 11, 3) := by decide +kernel
theorem dX9_init__9 : decode cX9_init_ 9 = .ok (.aload_n 1, 1) := by decide +kernel
theorem dX9_init__10 : decode cX9_init_ 10 = .ok (.getfield 18, 3) := by decide +kernel
theorem dX9_init__13 : decode cX9_init_ 13 = .ok (.iconst 5, 1) := by decide +kernel
theorem dX9_init__14 : decode cX9_init_ 14 = .ok (.imul, 1) := by decide +kernel
theorem dX9_init__15 : decode cX9_init_ 15 = .ok (.invokestatic 22, 3) := by decide +kernel
theorem dX9_init__18 : decode cX9_init_ 18 = .ok (.putfield 11, 3) := by decide +kernel
theorem dX9_init__21 : decode cX9_init_ 21 = .ok (.aload_n 0, 1) := by decide +kernel
theorem dX9_init__22 : decode cX9_init_ 22 = .ok (.aload_n 1, 1) := by decide +kernel
theorem dX9_init__23 : decode cX9_init_ 23 = .ok (.getfield 15, 3) := by decide +kernel
theorem dX9_init__26 : decode cX9_init_ 26 = .ok (.aload_n 1, 1) := by decide +kernel
theorem dX9_init__27 : decode cX9_init_ 27 = .ok (.getfield 28, 3) := by decide +kernel
theorem dX9_init__30 : decode cX9_init_ 30 = .ok (.invokestatic 22, 3) := by decide +kernel
theorem dX9_init__33 : decode cX9_init_ 33 = .ok (.putfield 15, 3) := by decide +kernel
theorem dX9_init__36 : decode cX9_init_ 36 = .ok (.aload_n 0, 1) := by decide +kernel
theorem dX9_init__37 : decode cX9_init_ 37 = .ok (.aload_n 1, 1) := by decide +kernel
theorem dX9_init__38 : decode cX9_init_ 38 = .ok (.getfield 18, 3) := by decide +kernel
theorem dX9_init__41 : decode cX9_init_ 41 = .ok (.putfield 18, 3) := by decide +kernel
theorem dX9_init__44 : decode cX9_init_ 44 = .ok (.aload_n 0, 1) := by decide +kernel
theorem dX9_init__45 : decode cX9_init_ 45 = .ok (.aload_n 1, 1) := by decide +kernel
theorem dX9_init__46 : decode cX9_init_ 46 = .ok (.getfield 28, 3) := by decide +kernel
theorem dX9_init__49 : decode cX9_init_ 49 = .ok (.putfield 28, 3) := by decide +kernel
theorem dX9_init__52 : decode cX9_init_ 52 = .ok (.return_, 1) := by decide +kernel
theorem dX9_trimmed_0 : decode cX9_trimmed 0 = .ok (.new 9, 3) := by decide +kernel
theorem dX9_trimmed_3 : decode cX9_trimmed 3 = .ok (.dup, 1) := by decide +kernel
theorem dX9_trimmed_4 : decode cX9_trimmed 4 = .ok (.aload_n 0, 1) := by decide +kernel
theorem dX9_trimmed_5 : decode cX9_trimmed 5 = .ok (.invokespecial 31, 3) := by decide +kernel
theorem dX9_trimmed_8 : decode cX9_trimmed 8 = .ok (.areturn, 1) := by decide +kernel
theorem dX9_clear_0 : decode cX9_clear 0 = .ok (.aload_n 0, 1) := by decide +kernel
theorem dX9_clear_1 : decode cX9_clear 1 = .ok (.iconst 0, 1) := by decide +kernel
theorem dX9_clear_2 : decode cX9_clear 2 = .ok (.putfield 18, 3) := by decide +kernel
theorem dX9_clear_5 : decode cX9_clear 5 = .ok (.aload_n 0, 1) := by decide +kernel
theorem dX9_clear_6 : decode cX9_clear 6 = .ok (.iconst 0, 1) := by decide +kernel
theorem dX9_clear_7 : decode cX9_clear 7 = .ok (.putfield 28, 3) := by decide +kernel
theorem dX9_clear_10 : decode cX9_clear 10 = .ok (.return_, 1) := by decide +kernel
theorem dX9_addClause_0 : decode cX9_addClause 0 = .ok (.aload_n 0, 1) := by decide +kernel
theorem dX9_addClause_1 : decode cX9_addClause 1 = .ok (.getfield 18, 3) := by decide +kernel
theorem dX9_addClause_4 : decode cX9_addClause 4 = .ok (.iconst 5, 1) := by decide +kernel
theorem dX9_addClause_5 : decode cX9_addClause 5 = .ok (.imul, 1) := by decide +kernel
theorem dX9_addClause_6 : decode cX9_addClause 6 = .ok (.istore_n 2, 1) := by decide +kernel
theorem dX9_addClause_7 : decode cX9_addClause 7 = .ok (.iload_n 2, 1) := by decide +kernel
theorem dX9_addClause_8 : decode cX9_addClause 8 = .ok (.iconst 5, 1) := by decide +kernel
theorem dX9_addClause_9 : decode cX9_addClause 9 = .ok (.iadd, 1) := by decide +kernel
theorem dX9_addClause_10 : decode cX9_addClause 10 = .ok (.aload_n 0, 1) := by decide +kernel
theorem dX9_addClause_11 : decode cX9_addClause 11 = .ok (.getfield 11, 3) := by decide +kernel
theorem dX9_addClause_14 : decode cX9_addClause 14 = .ok (.arraylength, 1) := by decide +kernel
theorem dX9_addClause_15 : decode cX9_addClause 15 = .ok (.if_icmp .gt 58, 3) := by decide +kernel
theorem dX9_addClause_18 : decode cX9_addClause 18 = .ok (.aload_n 0, 1) := by decide +kernel
theorem dX9_addClause_19 : decode cX9_addClause 19 = .ok (.getfield 11, 3) := by decide +kernel
theorem dX9_addClause_22 : decode cX9_addClause 22 = .ok (.iload_n 2, 1) := by decide +kernel
theorem dX9_addClause_23 : decode cX9_addClause 23 = .ok (.iconst 0, 1) := by decide +kernel
theorem dX9_addClause_24 : decode cX9_addClause 24 = .ok (.iadd, 1) := by decide +kernel
theorem dX9_addClause_25 : decode cX9_addClause 25 = .ok (.iload_n 1, 1) := by decide +kernel
theorem dX9_addClause_26 : decode cX9_addClause 26 = .ok (.iastore, 1) := by decide +kernel
theorem dX9_addClause_27 : decode cX9_addClause 27 = .ok (.aload_n 0, 1) := by decide +kernel
theorem dX9_addClause_28 : decode cX9_addClause 28 = .ok (.getfield 11, 3) := by decide +kernel
theorem dX9_addClause_31 : decode cX9_addClause 31 = .ok (.iload_n 2, 1) := by decide +kernel
theorem dX9_addClause_32 : decode cX9_addClause 32 = .ok (.iconst 1, 1) := by decide +kernel
theorem dX9_addClause_33 : decode cX9_addClause 33 = .ok (.iadd, 1) := by decide +kernel
theorem dX9_addClause_34 : decode cX9_addClause 34 = .ok (.iconst (-1), 1) := by decide +kernel
theorem dX9_addClause_35 : decode cX9_addClause 35 = .ok (.iastore, 1) := by decide +kernel
theorem dX9_addClause_36 : decode cX9_addClause 36 = .ok (.aload_n 0, 1) := by decide +kernel
theorem dX9_addClause_37 : decode cX9_addClause 37 = .ok (.getfield 11, 3) := by decide +kernel
theorem dX9_addClause_40 : decode cX9_addClause 40 = .ok (.iload_n 2, 1) := by decide +kernel
theorem dX9_addClause_41 : decode cX9_addClause 41 = .ok (.iconst 2, 1) := by decide +kernel
theorem dX9_addClause_42 : decode cX9_addClause 42 = .ok (.iadd, 1) := by decide +kernel
theorem dX9_addClause_43 : decode cX9_addClause 43 = .ok (.iconst (-1), 1) := by decide +kernel
theorem dX9_addClause_44 : decode cX9_addClause 44 = .ok (.iastore, 1) := by decide +kernel
theorem dX9_addClause_45 : decode cX9_addClause 45 = .ok (.aload_n 0, 1) := by decide +kernel
theorem dX9_addClause_46 : decode cX9_addClause 46 = .ok (.getfield 11, 3) := by decide +kernel
theorem dX9_addClause_49 : decode cX9_addClause 49 = .ok (.iload_n 2, 1) := by decide +kernel
theorem dX9_addClause_50 : decode cX9_addClause 50 = .ok (.iconst 3, 1) := by decide +kernel
theorem dX9_addClause_51 : decode cX9_addClause 51 = .ok (.iadd, 1) := by decide +kernel
theorem dX9_addClause_52 : decode cX9_addClause 52 = .ok (.iconst 1, 1) := by decide +kernel
theorem dX9_addClause_53 : decode cX9_addClause 53 = .ok (.iastore, 1) := by decide +kernel
theorem dX9_addClause_54 : decode cX9_addClause 54 = .ok (.aload_n 0, 1) := by decide +kernel
theorem dX9_addClause_55 : decode cX9_addClause 55 = .ok (.getfield 11, 3) := by decide +kernel
theorem dX9_addClause_58 : decode cX9_addClause 58 = .ok (.iload_n 2, 1) := by decide +kernel
theorem dX9_addClause_59 : decode cX9_addClause 59 = .ok (.iconst 4, 1) := by decide +kernel
theorem dX9_addClause_60 : decode cX9_addClause 60 = .ok (.iadd, 1) := by decide +kernel
theorem dX9_addClause_61 : decode cX9_addClause 61 = .ok (.iconst (-1), 1) := by decide +kernel
theorem dX9_addClause_62 : decode cX9_addClause 62 = .ok (.iastore, 1) := by decide +kernel
theorem dX9_addClause_63 : decode cX9_addClause 63 = .ok (.aload_n 0, 1) := by decide +kernel
theorem dX9_addClause_64 : decode cX9_addClause 64 = .ok (.dup, 1) := by decide +kernel
theorem dX9_addClause_65 : decode cX9_addClause 65 = .ok (.getfield 18, 3) := by decide +kernel
theorem dX9_addClause_68 : decode cX9_addClause 68 = .ok (.iconst 1, 1) := by decide +kernel
theorem dX9_addClause_69 : decode cX9_addClause 69 = .ok (.iadd, 1) := by decide +kernel
theorem dX9_addClause_70 : decode cX9_addClause 70 = .ok (.putfield 18, 3) := by decide +kernel
theorem dX9_addClause_73 : decode cX9_addClause 73 = .ok (.return_, 1) := by decide +kernel
theorem dX9_setSlot_0 : decode cX9_setSlot 0 = .ok (.aload_n 0, 1) := by decide +kernel
theorem dX9_setSlot_1 : decode cX9_setSlot 1 = .ok (.getfield 18, 3) := by decide +kernel
theorem dX9_setSlot_4 : decode cX9_setSlot 4 = .ok (.iconst 1, 1) := by decide +kernel
theorem dX9_setSlot_5 : decode cX9_setSlot 5 = .ok (.isub, 1) := by decide +kernel
theorem dX9_setSlot_6 : decode cX9_setSlot 6 = .ok (.iconst 5, 1) := by decide +kernel
theorem dX9_setSlot_7 : decode cX9_setSlot 7 = .ok (.imul, 1) := by decide +kernel
theorem dX9_setSlot_8 : decode cX9_setSlot 8 = .ok (.iload_n 1, 1) := by decide +kernel
theorem dX9_setSlot_9 : decode cX9_setSlot 9 = .ok (.iadd, 1) := by decide +kernel
theorem dX9_setSlot_10 : decode cX9_setSlot 10 = .ok (.istore_n 3, 1) := by decide +kernel
theorem dX9_setSlot_11 : decode cX9_setSlot 11 = .ok (.iload_n 3, 1) := by decide +kernel
theorem dX9_setSlot_12 : decode cX9_setSlot 12 = .ok (.ifCond .lt 19, 3) := by decide +kernel
theorem dX9_setSlot_15 : decode cX9_setSlot 15 = .ok (.iload_n 3, 1) := by decide +kernel
theorem dX9_setSlot_16 : decode cX9_setSlot 16 = .ok (.aload_n 0, 1) := by decide +kernel
theorem dX9_setSlot_17 : decode cX9_setSlot 17 = .ok (.getfield 11, 3) := by decide +kernel
theorem dX9_setSlot_20 : decode cX9_setSlot 20 = .ok (.arraylength, 1) := by decide +kernel
theorem dX9_setSlot_21 : decode cX9_setSlot 21 = .ok (.if_icmp .ge 10, 3) := by decide +kernel
theorem dX9_setSlot_24 : decode cX9_setSlot 24 = .ok (.aload_n 0, 1) := by decide +kernel
theorem dX9_setSlot_25 : decode cX9_setSlot 25 = .ok (.getfield 11, 3) := by decide +kernel
theorem dX9_setSlot_28 : decode cX9_setSlot 28 = .ok (.iload_n 3, 1) := by decide +kernel
theorem dX9_setSlot_29 : decode cX9_setSlot 29 = .ok (.iload_n 2, 1) := by decide +kernel
theorem dX9_setSlot_30 : decode cX9_setSlot 30 = .ok (.iastore, 1) := by decide +kernel
theorem dX9_setSlot_31 : decode cX9_setSlot 31 = .ok (.return_, 1) := by decide +kernel
theorem dX9_slot_0 : decode cX9_slot 0 = .ok (.iload_n 1, 1) := by decide +kernel
theorem dX9_slot_1 : decode cX9_slot 1 = .ok (.iconst 5, 1) := by decide +kernel
theorem dX9_slot_2 : decode cX9_slot 2 = .ok (.imul, 1) := by decide +kernel
theorem dX9_slot_3 : decode cX9_slot 3 = .ok (.iload_n 2, 1) := by decide +kernel
theorem dX9_slot_4 : decode cX9_slot 4 = .ok (.iadd, 1) := by decide +kernel
theorem dX9_slot_5 : decode cX9_slot 5 = .ok (.istore_n 3, 1) := by decide +kernel
theorem dX9_slot_6 : decode cX9_slot 6 = .ok (.iload_n 3, 1) := by decide +kernel
theorem dX9_slot_7 : decode cX9_slot 7 = .ok (.ifCond .lt 21, 3) := by decide +kernel
theorem dX9_slot_10 : decode cX9_slot 10 = .ok (.iload_n 3, 1) := by decide +kernel
theorem dX9_slot_11 : decode cX9_slot 11 = .ok (.aload_n 0, 1) := by decide +kernel
theorem dX9_slot_12 : decode cX9_slot 12 = .ok (.getfield 11, 3) := by decide +kernel
theorem dX9_slot_15 : decode cX9_slot 15 = .ok (.arraylength, 1) := by decide +kernel
theorem dX9_slot_16 : decode cX9_slot 16 = .ok (.if_icmp .ge 12, 3) := by decide +kernel
theorem dX9_slot_19 : decode cX9_slot 19 = .ok (.aload_n 0, 1) := by decide +kernel
theorem dX9_slot_20 : decode cX9_slot 20 = .ok (.getfield 11, 3) := by decide +kernel
theorem dX9_slot_23 : decode cX9_slot 23 = .ok (.iload_n 3, 1) := by decide +kernel
theorem dX9_slot_24 : decode cX9_slot 24 = .ok (.iaload, 1) := by decide +kernel
theorem dX9_slot_25 : decode cX9_slot 25 = .ok (.goto 4, 3) := by decide +kernel
theorem dX9_slot_28 : decode cX9_slot 28 = .ok (.iconst (-1), 1) := by decide +kernel
theorem dX9_slot_29 : decode cX9_slot 29 = .ok (.ireturn, 1) := by decide +kernel
theorem dX9_addStep_0 : decode cX9_addStep 0 = .ok (.aload_n 0, 1) := by decide +kernel
theorem dX9_addStep_1 : decode cX9_addStep 1 = .ok (.getfield 28, 3) := by decide +kernel
theorem dX9_addStep_4 : decode cX9_addStep 4 = .ok (.aload_n 0, 1) := by decide +kernel
theorem dX9_addStep_5 : decode cX9_addStep 5 = .ok (.getfield 15, 3) := by decide +kernel
theorem dX9_addStep_8 : decode cX9_addStep 8 = .ok (.arraylength, 1) := by decide +kernel
theorem dX9_addStep_9 : decode cX9_addStep 9 = .ok (.if_icmp .ge 27, 3) := by decide +kernel
theorem dX9_addStep_12 : decode cX9_addStep 12 = .ok (.aload_n 0, 1) := by decide +kernel
theorem dX9_addStep_13 : decode cX9_addStep 13 = .ok (.getfield 15, 3) := by decide +kernel
theorem dX9_addStep_16 : decode cX9_addStep 16 = .ok (.aload_n 0, 1) := by decide +kernel
theorem dX9_addStep_17 : decode cX9_addStep 17 = .ok (.getfield 28, 3) := by decide +kernel
theorem dX9_addStep_20 : decode cX9_addStep 20 = .ok (.iload_n 2, 1) := by decide +kernel
theorem dX9_addStep_21 : decode cX9_addStep 21 = .ok (.iconst 5, 1) := by decide +kernel
theorem dX9_addStep_22 : decode cX9_addStep 22 = .ok (.ishl, 1) := by decide +kernel
theorem dX9_addStep_23 : decode cX9_addStep 23 = .ok (.iload_n 1, 1) := by decide +kernel
theorem dX9_addStep_24 : decode cX9_addStep 24 = .ok (.ior, 1) := by decide +kernel
theorem dX9_addStep_25 : decode cX9_addStep 25 = .ok (.iastore, 1) := by decide +kernel
theorem dX9_addStep_26 : decode cX9_addStep 26 = .ok (.aload_n 0, 1) := by decide +kernel
theorem dX9_addStep_27 : decode cX9_addStep 27 = .ok (.dup, 1) := by decide +kernel
theorem dX9_addStep_28 : decode cX9_addStep 28 = .ok (.getfield 28, 3) := by decide +kernel
theorem dX9_addStep_31 : decode cX9_addStep 31 = .ok (.iconst 1, 1) := by decide +kernel
theorem dX9_addStep_32 : decode cX9_addStep 32 = .ok (.iadd, 1) := by decide +kernel
theorem dX9_addStep_33 : decode cX9_addStep 33 = .ok (.putfield 28, 3) := by decide +kernel
theorem dX9_addStep_36 : decode cX9_addStep 36 = .ok (.return_, 1) := by decide +kernel
theorem dX9_aimHere_0 : decode cX9_aimHere 0 = .ok (.iload_n 1, 1) := by decide +kernel
theorem dX9_aimHere_1 : decode cX9_aimHere 1 = .ok (.ifCond .lt 33, 3) := by decide +kernel
theorem dX9_aimHere_4 : decode cX9_aimHere 4 = .ok (.iload_n 1, 1) := by decide +kernel
theorem dX9_aimHere_5 : decode cX9_aimHere 5 = .ok (.aload_n 0, 1) := by decide +kernel
theorem dX9_aimHere_6 : decode cX9_aimHere 6 = .ok (.getfield 28, 3) := by decide +kernel
theorem dX9_aimHere_9 : decode cX9_aimHere 9 = .ok (.if_icmp .ge 25, 3) := by decide +kernel
theorem dX9_aimHere_12 : decode cX9_aimHere 12 = .ok (.aload_n 0, 1) := by decide +kernel
theorem dX9_aimHere_13 : decode cX9_aimHere 13 = .ok (.getfield 15, 3) := by decide +kernel
theorem dX9_aimHere_16 : decode cX9_aimHere 16 = .ok (.iload_n 1, 1) := by decide +kernel
theorem dX9_aimHere_17 : decode cX9_aimHere 17 = .ok (.aload_n 0, 1) := by decide +kernel
theorem dX9_aimHere_18 : decode cX9_aimHere 18 = .ok (.getfield 28, 3) := by decide +kernel
theorem dX9_aimHere_21 : decode cX9_aimHere 21 = .ok (.iconst 5, 1) := by decide +kernel
theorem dX9_aimHere_22 : decode cX9_aimHere 22 = .ok (.ishl, 1) := by decide +kernel
theorem dX9_aimHere_23 : decode cX9_aimHere 23 = .ok (.aload_n 0, 1) := by decide +kernel
theorem dX9_aimHere_24 : decode cX9_aimHere 24 = .ok (.getfield 15, 3) := by decide +kernel
theorem dX9_aimHere_27 : decode cX9_aimHere 27 = .ok (.iload_n 1, 1) := by decide +kernel
theorem dX9_aimHere_28 : decode cX9_aimHere 28 = .ok (.iaload, 1) := by decide +kernel
theorem dX9_aimHere_29 : decode cX9_aimHere 29 = .ok (.bipush 31, 2) := by decide +kernel
theorem dX9_aimHere_31 : decode cX9_aimHere 31 = .ok (.iand, 1) := by decide +kernel
theorem dX9_aimHere_32 : decode cX9_aimHere 32 = .ok (.ior, 1) := by decide +kernel
theorem dX9_aimHere_33 : decode cX9_aimHere 33 = .ok (.iastore, 1) := by decide +kernel
theorem dX9_aimHere_34 : decode cX9_aimHere 34 = .ok (.return_, 1) := by decide +kernel
theorem dX10_init_0 : decode cX10_init 0 = .ok (.aload_n 0, 1) := by decide +kernel
theorem dX10_init_1 : decode cX10_init 1 = .ok (.invokespecial 3, 3) := by decide +kernel
theorem dX10_init_4 : decode cX10_init 4 = .ok (.aload_n 0, 1) := by decide +kernel
theorem dX10_init_5 : decode cX10_init 5 = .ok (.new 9, 3) := by decide +kernel
theorem dX10_init_8 : decode cX10_init 8 = .ok (.dup, 1) := by decide +kernel
theorem dX10_init_9 : decode cX10_init 9 = .ok (.invokespecial 11, 3) := by decide +kernel
theorem dX10_init_12 : decode cX10_init 12 = .ok (.putfield 12, 3) := by decide +kernel
theorem dX10_init_15 : decode cX10_init 15 = .ok (.aload_n 0, 1) := by decide +kernel
theorem dX10_init_16 : decode cX10_init 16 = .ok (.new 16, 3) := by decide +kernel
theorem dX10_init_19 : decode cX10_init 19 = .ok (.dup, 1) := by decide +kernel
theorem dX10_init_20 : decode cX10_init 20 = .ok (.aload_n 0, 1) := by decide +kernel
theorem dX10_init_21 : decode cX10_init 21 = .ok (.getfield 12, 3) := by decide +kernel
theorem dX10_init_24 : decode cX10_init 24 = .ok (.invokespecial 18, 3) := by decide +kernel
theorem dX10_init_27 : decode cX10_init 27 = .ok (.putfield 21, 3) := by decide +kernel
theorem dX10_init_30 : decode cX10_init 30 = .ok (.aload_n 0, 1) := by decide +kernel
theorem dX10_init_31 : decode cX10_init 31 = .ok (.new 16, 3) := by decide +kernel
theorem dX10_init_34 : decode cX10_init 34 = .ok (.dup, 1) := by decide +kernel
theorem dX10_init_35 : decode cX10_init 35 = .ok (.aload_n 0, 1) := by decide +kernel
theorem dX10_init_36 : decode cX10_init 36 = .ok (.getfield 12, 3) := by decide +kernel
theorem dX10_init_39 : decode cX10_init 39 = .ok (.invokespecial 18, 3) := by decide +kernel
theorem dX10_init_42 : decode cX10_init 42 = .ok (.putfield 25, 3) := by decide +kernel
theorem dX10_init_45 : decode cX10_init 45 = .ok (.aload_n 0, 1) := by decide +kernel
theorem dX10_init_46 : decode cX10_init 46 = .ok (.aload_n 0, 1) := by decide +kernel
theorem dX10_init_47 : decode cX10_init 47 = .ok (.getfield 21, 3) := by decide +kernel
theorem dX10_init_50 : decode cX10_init 50 = .ok (.getfield 28, 3) := by decide +kernel
theorem dX10_init_53 : decode cX10_init 53 = .ok (.putfield 32, 3) := by decide +kernel
theorem dX10_init_56 : decode cX10_init 56 = .ok (.aload_n 0, 1) := by decide +kernel
theorem dX10_init_57 : decode cX10_init 57 = .ok (.new 33, 3) := by decide +kernel
theorem dX10_init_60 : decode cX10_init 60 = .ok (.dup, 1) := by decide +kernel
theorem dX10_init_61 : decode cX10_init 61 = .ok (.invokespecial 35, 3) := by decide +kernel
theorem dX10_init_64 : decode cX10_init 64 = .ok (.putfield 36, 3) := by decide +kernel
theorem dX10_init_67 : decode cX10_init 67 = .ok (.aload_n 0, 1) := by decide +kernel
theorem dX10_init_68 : decode cX10_init 68 = .ok (.iconst 2, 1) := by decide +kernel
theorem dX10_init_69 : decode cX10_init 69 = .ok (.anewarray 33, 3) := by decide +kernel
theorem dX10_init_72 : decode cX10_init 72 = .ok (.putfield 39, 3) := by decide +kernel
theorem dX10_init_75 : decode cX10_init 75 = .ok (.iconst 0, 1) := by decide +kernel
theorem dX10_init_76 : decode cX10_init 76 = .ok (.istore_n 1, 1) := by decide +kernel
theorem dX10_init_77 : decode cX10_init 77 = .ok (.iload_n 1, 1) := by decide +kernel
theorem dX10_init_78 : decode cX10_init 78 = .ok (.iconst 2, 1) := by decide +kernel
theorem dX10_init_79 : decode cX10_init 79 = .ok (.if_icmp .ge 22, 3) := by decide +kernel
theorem dX10_init_82 : decode cX10_init 82 = .ok (.aload_n 0, 1) := by decide +kernel
theorem dX10_init_83 : decode cX10_init 83 = .ok (.getfield 39, 3) := by decide +kernel
theorem dX10_init_86 : decode cX10_init 86 = .ok (.iload_n 1, 1) := by decide +kernel
theorem dX10_init_87 : decode cX10_init 87 = .ok (.new 33, 3) := by decide +kernel
theorem dX10_init_90 : decode cX10_init 90 = .ok (.dup, 1) := by decide +kernel
theorem dX10_init_91 : decode cX10_init 91 = .ok (.invokespecial 35, 3) := by decide +kernel
theorem dX10_init_94 : decode cX10_init 94 = .ok (.aastore, 1) := by decide +kernel
theorem dX10_init_95 : decode cX10_init 95 = .ok (.iinc 1 1, 3) := by decide +kernel
theorem dX10_init_98 : decode cX10_init 98 = .ok (.goto (-21), 3) := by decide +kernel
theorem dX10_init_101 : decode cX10_init 101 = .ok (.aload_n 0, 1) := by decide +kernel
theorem dX10_init_102 : decode cX10_init 102 = .ok (.iconst 2, 1) := by decide +kernel
theorem dX10_init_103 : decode cX10_init 103 = .ok (.newarray .boolean, 2) := by decide +kernel
theorem dX10_init_105 : decode cX10_init 105 = .ok (.putfield 43, 3) := by decide +kernel
theorem dX10_init_108 : decode cX10_init 108 = .ok (.aload_n 0, 1) := by decide +kernel
theorem dX10_init_109 : decode cX10_init 109 = .ok (.new 47, 3) := by decide +kernel
theorem dX10_init_112 : decode cX10_init 112 = .ok (.dup, 1) := by decide +kernel
theorem dX10_init_113 : decode cX10_init 113 = .ok (.aload_n 0, 1) := by decide +kernel
theorem dX10_init_114 : decode cX10_init 114 = .ok (.getfield 12, 3) := by decide +kernel
theorem dX10_init_117 : decode cX10_init 117 = .ok (.invokespecial 49, 3) := by decide +kernel
theorem dX10_init_120 : decode cX10_init 120 = .ok (.putfield 50, 3) := by decide +kernel
theorem dX10_init_123 : decode cX10_init 123 = .ok (.aload_n 0, 1) := by decide +kernel
theorem dX10_init_124 : decode cX10_init 124 = .ok (.new 54, 3) := by decide +kernel
theorem dX10_init_127 : decode cX10_init 127 = .ok (.dup, 1) := by decide +kernel
theorem dX10_init_128 : decode cX10_init 128 = .ok (.invokespecial 56, 3) := by decide +kernel
theorem dX10_init_131 : decode cX10_init 131 = .ok (.putfield 57, 3) := by decide +kernel
theorem dX10_init_134 : decode cX10_init 134 = .ok (.aload_n 0, 1) := by decide +kernel
theorem dX10_init_135 : decode cX10_init 135 = .ok (.new 61, 3) := by decide +kernel
theorem dX10_init_138 : decode cX10_init 138 = .ok (.dup, 1) := by decide +kernel
theorem dX10_init_139 : decode cX10_init 139 = .ok (.aload_n 0, 1) := by decide +kernel
theorem dX10_init_140 : decode cX10_init 140 = .ok (.getfield 57, 3) := by decide +kernel
theorem dX10_init_143 : decode cX10_init 143 = .ok (.invokespecial 63, 3) := by decide +kernel
theorem dX10_init_146 : decode cX10_init 146 = .ok (.putfield 66, 3) := by decide +kernel
theorem dX10_init_149 : decode cX10_init 149 = .ok (.aload_n 0, 1) := by decide +kernel
theorem dX10_init_150 : decode cX10_init 150 = .ok (.bipush 7, 2) := by decide +kernel
theorem dX10_init_152 : decode cX10_init 152 = .ok (.newarray .int, 2) := by decide +kernel
theorem dX10_init_154 : decode cX10_init 154 = .ok (.putfield 70, 3) := by decide +kernel
theorem dX10_init_157 : decode cX10_init 157 = .ok (.aload_n 0, 1) := by decide +kernel
theorem dX10_init_158 : decode cX10_init 158 = .ok (.iconst (-1), 1) := by decide +kernel
theorem dX10_init_159 : decode cX10_init 159 = .ok (.putfield 74, 3) := by decide +kernel
theorem dX10_init_162 : decode cX10_init 162 = .ok (.aload_n 0, 1) := by decide +kernel
theorem dX10_init_163 : decode cX10_init 163 = .ok (.iconst (-1), 1) := by decide +kernel
theorem dX10_init_164 : decode cX10_init 164 = .ok (.putfield 78, 3) := by decide +kernel
theorem dX10_init_167 : decode cX10_init 167 = .ok (.return_, 1) := by decide +kernel
theorem dX10_spark_0 : decode cX10_spark 0 = .ok (.iload_n 1, 1) := by decide +kernel
theorem dX10_spark_1 : decode cX10_spark 1 = .ok (.invokestatic 81, 3) := by decide +kernel
theorem dX10_spark_4 : decode cX10_spark 4 = .ok (.ifCond .eq 23, 3) := by decide +kernel
theorem dX10_spark_7 : decode cX10_spark 7 = .ok (.iload_n 2, 1) := by decide +kernel
theorem dX10_spark_8 : decode cX10_spark 8 = .ok (.iconst 1, 1) := by decide +kernel
theorem dX10_spark_9 : decode cX10_spark 9 = .ok (.bipush 9, 2) := by decide +kernel
theorem dX10_spark_11 : decode cX10_spark 11 = .ok (.invokestatic 85, 3) := by decide +kernel
theorem dX10_spark_14 : decode cX10_spark 14 = .ok (.ifCond .eq 13, 3) := by decide +kernel
theorem dX10_spark_17 : decode cX10_spark 17 = .ok (.iload_n 3, 1) := by decide +kernel
theorem dX10_spark_18 : decode cX10_spark 18 = .ok (.iconst 0, 1) := by decide +kernel
theorem dX10_spark_19 : decode cX10_spark 19 = .ok (.bipush 99, 2) := by decide +kernel
theorem dX10_spark_21 : decode cX10_spark 21 = .ok (.invokestatic 85, 3) := by decide +kernel
theorem dX10_spark_24 : decode cX10_spark 24 = .ok (.ifCond .ne 9, 3) := by decide +kernel
theorem dX10_spark_27 : decode cX10_spark 27 = .ok (.aload_n 0, 1) := by decide +kernel
theorem dX10_spark_28 : decode cX10_spark 28 = .ok (.iconst (-1), 1) := by decide +kernel
theorem dX10_spark_29 : decode cX10_spark 29 = .ok (.invokevirtual 89, 3) := by decide +kernel
theorem dX10_spark_32 : decode cX10_spark 32 = .ok (.ireturn, 1) := by decide +kernel
theorem dX10_spark_33 : decode cX10_spark 33 = .ok (.aload_n 0, 1) := by decide +kernel
theorem dX10_spark_34 : decode cX10_spark 34 = .ok (.getfield 32, 3) := by decide +kernel
theorem dX10_spark_37 : decode cX10_spark 37 = .ok (.getfield 93, 3) := by decide +kernel
theorem dX10_spark_40 : decode cX10_spark 40 = .ok (.iload_n 1, 1) := by decide +kernel
theorem dX10_spark_41 : decode cX10_spark 41 = .ok (.iaload, 1) := by decide +kernel
theorem dX10_spark_42 : decode cX10_spark 42 = .ok (.iconst 3, 1) := by decide +kernel
theorem dX10_spark_43 : decode cX10_spark 43 = .ok (.if_icmp .ne 10, 3) := by decide +kernel
theorem dX10_spark_46 : decode cX10_spark 46 = .ok (.aload_n 0, 1) := by decide +kernel
theorem dX10_spark_47 : decode cX10_spark 47 = .ok (.bipush (-3), 2) := by decide +kernel
theorem dX10_spark_49 : decode cX10_spark 49 = .ok (.invokevirtual 89, 3) := by decide +kernel
theorem dX10_spark_52 : decode cX10_spark 52 = .ok (.ireturn, 1) := by decide +kernel
theorem dX10_spark_53 : decode cX10_spark 53 = .ok (.aload_n 0, 1) := by decide +kernel
theorem dX10_spark_54 : decode cX10_spark 54 = .ok (.getfield 32, 3) := by decide +kernel
theorem dX10_spark_57 : decode cX10_spark 57 = .ok (.getfield 96, 3) := by decide +kernel
theorem dX10_spark_60 : decode cX10_spark 60 = .ok (.bipush 6, 2) := by decide +kernel
theorem dX10_spark_62 : decode cX10_spark 62 = .ok (.if_icmp .lt 10, 3) := by decide +kernel
theorem dX10_spark_65 : decode cX10_spark 65 = .ok (.aload_n 0, 1) := by decide +kernel
theorem dX10_spark_66 : decode cX10_spark 66 = .ok (.bipush (-5), 2) := by decide +kernel
theorem dX10_spark_68 : decode cX10_spark 68 = .ok (.invokevirtual 89, 3) := by decide +kernel
theorem dX10_spark_71 : decode cX10_spark 71 = .ok (.ireturn, 1) := by decide +kernel
theorem dX10_spark_72 : decode cX10_spark 72 = .ok (.aload_n 0, 1) := by decide +kernel
theorem dX10_spark_73 : decode cX10_spark 73 = .ok (.getfield 21, 3) := by decide +kernel
theorem dX10_spark_76 : decode cX10_spark 76 = .ok (.getfield 99, 3) := by decide +kernel
theorem dX10_spark_79 : decode cX10_spark 79 = .ok (.invokevirtual 103, 3) := by decide +kernel
theorem dX10_spark_82 : decode cX10_spark 82 = .ok (.aload_n 0, 1) := by decide +kernel
theorem dX10_spark_83 : decode cX10_spark 83 = .ok (.aload_n 0, 1) := by decide +kernel
theorem dX10_spark_84 : decode cX10_spark 84 = .ok (.getfield 32, 3) := by decide +kernel
theorem dX10_spark_87 : decode cX10_spark 87 = .ok (.iload_n 1, 1) := by decide +kernel
theorem dX10_spark_88 : decode cX10_spark 88 = .ok (.iload_n 2, 1) := by decide +kernel
theorem dX10_spark_89 : decode cX10_spark 89 = .ok (.iload_n 3, 1) := by decide +kernel
theorem dX10_spark_90 : decode cX10_spark 90 = .ok (.invokevirtual 108, 3) := by decide +kernel
theorem dX10_spark_93 : decode cX10_spark 93 = .ok (.invokevirtual 112, 3) := by decide +kernel
theorem dX10_spark_96 : decode cX10_spark 96 = .ok (.ireturn, 1) := by decide +kernel
theorem dX10_of_0 : decode cX10_of 0 = .ok (.aload_n 0, 1) := by decide +kernel
theorem dX10_of_1 : decode cX10_of 1 = .ok (.getfield 32, 3) := by decide +kernel
theorem dX10_of_4 : decode cX10_of 4 = .ok (.iload_n 1, 1) := by decide +kernel
theorem dX10_of_5 : decode cX10_of 5 = .ok (.invokevirtual 115, 3) := by decide +kernel
theorem dX10_of_8 : decode cX10_of 8 = .ok (.ifCond .ne 6, 3) := by decide +kernel
theorem dX10_of_11 : decode cX10_of 11 = .ok (.bipush (-100), 2) := by decide +kernel
theorem dX10_of_13 : decode cX10_of 13 = .ok (.ireturn, 1) := by decide +kernel
theorem dX10_of_14 : decode cX10_of 14 = .ok (.aload_n 0, 1) := by decide +kernel
theorem dX10_of_15 : decode cX10_of 15 = .ok (.getfield 32, 3) := by decide +kernel
theorem dX10_of_18 : decode cX10_of 18 = .ok (.getfield 118, 3) := by decide +kernel
theorem dX10_of_21 : decode cX10_of 21 = .ok (.iload_n 1, 1) := by decide +kernel
theorem dX10_of_22 : decode cX10_of 22 = .ok (.iaload, 1) := by decide +kernel
theorem dX10_of_23 : decode cX10_of 23 = .ok (.iconst (-1), 1) := by decide +kernel
theorem dX10_of_24 : decode cX10_of 24 = .ok (.if_icmp .ne 7, 3) := by decide +kernel
theorem dX10_of_27 : decode cX10_of 27 = .ok (.iconst 1, 1) := by decide +kernel
theorem dX10_of_28 : decode cX10_of 28 = .ok (.goto 4, 3) := by decide +kernel
theorem dX10_of_31 : decode cX10_of 31 = .ok (.iconst 0, 1) := by decide +kernel
theorem dX10_of_32 : decode cX10_of 32 = .ok (.istore_n 3, 1) := by decide +kernel
theorem dX10_of_33 : decode cX10_of 33 = .ok (.iload_n 2, 1) := by decide +kernel
theorem dX10_of_34 : decode cX10_of 34 = .ok (.tableswitch 121 0 5 #[38, 48, 58, 68, 90, 112], 38) := by decide +kernel
theorem dX10_of_72 : decode cX10_of 72 = .ok (.aload_n 0, 1) := by decide +kernel
theorem dX10_of_73 : decode cX10_of 73 = .ok (.getfield 32, 3) := by decide +kernel
theorem dX10_of_76 : decode cX10_of 76 = .ok (.getfield 118, 3) := by decide +kernel
theorem dX10_of_79 : decode cX10_of 79 = .ok (.iload_n 1, 1) := by decide +kernel
theorem dX10_of_80 : decode cX10_of 80 = .ok (.iaload, 1) := by decide +kernel
theorem dX10_of_81 : decode cX10_of 81 = .ok (.ireturn, 1) := by decide +kernel
theorem dX10_of_82 : decode cX10_of 82 = .ok (.aload_n 0, 1) := by decide +kernel
theorem dX10_of_83 : decode cX10_of 83 = .ok (.getfield 32, 3) := by decide +kernel
theorem dX10_of_86 : decode cX10_of 86 = .ok (.getfield 121, 3) := by decide +kernel
theorem dX10_of_89 : decode cX10_of 89 = .ok (.iload_n 1, 1) := by decide +kernel
theorem dX10_of_90 : decode cX10_of 90 = .ok (.iaload, 1) := by decide +kernel
theorem dX10_of_91 : decode cX10_of 91 = .ok (.ireturn, 1) := by decide +kernel
theorem dX10_of_92 : decode cX10_of 92 = .ok (.aload_n 0, 1) := by decide +kernel
theorem dX10_of_93 : decode cX10_of 93 = .ok (.getfield 32, 3) := by decide +kernel
theorem dX10_of_96 : decode cX10_of 96 = .ok (.getfield 124, 3) := by decide +kernel
theorem dX10_of_99 : decode cX10_of 99 = .ok (.iload_n 1, 1) := by decide +kernel
theorem dX10_of_100 : decode cX10_of 100 = .ok (.iaload, 1) := by decide +kernel
theorem dX10_of_101 : decode cX10_of 101 = .ok (.ireturn, 1) := by decide +kernel
theorem dX10_of_102 : decode cX10_of 102 = .ok (.iload_n 3, 1) := by decide +kernel
theorem dX10_of_103 : decode cX10_of 103 = .ok (.ifCond .eq 8, 3) := by decide +kernel
theorem dX10_of_106 : decode cX10_of 106 = .ok (.bipush (-100), 2) := by decide +kernel
theorem dX10_of_108 : decode cX10_of 108 = .ok (.goto 15, 3) := by decide +kernel
theorem dX10_of_111 : decode cX10_of 111 = .ok (.aload_n 0, 1) := by decide +kernel
theorem dX10_of_112 : decode cX10_of 112 = .ok (.getfield 12, 3) := by decide +kernel
theorem dX10_of_115 : decode cX10_of 115 = .ok (.aload_n 0, 1) := by decide +kernel
theorem dX10_of_116 : decode cX10_of 116 = .ok (.getfield 32, 3) := by decide +kernel
theorem dX10_of_119 : decode cX10_of 119 = .ok (.iload_n 1, 1) := by decide +kernel
theorem dX10_of_120 : decode cX10_of 120 = .ok (.invokevirtual 127, 3) := by decide +kernel
theorem dX10_of_123 : decode cX10_of 123 = .ok (.ireturn, 1) := by decide +kernel
theorem dX10_of_124 : decode cX10_of 124 = .ok (.iload_n 3, 1) := by decide +kernel
theorem dX10_of_125 : decode cX10_of 125 = .ok (.ifCond .eq 8, 3) := by decide +kernel
theorem dX10_of_128 : decode cX10_of 128 = .ok (.bipush (-100), 2) := by decide +kernel
theorem dX10_of_130 : decode cX10_of 130 = .ok (.goto 15, 3) := by decide +kernel
theorem dX10_of_133 : decode cX10_of 133 = .ok (.aload_n 0, 1) := by decide +kernel
theorem dX10_of_134 : decode cX10_of 134 = .ok (.getfield 12, 3) := by decide +kernel
theorem dX10_of_137 : decode cX10_of 137 = .ok (.aload_n 0, 1) := by decide +kernel
theorem dX10_of_138 : decode cX10_of 138 = .ok (.getfield 32, 3) := by decide +kernel
theorem dX10_of_141 : decode cX10_of 141 = .ok (.iload_n 1, 1) := by decide +kernel
theorem dX10_of_142 : decode cX10_of 142 = .ok (.invokevirtual 131, 3) := by decide +kernel
theorem dX10_of_145 : decode cX10_of 145 = .ok (.ireturn, 1) := by decide +kernel
theorem dX10_of_146 : decode cX10_of 146 = .ok (.aload_n 0, 1) := by decide +kernel
theorem dX10_of_147 : decode cX10_of 147 = .ok (.getfield 32, 3) := by decide +kernel
theorem dX10_of_150 : decode cX10_of 150 = .ok (.iload_n 1, 1) := by decide +kernel
theorem dX10_of_151 : decode cX10_of 151 = .ok (.invokevirtual 134, 3) := by decide +kernel
theorem dX10_of_154 : decode cX10_of 154 = .ok (.ireturn, 1) := by decide +kernel
theorem dX10_of_155 : decode cX10_of 155 = .ok (.bipush (-100), 2) := by decide +kernel
theorem dX10_of_157 : decode cX10_of 157 = .ok (.ireturn, 1) := by decide +kernel
theorem dX10_person_0 : decode cX10_person 0 = .ok (.iload_n 1, 1) := by decide +kernel
theorem dX10_person_1 : decode cX10_person 1 = .ok (.invokestatic 81, 3) := by decide +kernel
theorem dX10_person_4 : decode cX10_person 4 = .ok (.ifCond .eq 13, 3) := by decide +kernel
theorem dX10_person_7 : decode cX10_person 7 = .ok (.iload_n 2, 1) := by decide +kernel
theorem dX10_person_8 : decode cX10_person 8 = .ok (.iconst 0, 1) := by decide +kernel
theorem dX10_person_9 : decode cX10_person 9 = .ok (.bipush 8, 2) := by decide +kernel
theorem dX10_person_11 : decode cX10_person 11 = .ok (.invokestatic 85, 3) := by decide +kernel
theorem dX10_person_14 : decode cX10_person 14 = .ok (.ifCond .ne 9, 3) := by decide +kernel
theorem dX10_person_17 : decode cX10_person 17 = .ok (.aload_n 0, 1) := by decide +kernel
theorem dX10_person_18 : decode cX10_person 18 = .ok (.iconst (-1), 1) := by decide +kernel
theorem dX10_person_19 : decode cX10_person 19 = .ok (.invokevirtual 89, 3) := by decide +kernel
theorem dX10_person_22 : decode cX10_person 22 = .ok (.ireturn, 1) := by decide +kernel
theorem dX10_person_23 : decode cX10_person 23 = .ok (.aload_n 0, 1) := by decide +kernel
theorem dX10_person_24 : decode cX10_person 24 = .ok (.getfield 32, 3) := by decide +kernel
theorem dX10_person_27 : decode cX10_person 27 = .ok (.getfield 93, 3) := by decide +kernel
theorem dX10_person_30 : decode cX10_person 30 = .ok (.iload_n 1, 1) := by decide +kernel
theorem dX10_person_31 : decode cX10_person 31 = .ok (.iaload, 1) := by decide +kernel
theorem dX10_person_32 : decode cX10_person 32 = .ok (.iconst 3, 1) := by decide +kernel
theorem dX10_person_33 : decode cX10_person 33 = .ok (.if_icmp .ne 10, 3) := by decide +kernel
theorem dX10_person_36 : decode cX10_person 36 = .ok (.aload_n 0, 1) := by decide +kernel
theorem dX10_person_37 : decode cX10_person 37 = .ok (.bipush (-3), 2) := by decide +kernel
theorem dX10_person_39 : decode cX10_person 39 = .ok (.invokevirtual 89, 3) := by decide +kernel
theorem dX10_person_42 : decode cX10_person 42 = .ok (.ireturn, 1) := by decide +kernel
theorem dX10_person_43 : decode cX10_person 43 = .ok (.aload_n 0, 1) := by decide +kernel
theorem dX10_person_44 : decode cX10_person 44 = .ok (.getfield 32, 3) := by decide +kernel
theorem dX10_person_47 : decode cX10_person 47 = .ok (.getfield 137, 3) := by decide +kernel
theorem dX10_person_50 : decode cX10_person 50 = .ok (.iconst 5, 1) := by decide +kernel
theorem dX10_person_51 : decode cX10_person 51 = .ok (.if_icmp .lt 10, 3) := by decide +kernel
theorem dX10_person_54 : decode cX10_person 54 = .ok (.aload_n 0, 1) := by decide +kernel
theorem dX10_person_55 : decode cX10_person 55 = .ok (.bipush (-5), 2) := by decide +kernel
theorem dX10_person_57 : decode cX10_person 57 = .ok (.invokevirtual 89, 3) := by decide +kernel
theorem dX10_person_60 : decode cX10_person 60 = .ok (.ireturn, 1) := by decide +kernel
theorem dX10_person_61 : decode cX10_person 61 = .ok (.aload_n 0, 1) := by decide +kernel
theorem dX10_person_62 : decode cX10_person 62 = .ok (.getfield 21, 3) := by decide +kernel
theorem dX10_person_65 : decode cX10_person 65 = .ok (.getfield 99, 3) := by decide +kernel
theorem dX10_person_68 : decode cX10_person 68 = .ok (.invokevirtual 103, 3) := by decide +kernel
theorem dX10_person_71 : decode cX10_person 71 = .ok (.aload_n 0, 1) := by decide +kernel
theorem dX10_person_72 : decode cX10_person 72 = .ok (.aload_n 0, 1) := by decide +kernel
theorem dX10_person_73 : decode cX10_person 73 = .ok (.getfield 32, 3) := by decide +kernel
theorem dX10_person_76 : decode cX10_person 76 = .ok (.iload_n 1, 1) := by decide +kernel
theorem dX10_person_77 : decode cX10_person 77 = .ok (.iload_n 2, 1) := by decide +kernel
theorem dX10_person_78 : decode cX10_person 78 = .ok (.invokevirtual 140, 3) := by decide +kernel
theorem dX10_person_81 : decode cX10_person 81 = .ok (.invokevirtual 112, 3) := by decide +kernel
theorem dX10_person_84 : decode cX10_person 84 = .ok (.ireturn, 1) := by decide +kernel
theorem dX10_at_0 : decode cX10_at 0 = .ok (.aload_n 0, 1) := by decide +kernel
theorem dX10_at_1 : decode cX10_at 1 = .ok (.getfield 32, 3) := by decide +kernel
theorem dX10_at_4 : decode cX10_at 4 = .ok (.iload_n 1, 1) := by decide +kernel
theorem dX10_at_5 : decode cX10_at 5 = .ok (.invokevirtual 144, 3) := by decide +kernel
theorem dX10_at_8 : decode cX10_at 8 = .ok (.ifCond .ne 5, 3) := by decide +kernel
theorem dX10_at_11 : decode cX10_at 11 = .ok (.iconst (-1), 1) := by decide +kernel
theorem dX10_at_12 : decode cX10_at 12 = .ok (.ireturn, 1) := by decide +kernel
theorem dX10_at_13 : decode cX10_at 13 = .ok (.iload_n 2, 1) := by decide +kernel
theorem dX10_at_14 : decode cX10_at 14 = .ok (.tableswitch 56 0 2 #[26, 36, 46], 26) := by decide +kernel
theorem dX10_at_40 : decode cX10_at 40 = .ok (.aload_n 0, 1) := by decide +kernel
theorem dX10_at_41 : decode cX10_at 41 = .ok (.getfield 32, 3) := by decide +kernel
theorem dX10_at_44 : decode cX10_at 44 = .ok (.getfield 147, 3) := by decide +kernel
theorem dX10_at_47 : decode cX10_at 47 = .ok (.iload_n 1, 1) := by decide +kernel
theorem dX10_at_48 : decode cX10_at 48 = .ok (.iaload, 1) := by decide +kernel
theorem dX10_at_49 : decode cX10_at 49 = .ok (.ireturn, 1) := by decide +kernel
theorem dX10_at_50 : decode cX10_at 50 = .ok (.aload_n 0, 1) := by decide +kernel
theorem dX10_at_51 : decode cX10_at 51 = .ok (.getfield 32, 3) := by decide +kernel
theorem dX10_at_54 : decode cX10_at 54 = .ok (.getfield 150, 3) := by decide +kernel
theorem dX10_at_57 : decode cX10_at 57 = .ok (.iload_n 1, 1) := by decide +kernel
theorem dX10_at_58 : decode cX10_at 58 = .ok (.iaload, 1) := by decide +kernel
theorem dX10_at_59 : decode cX10_at 59 = .ok (.ireturn, 1) := by decide +kernel
theorem dX10_at_60 : decode cX10_at 60 = .ok (.aload_n 0, 1) := by decide +kernel
theorem dX10_at_61 : decode cX10_at 61 = .ok (.getfield 32, 3) := by decide +kernel
theorem dX10_at_64 : decode cX10_at 64 = .ok (.getfield 153, 3) := by decide +kernel
theorem dX10_at_67 : decode cX10_at 67 = .ok (.iload_n 1, 1) := by decide +kernel
theorem dX10_at_68 : decode cX10_at 68 = .ok (.iaload, 1) := by decide +kernel
theorem dX10_at_69 : decode cX10_at 69 = .ok (.ireturn, 1) := by decide +kernel
theorem dX10_at_70 : decode cX10_at 70 = .ok (.iconst (-1), 1) := by decide +kernel
theorem dX10_at_71 : decode cX10_at 71 = .ok (.ireturn, 1) := by decide +kernel
theorem dX10_knows_0 : decode cX10_knows 0 = .ok (.iload_n 2, 1) := by decide +kernel
theorem dX10_knows_1 : decode cX10_knows 1 = .ok (.iconst 0, 1) := by decide +kernel
theorem dX10_knows_2 : decode cX10_knows 2 = .ok (.bipush 63, 2) := by decide +kernel
theorem dX10_knows_4 : decode cX10_knows 4 = .ok (.invokestatic 85, 3) := by decide +kernel
theorem dX10_knows_7 : decode cX10_knows 7 = .ok (.ifCond .ne 9, 3) := by decide +kernel
theorem dX10_knows_10 : decode cX10_knows 10 = .ok (.aload_n 0, 1) := by decide +kernel
theorem dX10_knows_11 : decode cX10_knows 11 = .ok (.iconst (-1), 1) := by decide +kernel
theorem dX10_knows_12 : decode cX10_knows 12 = .ok (.invokevirtual 89, 3) := by decide +kernel
theorem dX10_knows_15 : decode cX10_knows 15 = .ok (.ireturn, 1) := by decide +kernel
theorem dX10_knows_16 : decode cX10_knows 16 = .ok (.aload_n 0, 1) := by decide +kernel
theorem dX10_knows_17 : decode cX10_knows 17 = .ok (.getfield 32, 3) := by decide +kernel
theorem dX10_knows_20 : decode cX10_knows 20 = .ok (.iload_n 1, 1) := by decide +kernel
theorem dX10_knows_21 : decode cX10_knows 21 = .ok (.invokevirtual 144, 3) := by decide +kernel
theorem dX10_knows_24 : decode cX10_knows 24 = .ok (.ifCond .ne 10, 3) := by decide +kernel
theorem dX10_knows_27 : decode cX10_knows 27 = .ok (.aload_n 0, 1) := by decide +kernel
theorem dX10_knows_28 : decode cX10_knows 28 = .ok (.bipush (-2), 2) := by decide +kernel
theorem dX10_knows_30 : decode cX10_knows 30 = .ok (.invokevirtual 89, 3) := by decide +kernel
theorem dX10_knows_33 : decode cX10_knows 33 = .ok (.ireturn, 1) := by decide +kernel
theorem dX10_knows_34 : decode cX10_knows 34 = .ok (.aload_n 0, 1) := by decide +kernel
theorem dX10_knows_35 : decode cX10_knows 35 = .ok (.getfield 32, 3) := by decide +kernel
theorem dX10_knows_38 : decode cX10_knows 38 = .ok (.getfield 153, 3) := by decide +kernel
theorem dX10_knows_41 : decode cX10_knows 41 = .ok (.iload_n 1, 1) := by decide +kernel
theorem dX10_knows_42 : decode cX10_knows 42 = .ok (.iaload, 1) := by decide +kernel
theorem dX10_knows_43 : decode cX10_knows 43 = .ok (.istore_n 3, 1) := by decide +kernel
theorem dX10_knows_44 : decode cX10_knows 44 = .ok (.aload_n 0, 1) := by decide +kernel
theorem dX10_knows_45 : decode cX10_knows 45 = .ok (.getfield 32, 3) := by decide +kernel
theorem dX10_knows_48 : decode cX10_knows 48 = .ok (.getfield 153, 3) := by decide +kernel
theorem dX10_knows_51 : decode cX10_knows 51 = .ok (.iload_n 1, 1) := by decide +kernel
theorem dX10_knows_52 : decode cX10_knows 52 = .ok (.iload_n 2, 1) := by decide +kernel
theorem dX10_knows_53 : decode cX10_knows 53 = .ok (.iastore, 1) := by decide +kernel
theorem dX10_knows_54 : decode cX10_knows 54 = .ok (.aload_n 0, 1) := by decide +kernel
theorem dX10_knows_55 : decode cX10_knows 55 = .ok (.iload_n 3, 1) := by decide +kernel
theorem dX10_knows_56 : decode cX10_knows 56 = .ok (.invokevirtual 112, 3) := by decide +kernel
theorem dX10_knows_59 : decode cX10_knows 59 = .ok (.ireturn, 1) := by decide +kernel
theorem dX10_asks_0 : decode cX10_asks 0 = .ok (.aload_n 0, 1) := by decide +kernel
theorem dX10_asks_1 : decode cX10_asks 1 = .ok (.getfield 32, 3) := by decide +kernel
theorem dX10_asks_4 : decode cX10_asks 4 = .ok (.iload_n 1, 1) := by decide +kernel
theorem dX10_asks_5 : decode cX10_asks 5 = .ok (.invokevirtual 156, 3) := by decide +kernel
theorem dX10_asks_8 : decode cX10_asks 8 = .ok (.ifCond .eq 14, 3) := by decide +kernel
theorem dX10_asks_11 : decode cX10_asks 11 = .ok (.aload_n 0, 1) := by decide +kernel
theorem dX10_asks_12 : decode cX10_asks 12 = .ok (.getfield 32, 3) := by decide +kernel
theorem dX10_asks_15 : decode cX10_asks 15 = .ok (.iload_n 2, 1) := by decide +kernel
theorem dX10_asks_16 : decode cX10_asks 16 = .ok (.invokevirtual 144, 3) := by decide +kernel
theorem dX10_asks_19 : decode cX10_asks 19 = .ok (.ifCond .ne 5, 3) := by decide +kernel
theorem dX10_asks_22 : decode cX10_asks 22 = .ok (.iconst (-1), 1) := by decide +kernel
theorem dX10_asks_23 : decode cX10_asks 23 = .ok (.ireturn, 1) := by decide +kernel
theorem dX10_asks_24 : decode cX10_asks 24 = .ok (.aload_n 0, 1) := by decide +kernel
theorem dX10_asks_25 : decode cX10_asks 25 = .ok (.getfield 32, 3) := by decide +kernel
theorem dX10_asks_28 : decode cX10_asks 28 = .ok (.getfield 118, 3) := by decide +kernel
theorem dX10_asks_31 : decode cX10_asks 31 = .ok (.iload_n 1, 1) := by decide +kernel
theorem dX10_asks_32 : decode cX10_asks 32 = .ok (.iaload, 1) := by decide +kernel
theorem dX10_asks_33 : decode cX10_asks 33 = .ok (.istore 4, 2) := by decide +kernel
theorem dX10_asks_35 : decode cX10_asks 35 = .ok (.iload_n 3, 1) := by decide +kernel
theorem dX10_asks_36 : decode cX10_asks 36 = .ok (.tableswitch 91 0 2 #[28, 43, 67], 28) := by decide +kernel
theorem dX10_asks_64 : decode cX10_asks 64 = .ok (.iload 4, 2) := by decide +kernel
theorem dX10_asks_66 : decode cX10_asks 66 = .ok (.aload_n 0, 1) := by decide +kernel
theorem dX10_asks_67 : decode cX10_asks 67 = .ok (.getfield 32, 3) := by decide +kernel
theorem dX10_asks_70 : decode cX10_asks 70 = .ok (.getfield 147, 3) := by decide +kernel
theorem dX10_asks_73 : decode cX10_asks 73 = .ok (.iload_n 2, 1) := by decide +kernel
theorem dX10_asks_74 : decode cX10_asks 74 = .ok (.iaload, 1) := by decide +kernel
theorem dX10_asks_75 : decode cX10_asks 75 = .ok (.invokestatic 159, 3) := by decide +kernel
theorem dX10_asks_78 : decode cX10_asks 78 = .ok (.ireturn, 1) := by decide +kernel
theorem dX10_asks_79 : decode cX10_asks 79 = .ok (.aload_n 0, 1) := by decide +kernel
theorem dX10_asks_80 : decode cX10_asks 80 = .ok (.getfield 12, 3) := by decide +kernel
theorem dX10_asks_83 : decode cX10_asks 83 = .ok (.aload_n 0, 1) := by decide +kernel
theorem dX10_asks_84 : decode cX10_asks 84 = .ok (.getfield 32, 3) := by decide +kernel
theorem dX10_asks_87 : decode cX10_asks 87 = .ok (.iload_n 1, 1) := by decide +kernel
theorem dX10_asks_88 : decode cX10_asks 88 = .ok (.iload 4, 2) := by decide +kernel
theorem dX10_asks_90 : decode cX10_asks 90 = .ok (.iload_n 2, 1) := by decide +kernel
theorem dX10_asks_91 : decode cX10_asks 91 = .ok (.invokevirtual 162, 3) := by decide +kernel
theorem dX10_asks_94 : decode cX10_asks 94 = .ok (.ifCond .eq 7, 3) := by decide +kernel
theorem dX10_asks_97 : decode cX10_asks 97 = .ok (.iconst 1, 1) := by decide +kernel
theorem dX10_asks_98 : decode cX10_asks 98 = .ok (.goto 4, 3) := by decide +kernel
theorem dX10_asks_101 : decode cX10_asks 101 = .ok (.iconst 0, 1) := by decide +kernel
theorem dX10_asks_102 : decode cX10_asks 102 = .ok (.ireturn, 1) := by decide +kernel
theorem dX10_asks_103 : decode cX10_asks 103 = .ok (.aload_n 0, 1) := by decide +kernel
theorem dX10_asks_104 : decode cX10_asks 104 = .ok (.getfield 12, 3) := by decide +kernel
theorem dX10_asks_107 : decode cX10_asks 107 = .ok (.aload_n 0, 1) := by decide +kernel
theorem dX10_asks_108 : decode cX10_asks 108 = .ok (.getfield 32, 3) := by decide +kernel
theorem dX10_asks_111 : decode cX10_asks 111 = .ok (.iload_n 1, 1) := by decide +kernel
theorem dX10_asks_112 : decode cX10_asks 112 = .ok (.iload 4, 2) := by decide +kernel
theorem dX10_asks_114 : decode cX10_asks 114 = .ok (.iload_n 2, 1) := by decide +kernel
theorem dX10_asks_115 : decode cX10_asks 115 = .ok (.invokevirtual 166, 3) := by decide +kernel
theorem dX10_asks_118 : decode cX10_asks 118 = .ok (.ifCond .eq 7, 3) := by decide +kernel
theorem dX10_asks_121 : decode cX10_asks 121 = .ok (.iconst 1, 1) := by decide +kernel
theorem dX10_asks_122 : decode cX10_asks 122 = .ok (.goto 4, 3) := by decide +kernel
theorem dX10_asks_125 : decode cX10_asks 125 = .ok (.iconst 0, 1) := by decide +kernel
theorem dX10_asks_126 : decode cX10_asks 126 = .ok (.ireturn, 1) := by decide +kernel
theorem dX10_asks_127 : decode cX10_asks 127 = .ok (.iconst (-1), 1) := by decide +kernel
theorem dX10_asks_128 : decode cX10_asks 128 = .ok (.ireturn, 1) := by decide +kernel
theorem dX10_floor_0 : decode cX10_floor 0 = .ok (.iload_n 1, 1) := by decide +kernel
theorem dX10_floor_1 : decode cX10_floor 1 = .ok (.invokestatic 81, 3) := by decide +kernel
theorem dX10_floor_4 : decode cX10_floor 4 = .ok (.ifCond .eq 15, 3) := by decide +kernel
theorem dX10_floor_7 : decode cX10_floor 7 = .ok (.aload_n 0, 1) := by decide +kernel
theorem dX10_floor_8 : decode cX10_floor 8 = .ok (.getfield 32, 3) := by decide +kernel
theorem dX10_floor_11 : decode cX10_floor 11 = .ok (.getfield 93, 3) := by decide +kernel
theorem dX10_floor_14 : decode cX10_floor 14 = .ok (.iload_n 1, 1) := by decide +kernel
theorem dX10_floor_15 : decode cX10_floor 15 = .ok (.iaload, 1) := by decide +kernel
theorem dX10_floor_16 : decode cX10_floor 16 = .ok (.goto 4, 3) := by decide +kernel
theorem dX10_floor_19 : decode cX10_floor 19 = .ok (.iconst (-1), 1) := by decide +kernel
theorem dX10_floor_20 : decode cX10_floor 20 = .ok (.ireturn, 1) := by decide +kernel
theorem dX10_terms_0 : decode cX10_terms 0 = .ok (.iload_n 1, 1) := by decide +kernel
theorem dX10_terms_1 : decode cX10_terms 1 = .ok (.iconst 0, 1) := by decide +kernel
theorem dX10_terms_2 : decode cX10_terms 2 = .ok (.iconst 3, 1) := by decide +kernel
theorem dX10_terms_3 : decode cX10_terms 3 = .ok (.invokestatic 85, 3) := by decide +kernel
theorem dX10_terms_6 : decode cX10_terms 6 = .ok (.ifCond .eq 15, 3) := by decide +kernel
theorem dX10_terms_9 : decode cX10_terms 9 = .ok (.iload_n 2, 1) := by decide +kernel
theorem dX10_terms_10 : decode cX10_terms 10 = .ok (.iconst 0, 1) := by decide +kernel
theorem dX10_terms_11 : decode cX10_terms 11 = .ok (.iload_n 1, 1) := by decide +kernel
theorem dX10_terms_12 : decode cX10_terms 12 = .ok (.invokestatic 169, 3) := by decide +kernel
theorem dX10_terms_15 : decode cX10_terms 15 = .ok (.invokestatic 85, 3) := by decide +kernel
theorem dX10_terms_18 : decode cX10_terms 18 = .ok (.ifCond .ne 9, 3) := by decide +kernel
theorem dX10_terms_21 : decode cX10_terms 21 = .ok (.aload_n 0, 1) := by decide +kernel
theorem dX10_terms_22 : decode cX10_terms 22 = .ok (.iconst (-1), 1) := by decide +kernel
theorem dX10_terms_23 : decode cX10_terms 23 = .ok (.invokevirtual 89, 3) := by decide +kernel
theorem dX10_terms_26 : decode cX10_terms 26 = .ok (.ireturn, 1) := by decide +kernel
theorem dX10_terms_27 : decode cX10_terms 27 = .ok (.aload_n 0, 1) := by decide +kernel
theorem dX10_terms_28 : decode cX10_terms 28 = .ok (.getfield 32, 3) := by decide +kernel
theorem dX10_terms_31 : decode cX10_terms 31 = .ok (.getfield 172, 3) := by decide +kernel
theorem dX10_terms_34 : decode cX10_terms 34 = .ok (.iload_n 1, 1) := by decide +kernel
theorem dX10_terms_35 : decode cX10_terms 35 = .ok (.iaload, 1) := by decide +kernel
theorem dX10_terms_36 : decode cX10_terms 36 = .ok (.istore_n 3, 1) := by decide +kernel
theorem dX10_terms_37 : decode cX10_terms 37 = .ok (.aload_n 0, 1) := by decide +kernel
theorem dX10_terms_38 : decode cX10_terms 38 = .ok (.getfield 32, 3) := by decide +kernel
theorem dX10_terms_41 : decode cX10_terms 41 = .ok (.getfield 172, 3) := by decide +kernel
theorem dX10_terms_44 : decode cX10_terms 44 = .ok (.iload_n 1, 1) := by decide +kernel
theorem dX10_terms_45 : decode cX10_terms 45 = .ok (.iload_n 2, 1) := by decide +kernel
theorem dX10_terms_46 : decode cX10_terms 46 = .ok (.iastore, 1) := by decide +kernel
theorem dX10_terms_47 : decode cX10_terms 47 = .ok (.aload_n 0, 1) := by decide +kernel
theorem dX10_terms_48 : decode cX10_terms 48 = .ok (.getfield 21, 3) := by decide +kernel
theorem dX10_terms_51 : decode cX10_terms 51 = .ok (.getfield 99, 3) := by decide +kernel
theorem dX10_terms_54 : decode cX10_terms 54 = .ok (.invokevirtual 103, 3) := by decide +kernel
theorem dX10_terms_57 : decode cX10_terms 57 = .ok (.aload_n 0, 1) := by decide +kernel
theorem dX10_terms_58 : decode cX10_terms 58 = .ok (.iload_n 3, 1) := by decide +kernel
theorem dX10_terms_59 : decode cX10_terms 59 = .ok (.invokevirtual 112, 3) := by decide +kernel
theorem dX10_terms_62 : decode cX10_terms 62 = .ok (.ireturn, 1) := by decide +kernel
theorem dX10_feed_0 : decode cX10_feed 0 = .ok (.aload_n 0, 1) := by decide +kernel
theorem dX10_feed_1 : decode cX10_feed 1 = .ok (.getfield 57, 3) := by decide +kernel
theorem dX10_feed_4 : decode cX10_feed 4 = .ok (.invokevirtual 175, 3) := by decide +kernel
theorem dX10_feed_7 : decode cX10_feed 7 = .ok (.ifCond .ne 5, 3) := by decide +kernel
theorem dX10_feed_10 : decode cX10_feed 10 = .ok (.iconst (-1), 1) := by decide +kernel
theorem dX10_feed_11 : decode cX10_feed 11 = .ok (.ireturn, 1) := by decide +kernel
theorem dX10_feed_12 : decode cX10_feed 12 = .ok (.aload_n 0, 1) := by decide +kernel
theorem dX10_feed_13 : decode cX10_feed 13 = .ok (.getfield 57, 3) := by decide +kernel
theorem dX10_feed_16 : decode cX10_feed 16 = .ok (.iload_n 1, 1) := by decide +kernel
theorem dX10_feed_17 : decode cX10_feed 17 = .ok (.invokevirtual 179, 3) := by decide +kernel
theorem dX10_feed_20 : decode cX10_feed 20 = .ok (.aload_n 0, 1) := by decide +kernel
theorem dX10_feed_21 : decode cX10_feed 21 = .ok (.getfield 57, 3) := by decide +kernel
theorem dX10_feed_24 : decode cX10_feed 24 = .ok (.iload_n 2, 1) := by decide +kernel
theorem dX10_feed_25 : decode cX10_feed 25 = .ok (.invokevirtual 179, 3) := by decide +kernel
theorem dX10_feed_28 : decode cX10_feed 28 = .ok (.aload_n 0, 1) := by decide +kernel
theorem dX10_feed_29 : decode cX10_feed 29 = .ok (.getfield 57, 3) := by decide +kernel
theorem dX10_feed_32 : decode cX10_feed 32 = .ok (.iload_n 3, 1) := by decide +kernel
theorem dX10_feed_33 : decode cX10_feed 33 = .ok (.invokevirtual 179, 3) := by decide +kernel
theorem dX10_feed_36 : decode cX10_feed 36 = .ok (.aload_n 0, 1) := by decide +kernel
theorem dX10_feed_37 : decode cX10_feed 37 = .ok (.getfield 57, 3) := by decide +kernel
theorem dX10_feed_40 : decode cX10_feed 40 = .ok (.iload 4, 2) := by decide +kernel
theorem dX10_feed_42 : decode cX10_feed 42 = .ok (.invokevirtual 179, 3) := by decide +kernel
theorem dX10_feed_45 : decode cX10_feed 45 = .ok (.aload_n 0, 1) := by decide +kernel
theorem dX10_feed_46 : decode cX10_feed 46 = .ok (.getfield 57, 3) := by decide +kernel
theorem dX10_feed_49 : decode cX10_feed 49 = .ok (.iload 5, 2) := by decide +kernel
theorem dX10_feed_51 : decode cX10_feed 51 = .ok (.invokevirtual 179, 3) := by decide +kernel
theorem dX10_feed_54 : decode cX10_feed 54 = .ok (.aload_n 0, 1) := by decide +kernel
theorem dX10_feed_55 : decode cX10_feed 55 = .ok (.getfield 57, 3) := by decide +kernel
theorem dX10_feed_58 : decode cX10_feed 58 = .ok (.getfield 183, 3) := by decide +kernel
theorem dX10_feed_61 : decode cX10_feed 61 = .ok (.ireturn, 1) := by decide +kernel
theorem dX10_end_0 : decode cX10_end 0 = .ok (.iload_n 1, 1) := by decide +kernel
theorem dX10_end_1 : decode cX10_end 1 = .ok (.iconst 0, 1) := by decide +kernel
theorem dX10_end_2 : decode cX10_end 2 = .ok (.aload_n 0, 1) := by decide +kernel
theorem dX10_end_3 : decode cX10_end 3 = .ok (.getfield 57, 3) := by decide +kernel
theorem dX10_end_6 : decode cX10_end 6 = .ok (.getfield 183, 3) := by decide +kernel
theorem dX10_end_9 : decode cX10_end 9 = .ok (.invokestatic 85, 3) := by decide +kernel
theorem dX10_end_12 : decode cX10_end 12 = .ok (.ifCond .ne 5, 3) := by decide +kernel
theorem dX10_end_15 : decode cX10_end 15 = .ok (.iconst (-1), 1) := by decide +kernel
theorem dX10_end_16 : decode cX10_end 16 = .ok (.ireturn, 1) := by decide +kernel
theorem dX10_end_17 : decode cX10_end 17 = .ok (.aload_n 0, 1) := by decide +kernel
theorem dX10_end_18 : decode cX10_end 18 = .ok (.getfield 57, 3) := by decide +kernel
theorem dX10_end_21 : decode cX10_end 21 = .ok (.iload_n 1, 1) := by decide +kernel
theorem dX10_end_22 : decode cX10_end 22 = .ok (.putfield 183, 3) := by decide +kernel
theorem dX10_end_25 : decode cX10_end 25 = .ok (.iload_n 1, 1) := by decide +kernel
theorem dX10_end_26 : decode cX10_end 26 = .ok (.ireturn, 1) := by decide +kernel
theorem dX10_row_0 : decode cX10_row 0 = .ok (.aload_n 0, 1) := by decide +kernel
theorem dX10_row_1 : decode cX10_row 1 = .ok (.getfield 57, 3) := by decide +kernel
