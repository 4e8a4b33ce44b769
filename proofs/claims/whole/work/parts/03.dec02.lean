theorem dX2_fold_11 : decode cX2_fold 11 = .ok (.invokestatic 159, 3) := by decide +kernel
theorem dX2_fold_14 : decode cX2_fold 14 = .ok (.iload_n 1, 1) := by decide +kernel
theorem dX2_fold_15 : decode cX2_fold 15 = .ok (.if_icmp .lt 63, 3) := by decide +kernel
theorem dX2_fold_18 : decode cX2_fold 18 = .ok (.aload_n 0, 1) := by decide +kernel
theorem dX2_fold_19 : decode cX2_fold 19 = .ok (.invokevirtual 140, 3) := by decide +kernel
theorem dX2_fold_22 : decode cX2_fold 22 = .ok (.istore_n 2, 1) := by decide +kernel
theorem dX2_fold_23 : decode cX2_fold 23 = .ok (.iload_n 2, 1) := by decide +kernel
theorem dX2_fold_24 : decode cX2_fold 24 = .ok (.bipush 12, 2) := by decide +kernel
theorem dX2_fold_26 : decode cX2_fold 26 = .ok (.if_icmp .eq 9, 3) := by decide +kernel
theorem dX2_fold_29 : decode cX2_fold 29 = .ok (.iload_n 2, 1) := by decide +kernel
theorem dX2_fold_30 : decode cX2_fold 30 = .ok (.bipush 13, 2) := by decide +kernel
theorem dX2_fold_32 : decode cX2_fold 32 = .ok (.if_icmp .ne 24, 3) := by decide +kernel
theorem dX2_fold_35 : decode cX2_fold 35 = .ok (.aload_n 0, 1) := by decide +kernel
theorem dX2_fold_36 : decode cX2_fold 36 = .ok (.getfield 12, 3) := by decide +kernel
theorem dX2_fold_39 : decode cX2_fold 39 = .ok (.aload_n 0, 1) := by decide +kernel
theorem dX2_fold_40 : decode cX2_fold 40 = .ok (.getfield 22, 3) := by decide +kernel
theorem dX2_fold_43 : decode cX2_fold 43 = .ok (.aload_n 0, 1) := by decide +kernel
theorem dX2_fold_44 : decode cX2_fold 44 = .ok (.getfield 111, 3) := by decide +kernel
theorem dX2_fold_47 : decode cX2_fold 47 = .ok (.iconst 1, 1) := by decide +kernel
theorem dX2_fold_48 : decode cX2_fold 48 = .ok (.isub, 1) := by decide +kernel
theorem dX2_fold_49 : decode cX2_fold 49 = .ok (.iaload, 1) := by decide +kernel
theorem dX2_fold_50 : decode cX2_fold 50 = .ok (.invokevirtual 168, 3) := by decide +kernel
theorem dX2_fold_53 : decode cX2_fold 53 = .ok (.goto 12, 3) := by decide +kernel
theorem dX2_fold_56 : decode cX2_fold 56 = .ok (.aload_n 0, 1) := by decide +kernel
theorem dX2_fold_57 : decode cX2_fold 57 = .ok (.getfield 12, 3) := by decide +kernel
theorem dX2_fold_60 : decode cX2_fold 60 = .ok (.iload_n 2, 1) := by decide +kernel
theorem dX2_fold_61 : decode cX2_fold 61 = .ok (.iconst 0, 1) := by decide +kernel
theorem dX2_fold_62 : decode cX2_fold 62 = .ok (.invokevirtual 150, 3) := by decide +kernel
theorem dX2_fold_65 : decode cX2_fold 65 = .ok (.aload_n 0, 1) := by decide +kernel
theorem dX2_fold_66 : decode cX2_fold 66 = .ok (.dup, 1) := by decide +kernel
theorem dX2_fold_67 : decode cX2_fold 67 = .ok (.getfield 111, 3) := by decide +kernel
theorem dX2_fold_70 : decode cX2_fold 70 = .ok (.iconst 1, 1) := by decide +kernel
theorem dX2_fold_71 : decode cX2_fold 71 = .ok (.isub, 1) := by decide +kernel
theorem dX2_fold_72 : decode cX2_fold 72 = .ok (.putfield 111, 3) := by decide +kernel
theorem dX2_fold_75 : decode cX2_fold 75 = .ok (.goto (-75), 3) := by decide +kernel
theorem dX2_fold_78 : decode cX2_fold 78 = .ok (.return_, 1) := by decide +kernel
theorem dX2_push_0 : decode cX2_push 0 = .ok (.aload_n 0, 1) := by decide +kernel
theorem dX2_push_1 : decode cX2_push 1 = .ok (.getfield 111, 3) := by decide +kernel
theorem dX2_push_4 : decode cX2_push 4 = .ok (.sipush 160, 3) := by decide +kernel
theorem dX2_push_7 : decode cX2_push 7 = .ok (.if_icmp .lt 5, 3) := by decide +kernel
theorem dX2_push_10 : decode cX2_push 10 = .ok (.iconst 0, 1) := by decide +kernel
theorem dX2_push_11 : decode cX2_push 11 = .ok (.ireturn, 1) := by decide +kernel
theorem dX2_push_12 : decode cX2_push 12 = .ok (.aload_n 0, 1) := by decide +kernel
theorem dX2_push_13 : decode cX2_push 13 = .ok (.getfield 18, 3) := by decide +kernel
theorem dX2_push_16 : decode cX2_push 16 = .ok (.aload_n 0, 1) := by decide +kernel
theorem dX2_push_17 : decode cX2_push 17 = .ok (.getfield 111, 3) := by decide +kernel
theorem dX2_push_20 : decode cX2_push 20 = .ok (.iload_n 1, 1) := by decide +kernel
theorem dX2_push_21 : decode cX2_push 21 = .ok (.iastore, 1) := by decide +kernel
theorem dX2_push_22 : decode cX2_push 22 = .ok (.aload_n 0, 1) := by decide +kernel
theorem dX2_push_23 : decode cX2_push 23 = .ok (.dup, 1) := by decide +kernel
theorem dX2_push_24 : decode cX2_push 24 = .ok (.getfield 111, 3) := by decide +kernel
theorem dX2_push_27 : decode cX2_push 27 = .ok (.iconst 1, 1) := by decide +kernel
theorem dX2_push_28 : decode cX2_push 28 = .ok (.iadd, 1) := by decide +kernel
theorem dX2_push_29 : decode cX2_push 29 = .ok (.putfield 111, 3) := by decide +kernel
theorem dX2_push_32 : decode cX2_push 32 = .ok (.iconst 1, 1) := by decide +kernel
theorem dX2_push_33 : decode cX2_push 33 = .ok (.ireturn, 1) := by decide +kernel
theorem dX2_top_0 : decode cX2_top 0 = .ok (.aload_n 0, 1) := by decide +kernel
theorem dX2_top_1 : decode cX2_top 1 = .ok (.getfield 111, 3) := by decide +kernel
theorem dX2_top_4 : decode cX2_top 4 = .ok (.ifCond .le 27, 3) := by decide +kernel
theorem dX2_top_7 : decode cX2_top 7 = .ok (.aload_n 0, 1) := by decide +kernel
theorem dX2_top_8 : decode cX2_top 8 = .ok (.getfield 111, 3) := by decide +kernel
theorem dX2_top_11 : decode cX2_top 11 = .ok (.sipush 160, 3) := by decide +kernel
theorem dX2_top_14 : decode cX2_top 14 = .ok (.if_icmp .gt 17, 3) := by decide +kernel
theorem dX2_top_17 : decode cX2_top 17 = .ok (.aload_n 0, 1) := by decide +kernel
theorem dX2_top_18 : decode cX2_top 18 = .ok (.getfield 18, 3) := by decide +kernel
theorem dX2_top_21 : decode cX2_top 21 = .ok (.aload_n 0, 1) := by decide +kernel
theorem dX2_top_22 : decode cX2_top 22 = .ok (.getfield 111, 3) := by decide +kernel
theorem dX2_top_25 : decode cX2_top 25 = .ok (.iconst 1, 1) := by decide +kernel
theorem dX2_top_26 : decode cX2_top 26 = .ok (.isub, 1) := by decide +kernel
theorem dX2_top_27 : decode cX2_top 27 = .ok (.iaload, 1) := by decide +kernel
theorem dX2_top_28 : decode cX2_top 28 = .ok (.goto 4, 3) := by decide +kernel
theorem dX2_top_31 : decode cX2_top 31 = .ok (.iconst (-1), 1) := by decide +kernel
theorem dX2_top_32 : decode cX2_top 32 = .ok (.ireturn, 1) := by decide +kernel
theorem dX2_bindingOf_0 : decode cX2_bindingOf 0 = .ok (.iload_n 0, 1) := by decide +kernel
theorem dX2_bindingOf_1 : decode cX2_bindingOf 1 = .ok (.tableswitch 72 3 13 #[67, 67, 69, 69, 69, 65, 65, 65, 63, 61, 59], 59) := by decide +kernel
theorem dX2_bindingOf_60 : decode cX2_bindingOf 60 = .ok (.iconst 1, 1) := by decide +kernel
theorem dX2_bindingOf_61 : decode cX2_bindingOf 61 = .ok (.ireturn, 1) := by decide +kernel
theorem dX2_bindingOf_62 : decode cX2_bindingOf 62 = .ok (.iconst 2, 1) := by decide +kernel
theorem dX2_bindingOf_63 : decode cX2_bindingOf 63 = .ok (.ireturn, 1) := by decide +kernel
theorem dX2_bindingOf_64 : decode cX2_bindingOf 64 = .ok (.iconst 3, 1) := by decide +kernel
theorem dX2_bindingOf_65 : decode cX2_bindingOf 65 = .ok (.ireturn, 1) := by decide +kernel
theorem dX2_bindingOf_66 : decode cX2_bindingOf 66 = .ok (.iconst 4, 1) := by decide +kernel
theorem dX2_bindingOf_67 : decode cX2_bindingOf 67 = .ok (.ireturn, 1) := by decide +kernel
theorem dX2_bindingOf_68 : decode cX2_bindingOf 68 = .ok (.iconst 5, 1) := by decide +kernel
theorem dX2_bindingOf_69 : decode cX2_bindingOf 69 = .ok (.ireturn, 1) := by decide +kernel
theorem dX2_bindingOf_70 : decode cX2_bindingOf 70 = .ok (.bipush 6, 2) := by decide +kernel
theorem dX2_bindingOf_72 : decode cX2_bindingOf 72 = .ok (.ireturn, 1) := by decide +kernel
theorem dX2_bindingOf_73 : decode cX2_bindingOf 73 = .ok (.iconst 0, 1) := by decide +kernel
theorem dX2_bindingOf_74 : decode cX2_bindingOf 74 = .ok (.ireturn, 1) := by decide +kernel
theorem dX2_joiningStep_0 : decode cX2_joiningStep 0 = .ok (.aload_n 0, 1) := by decide +kernel
theorem dX2_joiningStep_1 : decode cX2_joiningStep 1 = .ok (.getfield 25, 3) := by decide +kernel
theorem dX2_joiningStep_4 : decode cX2_joiningStep 4 = .ok (.getfield 52, 3) := by decide +kernel
theorem dX2_joiningStep_7 : decode cX2_joiningStep 7 = .ok (.iconst 1, 1) := by decide +kernel
theorem dX2_joiningStep_8 : decode cX2_joiningStep 8 = .ok (.if_icmp .ne 34, 3) := by decide +kernel
theorem dX2_joiningStep_11 : decode cX2_joiningStep 11 = .ok (.aload_n 0, 1) := by decide +kernel
theorem dX2_joiningStep_12 : decode cX2_joiningStep 12 = .ok (.getfield 25, 3) := by decide +kernel
theorem dX2_joiningStep_15 : decode cX2_joiningStep 15 = .ok (.ldc 171, 2) := by decide +kernel
theorem dX2_joiningStep_17 : decode cX2_joiningStep 17 = .ok (.invokevirtual 67, 3) := by decide +kernel
theorem dX2_joiningStep_20 : decode cX2_joiningStep 20 = .ok (.istore_n 1, 1) := by decide +kernel
theorem dX2_joiningStep_21 : decode cX2_joiningStep 21 = .ok (.iload_n 1, 1) := by decide +kernel
theorem dX2_joiningStep_22 : decode cX2_joiningStep 22 = .ok (.iconst (-1), 1) := by decide +kernel
theorem dX2_joiningStep_23 : decode cX2_joiningStep 23 = .ok (.if_icmp .ne 7, 3) := by decide +kernel
theorem dX2_joiningStep_26 : decode cX2_joiningStep 26 = .ok (.iconst (-1), 1) := by decide +kernel
theorem dX2_joiningStep_27 : decode cX2_joiningStep 27 = .ok (.goto 14, 3) := by decide +kernel
theorem dX2_joiningStep_30 : decode cX2_joiningStep 30 = .ok (.iload_n 1, 1) := by decide +kernel
theorem dX2_joiningStep_31 : decode cX2_joiningStep 31 = .ok (.ifCond .ne 8, 3) := by decide +kernel
theorem dX2_joiningStep_34 : decode cX2_joiningStep 34 = .ok (.bipush 12, 2) := by decide +kernel
theorem dX2_joiningStep_36 : decode cX2_joiningStep 36 = .ok (.goto 5, 3) := by decide +kernel
theorem dX2_joiningStep_39 : decode cX2_joiningStep 39 = .ok (.bipush 13, 2) := by decide +kernel
theorem dX2_joiningStep_41 : decode cX2_joiningStep 41 = .ok (.ireturn, 1) := by decide +kernel
theorem dX2_joiningStep_42 : decode cX2_joiningStep 42 = .ok (.aload_n 0, 1) := by decide +kernel
theorem dX2_joiningStep_43 : decode cX2_joiningStep 43 = .ok (.getfield 25, 3) := by decide +kernel
theorem dX2_joiningStep_46 : decode cX2_joiningStep 46 = .ok (.aload_n 0, 1) := by decide +kernel
theorem dX2_joiningStep_47 : decode cX2_joiningStep 47 = .ok (.getfield 25, 3) := by decide +kernel
theorem dX2_joiningStep_50 : decode cX2_joiningStep 50 = .ok (.getfield 59, 3) := by decide +kernel
theorem dX2_joiningStep_53 : decode cX2_joiningStep 53 = .ok (.invokevirtual 173, 3) := by decide +kernel
theorem dX2_joiningStep_56 : decode cX2_joiningStep 56 = .ok (.tableswitch 141 37 62 #[129, 141, 141, 141, 141, 124, 120, 141, 122, 141, 126, 141, 141, 141, 141, 141, 141, 141, 141, 141, 141, 141, 141, 132, 138, 135], 120) := by decide +kernel
theorem dX2_joiningStep_176 : decode cX2_joiningStep 176 = .ok (.iconst 3, 1) := by decide +kernel
theorem dX2_joiningStep_177 : decode cX2_joiningStep 177 = .ok (.ireturn, 1) := by decide +kernel
theorem dX2_joiningStep_178 : decode cX2_joiningStep 178 = .ok (.iconst 4, 1) := by decide +kernel
theorem dX2_joiningStep_179 : decode cX2_joiningStep 179 = .ok (.ireturn, 1) := by decide +kernel
theorem dX2_joiningStep_180 : decode cX2_joiningStep 180 = .ok (.iconst 5, 1) := by decide +kernel
theorem dX2_joiningStep_181 : decode cX2_joiningStep 181 = .ok (.ireturn, 1) := by decide +kernel
theorem dX2_joiningStep_182 : decode cX2_joiningStep 182 = .ok (.bipush 6, 2) := by decide +kernel
theorem dX2_joiningStep_184 : decode cX2_joiningStep 184 = .ok (.ireturn, 1) := by decide +kernel
theorem dX2_joiningStep_185 : decode cX2_joiningStep 185 = .ok (.bipush 7, 2) := by decide +kernel
theorem dX2_joiningStep_187 : decode cX2_joiningStep 187 = .ok (.ireturn, 1) := by decide +kernel
theorem dX2_joiningStep_188 : decode cX2_joiningStep 188 = .ok (.bipush 8, 2) := by decide +kernel
theorem dX2_joiningStep_190 : decode cX2_joiningStep 190 = .ok (.ireturn, 1) := by decide +kernel
theorem dX2_joiningStep_191 : decode cX2_joiningStep 191 = .ok (.bipush 9, 2) := by decide +kernel
theorem dX2_joiningStep_193 : decode cX2_joiningStep 193 = .ok (.ireturn, 1) := by decide +kernel
theorem dX2_joiningStep_194 : decode cX2_joiningStep 194 = .ok (.bipush 10, 2) := by decide +kernel
theorem dX2_joiningStep_196 : decode cX2_joiningStep 196 = .ok (.ireturn, 1) := by decide +kernel
theorem dX2_joiningStep_197 : decode cX2_joiningStep 197 = .ok (.iconst (-1), 1) := by decide +kernel
theorem dX2_joiningStep_198 : decode cX2_joiningStep 198 = .ok (.ireturn, 1) := by decide +kernel
theorem dX3_init_0 : decode cX3_init 0 = .ok (.aload_n 0, 1) := by decide +kernel
theorem dX3_init_1 : decode cX3_init 1 = .ok (.invokespecial 3, 3) := by decide +kernel
theorem dX3_init_4 : decode cX3_init 4 = .ok (.aload_n 0, 1) := by decide +kernel
theorem dX3_init_5 : decode cX3_init 5 = .ok (.sipush 731, 3) := by decide +kernel
theorem dX3_init_8 : decode cX3_init 8 = .ok (.newarray .int, 2) := by decide +kernel
theorem dX3_init_10 : decode cX3_init 10 = .ok (.putfield 13, 3) := by decide +kernel
theorem dX3_init_13 : decode cX3_init 13 = .ok (.aload_n 0, 1) := by decide +kernel
theorem dX3_init_14 : decode cX3_init 14 = .ok (.bipush 17, 2) := by decide +kernel
theorem dX3_init_16 : decode cX3_init 16 = .ok (.newarray .int, 2) := by decide +kernel
theorem dX3_init_18 : decode cX3_init 18 = .ok (.putfield 17, 3) := by decide +kernel
theorem dX3_init_21 : decode cX3_init 21 = .ok (.return_, 1) := by decide +kernel
theorem dX3_clear_0 : decode cX3_clear 0 = .ok (.aload_n 0, 1) := by decide +kernel
theorem dX3_clear_1 : decode cX3_clear 1 = .ok (.iconst 0, 1) := by decide +kernel
theorem dX3_clear_2 : decode cX3_clear 2 = .ok (.putfield 20, 3) := by decide +kernel
theorem dX3_clear_5 : decode cX3_clear 5 = .ok (.return_, 1) := by decide +kernel
theorem dX3_prepare_0 : decode cX3_prepare 0 = .ok (.aload_n 1, 1) := by decide +kernel
theorem dX3_prepare_1 : decode cX3_prepare 1 = .ok (.aload_n 0, 1) := by decide +kernel
theorem dX3_prepare_2 : decode cX3_prepare 2 = .ok (.getfield 13, 3) := by decide +kernel
theorem dX3_prepare_5 : decode cX3_prepare 5 = .ok (.aload_n 0, 1) := by decide +kernel
theorem dX3_prepare_6 : decode cX3_prepare 6 = .ok (.invokevirtual 24, 3) := by decide +kernel
theorem dX3_prepare_9 : decode cX3_prepare 9 = .ok (.bipush 43, 2) := by decide +kernel
theorem dX3_prepare_11 : decode cX3_prepare 11 = .ok (.imul, 1) := by decide +kernel
theorem dX3_prepare_12 : decode cX3_prepare 12 = .ok (.invokevirtual 28, 3) := by decide +kernel
theorem dX3_prepare_15 : decode cX3_prepare 15 = .ok (.return_, 1) := by decide +kernel
theorem dX3_keep_0 : decode cX3_keep 0 = .ok (.aload_n 0, 1) := by decide +kernel
theorem dX3_keep_1 : decode cX3_keep 1 = .ok (.getfield 17, 3) := by decide +kernel
theorem dX3_keep_4 : decode cX3_keep 4 = .ok (.aload_n 0, 1) := by decide +kernel
theorem dX3_keep_5 : decode cX3_keep 5 = .ok (.invokevirtual 24, 3) := by decide +kernel
theorem dX3_keep_8 : decode cX3_keep 8 = .ok (.iload_n 1, 1) := by decide +kernel
theorem dX3_keep_9 : decode cX3_keep 9 = .ok (.iastore, 1) := by decide +kernel
theorem dX3_keep_10 : decode cX3_keep 10 = .ok (.aload_n 0, 1) := by decide +kernel
theorem dX3_keep_11 : decode cX3_keep 11 = .ok (.getfield 20, 3) := by decide +kernel
theorem dX3_keep_14 : decode cX3_keep 14 = .ok (.bipush 16, 2) := by decide +kernel
theorem dX3_keep_16 : decode cX3_keep 16 = .ok (.if_icmp .ge 16, 3) := by decide +kernel
theorem dX3_keep_19 : decode cX3_keep 19 = .ok (.aload_n 0, 1) := by decide +kernel
theorem dX3_keep_20 : decode cX3_keep 20 = .ok (.dup, 1) := by decide +kernel
theorem dX3_keep_21 : decode cX3_keep 21 = .ok (.getfield 20, 3) := by decide +kernel
theorem dX3_keep_24 : decode cX3_keep 24 = .ok (.iconst 1, 1) := by decide +kernel
theorem dX3_keep_25 : decode cX3_keep 25 = .ok (.iadd, 1) := by decide +kernel
theorem dX3_keep_26 : decode cX3_keep 26 = .ok (.putfield 20, 3) := by decide +kernel
theorem dX3_keep_29 : decode cX3_keep 29 = .ok (.goto 16, 3) := by decide +kernel
theorem dX3_keep_32 : decode cX3_keep 32 = .ok (.aload_n 0, 1) := by decide +kernel
theorem dX3_keep_33 : decode cX3_keep 33 = .ok (.aload_n 0, 1) := by decide +kernel
theorem dX3_keep_34 : decode cX3_keep 34 = .ok (.getfield 32, 3) := by decide +kernel
theorem dX3_keep_37 : decode cX3_keep 37 = .ok (.iconst 1, 1) := by decide +kernel
theorem dX3_keep_38 : decode cX3_keep 38 = .ok (.iadd, 1) := by decide +kernel
theorem dX3_keep_39 : decode cX3_keep 39 = .ok (.bipush 17, 2) := by decide +kernel
theorem dX3_keep_41 : decode cX3_keep 41 = .ok (.irem, 1) := by decide +kernel
theorem dX3_keep_42 : decode cX3_keep 42 = .ok (.putfield 32, 3) := by decide +kernel
theorem dX3_keep_45 : decode cX3_keep 45 = .ok (.return_, 1) := by decide +kernel
theorem dX3_takeBack_0 : decode cX3_takeBack 0 = .ok (.aload_n 0, 1) := by decide +kernel
theorem dX3_takeBack_1 : decode cX3_takeBack 1 = .ok (.getfield 20, 3) := by decide +kernel
theorem dX3_takeBack_4 : decode cX3_takeBack 4 = .ok (.ifCond .ne 6, 3) := by decide +kernel
theorem dX3_takeBack_7 : decode cX3_takeBack 7 = .ok (.bipush (-3), 2) := by decide +kernel
theorem dX3_takeBack_9 : decode cX3_takeBack 9 = .ok (.ireturn, 1) := by decide +kernel
theorem dX3_takeBack_10 : decode cX3_takeBack 10 = .ok (.aload_n 0, 1) := by decide +kernel
theorem dX3_takeBack_11 : decode cX3_takeBack 11 = .ok (.dup, 1) := by decide +kernel
theorem dX3_takeBack_12 : decode cX3_takeBack 12 = .ok (.getfield 20, 3) := by decide +kernel
theorem dX3_takeBack_15 : decode cX3_takeBack 15 = .ok (.iconst 1, 1) := by decide +kernel
theorem dX3_takeBack_16 : decode cX3_takeBack 16 = .ok (.isub, 1) := by decide +kernel
theorem dX3_takeBack_17 : decode cX3_takeBack 17 = .ok (.putfield 20, 3) := by decide +kernel
theorem dX3_takeBack_20 : decode cX3_takeBack 20 = .ok (.aload_n 0, 1) := by decide +kernel
theorem dX3_takeBack_21 : decode cX3_takeBack 21 = .ok (.invokevirtual 24, 3) := by decide +kernel
theorem dX3_takeBack_24 : decode cX3_takeBack 24 = .ok (.istore_n 2, 1) := by decide +kernel
theorem dX3_takeBack_25 : decode cX3_takeBack 25 = .ok (.aload_n 1, 1) := by decide +kernel
theorem dX3_takeBack_26 : decode cX3_takeBack 26 = .ok (.aload_n 0, 1) := by decide +kernel
theorem dX3_takeBack_27 : decode cX3_takeBack 27 = .ok (.getfield 13, 3) := by decide +kernel
theorem dX3_takeBack_30 : decode cX3_takeBack 30 = .ok (.iload_n 2, 1) := by decide +kernel
theorem dX3_takeBack_31 : decode cX3_takeBack 31 = .ok (.bipush 43, 2) := by decide +kernel
theorem dX3_takeBack_33 : decode cX3_takeBack 33 = .ok (.imul, 1) := by decide +kernel
theorem dX3_takeBack_34 : decode cX3_takeBack 34 = .ok (.invokevirtual 35, 3) := by decide +kernel
theorem dX3_takeBack_37 : decode cX3_takeBack 37 = .ok (.aload_n 0, 1) := by decide +kernel
theorem dX3_takeBack_38 : decode cX3_takeBack 38 = .ok (.getfield 17, 3) := by decide +kernel
theorem dX3_takeBack_41 : decode cX3_takeBack 41 = .ok (.iload_n 2, 1) := by decide +kernel
theorem dX3_takeBack_42 : decode cX3_takeBack 42 = .ok (.iaload, 1) := by decide +kernel
theorem dX3_takeBack_43 : decode cX3_takeBack 43 = .ok (.ireturn, 1) := by decide +kernel
theorem dX3_copyFrom_0 : decode cX3_copyFrom 0 = .ok (.aload_n 1, 1) := by decide +kernel
theorem dX3_copyFrom_1 : decode cX3_copyFrom 1 = .ok (.getfield 13, 3) := by decide +kernel
theorem dX3_copyFrom_4 : decode cX3_copyFrom 4 = .ok (.iconst 0, 1) := by decide +kernel
theorem dX3_copyFrom_5 : decode cX3_copyFrom 5 = .ok (.aload_n 0, 1) := by decide +kernel
theorem dX3_copyFrom_6 : decode cX3_copyFrom 6 = .ok (.getfield 13, 3) := by decide +kernel
theorem dX3_copyFrom_9 : decode cX3_copyFrom 9 = .ok (.iconst 0, 1) := by decide +kernel
theorem dX3_copyFrom_10 : decode cX3_copyFrom 10 = .ok (.aload_n 0, 1) := by decide +kernel
theorem dX3_copyFrom_11 : decode cX3_copyFrom 11 = .ok (.getfield 13, 3) := by decide +kernel
theorem dX3_copyFrom_14 : decode cX3_copyFrom 14 = .ok (.arraylength, 1) := by decide +kernel
theorem dX3_copyFrom_15 : decode cX3_copyFrom 15 = .ok (.invokestatic 38, 3) := by decide +kernel
theorem dX3_copyFrom_18 : decode cX3_copyFrom 18 = .ok (.aload_n 1, 1) := by decide +kernel
theorem dX3_copyFrom_19 : decode cX3_copyFrom 19 = .ok (.getfield 17, 3) := by decide +kernel
theorem dX3_copyFrom_22 : decode cX3_copyFrom 22 = .ok (.iconst 0, 1) := by decide +kernel
theorem dX3_copyFrom_23 : decode cX3_copyFrom 23 = .ok (.aload_n 0, 1) := by decide +kernel
theorem dX3_copyFrom_24 : decode cX3_copyFrom 24 = .ok (.getfield 17, 3) := by decide +kernel
theorem dX3_copyFrom_27 : decode cX3_copyFrom 27 = .ok (.iconst 0, 1) := by decide +kernel
theorem dX3_copyFrom_28 : decode cX3_copyFrom 28 = .ok (.bipush 17, 2) := by decide +kernel
theorem dX3_copyFrom_30 : decode cX3_copyFrom 30 = .ok (.invokestatic 38, 3) := by decide +kernel
theorem dX3_copyFrom_33 : decode cX3_copyFrom 33 = .ok (.aload_n 0, 1) := by decide +kernel
theorem dX3_copyFrom_34 : decode cX3_copyFrom 34 = .ok (.aload_n 1, 1) := by decide +kernel
theorem dX3_copyFrom_35 : decode cX3_copyFrom 35 = .ok (.getfield 32, 3) := by decide +kernel
theorem dX3_copyFrom_38 : decode cX3_copyFrom 38 = .ok (.putfield 32, 3) := by decide +kernel
theorem dX3_copyFrom_41 : decode cX3_copyFrom 41 = .ok (.aload_n 0, 1) := by decide +kernel
theorem dX3_copyFrom_42 : decode cX3_copyFrom 42 = .ok (.aload_n 1, 1) := by decide +kernel
theorem dX3_copyFrom_43 : decode cX3_copyFrom 43 = .ok (.getfield 20, 3) := by decide +kernel
theorem dX3_copyFrom_46 : decode cX3_copyFrom 46 = .ok (.putfield 20, 3) := by decide +kernel
theorem dX3_copyFrom_49 : decode cX3_copyFrom 49 = .ok (.return_, 1) := by decide +kernel
theorem dX3_freeRow_0 : decode cX3_freeRow 0 = .ok (.aload_n 0, 1) := by decide +kernel
theorem dX3_freeRow_1 : decode cX3_freeRow 1 = .ok (.getfield 32, 3) := by decide +kernel
theorem dX3_freeRow_4 : decode cX3_freeRow 4 = .ok (.aload_n 0, 1) := by decide +kernel
theorem dX3_freeRow_5 : decode cX3_freeRow 5 = .ok (.getfield 20, 3) := by decide +kernel
theorem dX3_freeRow_8 : decode cX3_freeRow 8 = .ok (.iadd, 1) := by decide +kernel
theorem dX3_freeRow_9 : decode cX3_freeRow 9 = .ok (.bipush 17, 2) := by decide +kernel
theorem dX3_freeRow_11 : decode cX3_freeRow 11 = .ok (.irem, 1) := by decide +kernel
theorem dX3_freeRow_12 : decode cX3_freeRow 12 = .ok (.ireturn, 1) := by decide +kernel
theorem dX4_possibleSparks_0 : decode cX4_possibleSparks 0 = .ok (.iconst 1, 1) := by decide +kernel
theorem dX4_possibleSparks_1 : decode cX4_possibleSparks 1 = .ok (.aload_n 0, 1) := by decide +kernel
theorem dX4_possibleSparks_2 : decode cX4_possibleSparks 2 = .ok (.getfield 9, 3) := by decide +kernel
theorem dX4_possibleSparks_5 : decode cX4_possibleSparks 5 = .ok (.ishl, 1) := by decide +kernel
theorem dX4_possibleSparks_6 : decode cX4_possibleSparks 6 = .ok (.iconst 1, 1) := by decide +kernel
theorem dX4_possibleSparks_7 : decode cX4_possibleSparks 7 = .ok (.isub, 1) := by decide +kernel
theorem dX4_possibleSparks_8 : decode cX4_possibleSparks 8 = .ok (.istore_n 1, 1) := by decide +kernel
theorem dX4_possibleSparks_9 : decode cX4_possibleSparks 9 = .ok (.iconst 0, 1) := by decide +kernel
theorem dX4_possibleSparks_10 : decode cX4_possibleSparks 10 = .ok (.istore_n 2, 1) := by decide +kernel
theorem dX4_possibleSparks_11 : decode cX4_possibleSparks 11 = .ok (.iload_n 2, 1) := by decide +kernel
theorem dX4_possibleSparks_12 : decode cX4_possibleSparks 12 = .ok (.aload_n 0, 1) := by decide +kernel
theorem dX4_possibleSparks_13 : decode cX4_possibleSparks 13 = .ok (.getfield 15, 3) := by decide +kernel
theorem dX4_possibleSparks_16 : decode cX4_possibleSparks 16 = .ok (.if_icmp .ge 58, 3) := by decide +kernel
theorem dX4_possibleSparks_19 : decode cX4_possibleSparks 19 = .ok (.aload_n 0, 1) := by decide +kernel
theorem dX4_possibleSparks_20 : decode cX4_possibleSparks 20 = .ok (.getfield 18, 3) := by decide +kernel
theorem dX4_possibleSparks_23 : decode cX4_possibleSparks 23 = .ok (.iload_n 2, 1) := by decide +kernel
theorem dX4_possibleSparks_24 : decode cX4_possibleSparks 24 = .ok (.iaload, 1) := by decide +kernel
theorem dX4_possibleSparks_25 : decode cX4_possibleSparks 25 = .ok (.istore_n 3, 1) := by decide +kernel
theorem dX4_possibleSparks_26 : decode cX4_possibleSparks 26 = .ok (.aload_n 0, 1) := by decide +kernel
theorem dX4_possibleSparks_27 : decode cX4_possibleSparks 27 = .ok (.iload_n 3, 1) := by decide +kernel
theorem dX4_possibleSparks_28 : decode cX4_possibleSparks 28 = .ok (.invokevirtual 22, 3) := by decide +kernel
theorem dX4_possibleSparks_31 : decode cX4_possibleSparks 31 = .ok (.ifCond .eq 12, 3) := by decide +kernel
theorem dX4_possibleSparks_34 : decode cX4_possibleSparks 34 = .ok (.aload_n 0, 1) := by decide +kernel
theorem dX4_possibleSparks_35 : decode cX4_possibleSparks 35 = .ok (.getfield 26, 3) := by decide +kernel
theorem dX4_possibleSparks_38 : decode cX4_possibleSparks 38 = .ok (.iload_n 3, 1) := by decide +kernel
theorem dX4_possibleSparks_39 : decode cX4_possibleSparks 39 = .ok (.iaload, 1) := by decide +kernel
theorem dX4_possibleSparks_40 : decode cX4_possibleSparks 40 = .ok (.goto 4, 3) := by decide +kernel
theorem dX4_possibleSparks_43 : decode cX4_possibleSparks 43 = .ok (.iconst 0, 1) := by decide +kernel
theorem dX4_possibleSparks_44 : decode cX4_possibleSparks 44 = .ok (.istore 4, 2) := by decide +kernel
theorem dX4_possibleSparks_46 : decode cX4_possibleSparks 46 = .ok (.iload_n 1, 1) := by decide +kernel
theorem dX4_possibleSparks_47 : decode cX4_possibleSparks 47 = .ok (.aload_n 0, 1) := by decide +kernel
theorem dX4_possibleSparks_48 : decode cX4_possibleSparks 48 = .ok (.getfield 29, 3) := by decide +kernel
theorem dX4_possibleSparks_51 : decode cX4_possibleSparks 51 = .ok (.iload_n 2, 1) := by decide +kernel
theorem dX4_possibleSparks_52 : decode cX4_possibleSparks 52 = .ok (.iaload, 1) := by decide +kernel
theorem dX4_possibleSparks_53 : decode cX4_possibleSparks 53 = .ok (.iconst 1, 1) := by decide +kernel
theorem dX4_possibleSparks_54 : decode cX4_possibleSparks 54 = .ok (.if_icmp .ne 8, 3) := by decide +kernel
theorem dX4_possibleSparks_57 : decode cX4_possibleSparks 57 = .ok (.iload 4, 2) := by decide +kernel
theorem dX4_possibleSparks_59 : decode cX4_possibleSparks 59 = .ok (.goto 7, 3) := by decide +kernel
theorem dX4_possibleSparks_62 : decode cX4_possibleSparks 62 = .ok (.iload 4, 2) := by decide +kernel
theorem dX4_possibleSparks_64 : decode cX4_possibleSparks 64 = .ok (.iconst (-1), 1) := by decide +kernel
theorem dX4_possibleSparks_65 : decode cX4_possibleSparks 65 = .ok (.ixor, 1) := by decide +kernel
theorem dX4_possibleSparks_66 : decode cX4_possibleSparks 66 = .ok (.iand, 1) := by decide +kernel
theorem dX4_possibleSparks_67 : decode cX4_possibleSparks 67 = .ok (.istore_n 1, 1) := by decide +kernel
theorem dX4_possibleSparks_68 : decode cX4_possibleSparks 68 = .ok (.iinc 2 1, 3) := by decide +kernel
theorem dX4_possibleSparks_71 : decode cX4_possibleSparks 71 = .ok (.goto (-60), 3) := by decide +kernel
theorem dX4_possibleSparks_74 : decode cX4_possibleSparks 74 = .ok (.iload_n 1, 1) := by decide +kernel
theorem dX4_possibleSparks_75 : decode cX4_possibleSparks 75 = .ok (.ireturn, 1) := by decide +kernel
theorem dX4_nextCaller_0 : decode cX4_nextCaller 0 = .ok (.aload_n 0, 1) := by decide +kernel
theorem dX4_nextCaller_1 : decode cX4_nextCaller 1 = .ok (.invokestatic 32, 3) := by decide +kernel
theorem dX4_nextCaller_4 : decode cX4_nextCaller 4 = .ok (.istore_n 2, 1) := by decide +kernel
theorem dX4_nextCaller_5 : decode cX4_nextCaller 5 = .ok (.iload_n 2, 1) := by decide +kernel
theorem dX4_nextCaller_6 : decode cX4_nextCaller 6 = .ok (.invokestatic 38, 3) := by decide +kernel
theorem dX4_nextCaller_9 : decode cX4_nextCaller 9 = .ok (.istore_n 3, 1) := by decide +kernel
theorem dX4_nextCaller_10 : decode cX4_nextCaller 10 = .ok (.iconst (-1), 1) := by decide +kernel
theorem dX4_nextCaller_11 : decode cX4_nextCaller 11 = .ok (.istore 4, 2) := by decide +kernel
theorem dX4_nextCaller_13 : decode cX4_nextCaller 13 = .ok (.bipush 7, 2) := by decide +kernel
theorem dX4_nextCaller_15 : decode cX4_nextCaller 15 = .ok (.istore 5, 2) := by decide +kernel
theorem dX4_nextCaller_17 : decode cX4_nextCaller 17 = .ok (.iconst 0, 1) := by decide +kernel
theorem dX4_nextCaller_18 : decode cX4_nextCaller 18 = .ok (.istore 6, 2) := by decide +kernel
theorem dX4_nextCaller_20 : decode cX4_nextCaller 20 = .ok (.iload 6, 2) := by decide +kernel
theorem dX4_nextCaller_22 : decode cX4_nextCaller 22 = .ok (.aload_n 0, 1) := by decide +kernel
theorem dX4_nextCaller_23 : decode cX4_nextCaller 23 = .ok (.getfield 44, 3) := by decide +kernel
theorem dX4_nextCaller_26 : decode cX4_nextCaller 26 = .ok (.if_icmp .ge 53, 3) := by decide +kernel
theorem dX4_nextCaller_29 : decode cX4_nextCaller 29 = .ok (.iload_n 3, 1) := by decide +kernel
theorem dX4_nextCaller_30 : decode cX4_nextCaller 30 = .ok (.ifCond .le 49, 3) := by decide +kernel
theorem dX4_nextCaller_33 : decode cX4_nextCaller 33 = .ok (.iload_n 2, 1) := by decide +kernel
theorem dX4_nextCaller_34 : decode cX4_nextCaller 34 = .ok (.aload_n 0, 1) := by decide +kernel
theorem dX4_nextCaller_35 : decode cX4_nextCaller 35 = .ok (.getfield 26, 3) := by decide +kernel
theorem dX4_nextCaller_38 : decode cX4_nextCaller 38 = .ok (.iload 6, 2) := by decide +kernel
theorem dX4_nextCaller_40 : decode cX4_nextCaller 40 = .ok (.iaload, 1) := by decide +kernel
theorem dX4_nextCaller_41 : decode cX4_nextCaller 41 = .ok (.iand, 1) := by decide +kernel
theorem dX4_nextCaller_42 : decode cX4_nextCaller 42 = .ok (.invokestatic 38, 3) := by decide +kernel
theorem dX4_nextCaller_45 : decode cX4_nextCaller 45 = .ok (.istore 7, 2) := by decide +kernel
theorem dX4_nextCaller_47 : decode cX4_nextCaller 47 = .ok (.iload 7, 2) := by decide +kernel
theorem dX4_nextCaller_49 : decode cX4_nextCaller 49 = .ok (.iload_n 3, 1) := by decide +kernel
theorem dX4_nextCaller_50 : decode cX4_nextCaller 50 = .ok (.iload 7, 2) := by decide +kernel
theorem dX4_nextCaller_52 : decode cX4_nextCaller 52 = .ok (.isub, 1) := by decide +kernel
theorem dX4_nextCaller_53 : decode cX4_nextCaller 53 = .ok (.invokestatic 47, 3) := by decide +kernel
theorem dX4_nextCaller_56 : decode cX4_nextCaller 56 = .ok (.istore 8, 2) := by decide +kernel
theorem dX4_nextCaller_58 : decode cX4_nextCaller 58 = .ok (.iload 8, 2) := by decide +kernel
theorem dX4_nextCaller_60 : decode cX4_nextCaller 60 = .ok (.iload 5, 2) := by decide +kernel
theorem dX4_nextCaller_62 : decode cX4_nextCaller 62 = .ok (.if_icmp .ge 11, 3) := by decide +kernel
theorem dX4_nextCaller_65 : decode cX4_nextCaller 65 = .ok (.iload 8, 2) := by decide +kernel
theorem dX4_nextCaller_67 : decode cX4_nextCaller 67 = .ok (.istore 5, 2) := by decide +kernel
theorem dX4_nextCaller_69 : decode cX4_nextCaller 69 = .ok (.iload 6, 2) := by decide +kernel
theorem dX4_nextCaller_71 : decode cX4_nextCaller 71 = .ok (.istore 4, 2) := by decide +kernel
theorem dX4_nextCaller_73 : decode cX4_nextCaller 73 = .ok (.iinc 6 1, 3) := by decide +kernel
theorem dX4_nextCaller_76 : decode cX4_nextCaller 76 = .ok (.goto (-56), 3) := by decide +kernel
theorem dX4_nextCaller_79 : decode cX4_nextCaller 79 = .ok (.iload 4, 2) := by decide +kernel
theorem dX4_nextCaller_81 : decode cX4_nextCaller 81 = .ok (.iconst (-1), 1) := by decide +kernel
theorem dX4_nextCaller_82 : decode cX4_nextCaller 82 = .ok (.if_icmp .eq 7, 3) := by decide +kernel
theorem dX4_nextCaller_85 : decode cX4_nextCaller 85 = .ok (.iload_n 1, 1) := by decide +kernel
theorem dX4_nextCaller_86 : decode cX4_nextCaller 86 = .ok (.ifCond .ne 8, 3) := by decide +kernel
theorem dX4_nextCaller_89 : decode cX4_nextCaller 89 = .ok (.iload 4, 2) := by decide +kernel
theorem dX4_nextCaller_91 : decode cX4_nextCaller 91 = .ok (.goto 5, 3) := by decide +kernel
theorem dX4_nextCaller_94 : decode cX4_nextCaller 94 = .ok (.iload 5, 2) := by decide +kernel
theorem dX4_nextCaller_96 : decode cX4_nextCaller 96 = .ok (.ireturn, 1) := by decide +kernel
theorem dX4_alikeTwo_0 : decode cX4_alikeTwo 0 = .ok (.iconst 0, 1) := by decide +kernel
theorem dX4_alikeTwo_1 : decode cX4_alikeTwo 1 = .ok (.istore_n 2, 1) := by decide +kernel
theorem dX4_alikeTwo_2 : decode cX4_alikeTwo 2 = .ok (.iconst 0, 1) := by decide +kernel
theorem dX4_alikeTwo_3 : decode cX4_alikeTwo 3 = .ok (.istore_n 3, 1) := by decide +kernel
theorem dX4_alikeTwo_4 : decode cX4_alikeTwo 4 = .ok (.iload_n 3, 1) := by decide +kernel
theorem dX4_alikeTwo_5 : decode cX4_alikeTwo 5 = .ok (.aload_n 0, 1) := by decide +kernel
theorem dX4_alikeTwo_6 : decode cX4_alikeTwo 6 = .ok (.getfield 9, 3) := by decide +kernel
theorem dX4_alikeTwo_9 : decode cX4_alikeTwo 9 = .ok (.if_icmp .ge 64, 3) := by decide +kernel
theorem dX4_alikeTwo_12 : decode cX4_alikeTwo 12 = .ok (.iload_n 3, 1) := by decide +kernel
theorem dX4_alikeTwo_13 : decode cX4_alikeTwo 13 = .ok (.iconst 1, 1) := by decide +kernel
theorem dX4_alikeTwo_14 : decode cX4_alikeTwo 14 = .ok (.iadd, 1) := by decide +kernel
theorem dX4_alikeTwo_15 : decode cX4_alikeTwo 15 = .ok (.istore 4, 2) := by decide +kernel
theorem dX4_alikeTwo_17 : decode cX4_alikeTwo 17 = .ok (.iload 4, 2) := by decide +kernel
theorem dX4_alikeTwo_19 : decode cX4_alikeTwo 19 = .ok (.aload_n 0, 1) := by decide +kernel
theorem dX4_alikeTwo_20 : decode cX4_alikeTwo 20 = .ok (.getfield 9, 3) := by decide +kernel
theorem dX4_alikeTwo_23 : decode cX4_alikeTwo 23 = .ok (.if_icmp .ge 44, 3) := by decide +kernel
theorem dX4_alikeTwo_26 : decode cX4_alikeTwo 26 = .ok (.aload_n 0, 1) := by decide +kernel
theorem dX4_alikeTwo_27 : decode cX4_alikeTwo 27 = .ok (.getfield 53, 3) := by decide +kernel
theorem dX4_alikeTwo_30 : decode cX4_alikeTwo 30 = .ok (.iload_n 3, 1) := by decide +kernel
theorem dX4_alikeTwo_31 : decode cX4_alikeTwo 31 = .ok (.iaload, 1) := by decide +kernel
theorem dX4_alikeTwo_32 : decode cX4_alikeTwo 32 = .ok (.aload_n 0, 1) := by decide +kernel
theorem dX4_alikeTwo_33 : decode cX4_alikeTwo 33 = .ok (.getfield 53, 3) := by decide +kernel
theorem dX4_alikeTwo_36 : decode cX4_alikeTwo 36 = .ok (.iload 4, 2) := by decide +kernel
theorem dX4_alikeTwo_38 : decode cX4_alikeTwo 38 = .ok (.iaload, 1) := by decide +kernel
theorem dX4_alikeTwo_39 : decode cX4_alikeTwo 39 = .ok (.invokestatic 56, 3) := by decide +kernel
theorem dX4_alikeTwo_42 : decode cX4_alikeTwo 42 = .ok (.ifCond .eq 19, 3) := by decide +kernel
theorem dX4_alikeTwo_45 : decode cX4_alikeTwo 45 = .ok (.iload_n 2, 1) := by decide +kernel
theorem dX4_alikeTwo_46 : decode cX4_alikeTwo 46 = .ok (.iload_n 1, 1) := by decide +kernel
theorem dX4_alikeTwo_47 : decode cX4_alikeTwo 47 = .ok (.if_icmp .ne 11, 3) := by decide +kernel
theorem dX4_alikeTwo_50 : decode cX4_alikeTwo 50 = .ok (.iload_n 3, 1) := by decide +kernel
theorem dX4_alikeTwo_51 : decode cX4_alikeTwo 51 = .ok (.bipush 10, 2) := by decide +kernel
theorem dX4_alikeTwo_53 : decode cX4_alikeTwo 53 = .ok (.imul, 1) := by decide +kernel
theorem dX4_alikeTwo_54 : decode cX4_alikeTwo 54 = .ok (.iload 4, 2) := by decide +kernel
theorem dX4_alikeTwo_56 : decode cX4_alikeTwo 56 = .ok (.iadd, 1) := by decide +kernel
theorem dX4_alikeTwo_57 : decode cX4_alikeTwo 57 = .ok (.ireturn, 1) := by decide +kernel
theorem dX4_alikeTwo_58 : decode cX4_alikeTwo 58 = .ok (.iinc 2 1, 3) := by decide +kernel
theorem dX4_alikeTwo_61 : decode cX4_alikeTwo 61 = .ok (.iinc 4 1, 3) := by decide +kernel
theorem dX4_alikeTwo_64 : decode cX4_alikeTwo 64 = .ok (.goto (-47), 3) := by decide +kernel
theorem dX4_alikeTwo_67 : decode cX4_alikeTwo 67 = .ok (.iinc 3 1, 3) := by decide +kernel
theorem dX4_alikeTwo_70 : decode cX4_alikeTwo 70 = .ok (.goto (-66), 3) := by decide +kernel
theorem dX4_alikeTwo_73 : decode cX4_alikeTwo 73 = .ok (.iload_n 1, 1) := by decide +kernel
theorem dX4_alikeTwo_74 : decode cX4_alikeTwo 74 = .ok (.iconst (-1), 1) := by decide +kernel
theorem dX4_alikeTwo_75 : decode cX4_alikeTwo 75 = .ok (.if_icmp .ne 7, 3) := by decide +kernel
theorem dX4_alikeTwo_78 : decode cX4_alikeTwo 78 = .ok (.iload_n 2, 1) := by decide +kernel
theorem dX4_alikeTwo_79 : decode cX4_alikeTwo 79 = .ok (.goto 4, 3) := by decide +kernel
theorem dX4_alikeTwo_82 : decode cX4_alikeTwo 82 = .ok (.iconst (-1), 1) := by decide +kernel
theorem dX4_alikeTwo_83 : decode cX4_alikeTwo 83 = .ok (.ireturn, 1) := by decide +kernel
theorem dX4_namedAnew_0 : decode cX4_namedAnew 0 = .ok (.iconst 1, 1) := by decide +kernel
theorem dX4_namedAnew_1 : decode cX4_namedAnew 1 = .ok (.aload_n 0, 1) := by decide +kernel
theorem dX4_namedAnew_2 : decode cX4_namedAnew 2 = .ok (.getfield 9, 3) := by decide +kernel
theorem dX4_namedAnew_5 : decode cX4_namedAnew 5 = .ok (.ishl, 1) := by decide +kernel
theorem dX4_namedAnew_6 : decode cX4_namedAnew 6 = .ok (.iconst 1, 1) := by decide +kernel
theorem dX4_namedAnew_7 : decode cX4_namedAnew 7 = .ok (.isub, 1) := by decide +kernel
theorem dX4_namedAnew_8 : decode cX4_namedAnew 8 = .ok (.istore_n 1, 1) := by decide +kernel
theorem dX4_namedAnew_9 : decode cX4_namedAnew 9 = .ok (.iload_n 1, 1) := by decide +kernel
theorem dX4_namedAnew_10 : decode cX4_namedAnew 10 = .ok (.iconst 1, 1) := by decide +kernel
theorem dX4_namedAnew_11 : decode cX4_namedAnew 11 = .ok (.isub, 1) := by decide +kernel
theorem dX4_namedAnew_12 : decode cX4_namedAnew 12 = .ok (.istore_n 2, 1) := by decide +kernel
theorem dX4_namedAnew_13 : decode cX4_namedAnew 13 = .ok (.iload_n 2, 1) := by decide +kernel
theorem dX4_namedAnew_14 : decode cX4_namedAnew 14 = .ok (.ifCond .lt 30, 3) := by decide +kernel
theorem dX4_namedAnew_17 : decode cX4_namedAnew 17 = .ok (.iload_n 2, 1) := by decide +kernel
theorem dX4_namedAnew_18 : decode cX4_namedAnew 18 = .ok (.invokestatic 38, 3) := by decide +kernel
theorem dX4_namedAnew_21 : decode cX4_namedAnew 21 = .ok (.iload_n 1, 1) := by decide +kernel
theorem dX4_namedAnew_22 : decode cX4_namedAnew 22 = .ok (.invokestatic 38, 3) := by decide +kernel
theorem dX4_namedAnew_25 : decode cX4_namedAnew 25 = .ok (.if_icmp .gt 13, 3) := by decide +kernel
theorem dX4_namedAnew_28 : decode cX4_namedAnew 28 = .ok (.aload_n 0, 1) := by decide +kernel
theorem dX4_namedAnew_29 : decode cX4_namedAnew 29 = .ok (.iload_n 2, 1) := by decide +kernel
theorem dX4_namedAnew_30 : decode cX4_namedAnew 30 = .ok (.invokestatic 60, 3) := by decide +kernel
theorem dX4_namedAnew_33 : decode cX4_namedAnew 33 = .ok (.ifCond .eq 5, 3) := by decide +kernel
theorem dX4_namedAnew_36 : decode cX4_namedAnew 36 = .ok (.iload_n 2, 1) := by decide +kernel
theorem dX4_namedAnew_37 : decode cX4_namedAnew 37 = .ok (.istore_n 1, 1) := by decide +kernel
theorem dX4_namedAnew_38 : decode cX4_namedAnew 38 = .ok (.iinc 2 (-1), 3) := by decide +kernel
theorem dX4_namedAnew_41 : decode cX4_namedAnew 41 = .ok (.goto (-28), 3) := by decide +kernel
theorem dX4_namedAnew_44 : decode cX4_namedAnew 44 = .ok (.iload_n 1, 1) := by decide +kernel
theorem dX4_namedAnew_45 : decode cX4_namedAnew 45 = .ok (.ireturn, 1) := by decide +kernel
theorem dX4_othersDiffer_0 : decode cX4_othersDiffer 0 = .ok (.iconst 0, 1) := by decide +kernel
theorem dX4_othersDiffer_1 : decode cX4_othersDiffer 1 = .ok (.istore_n 2, 1) := by decide +kernel
theorem dX4_othersDiffer_2 : decode cX4_othersDiffer 2 = .ok (.iload_n 2, 1) := by decide +kernel
theorem dX4_othersDiffer_3 : decode cX4_othersDiffer 3 = .ok (.aload_n 0, 1) := by decide +kernel
theorem dX4_othersDiffer_4 : decode cX4_othersDiffer 4 = .ok (.getfield 9, 3) := by decide +kernel
theorem dX4_othersDiffer_7 : decode cX4_othersDiffer 7 = .ok (.if_icmp .ge 75, 3) := by decide +kernel
theorem dX4_othersDiffer_10 : decode cX4_othersDiffer 10 = .ok (.iload_n 2, 1) := by decide +kernel
theorem dX4_othersDiffer_11 : decode cX4_othersDiffer 11 = .ok (.iconst 1, 1) := by decide +kernel
theorem dX4_othersDiffer_12 : decode cX4_othersDiffer 12 = .ok (.iadd, 1) := by decide +kernel
theorem dX4_othersDiffer_13 : decode cX4_othersDiffer 13 = .ok (.istore_n 3, 1) := by decide +kernel
theorem dX4_othersDiffer_14 : decode cX4_othersDiffer 14 = .ok (.iload_n 3, 1) := by decide +kernel
theorem dX4_othersDiffer_15 : decode cX4_othersDiffer 15 = .ok (.aload_n 0, 1) := by decide +kernel
theorem dX4_othersDiffer_16 : decode cX4_othersDiffer 16 = .ok (.getfield 9, 3) := by decide +kernel
theorem dX4_othersDiffer_19 : decode cX4_othersDiffer 19 = .ok (.if_icmp .ge 57, 3) := by decide +kernel
theorem dX4_othersDiffer_22 : decode cX4_othersDiffer 22 = .ok (.iload_n 1, 1) := by decide +kernel
theorem dX4_othersDiffer_23 : decode cX4_othersDiffer 23 = .ok (.iload_n 2, 1) := by decide +kernel
theorem dX4_othersDiffer_24 : decode cX4_othersDiffer 24 = .ok (.ishr, 1) := by decide +kernel
theorem dX4_othersDiffer_25 : decode cX4_othersDiffer 25 = .ok (.iconst 1, 1) := by decide +kernel
theorem dX4_othersDiffer_26 : decode cX4_othersDiffer 26 = .ok (.iand, 1) := by decide +kernel
theorem dX4_othersDiffer_27 : decode cX4_othersDiffer 27 = .ok (.ifCond .ne 15, 3) := by decide +kernel
theorem dX4_othersDiffer_30 : decode cX4_othersDiffer 30 = .ok (.iload_n 1, 1) := by decide +kernel
theorem dX4_othersDiffer_31 : decode cX4_othersDiffer 31 = .ok (.iload_n 3, 1) := by decide +kernel
theorem dX4_othersDiffer_32 : decode cX4_othersDiffer 32 = .ok (.ishr, 1) := by decide +kernel
theorem dX4_othersDiffer_33 : decode cX4_othersDiffer 33 = .ok (.iconst 1, 1) := by decide +kernel
theorem dX4_othersDiffer_34 : decode cX4_othersDiffer 34 = .ok (.iand, 1) := by decide +kernel
theorem dX4_othersDiffer_35 : decode cX4_othersDiffer 35 = .ok (.ifCond .ne 7, 3) := by decide +kernel
theorem dX4_othersDiffer_38 : decode cX4_othersDiffer 38 = .ok (.iconst 1, 1) := by decide +kernel
theorem dX4_othersDiffer_39 : decode cX4_othersDiffer 39 = .ok (.goto 4, 3) := by decide +kernel
theorem dX4_othersDiffer_42 : decode cX4_othersDiffer 42 = .ok (.iconst 0, 1) := by decide +kernel
theorem dX4_othersDiffer_43 : decode cX4_othersDiffer 43 = .ok (.istore 4, 2) := by decide +kernel
theorem dX4_othersDiffer_45 : decode cX4_othersDiffer 45 = .ok (.iload 4, 2) := by decide +kernel
theorem dX4_othersDiffer_47 : decode cX4_othersDiffer 47 = .ok (.ifCond .eq 23, 3) := by decide +kernel
theorem dX4_othersDiffer_50 : decode cX4_othersDiffer 50 = .ok (.aload_n 0, 1) := by decide +kernel
theorem dX4_othersDiffer_51 : decode cX4_othersDiffer 51 = .ok (.getfield 53, 3) := by decide +kernel
theorem dX4_othersDiffer_54 : decode cX4_othersDiffer 54 = .ok (.iload_n 2, 1) := by decide +kernel
theorem dX4_othersDiffer_55 : decode cX4_othersDiffer 55 = .ok (.iaload, 1) := by decide +kernel
theorem dX4_othersDiffer_56 : decode cX4_othersDiffer 56 = .ok (.aload_n 0, 1) := by decide +kernel
theorem dX4_othersDiffer_57 : decode cX4_othersDiffer 57 = .ok (.getfield 53, 3) := by decide +kernel
theorem dX4_othersDiffer_60 : decode cX4_othersDiffer 60 = .ok (.iload_n 3, 1) := by decide +kernel
theorem dX4_othersDiffer_61 : decode cX4_othersDiffer 61 = .ok (.iaload, 1) := by decide +kernel
theorem dX4_othersDiffer_62 : decode cX4_othersDiffer 62 = .ok (.invokestatic 56, 3) := by decide +kernel
theorem dX4_othersDiffer_65 : decode cX4_othersDiffer 65 = .ok (.ifCond .eq 5, 3) := by decide +kernel
theorem dX4_othersDiffer_68 : decode cX4_othersDiffer 68 = .ok (.iconst 0, 1) := by decide +kernel
theorem dX4_othersDiffer_69 : decode cX4_othersDiffer 69 = .ok (.ireturn, 1) := by decide +kernel
theorem dX4_othersDiffer_70 : decode cX4_othersDiffer 70 = .ok (.iinc 3 1, 3) := by decide +kernel
theorem dX4_othersDiffer_73 : decode cX4_othersDiffer 73 = .ok (.goto (-59), 3) := by decide +kernel
theorem dX4_othersDiffer_76 : decode cX4_othersDiffer 76 = .ok (.iinc 2 1, 3) := by decide +kernel
theorem dX4_othersDiffer_79 : decode cX4_othersDiffer 79 = .ok (.goto (-77), 3) := by decide +kernel
theorem dX4_othersDiffer_82 : decode cX4_othersDiffer 82 = .ok (.iconst 1, 1) := by decide +kernel
theorem dX4_othersDiffer_83 : decode cX4_othersDiffer 83 = .ok (.ireturn, 1) := by decide +kernel
theorem dX4_areAlike_0 : decode cX4_areAlike 0 = .ok (.iload_n 0, 1) := by decide +kernel
theorem dX4_areAlike_1 : decode cX4_areAlike 1 = .ok (.bipush 10, 2) := by decide +kernel
theorem dX4_areAlike_3 : decode cX4_areAlike 3 = .ok (.idiv, 1) := by decide +kernel
theorem dX4_areAlike_4 : decode cX4_areAlike 4 = .ok (.iload_n 1, 1) := by decide +kernel
theorem dX4_areAlike_5 : decode cX4_areAlike 5 = .ok (.bipush 10, 2) := by decide +kernel
theorem dX4_areAlike_7 : decode cX4_areAlike 7 = .ok (.idiv, 1) := by decide +kernel
theorem dX4_areAlike_8 : decode cX4_areAlike 8 = .ok (.if_icmp .eq 14, 3) := by decide +kernel
theorem dX4_areAlike_11 : decode cX4_areAlike 11 = .ok (.iload_n 0, 1) := by decide +kernel
theorem dX4_areAlike_12 : decode cX4_areAlike 12 = .ok (.bipush 10, 2) := by decide +kernel
theorem dX4_areAlike_14 : decode cX4_areAlike 14 = .ok (.irem, 1) := by decide +kernel
theorem dX4_areAlike_15 : decode cX4_areAlike 15 = .ok (.iload_n 1, 1) := by decide +kernel
theorem dX4_areAlike_16 : decode cX4_areAlike 16 = .ok (.bipush 10, 2) := by decide +kernel
theorem dX4_areAlike_18 : decode cX4_areAlike 18 = .ok (.irem, 1) := by decide +kernel
theorem dX4_areAlike_19 : decode cX4_areAlike 19 = .ok (.if_icmp .ne 7, 3) := by decide +kernel
theorem dX4_areAlike_22 : decode cX4_areAlike 22 = .ok (.iconst 1, 1) := by decide +kernel
theorem dX4_areAlike_23 : decode cX4_areAlike 23 = .ok (.goto 4, 3) := by decide +kernel
theorem dX4_areAlike_26 : decode cX4_areAlike 26 = .ok (.iconst 0, 1) := by decide +kernel
theorem dX4_areAlike_27 : decode cX4_areAlike 27 = .ok (.ireturn, 1) := by decide +kernel
theorem dX4_guards_0 : decode cX4_guards 0 = .ok (.iconst (-1), 1) := by decide +kernel
theorem dX4_guards_1 : decode cX4_guards 1 = .ok (.istore_n 2, 1) := by decide +kernel
theorem dX4_guards_2 : decode cX4_guards 2 = .ok (.iconst 1, 1) := by decide +kernel
theorem dX4_guards_3 : decode cX4_guards 3 = .ok (.aload_n 0, 1) := by decide +kernel
theorem dX4_guards_4 : decode cX4_guards 4 = .ok (.getfield 44, 3) := by decide +kernel
theorem dX4_guards_7 : decode cX4_guards 7 = .ok (.ishl, 1) := by decide +kernel
theorem dX4_guards_8 : decode cX4_guards 8 = .ok (.iconst 1, 1) := by decide +kernel
theorem dX4_guards_9 : decode cX4_guards 9 = .ok (.isub, 1) := by decide +kernel
theorem dX4_guards_10 : decode cX4_guards 10 = .ok (.istore_n 3, 1) := by decide +kernel
theorem dX4_guards_11 : decode cX4_guards 11 = .ok (.iload_n 3, 1) := by decide +kernel
theorem dX4_guards_12 : decode cX4_guards 12 = .ok (.ifCond .lt 48, 3) := by decide +kernel
theorem dX4_guards_15 : decode cX4_guards 15 = .ok (.iload_n 2, 1) := by decide +kernel
theorem dX4_guards_16 : decode cX4_guards 16 = .ok (.iconst (-1), 1) := by decide +kernel
theorem dX4_guards_17 : decode cX4_guards 17 = .ok (.if_icmp .eq 14, 3) := by decide +kernel
theorem dX4_guards_20 : decode cX4_guards 20 = .ok (.iload_n 3, 1) := by decide +kernel
theorem dX4_guards_21 : decode cX4_guards 21 = .ok (.invokestatic 38, 3) := by decide +kernel
theorem dX4_guards_24 : decode cX4_guards 24 = .ok (.iload_n 2, 1) := by decide +kernel
theorem dX4_guards_25 : decode cX4_guards 25 = .ok (.invokestatic 38, 3) := by decide +kernel
theorem dX4_guards_28 : decode cX4_guards 28 = .ok (.if_icmp .gt 7, 3) := by decide +kernel
theorem dX4_guards_31 : decode cX4_guards 31 = .ok (.iconst 1, 1) := by decide +kernel
theorem dX4_guards_32 : decode cX4_guards 32 = .ok (.goto 4, 3) := by decide +kernel
theorem dX4_guards_35 : decode cX4_guards 35 = .ok (.iconst 0, 1) := by decide +kernel
theorem dX4_guards_36 : decode cX4_guards 36 = .ok (.istore 4, 2) := by decide +kernel
theorem dX4_guards_38 : decode cX4_guards 38 = .ok (.iload 4, 2) := by decide +kernel
theorem dX4_guards_40 : decode cX4_guards 40 = .ok (.ifCond .eq 14, 3) := by decide +kernel
theorem dX4_guards_43 : decode cX4_guards 43 = .ok (.aload_n 0, 1) := by decide +kernel
theorem dX4_guards_44 : decode cX4_guards 44 = .ok (.iload_n 3, 1) := by decide +kernel
theorem dX4_guards_45 : decode cX4_guards 45 = .ok (.iload_n 1, 1) := by decide +kernel
theorem dX4_guards_46 : decode cX4_guards 46 = .ok (.invokestatic 64, 3) := by decide +kernel
theorem dX4_guards_49 : decode cX4_guards 49 = .ok (.ifCond .eq 5, 3) := by decide +kernel
theorem dX4_guards_52 : decode cX4_guards 52 = .ok (.iload_n 3, 1) := by decide +kernel
theorem dX4_guards_53 : decode cX4_guards 53 = .ok (.istore_n 2, 1) := by decide +kernel
theorem dX4_guards_54 : decode cX4_guards 54 = .ok (.iinc 3 (-1), 3) := by decide +kernel
theorem dX4_guards_57 : decode cX4_guards 57 = .ok (.goto (-46), 3) := by decide +kernel
theorem dX4_guards_60 : decode cX4_guards 60 = .ok (.iload_n 2, 1) := by decide +kernel
theorem dX4_guards_61 : decode cX4_guards 61 = .ok (.ireturn, 1) := by decide +kernel
theorem dX4_isGuard_0 : decode cX4_isGuard 0 = .ok (.iconst 0, 1) := by decide +kernel
theorem dX4_isGuard_1 : decode cX4_isGuard 1 = .ok (.istore_n 3, 1) := by decide +kernel
theorem dX4_isGuard_2 : decode cX4_isGuard 2 = .ok (.iload_n 3, 1) := by decide +kernel
theorem dX4_isGuard_3 : decode cX4_isGuard 3 = .ok (.aload_n 0, 1) := by decide +kernel
theorem dX4_isGuard_4 : decode cX4_isGuard 4 = .ok (.getfield 9, 3) := by decide +kernel
theorem dX4_isGuard_7 : decode cX4_isGuard 7 = .ok (.if_icmp .ge 35, 3) := by decide +kernel
theorem dX4_isGuard_10 : decode cX4_isGuard 10 = .ok (.aload_n 0, 1) := by decide +kernel
theorem dX4_isGuard_11 : decode cX4_isGuard 11 = .ok (.getfield 68, 3) := by decide +kernel
theorem dX4_isGuard_14 : decode cX4_isGuard 14 = .ok (.iload_n 3, 1) := by decide +kernel
theorem dX4_isGuard_15 : decode cX4_isGuard 15 = .ok (.iaload, 1) := by decide +kernel
theorem dX4_isGuard_16 : decode cX4_isGuard 16 = .ok (.iconst (-1), 1) := by decide +kernel
theorem dX4_isGuard_17 : decode cX4_isGuard 17 = .ok (.if_icmp .eq 19, 3) := by decide +kernel
theorem dX4_isGuard_20 : decode cX4_isGuard 20 = .ok (.iload_n 1, 1) := by decide +kernel
theorem dX4_isGuard_21 : decode cX4_isGuard 21 = .ok (.aload_n 0, 1) := by decide +kernel
theorem dX4_isGuard_22 : decode cX4_isGuard 22 = .ok (.iload_n 3, 1) := by decide +kernel
theorem dX4_isGuard_23 : decode cX4_isGuard 23 = .ok (.invokevirtual 71, 3) := by decide +kernel
theorem dX4_isGuard_26 : decode cX4_isGuard 26 = .ok (.iand, 1) := by decide +kernel
theorem dX4_isGuard_27 : decode cX4_isGuard 27 = .ok (.invokestatic 38, 3) := by decide +kernel
theorem dX4_isGuard_30 : decode cX4_isGuard 30 = .ok (.iload_n 2, 1) := by decide +kernel
theorem dX4_isGuard_31 : decode cX4_isGuard 31 = .ok (.if_icmp .gt 5, 3) := by decide +kernel
theorem dX4_isGuard_34 : decode cX4_isGuard 34 = .ok (.iconst 0, 1) := by decide +kernel
theorem dX4_isGuard_35 : decode cX4_isGuard 35 = .ok (.ireturn, 1) := by decide +kernel
theorem dX4_isGuard_36 : decode cX4_isGuard 36 = .ok (.iinc 3 1, 3) := by decide +kernel
theorem dX4_isGuard_39 : decode cX4_isGuard 39 = .ok (.goto (-37), 3) := by decide +kernel
theorem dX4_isGuard_42 : decode cX4_isGuard 42 = .ok (.iconst 1, 1) := by decide +kernel
theorem dX4_isGuard_43 : decode cX4_isGuard 43 = .ok (.ireturn, 1) := by decide +kernel
theorem dX4_lessonsNeeded_0 : decode cX4_lessonsNeeded 0 = .ok (.iconst 0, 1) := by decide +kernel
theorem dX4_lessonsNeeded_1 : decode cX4_lessonsNeeded 1 = .ok (.istore_n 2, 1) := by decide +kernel
theorem dX4_lessonsNeeded_2 : decode cX4_lessonsNeeded 2 = .ok (.iconst 0, 1) := by decide +kernel
theorem dX4_lessonsNeeded_3 : decode cX4_lessonsNeeded 3 = .ok (.istore_n 3, 1) := by decide +kernel
theorem dX4_lessonsNeeded_4 : decode cX4_lessonsNeeded 4 = .ok (.iload_n 3, 1) := by decide +kernel
theorem dX4_lessonsNeeded_5 : decode cX4_lessonsNeeded 5 = .ok (.aload_n 0, 1) := by decide +kernel
theorem dX4_lessonsNeeded_6 : decode cX4_lessonsNeeded 6 = .ok (.getfield 9, 3) := by decide +kernel
theorem dX4_lessonsNeeded_9 : decode cX4_lessonsNeeded 9 = .ok (.if_icmp .ge 26, 3) := by decide +kernel
theorem dX4_lessonsNeeded_12 : decode cX4_lessonsNeeded 12 = .ok (.iload_n 2, 1) := by decide +kernel
theorem dX4_lessonsNeeded_13 : decode cX4_lessonsNeeded 13 = .ok (.iconst 0, 1) := by decide +kernel
theorem dX4_lessonsNeeded_14 : decode cX4_lessonsNeeded 14 = .ok (.iload_n 1, 1) := by decide +kernel
theorem dX4_lessonsNeeded_15 : decode cX4_lessonsNeeded 15 = .ok (.aload_n 0, 1) := by decide +kernel
theorem dX4_lessonsNeeded_16 : decode cX4_lessonsNeeded 16 = .ok (.iload_n 3, 1) := by decide +kernel
theorem dX4_lessonsNeeded_17 : decode cX4_lessonsNeeded 17 = .ok (.invokevirtual 71, 3) := by decide +kernel
theorem dX4_lessonsNeeded_20 : decode cX4_lessonsNeeded 20 = .ok (.invokestatic 38, 3) := by decide +kernel
theorem dX4_lessonsNeeded_23 : decode cX4_lessonsNeeded 23 = .ok (.isub, 1) := by decide +kernel
theorem dX4_lessonsNeeded_24 : decode cX4_lessonsNeeded 24 = .ok (.invokestatic 47, 3) := by decide +kernel
theorem dX4_lessonsNeeded_27 : decode cX4_lessonsNeeded 27 = .ok (.iadd, 1) := by decide +kernel
theorem dX4_lessonsNeeded_28 : decode cX4_lessonsNeeded 28 = .ok (.istore_n 2, 1) := by decide +kernel
theorem dX4_lessonsNeeded_29 : decode cX4_lessonsNeeded 29 = .ok (.iinc 3 1, 3) := by decide +kernel
theorem dX4_lessonsNeeded_32 : decode cX4_lessonsNeeded 32 = .ok (.goto (-28), 3) := by decide +kernel
theorem dX4_lessonsNeeded_35 : decode cX4_lessonsNeeded 35 = .ok (.iload_n 2, 1) := by decide +kernel
theorem dX4_lessonsNeeded_36 : decode cX4_lessonsNeeded 36 = .ok (.ireturn, 1) := by decide +kernel
theorem dX5_init_0 : decode cX5_init 0 = .ok (.aload_n 0, 1) := by decide +kernel
theorem dX5_init_1 : decode cX5_init 1 = .ok (.invokespecial 3, 3) := by decide +kernel
theorem dX5_init_4 : decode cX5_init 4 = .ok (.aload_n 0, 1) := by decide +kernel
theorem dX5_init_5 : decode cX5_init 5 = .ok (.bipush 25, 2) := by decide +kernel
theorem dX5_init_7 : decode cX5_init 7 = .ok (.newarray .int, 2) := by decide +kernel
theorem dX5_init_9 : decode cX5_init 9 = .ok (.putfield 9, 3) := by decide +kernel
theorem dX5_init_12 : decode cX5_init 12 = .ok (.aload_n 0, 1) := by decide +kernel
theorem dX5_init_13 : decode cX5_init 13 = .ok (.bipush 6, 2) := by decide +kernel
theorem dX5_init_15 : decode cX5_init 15 = .ok (.newarray .int, 2) := by decide +kernel
theorem dX5_init_17 : decode cX5_init 17 = .ok (.putfield 15, 3) := by decide +kernel
theorem dX5_init_20 : decode cX5_init 20 = .ok (.aload_n 0, 1) := by decide +kernel
theorem dX5_init_21 : decode cX5_init 21 = .ok (.bipush 6, 2) := by decide +kernel
theorem dX5_init_23 : decode cX5_init 23 = .ok (.newarray .int, 2) := by decide +kernel
theorem dX5_init_25 : decode cX5_init 25 = .ok (.putfield 18, 3) := by decide +kernel
theorem dX5_init_28 : decode cX5_init 28 = .ok (.aload_n 0, 1) := by decide +kernel
theorem dX5_init_29 : decode cX5_init 29 = .ok (.bipush 6, 2) := by decide +kernel
theorem dX5_init_31 : decode cX5_init 31 = .ok (.newarray .int, 2) := by decide +kernel
theorem dX5_init_33 : decode cX5_init 33 = .ok (.putfield 21, 3) := by decide +kernel
theorem dX5_init_36 : decode cX5_init 36 = .ok (.aload_n 0, 1) := by decide +kernel
theorem dX5_init_37 : decode cX5_init 37 = .ok (.iconst 5, 1) := by decide +kernel
theorem dX5_init_38 : decode cX5_init 38 = .ok (.newarray .int, 2) := by decide +kernel
theorem dX5_init_40 : decode cX5_init 40 = .ok (.putfield 24, 3) := by decide +kernel
theorem dX5_init_43 : decode cX5_init 43 = .ok (.aload_n 0, 1) := by decide +kernel
theorem dX5_init_44 : decode cX5_init 44 = .ok (.iconst 5, 1) := by decide +kernel
theorem dX5_init_45 : decode cX5_init 45 = .ok (.newarray .int, 2) := by decide +kernel
theorem dX5_init_47 : decode cX5_init 47 = .ok (.putfield 27, 3) := by decide +kernel
theorem dX5_init_50 : decode cX5_init 50 = .ok (.aload_n 0, 1) := by decide +kernel
theorem dX5_init_51 : decode cX5_init 51 = .ok (.iconst 5, 1) := by decide +kernel
theorem dX5_init_52 : decode cX5_init 52 = .ok (.newarray .int, 2) := by decide +kernel
theorem dX5_init_54 : decode cX5_init 54 = .ok (.putfield 30, 3) := by decide +kernel
theorem dX5_init_57 : decode cX5_init 57 = .ok (.aload_n 0, 1) := by decide +kernel
theorem dX5_init_58 : decode cX5_init 58 = .ok (.bipush 6, 2) := by decide +kernel
theorem dX5_init_60 : decode cX5_init 60 = .ok (.newarray .int, 2) := by decide +kernel
theorem dX5_init_62 : decode cX5_init 62 = .ok (.putfield 33, 3) := by decide +kernel
theorem dX5_init_65 : decode cX5_init 65 = .ok (.aload_n 0, 1) := by decide +kernel
theorem dX5_init_66 : decode cX5_init 66 = .ok (.bipush 6, 2) := by decide +kernel
theorem dX5_init_68 : decode cX5_init 68 = .ok (.newarray .int, 2) := by decide +kernel
theorem dX5_init_70 : decode cX5_init 70 = .ok (.putfield 36, 3) := by decide +kernel
theorem dX5_init_73 : decode cX5_init 73 = .ok (.aload_n 0, 1) := by decide +kernel
theorem dX5_init_74 : decode cX5_init 74 = .ok (.iconst 4, 1) := by decide +kernel
theorem dX5_init_75 : decode cX5_init 75 = .ok (.newarray .int, 2) := by decide +kernel
theorem dX5_init_77 : decode cX5_init 77 = .ok (.putfield 39, 3) := by decide +kernel
theorem dX5_init_80 : decode cX5_init 80 = .ok (.aload_n 0, 1) := by decide +kernel
theorem dX5_init_81 : decode cX5_init 81 = .ok (.bipush 6, 2) := by decide +kernel
theorem dX5_init_83 : decode cX5_init 83 = .ok (.anewarray 42, 3) := by decide +kernel
theorem dX5_init_86 : decode cX5_init 86 = .ok (.putfield 44, 3) := by decide +kernel
theorem dX5_init_89 : decode cX5_init 89 = .ok (.aload_n 0, 1) := by decide +kernel
theorem dX5_init_90 : decode cX5_init 90 = .ok (.iconst (-1), 1) := by decide +kernel
theorem dX5_init_91 : decode cX5_init 91 = .ok (.putfield 48, 3) := by decide +kernel
theorem dX5_init_94 : decode cX5_init 94 = .ok (.aload_n 0, 1) := by decide +kernel
theorem dX5_init_95 : decode cX5_init 95 = .ok (.getfield 39, 3) := by decide +kernel
theorem dX5_init_98 : decode cX5_init 98 = .ok (.iconst 1, 1) := by decide +kernel
theorem dX5_init_99 : decode cX5_init 99 = .ok (.iconst 1, 1) := by decide +kernel
theorem dX5_init_100 : decode cX5_init 100 = .ok (.iastore, 1) := by decide +kernel
theorem dX5_init_101 : decode cX5_init 101 = .ok (.return_, 1) := by decide +kernel
theorem dX5_hasSpark_0 : decode cX5_hasSpark 0 = .ok (.iload_n 1, 1) := by decide +kernel
theorem dX5_hasSpark_1 : decode cX5_hasSpark 1 = .ok (.ifCond .lt 15, 3) := by decide +kernel
theorem dX5_hasSpark_4 : decode cX5_hasSpark 4 = .ok (.iload_n 1, 1) := by decide +kernel
theorem dX5_hasSpark_5 : decode cX5_hasSpark 5 = .ok (.aload_n 0, 1) := by decide +kernel
theorem dX5_hasSpark_6 : decode cX5_hasSpark 6 = .ok (.getfield 52, 3) := by decide +kernel
theorem dX5_hasSpark_9 : decode cX5_hasSpark 9 = .ok (.if_icmp .ge 7, 3) := by decide +kernel
theorem dX5_hasSpark_12 : decode cX5_hasSpark 12 = .ok (.iconst 1, 1) := by decide +kernel
theorem dX5_hasSpark_13 : decode cX5_hasSpark 13 = .ok (.goto 4, 3) := by decide +kernel
theorem dX5_hasSpark_16 : decode cX5_hasSpark 16 = .ok (.iconst 0, 1) := by decide +kernel
theorem dX5_hasSpark_17 : decode cX5_hasSpark 17 = .ok (.ireturn, 1) := by decide +kernel
theorem dX5_hasLoose_0 : decode cX5_hasLoose 0 = .ok (.aload_n 0, 1) := by decide +kernel
theorem dX5_hasLoose_1 : decode cX5_hasLoose 1 = .ok (.iload_n 1, 1) := by decide +kernel
theorem dX5_hasLoose_2 : decode cX5_hasLoose 2 = .ok (.invokevirtual 55, 3) := by decide +kernel
theorem dX5_hasLoose_5 : decode cX5_hasLoose 5 = .ok (.ifCond .eq 17, 3) := by decide +kernel
theorem dX5_hasLoose_8 : decode cX5_hasLoose 8 = .ok (.aload_n 0, 1) := by decide +kernel
theorem dX5_hasLoose_9 : decode cX5_hasLoose 9 = .ok (.getfield 15, 3) := by decide +kernel
theorem dX5_hasLoose_12 : decode cX5_hasLoose 12 = .ok (.iload_n 1, 1) := by decide +kernel
theorem dX5_hasLoose_13 : decode cX5_hasLoose 13 = .ok (.iaload, 1) := by decide +kernel
theorem dX5_hasLoose_14 : decode cX5_hasLoose 14 = .ok (.iconst (-1), 1) := by decide +kernel
theorem dX5_hasLoose_15 : decode cX5_hasLoose 15 = .ok (.if_icmp .eq 7, 3) := by decide +kernel
theorem dX5_hasLoose_18 : decode cX5_hasLoose 18 = .ok (.iconst 1, 1) := by decide +kernel
theorem dX5_hasLoose_19 : decode cX5_hasLoose 19 = .ok (.goto 4, 3) := by decide +kernel
theorem dX5_hasLoose_22 : decode cX5_hasLoose 22 = .ok (.iconst 0, 1) := by decide +kernel
theorem dX5_hasLoose_23 : decode cX5_hasLoose 23 = .ok (.ireturn, 1) := by decide +kernel
theorem dX5_hasPerson_0 : decode cX5_hasPerson 0 = .ok (.iload_n 1, 1) := by decide +kernel
theorem dX5_hasPerson_1 : decode cX5_hasPerson 1 = .ok (.ifCond .lt 15, 3) := by decide +kernel
theorem dX5_hasPerson_4 : decode cX5_hasPerson 4 = .ok (.iload_n 1, 1) := by decide +kernel
theorem dX5_hasPerson_5 : decode cX5_hasPerson 5 = .ok (.aload_n 0, 1) := by decide +kernel
theorem dX5_hasPerson_6 : decode cX5_hasPerson 6 = .ok (.getfield 59, 3) := by decide +kernel
theorem dX5_hasPerson_9 : decode cX5_hasPerson 9 = .ok (.if_icmp .ge 7, 3) := by decide +kernel
theorem dX5_hasPerson_12 : decode cX5_hasPerson 12 = .ok (.iconst 1, 1) := by decide +kernel
theorem dX5_hasPerson_13 : decode cX5_hasPerson 13 = .ok (.goto 4, 3) := by decide +kernel
theorem dX5_hasPerson_16 : decode cX5_hasPerson 16 = .ok (.iconst 0, 1) := by decide +kernel
theorem dX5_hasPerson_17 : decode cX5_hasPerson 17 = .ok (.ireturn, 1) := by decide +kernel
theorem dX5_hasLaw_0 : decode cX5_hasLaw 0 = .ok (.iload_n 1, 1) := by decide +kernel
theorem dX5_hasLaw_1 : decode cX5_hasLaw 1 = .ok (.ifCond .lt 15, 3) := by decide +kernel
theorem dX5_hasLaw_4 : decode cX5_hasLaw 4 = .ok (.iload_n 1, 1) := by decide +kernel
theorem dX5_hasLaw_5 : decode cX5_hasLaw 5 = .ok (.aload_n 0, 1) := by decide +kernel
theorem dX5_hasLaw_6 : decode cX5_hasLaw 6 = .ok (.getfield 62, 3) := by decide +kernel
theorem dX5_hasLaw_9 : decode cX5_hasLaw 9 = .ok (.if_icmp .ge 7, 3) := by decide +kernel
theorem dX5_hasLaw_12 : decode cX5_hasLaw 12 = .ok (.iconst 1, 1) := by decide +kernel
theorem dX5_hasLaw_13 : decode cX5_hasLaw 13 = .ok (.goto 4, 3) := by decide +kernel
theorem dX5_hasLaw_16 : decode cX5_hasLaw 16 = .ok (.iconst 0, 1) := by decide +kernel
theorem dX5_hasLaw_17 : decode cX5_hasLaw 17 = .ok (.ireturn, 1) := by decide +kernel
theorem dX5_textInForce_0 : decode cX5_textInForce 0 = .ok (.aload_n 0, 1) := by decide +kernel
theorem dX5_textInForce_1 : decode cX5_textInForce 1 = .ok (.aload_n 0, 1) := by decide +kernel
theorem dX5_textInForce_2 : decode cX5_textInForce 2 = .ok (.getfield 48, 3) := by decide +kernel
theorem dX5_textInForce_5 : decode cX5_textInForce 5 = .ok (.invokevirtual 65, 3) := by decide +kernel
theorem dX5_textInForce_8 : decode cX5_textInForce 8 = .ok (.ifCond .eq 15, 3) := by decide +kernel
theorem dX5_textInForce_11 : decode cX5_textInForce 11 = .ok (.aload_n 0, 1) := by decide +kernel
theorem dX5_textInForce_12 : decode cX5_textInForce 12 = .ok (.getfield 44, 3) := by decide +kernel
theorem dX5_textInForce_15 : decode cX5_textInForce 15 = .ok (.aload_n 0, 1) := by decide +kernel
theorem dX5_textInForce_16 : decode cX5_textInForce 16 = .ok (.getfield 48, 3) := by decide +kernel
theorem dX5_textInForce_19 : decode cX5_textInForce 19 = .ok (.aaload, 1) := by decide +kernel
theorem dX5_textInForce_20 : decode cX5_textInForce 20 = .ok (.goto 4, 3) := by decide +kernel
theorem dX5_textInForce_23 : decode cX5_textInForce 23 = .ok (.aconst_null, 1) := by decide +kernel
theorem dX5_textInForce_24 : decode cX5_textInForce 24 = .ok (.areturn, 1) := by decide +kernel
theorem dX5_looseSparks_0 : decode cX5_looseSparks 0 = .ok (.iconst 0, 1) := by decide +kernel
theorem dX5_looseSparks_1 : decode cX5_looseSparks 1 = .ok (.istore_n 1, 1) := by decide +kernel
theorem dX5_looseSparks_2 : decode cX5_looseSparks 2 = .ok (.iconst 0, 1) := by decide +kernel
theorem dX5_looseSparks_3 : decode cX5_looseSparks 3 = .ok (.istore_n 2, 1) := by decide +kernel
theorem dX5_looseSparks_4 : decode cX5_looseSparks 4 = .ok (.iload_n 2, 1) := by decide +kernel
theorem dX5_looseSparks_5 : decode cX5_looseSparks 5 = .ok (.aload_n 0, 1) := by decide +kernel
theorem dX5_looseSparks_6 : decode cX5_looseSparks 6 = .ok (.getfield 52, 3) := by decide +kernel
theorem dX5_looseSparks_9 : decode cX5_looseSparks 9 = .ok (.if_icmp .ge 22, 3) := by decide +kernel
theorem dX5_looseSparks_12 : decode cX5_looseSparks 12 = .ok (.aload_n 0, 1) := by decide +kernel
theorem dX5_looseSparks_13 : decode cX5_looseSparks 13 = .ok (.getfield 15, 3) := by decide +kernel
theorem dX5_looseSparks_16 : decode cX5_looseSparks 16 = .ok (.iload_n 2, 1) := by decide +kernel
theorem dX5_looseSparks_17 : decode cX5_looseSparks 17 = .ok (.iaload, 1) := by decide +kernel
theorem dX5_looseSparks_18 : decode cX5_looseSparks 18 = .ok (.iconst (-1), 1) := by decide +kernel
theorem dX5_looseSparks_19 : decode cX5_looseSparks 19 = .ok (.if_icmp .eq 6, 3) := by decide +kernel
theorem dX5_looseSparks_22 : decode cX5_looseSparks 22 = .ok (.iinc 1 1, 3) := by decide +kernel
theorem dX5_looseSparks_25 : decode cX5_looseSparks 25 = .ok (.iinc 2 1, 3) := by decide +kernel
theorem dX5_looseSparks_28 : decode cX5_looseSparks 28 = .ok (.goto (-24), 3) := by decide +kernel
