theorem dX0_init_0 : decode cX0_init 0 = .ok (.aload_n 0, 1) := by decide +kernel
theorem dX0_init_1 : decode cX0_init 1 = .ok (.invokespecial 3, 3) := by decide +kernel
theorem dX0_init_4 : decode cX0_init 4 = .ok (.aload_n 0, 1) := by decide +kernel
theorem dX0_init_5 : decode cX0_init 5 = .ok (.iconst 2, 1) := by decide +kernel
theorem dX0_init_6 : decode cX0_init 6 = .ok (.newarray .int, 2) := by decide +kernel
theorem dX0_init_8 : decode cX0_init 8 = .ok (.putfield 9, 3) := by decide +kernel
theorem dX0_init_11 : decode cX0_init 11 = .ok (.aload_n 0, 1) := by decide +kernel
theorem dX0_init_12 : decode cX0_init 12 = .ok (.iconst 3, 1) := by decide +kernel
theorem dX0_init_13 : decode cX0_init 13 = .ok (.newarray .int, 2) := by decide +kernel
theorem dX0_init_15 : decode cX0_init 15 = .ok (.putfield 15, 3) := by decide +kernel
theorem dX0_init_18 : decode cX0_init 18 = .ok (.aload_n 0, 1) := by decide +kernel
theorem dX0_init_19 : decode cX0_init 19 = .ok (.bipush 15, 2) := by decide +kernel
theorem dX0_init_21 : decode cX0_init 21 = .ok (.newarray .int, 2) := by decide +kernel
theorem dX0_init_23 : decode cX0_init 23 = .ok (.putfield 18, 3) := by decide +kernel
theorem dX0_init_26 : decode cX0_init 26 = .ok (.aload_n 0, 1) := by decide +kernel
theorem dX0_init_27 : decode cX0_init 27 = .ok (.bipush 15, 2) := by decide +kernel
theorem dX0_init_29 : decode cX0_init 29 = .ok (.newarray .int, 2) := by decide +kernel
theorem dX0_init_31 : decode cX0_init 31 = .ok (.putfield 21, 3) := by decide +kernel
theorem dX0_init_34 : decode cX0_init 34 = .ok (.aload_n 0, 1) := by decide +kernel
theorem dX0_init_35 : decode cX0_init 35 = .ok (.bipush 15, 2) := by decide +kernel
theorem dX0_init_37 : decode cX0_init 37 = .ok (.newarray .int, 2) := by decide +kernel
theorem dX0_init_39 : decode cX0_init 39 = .ok (.putfield 24, 3) := by decide +kernel
theorem dX0_init_42 : decode cX0_init 42 = .ok (.aload_n 0, 1) := by decide +kernel
theorem dX0_init_43 : decode cX0_init 43 = .ok (.iload_n 1, 1) := by decide +kernel
theorem dX0_init_44 : decode cX0_init 44 = .ok (.putfield 27, 3) := by decide +kernel
theorem dX0_init_47 : decode cX0_init 47 = .ok (.aload_n 0, 1) := by decide +kernel
theorem dX0_init_48 : decode cX0_init 48 = .ok (.iload_n 2, 1) := by decide +kernel
theorem dX0_init_49 : decode cX0_init 49 = .ok (.putfield 31, 3) := by decide +kernel
theorem dX0_init_52 : decode cX0_init 52 = .ok (.aload_n 0, 1) := by decide +kernel
theorem dX0_init_53 : decode cX0_init 53 = .ok (.iload_n 3, 1) := by decide +kernel
theorem dX0_init_54 : decode cX0_init 54 = .ok (.putfield 34, 3) := by decide +kernel
theorem dX0_init_57 : decode cX0_init 57 = .ok (.aload_n 0, 1) := by decide +kernel
theorem dX0_init_58 : decode cX0_init 58 = .ok (.iload 4, 2) := by decide +kernel
theorem dX0_init_60 : decode cX0_init 60 = .ok (.putfield 38, 3) := by decide +kernel
theorem dX0_init_63 : decode cX0_init 63 = .ok (.aload_n 0, 1) := by decide +kernel
theorem dX0_init_64 : decode cX0_init 64 = .ok (.iload 5, 2) := by decide +kernel
theorem dX0_init_66 : decode cX0_init 66 = .ok (.putfield 41, 3) := by decide +kernel
theorem dX0_init_69 : decode cX0_init 69 = .ok (.return_, 1) := by decide +kernel
theorem dX0_addFace_0 : decode cX0_addFace 0 = .ok (.aload_n 0, 1) := by decide +kernel
theorem dX0_addFace_1 : decode cX0_addFace 1 = .ok (.getfield 9, 3) := by decide +kernel
theorem dX0_addFace_4 : decode cX0_addFace 4 = .ok (.aload_n 0, 1) := by decide +kernel
theorem dX0_addFace_5 : decode cX0_addFace 5 = .ok (.getfield 44, 3) := by decide +kernel
theorem dX0_addFace_8 : decode cX0_addFace 8 = .ok (.iload_n 1, 1) := by decide +kernel
theorem dX0_addFace_9 : decode cX0_addFace 9 = .ok (.iastore, 1) := by decide +kernel
theorem dX0_addFace_10 : decode cX0_addFace 10 = .ok (.aload_n 0, 1) := by decide +kernel
theorem dX0_addFace_11 : decode cX0_addFace 11 = .ok (.dup, 1) := by decide +kernel
theorem dX0_addFace_12 : decode cX0_addFace 12 = .ok (.getfield 44, 3) := by decide +kernel
theorem dX0_addFace_15 : decode cX0_addFace 15 = .ok (.iconst 1, 1) := by decide +kernel
theorem dX0_addFace_16 : decode cX0_addFace 16 = .ok (.iadd, 1) := by decide +kernel
theorem dX0_addFace_17 : decode cX0_addFace 17 = .ok (.putfield 44, 3) := by decide +kernel
theorem dX0_addFace_20 : decode cX0_addFace 20 = .ok (.aload_n 0, 1) := by decide +kernel
theorem dX0_addFace_21 : decode cX0_addFace 21 = .ok (.getfield 44, 3) := by decide +kernel
theorem dX0_addFace_24 : decode cX0_addFace 24 = .ok (.ireturn, 1) := by decide +kernel
theorem dX0_partCount_0 : decode cX0_partCount 0 = .ok (.aload_n 0, 1) := by decide +kernel
theorem dX0_partCount_1 : decode cX0_partCount 1 = .ok (.getfield 31, 3) := by decide +kernel
theorem dX0_partCount_4 : decode cX0_partCount 4 = .ok (.iconst (-1), 1) := by decide +kernel
theorem dX0_partCount_5 : decode cX0_partCount 5 = .ok (.if_icmp .ne 10, 3) := by decide +kernel
theorem dX0_partCount_8 : decode cX0_partCount 8 = .ok (.aload_n 0, 1) := by decide +kernel
theorem dX0_partCount_9 : decode cX0_partCount 9 = .ok (.getfield 44, 3) := by decide +kernel
theorem dX0_partCount_12 : decode cX0_partCount 12 = .ok (.goto 9, 3) := by decide +kernel
theorem dX0_partCount_15 : decode cX0_partCount 15 = .ok (.aload_n 0, 1) := by decide +kernel
theorem dX0_partCount_16 : decode cX0_partCount 16 = .ok (.getfield 44, 3) := by decide +kernel
theorem dX0_partCount_19 : decode cX0_partCount 19 = .ok (.iconst 1, 1) := by decide +kernel
theorem dX0_partCount_20 : decode cX0_partCount 20 = .ok (.iadd, 1) := by decide +kernel
theorem dX0_partCount_21 : decode cX0_partCount 21 = .ok (.ireturn, 1) := by decide +kernel
theorem dX0_isSuper_0 : decode cX0_isSuper 0 = .ok (.iload_n 1, 1) := by decide +kernel
theorem dX0_isSuper_1 : decode cX0_isSuper 1 = .ok (.ifCond .ne 15, 3) := by decide +kernel
theorem dX0_isSuper_4 : decode cX0_isSuper 4 = .ok (.aload_n 0, 1) := by decide +kernel
theorem dX0_isSuper_5 : decode cX0_isSuper 5 = .ok (.getfield 31, 3) := by decide +kernel
theorem dX0_isSuper_8 : decode cX0_isSuper 8 = .ok (.iconst (-1), 1) := by decide +kernel
theorem dX0_isSuper_9 : decode cX0_isSuper 9 = .ok (.if_icmp .eq 7, 3) := by decide +kernel
theorem dX0_isSuper_12 : decode cX0_isSuper 12 = .ok (.iconst 1, 1) := by decide +kernel
theorem dX0_isSuper_13 : decode cX0_isSuper 13 = .ok (.goto 4, 3) := by decide +kernel
theorem dX0_isSuper_16 : decode cX0_isSuper 16 = .ok (.iconst 0, 1) := by decide +kernel
theorem dX0_isSuper_17 : decode cX0_isSuper 17 = .ok (.ireturn, 1) := by decide +kernel
theorem dX0_partName_0 : decode cX0_partName 0 = .ok (.aload_n 0, 1) := by decide +kernel
theorem dX0_partName_1 : decode cX0_partName 1 = .ok (.getfield 31, 3) := by decide +kernel
theorem dX0_partName_4 : decode cX0_partName 4 = .ok (.iconst (-1), 1) := by decide +kernel
theorem dX0_partName_5 : decode cX0_partName 5 = .ok (.if_icmp .ne 10, 3) := by decide +kernel
theorem dX0_partName_8 : decode cX0_partName 8 = .ok (.aload_n 0, 1) := by decide +kernel
theorem dX0_partName_9 : decode cX0_partName 9 = .ok (.getfield 9, 3) := by decide +kernel
theorem dX0_partName_12 : decode cX0_partName 12 = .ok (.iload_n 1, 1) := by decide +kernel
theorem dX0_partName_13 : decode cX0_partName 13 = .ok (.iaload, 1) := by decide +kernel
theorem dX0_partName_14 : decode cX0_partName 14 = .ok (.ireturn, 1) := by decide +kernel
theorem dX0_partName_15 : decode cX0_partName 15 = .ok (.iload_n 1, 1) := by decide +kernel
theorem dX0_partName_16 : decode cX0_partName 16 = .ok (.ifCond .ne 10, 3) := by decide +kernel
theorem dX0_partName_19 : decode cX0_partName 19 = .ok (.aload_n 0, 1) := by decide +kernel
theorem dX0_partName_20 : decode cX0_partName 20 = .ok (.getfield 31, 3) := by decide +kernel
theorem dX0_partName_23 : decode cX0_partName 23 = .ok (.goto 11, 3) := by decide +kernel
theorem dX0_partName_26 : decode cX0_partName 26 = .ok (.aload_n 0, 1) := by decide +kernel
theorem dX0_partName_27 : decode cX0_partName 27 = .ok (.getfield 9, 3) := by decide +kernel
theorem dX0_partName_30 : decode cX0_partName 30 = .ok (.iload_n 1, 1) := by decide +kernel
theorem dX0_partName_31 : decode cX0_partName 31 = .ok (.iconst 1, 1) := by decide +kernel
theorem dX0_partName_32 : decode cX0_partName 32 = .ok (.isub, 1) := by decide +kernel
theorem dX0_partName_33 : decode cX0_partName 33 = .ok (.iaload, 1) := by decide +kernel
theorem dX0_partName_34 : decode cX0_partName 34 = .ok (.ireturn, 1) := by decide +kernel
theorem dX0_actCount_0 : decode cX0_actCount 0 = .ok (.aload_n 0, 1) := by decide +kernel
theorem dX0_actCount_1 : decode cX0_actCount 1 = .ok (.getfield 15, 3) := by decide +kernel
theorem dX0_actCount_4 : decode cX0_actCount 4 = .ok (.iload_n 1, 1) := by decide +kernel
theorem dX0_actCount_5 : decode cX0_actCount 5 = .ok (.iaload, 1) := by decide +kernel
theorem dX0_actCount_6 : decode cX0_actCount 6 = .ok (.ireturn, 1) := by decide +kernel
theorem dX0_addAct_0 : decode cX0_addAct 0 = .ok (.iload_n 1, 1) := by decide +kernel
theorem dX0_addAct_1 : decode cX0_addAct 1 = .ok (.iconst 5, 1) := by decide +kernel
theorem dX0_addAct_2 : decode cX0_addAct 2 = .ok (.imul, 1) := by decide +kernel
theorem dX0_addAct_3 : decode cX0_addAct 3 = .ok (.aload_n 0, 1) := by decide +kernel
theorem dX0_addAct_4 : decode cX0_addAct 4 = .ok (.getfield 15, 3) := by decide +kernel
theorem dX0_addAct_7 : decode cX0_addAct 7 = .ok (.iload_n 1, 1) := by decide +kernel
theorem dX0_addAct_8 : decode cX0_addAct 8 = .ok (.iaload, 1) := by decide +kernel
theorem dX0_addAct_9 : decode cX0_addAct 9 = .ok (.iadd, 1) := by decide +kernel
theorem dX0_addAct_10 : decode cX0_addAct 10 = .ok (.istore 5, 2) := by decide +kernel
theorem dX0_addAct_12 : decode cX0_addAct 12 = .ok (.aload_n 0, 1) := by decide +kernel
theorem dX0_addAct_13 : decode cX0_addAct 13 = .ok (.getfield 18, 3) := by decide +kernel
theorem dX0_addAct_16 : decode cX0_addAct 16 = .ok (.iload 5, 2) := by decide +kernel
theorem dX0_addAct_18 : decode cX0_addAct 18 = .ok (.iload_n 2, 1) := by decide +kernel
theorem dX0_addAct_19 : decode cX0_addAct 19 = .ok (.iastore, 1) := by decide +kernel
theorem dX0_addAct_20 : decode cX0_addAct 20 = .ok (.aload_n 0, 1) := by decide +kernel
theorem dX0_addAct_21 : decode cX0_addAct 21 = .ok (.getfield 21, 3) := by decide +kernel
theorem dX0_addAct_24 : decode cX0_addAct 24 = .ok (.iload 5, 2) := by decide +kernel
theorem dX0_addAct_26 : decode cX0_addAct 26 = .ok (.iload_n 3, 1) := by decide +kernel
theorem dX0_addAct_27 : decode cX0_addAct 27 = .ok (.iastore, 1) := by decide +kernel
theorem dX0_addAct_28 : decode cX0_addAct 28 = .ok (.aload_n 0, 1) := by decide +kernel
theorem dX0_addAct_29 : decode cX0_addAct 29 = .ok (.getfield 24, 3) := by decide +kernel
theorem dX0_addAct_32 : decode cX0_addAct 32 = .ok (.iload 5, 2) := by decide +kernel
theorem dX0_addAct_34 : decode cX0_addAct 34 = .ok (.iload 4, 2) := by decide +kernel
theorem dX0_addAct_36 : decode cX0_addAct 36 = .ok (.iastore, 1) := by decide +kernel
theorem dX0_addAct_37 : decode cX0_addAct 37 = .ok (.aload_n 0, 1) := by decide +kernel
theorem dX0_addAct_38 : decode cX0_addAct 38 = .ok (.getfield 15, 3) := by decide +kernel
theorem dX0_addAct_41 : decode cX0_addAct 41 = .ok (.iload_n 1, 1) := by decide +kernel
theorem dX0_addAct_42 : decode cX0_addAct 42 = .ok (.dup2, 1) := by decide +kernel
theorem dX0_addAct_43 : decode cX0_addAct 43 = .ok (.iaload, 1) := by decide +kernel
theorem dX0_addAct_44 : decode cX0_addAct 44 = .ok (.iconst 1, 1) := by decide +kernel
theorem dX0_addAct_45 : decode cX0_addAct 45 = .ok (.iadd, 1) := by decide +kernel
theorem dX0_addAct_46 : decode cX0_addAct 46 = .ok (.iastore, 1) := by decide +kernel
theorem dX0_addAct_47 : decode cX0_addAct 47 = .ok (.aload_n 0, 1) := by decide +kernel
theorem dX0_addAct_48 : decode cX0_addAct 48 = .ok (.getfield 15, 3) := by decide +kernel
theorem dX0_addAct_51 : decode cX0_addAct 51 = .ok (.iload_n 1, 1) := by decide +kernel
theorem dX0_addAct_52 : decode cX0_addAct 52 = .ok (.iaload, 1) := by decide +kernel
theorem dX0_addAct_53 : decode cX0_addAct 53 = .ok (.ireturn, 1) := by decide +kernel
theorem dX1_init_0 : decode cX1_init 0 = .ok (.aload_n 0, 1) := by decide +kernel
theorem dX1_init_1 : decode cX1_init 1 = .ok (.invokespecial 3, 3) := by decide +kernel
theorem dX1_init_4 : decode cX1_init 4 = .ok (.aload_n 0, 1) := by decide +kernel
theorem dX1_init_5 : decode cX1_init 5 = .ok (.iload_n 1, 1) := by decide +kernel
theorem dX1_init_6 : decode cX1_init 6 = .ok (.putfield 9, 3) := by decide +kernel
theorem dX1_init_9 : decode cX1_init 9 = .ok (.aload_n 0, 1) := by decide +kernel
theorem dX1_init_10 : decode cX1_init 10 = .ok (.iload_n 2, 1) := by decide +kernel
theorem dX1_init_11 : decode cX1_init 11 = .ok (.putfield 15, 3) := by decide +kernel
theorem dX1_init_14 : decode cX1_init 14 = .ok (.aload_n 0, 1) := by decide +kernel
theorem dX1_init_15 : decode cX1_init 15 = .ok (.aload_n 3, 1) := by decide +kernel
theorem dX1_init_16 : decode cX1_init 16 = .ok (.putfield 18, 3) := by decide +kernel
theorem dX1_init_19 : decode cX1_init 19 = .ok (.aload_n 0, 1) := by decide +kernel
theorem dX1_init_20 : decode cX1_init 20 = .ok (.iload 4, 2) := by decide +kernel
theorem dX1_init_22 : decode cX1_init 22 = .ok (.putfield 22, 3) := by decide +kernel
theorem dX1_init_25 : decode cX1_init 25 = .ok (.return_, 1) := by decide +kernel
theorem dX1_firstCell_0 : decode cX1_firstCell 0 = .ok (.aload_n 0, 1) := by decide +kernel
theorem dX1_firstCell_1 : decode cX1_firstCell 1 = .ok (.getfield 9, 3) := by decide +kernel
theorem dX1_firstCell_4 : decode cX1_firstCell 4 = .ok (.iconst 4, 1) := by decide +kernel
theorem dX1_firstCell_5 : decode cX1_firstCell 5 = .ok (.imul, 1) := by decide +kernel
theorem dX1_firstCell_6 : decode cX1_firstCell 6 = .ok (.ireturn, 1) := by decide +kernel
theorem dX2_init_0 : decode cX2_init 0 = .ok (.aload_n 0, 1) := by decide +kernel
theorem dX2_init_1 : decode cX2_init 1 = .ok (.invokespecial 3, 3) := by decide +kernel
theorem dX2_init_4 : decode cX2_init 4 = .ok (.return_, 1) := by decide +kernel
theorem dX2_start_0 : decode cX2_start 0 = .ok (.aload_n 0, 1) := by decide +kernel
theorem dX2_start_1 : decode cX2_start 1 = .ok (.iload_n 1, 1) := by decide +kernel
theorem dX2_start_2 : decode cX2_start 2 = .ok (.putfield 9, 3) := by decide +kernel
theorem dX2_start_5 : decode cX2_start 5 = .ok (.aload_n 0, 1) := by decide +kernel
theorem dX2_start_6 : decode cX2_start 6 = .ok (.aload_n 2, 1) := by decide +kernel
theorem dX2_start_7 : decode cX2_start 7 = .ok (.putfield 15, 3) := by decide +kernel
theorem dX2_start_10 : decode cX2_start 10 = .ok (.aload_n 0, 1) := by decide +kernel
theorem dX2_start_11 : decode cX2_start 11 = .ok (.aload_n 3, 1) := by decide +kernel
theorem dX2_start_12 : decode cX2_start 12 = .ok (.putfield 19, 3) := by decide +kernel
theorem dX2_start_15 : decode cX2_start 15 = .ok (.aload_n 0, 1) := by decide +kernel
theorem dX2_start_16 : decode cX2_start 16 = .ok (.aload 4, 2) := by decide +kernel
theorem dX2_start_18 : decode cX2_start 18 = .ok (.putfield 23, 3) := by decide +kernel
theorem dX2_start_21 : decode cX2_start 21 = .ok (.aload_n 0, 1) := by decide +kernel
theorem dX2_start_22 : decode cX2_start 22 = .ok (.iload 5, 2) := by decide +kernel
theorem dX2_start_24 : decode cX2_start 24 = .ok (.putfield 26, 3) := by decide +kernel
theorem dX2_start_27 : decode cX2_start 27 = .ok (.aload_n 0, 1) := by decide +kernel
theorem dX2_start_28 : decode cX2_start 28 = .ok (.iconst 0, 1) := by decide +kernel
theorem dX2_start_29 : decode cX2_start 29 = .ok (.putfield 30, 3) := by decide +kernel
theorem dX2_start_32 : decode cX2_start 32 = .ok (.aload_n 0, 1) := by decide +kernel
theorem dX2_start_33 : decode cX2_start 33 = .ok (.iconst (-1), 1) := by decide +kernel
theorem dX2_start_34 : decode cX2_start 34 = .ok (.putfield 33, 3) := by decide +kernel
theorem dX2_start_37 : decode cX2_start 37 = .ok (.return_, 1) := by decide +kernel
theorem dX2_isAtEnd_0 : decode cX2_isAtEnd 0 = .ok (.aload_n 0, 1) := by decide +kernel
theorem dX2_isAtEnd_1 : decode cX2_isAtEnd 1 = .ok (.getfield 30, 3) := by decide +kernel
theorem dX2_isAtEnd_4 : decode cX2_isAtEnd 4 = .ok (.aload_n 0, 1) := by decide +kernel
theorem dX2_isAtEnd_5 : decode cX2_isAtEnd 5 = .ok (.getfield 23, 3) := by decide +kernel
theorem dX2_isAtEnd_8 : decode cX2_isAtEnd 8 = .ok (.getfield 36, 3) := by decide +kernel
theorem dX2_isAtEnd_11 : decode cX2_isAtEnd 11 = .ok (.aload_n 0, 1) := by decide +kernel
theorem dX2_isAtEnd_12 : decode cX2_isAtEnd 12 = .ok (.getfield 26, 3) := by decide +kernel
theorem dX2_isAtEnd_15 : decode cX2_isAtEnd 15 = .ok (.invokevirtual 42, 3) := by decide +kernel
theorem dX2_isAtEnd_18 : decode cX2_isAtEnd 18 = .ok (.if_icmp .lt 7, 3) := by decide +kernel
theorem dX2_isAtEnd_21 : decode cX2_isAtEnd 21 = .ok (.iconst 1, 1) := by decide +kernel
theorem dX2_isAtEnd_22 : decode cX2_isAtEnd 22 = .ok (.goto 4, 3) := by decide +kernel
theorem dX2_isAtEnd_25 : decode cX2_isAtEnd 25 = .ok (.iconst 0, 1) := by decide +kernel
theorem dX2_isAtEnd_26 : decode cX2_isAtEnd 26 = .ok (.ireturn, 1) := by decide +kernel
theorem dX2_isTrying_0 : decode cX2_isTrying 0 = .ok (.aload_n 0, 1) := by decide +kernel
theorem dX2_isTrying_1 : decode cX2_isTrying 1 = .ok (.getfield 48, 3) := by decide +kernel
theorem dX2_isTrying_4 : decode cX2_isTrying 4 = .ok (.ifnull 27, 3) := by decide +kernel
theorem dX2_isTrying_7 : decode cX2_isTrying 7 = .ok (.aload_n 0, 1) := by decide +kernel
theorem dX2_isTrying_8 : decode cX2_isTrying 8 = .ok (.getfield 30, 3) := by decide +kernel
theorem dX2_isTrying_11 : decode cX2_isTrying 11 = .ok (.ifCond .le 20, 3) := by decide +kernel
theorem dX2_isTrying_14 : decode cX2_isTrying 14 = .ok (.aload_n 0, 1) := by decide +kernel
theorem dX2_isTrying_15 : decode cX2_isTrying 15 = .ok (.getfield 33, 3) := by decide +kernel
theorem dX2_isTrying_18 : decode cX2_isTrying 18 = .ok (.aload_n 0, 1) := by decide +kernel
theorem dX2_isTrying_19 : decode cX2_isTrying 19 = .ok (.getfield 30, 3) := by decide +kernel
theorem dX2_isTrying_22 : decode cX2_isTrying 22 = .ok (.iconst 1, 1) := by decide +kernel
theorem dX2_isTrying_23 : decode cX2_isTrying 23 = .ok (.isub, 1) := by decide +kernel
theorem dX2_isTrying_24 : decode cX2_isTrying 24 = .ok (.if_icmp .ne 7, 3) := by decide +kernel
theorem dX2_isTrying_27 : decode cX2_isTrying 27 = .ok (.iconst 1, 1) := by decide +kernel
theorem dX2_isTrying_28 : decode cX2_isTrying 28 = .ok (.goto 4, 3) := by decide +kernel
theorem dX2_isTrying_31 : decode cX2_isTrying 31 = .ok (.iconst 0, 1) := by decide +kernel
theorem dX2_isTrying_32 : decode cX2_isTrying 32 = .ok (.ireturn, 1) := by decide +kernel
theorem dX2_keep_0 : decode cX2_keep 0 = .ok (.aload_n 0, 1) := by decide +kernel
theorem dX2_keep_1 : decode cX2_keep 1 = .ok (.getfield 48, 3) := by decide +kernel
theorem dX2_keep_4 : decode cX2_keep 4 = .ok (.ifnonnull 14, 3) := by decide +kernel
theorem dX2_keep_7 : decode cX2_keep 7 = .ok (.aload_n 0, 1) := by decide +kernel
theorem dX2_keep_8 : decode cX2_keep 8 = .ok (.new 52, 3) := by decide +kernel
theorem dX2_keep_11 : decode cX2_keep 11 = .ok (.dup, 1) := by decide +kernel
theorem dX2_keep_12 : decode cX2_keep 12 = .ok (.invokespecial 54, 3) := by decide +kernel
theorem dX2_keep_15 : decode cX2_keep 15 = .ok (.putfield 48, 3) := by decide +kernel
theorem dX2_keep_18 : decode cX2_keep 18 = .ok (.aload_n 0, 1) := by decide +kernel
theorem dX2_keep_19 : decode cX2_keep 19 = .ok (.getfield 48, 3) := by decide +kernel
theorem dX2_keep_22 : decode cX2_keep 22 = .ok (.aload_n 1, 1) := by decide +kernel
theorem dX2_keep_23 : decode cX2_keep 23 = .ok (.invokevirtual 55, 3) := by decide +kernel
theorem dX2_keep_26 : decode cX2_keep 26 = .ok (.return_, 1) := by decide +kernel
theorem dX3_init_0 : decode cX3_init 0 = .ok (.aload_n 0, 1) := by decide +kernel
theorem dX3_init_1 : decode cX3_init 1 = .ok (.invokespecial 3, 3) := by decide +kernel
theorem dX3_init_4 : decode cX3_init 4 = .ok (.aload_n 0, 1) := by decide +kernel
theorem dX3_init_5 : decode cX3_init 5 = .ok (.bipush 24, 2) := by decide +kernel
theorem dX3_init_7 : decode cX3_init 7 = .ok (.anewarray 9, 3) := by decide +kernel
theorem dX3_init_10 : decode cX3_init 10 = .ok (.putfield 11, 3) := by decide +kernel
theorem dX3_init_13 : decode cX3_init 13 = .ok (.aload_n 0, 1) := by decide +kernel
theorem dX3_init_14 : decode cX3_init 14 = .ok (.bipush 8, 2) := by decide +kernel
theorem dX3_init_16 : decode cX3_init 16 = .ok (.anewarray 17, 3) := by decide +kernel
theorem dX3_init_19 : decode cX3_init 19 = .ok (.putfield 19, 3) := by decide +kernel
theorem dX3_init_22 : decode cX3_init 22 = .ok (.aload_n 0, 1) := by decide +kernel
theorem dX3_init_23 : decode cX3_init 23 = .ok (.getfield 19, 3) := by decide +kernel
theorem dX3_init_26 : decode cX3_init 26 = .ok (.iconst 0, 1) := by decide +kernel
theorem dX3_init_27 : decode cX3_init 27 = .ok (.new 17, 3) := by decide +kernel
theorem dX3_init_30 : decode cX3_init 30 = .ok (.dup, 1) := by decide +kernel
theorem dX3_init_31 : decode cX3_init 31 = .ok (.iconst 0, 1) := by decide +kernel
theorem dX3_init_32 : decode cX3_init 32 = .ok (.aconst_null, 1) := by decide +kernel
theorem dX3_init_33 : decode cX3_init 33 = .ok (.invokespecial 23, 3) := by decide +kernel
theorem dX3_init_36 : decode cX3_init 36 = .ok (.aastore, 1) := by decide +kernel
theorem dX3_init_37 : decode cX3_init 37 = .ok (.aload_n 0, 1) := by decide +kernel
theorem dX3_init_38 : decode cX3_init 38 = .ok (.iconst 1, 1) := by decide +kernel
theorem dX3_init_39 : decode cX3_init 39 = .ok (.putfield 26, 3) := by decide +kernel
theorem dX3_init_42 : decode cX3_init 42 = .ok (.return_, 1) := by decide +kernel
theorem dX3_fileAt_0 : decode cX3_fileAt 0 = .ok (.iload_n 1, 1) := by decide +kernel
theorem dX3_fileAt_1 : decode cX3_fileAt 1 = .ok (.ifCond .lt 11, 3) := by decide +kernel
theorem dX3_fileAt_4 : decode cX3_fileAt 4 = .ok (.iload_n 1, 1) := by decide +kernel
theorem dX3_fileAt_5 : decode cX3_fileAt 5 = .ok (.aload_n 0, 1) := by decide +kernel
theorem dX3_fileAt_6 : decode cX3_fileAt 6 = .ok (.getfield 30, 3) := by decide +kernel
theorem dX3_fileAt_9 : decode cX3_fileAt 9 = .ok (.if_icmp .lt 7, 3) := by decide +kernel
theorem dX3_fileAt_12 : decode cX3_fileAt 12 = .ok (.aconst_null, 1) := by decide +kernel
theorem dX3_fileAt_13 : decode cX3_fileAt 13 = .ok (.goto 9, 3) := by decide +kernel
theorem dX3_fileAt_16 : decode cX3_fileAt 16 = .ok (.aload_n 0, 1) := by decide +kernel
theorem dX3_fileAt_17 : decode cX3_fileAt 17 = .ok (.getfield 11, 3) := by decide +kernel
theorem dX3_fileAt_20 : decode cX3_fileAt 20 = .ok (.iload_n 1, 1) := by decide +kernel
theorem dX3_fileAt_21 : decode cX3_fileAt 21 = .ok (.aaload, 1) := by decide +kernel
theorem dX3_fileAt_22 : decode cX3_fileAt 22 = .ok (.areturn, 1) := by decide +kernel
theorem dX3_loaderAt_0 : decode cX3_loaderAt 0 = .ok (.iload_n 1, 1) := by decide +kernel
theorem dX3_loaderAt_1 : decode cX3_loaderAt 1 = .ok (.ifCond .lt 11, 3) := by decide +kernel
theorem dX3_loaderAt_4 : decode cX3_loaderAt 4 = .ok (.iload_n 1, 1) := by decide +kernel
theorem dX3_loaderAt_5 : decode cX3_loaderAt 5 = .ok (.aload_n 0, 1) := by decide +kernel
theorem dX3_loaderAt_6 : decode cX3_loaderAt 6 = .ok (.getfield 26, 3) := by decide +kernel
theorem dX3_loaderAt_9 : decode cX3_loaderAt 9 = .ok (.if_icmp .lt 7, 3) := by decide +kernel
theorem dX3_loaderAt_12 : decode cX3_loaderAt 12 = .ok (.aconst_null, 1) := by decide +kernel
theorem dX3_loaderAt_13 : decode cX3_loaderAt 13 = .ok (.goto 9, 3) := by decide +kernel
theorem dX3_loaderAt_16 : decode cX3_loaderAt 16 = .ok (.aload_n 0, 1) := by decide +kernel
theorem dX3_loaderAt_17 : decode cX3_loaderAt 17 = .ok (.getfield 19, 3) := by decide +kernel
theorem dX3_loaderAt_20 : decode cX3_loaderAt 20 = .ok (.iload_n 1, 1) := by decide +kernel
theorem dX3_loaderAt_21 : decode cX3_loaderAt 21 = .ok (.aaload, 1) := by decide +kernel
theorem dX3_loaderAt_22 : decode cX3_loaderAt 22 = .ok (.areturn, 1) := by decide +kernel
theorem dX3_addFile_0 : decode cX3_addFile 0 = .ok (.aload_n 0, 1) := by decide +kernel
theorem dX3_addFile_1 : decode cX3_addFile 1 = .ok (.getfield 11, 3) := by decide +kernel
theorem dX3_addFile_4 : decode cX3_addFile 4 = .ok (.aload_n 0, 1) := by decide +kernel
theorem dX3_addFile_5 : decode cX3_addFile 5 = .ok (.getfield 30, 3) := by decide +kernel
theorem dX3_addFile_8 : decode cX3_addFile 8 = .ok (.aload_n 1, 1) := by decide +kernel
theorem dX3_addFile_9 : decode cX3_addFile 9 = .ok (.aastore, 1) := by decide +kernel
theorem dX3_addFile_10 : decode cX3_addFile 10 = .ok (.aload_n 0, 1) := by decide +kernel
theorem dX3_addFile_11 : decode cX3_addFile 11 = .ok (.dup, 1) := by decide +kernel
theorem dX3_addFile_12 : decode cX3_addFile 12 = .ok (.getfield 30, 3) := by decide +kernel
theorem dX3_addFile_15 : decode cX3_addFile 15 = .ok (.iconst 1, 1) := by decide +kernel
theorem dX3_addFile_16 : decode cX3_addFile 16 = .ok (.iadd, 1) := by decide +kernel
theorem dX3_addFile_17 : decode cX3_addFile 17 = .ok (.putfield 30, 3) := by decide +kernel
theorem dX3_addFile_20 : decode cX3_addFile 20 = .ok (.aload_n 0, 1) := by decide +kernel
theorem dX3_addFile_21 : decode cX3_addFile 21 = .ok (.getfield 30, 3) := by decide +kernel
theorem dX3_addFile_24 : decode cX3_addFile 24 = .ok (.iconst 1, 1) := by decide +kernel
theorem dX3_addFile_25 : decode cX3_addFile 25 = .ok (.isub, 1) := by decide +kernel
theorem dX3_addFile_26 : decode cX3_addFile 26 = .ok (.ireturn, 1) := by decide +kernel
theorem dX3_addLoader_0 : decode cX3_addLoader 0 = .ok (.aload_n 0, 1) := by decide +kernel
theorem dX3_addLoader_1 : decode cX3_addLoader 1 = .ok (.getfield 19, 3) := by decide +kernel
theorem dX3_addLoader_4 : decode cX3_addLoader 4 = .ok (.aload_n 0, 1) := by decide +kernel
theorem dX3_addLoader_5 : decode cX3_addLoader 5 = .ok (.getfield 26, 3) := by decide +kernel
theorem dX3_addLoader_8 : decode cX3_addLoader 8 = .ok (.new 17, 3) := by decide +kernel
theorem dX3_addLoader_11 : decode cX3_addLoader 11 = .ok (.dup, 1) := by decide +kernel
theorem dX3_addLoader_12 : decode cX3_addLoader 12 = .ok (.aload_n 0, 1) := by decide +kernel
theorem dX3_addLoader_13 : decode cX3_addLoader 13 = .ok (.getfield 26, 3) := by decide +kernel
theorem dX3_addLoader_16 : decode cX3_addLoader 16 = .ok (.aload_n 1, 1) := by decide +kernel
theorem dX3_addLoader_17 : decode cX3_addLoader 17 = .ok (.invokespecial 23, 3) := by decide +kernel
theorem dX3_addLoader_20 : decode cX3_addLoader 20 = .ok (.aastore, 1) := by decide +kernel
theorem dX3_addLoader_21 : decode cX3_addLoader 21 = .ok (.aload_n 0, 1) := by decide +kernel
theorem dX3_addLoader_22 : decode cX3_addLoader 22 = .ok (.dup, 1) := by decide +kernel
theorem dX3_addLoader_23 : decode cX3_addLoader 23 = .ok (.getfield 26, 3) := by decide +kernel
theorem dX3_addLoader_26 : decode cX3_addLoader 26 = .ok (.iconst 1, 1) := by decide +kernel
theorem dX3_addLoader_27 : decode cX3_addLoader 27 = .ok (.iadd, 1) := by decide +kernel
theorem dX3_addLoader_28 : decode cX3_addLoader 28 = .ok (.putfield 26, 3) := by decide +kernel
theorem dX3_addLoader_31 : decode cX3_addLoader 31 = .ok (.aload_n 0, 1) := by decide +kernel
theorem dX3_addLoader_32 : decode cX3_addLoader 32 = .ok (.getfield 26, 3) := by decide +kernel
theorem dX3_addLoader_35 : decode cX3_addLoader 35 = .ok (.iconst 1, 1) := by decide +kernel
theorem dX3_addLoader_36 : decode cX3_addLoader 36 = .ok (.isub, 1) := by decide +kernel
theorem dX3_addLoader_37 : decode cX3_addLoader 37 = .ok (.ireturn, 1) := by decide +kernel
theorem dX3_classesThere_0 : decode cX3_classesThere 0 = .ok (.iconst 0, 1) := by decide +kernel
theorem dX3_classesThere_1 : decode cX3_classesThere 1 = .ok (.istore_n 1, 1) := by decide +kernel
theorem dX3_classesThere_2 : decode cX3_classesThere 2 = .ok (.iconst 0, 1) := by decide +kernel
theorem dX3_classesThere_3 : decode cX3_classesThere 3 = .ok (.istore_n 2, 1) := by decide +kernel
theorem dX3_classesThere_4 : decode cX3_classesThere 4 = .ok (.iload_n 2, 1) := by decide +kernel
theorem dX3_classesThere_5 : decode cX3_classesThere 5 = .ok (.aload_n 0, 1) := by decide +kernel
theorem dX3_classesThere_6 : decode cX3_classesThere 6 = .ok (.getfield 26, 3) := by decide +kernel
theorem dX3_classesThere_9 : decode cX3_classesThere 9 = .ok (.if_icmp .ge 21, 3) := by decide +kernel
theorem dX3_classesThere_12 : decode cX3_classesThere 12 = .ok (.iload_n 1, 1) := by decide +kernel
theorem dX3_classesThere_13 : decode cX3_classesThere 13 = .ok (.aload_n 0, 1) := by decide +kernel
theorem dX3_classesThere_14 : decode cX3_classesThere 14 = .ok (.getfield 19, 3) := by decide +kernel
theorem dX3_classesThere_17 : decode cX3_classesThere 17 = .ok (.iload_n 2, 1) := by decide +kernel
theorem dX3_classesThere_18 : decode cX3_classesThere 18 = .ok (.aaload, 1) := by decide +kernel
theorem dX3_classesThere_19 : decode cX3_classesThere 19 = .ok (.getfield 33, 3) := by decide +kernel
theorem dX3_classesThere_22 : decode cX3_classesThere 22 = .ok (.iadd, 1) := by decide +kernel
theorem dX3_classesThere_23 : decode cX3_classesThere 23 = .ok (.istore_n 1, 1) := by decide +kernel
theorem dX3_classesThere_24 : decode cX3_classesThere 24 = .ok (.iinc 2 1, 3) := by decide +kernel
theorem dX3_classesThere_27 : decode cX3_classesThere 27 = .ok (.goto (-23), 3) := by decide +kernel
theorem dX3_classesThere_30 : decode cX3_classesThere 30 = .ok (.iload_n 1, 1) := by decide +kernel
theorem dX3_classesThere_31 : decode cX3_classesThere 31 = .ok (.ireturn, 1) := by decide +kernel
theorem dX3_foundNoFace_0 : decode cX3_foundNoFace 0 = .ok (.aload_n 0, 1) := by decide +kernel
theorem dX3_foundNoFace_1 : decode cX3_foundNoFace 1 = .ok (.aload_n 1, 1) := by decide +kernel
theorem dX3_foundNoFace_2 : decode cX3_foundNoFace 2 = .ok (.iload_n 2, 1) := by decide +kernel
theorem dX3_foundNoFace_3 : decode cX3_foundNoFace 3 = .ok (.iconst 0, 1) := by decide +kernel
theorem dX3_foundNoFace_4 : decode cX3_foundNoFace 4 = .ok (.invokevirtual 36, 3) := by decide +kernel
theorem dX3_foundNoFace_7 : decode cX3_foundNoFace 7 = .ok (.astore_n 3, 1) := by decide +kernel
theorem dX3_foundNoFace_8 : decode cX3_foundNoFace 8 = .ok (.aload_n 3, 1) := by decide +kernel
theorem dX3_foundNoFace_9 : decode cX3_foundNoFace 9 = .ok (.ifnull 22, 3) := by decide +kernel
theorem dX3_foundNoFace_12 : decode cX3_foundNoFace 12 = .ok (.aload_n 3, 1) := by decide +kernel
theorem dX3_foundNoFace_13 : decode cX3_foundNoFace 13 = .ok (.getfield 40, 3) := by decide +kernel
theorem dX3_foundNoFace_16 : decode cX3_foundNoFace 16 = .ok (.getfield 46, 3) := by decide +kernel
theorem dX3_foundNoFace_19 : decode cX3_foundNoFace 19 = .ok (.ifCond .eq 12, 3) := by decide +kernel
theorem dX3_foundNoFace_22 : decode cX3_foundNoFace 22 = .ok (.aload_n 0, 1) := by decide +kernel
theorem dX3_foundNoFace_23 : decode cX3_foundNoFace 23 = .ok (.bipush 6, 2) := by decide +kernel
theorem dX3_foundNoFace_25 : decode cX3_foundNoFace 25 = .ok (.invokevirtual 50, 3) := by decide +kernel
theorem dX3_foundNoFace_28 : decode cX3_foundNoFace 28 = .ok (.goto 4, 3) := by decide +kernel
theorem dX3_foundNoFace_31 : decode cX3_foundNoFace 31 = .ok (.aload_n 3, 1) := by decide +kernel
theorem dX3_foundNoFace_32 : decode cX3_foundNoFace 32 = .ok (.areturn, 1) := by decide +kernel
theorem dX3_foundFace_0 : decode cX3_foundFace 0 = .ok (.aload_n 0, 1) := by decide +kernel
theorem dX3_foundFace_1 : decode cX3_foundFace 1 = .ok (.aload_n 1, 1) := by decide +kernel
theorem dX3_foundFace_2 : decode cX3_foundFace 2 = .ok (.iload_n 2, 1) := by decide +kernel
theorem dX3_foundFace_3 : decode cX3_foundFace 3 = .ok (.iconst 0, 1) := by decide +kernel
theorem dX3_foundFace_4 : decode cX3_foundFace 4 = .ok (.invokevirtual 36, 3) := by decide +kernel
theorem dX3_foundFace_7 : decode cX3_foundFace 7 = .ok (.astore_n 3, 1) := by decide +kernel
theorem dX3_foundFace_8 : decode cX3_foundFace 8 = .ok (.aload_n 3, 1) := by decide +kernel
theorem dX3_foundFace_9 : decode cX3_foundFace 9 = .ok (.ifnull 22, 3) := by decide +kernel
theorem dX3_foundFace_12 : decode cX3_foundFace 12 = .ok (.aload_n 3, 1) := by decide +kernel
theorem dX3_foundFace_13 : decode cX3_foundFace 13 = .ok (.getfield 40, 3) := by decide +kernel
theorem dX3_foundFace_16 : decode cX3_foundFace 16 = .ok (.getfield 46, 3) := by decide +kernel
theorem dX3_foundFace_19 : decode cX3_foundFace 19 = .ok (.ifCond .ne 12, 3) := by decide +kernel
theorem dX3_foundFace_22 : decode cX3_foundFace 22 = .ok (.aload_n 0, 1) := by decide +kernel
theorem dX3_foundFace_23 : decode cX3_foundFace 23 = .ok (.bipush 6, 2) := by decide +kernel
theorem dX3_foundFace_25 : decode cX3_foundFace 25 = .ok (.invokevirtual 50, 3) := by decide +kernel
theorem dX3_foundFace_28 : decode cX3_foundFace 28 = .ok (.goto 4, 3) := by decide +kernel
theorem dX3_foundFace_31 : decode cX3_foundFace 31 = .ok (.aload_n 3, 1) := by decide +kernel
theorem dX3_foundFace_32 : decode cX3_foundFace 32 = .ok (.areturn, 1) := by decide +kernel
theorem dX3_defined_0 : decode cX3_defined 0 = .ok (.aload_n 1, 1) := by decide +kernel
theorem dX3_defined_1 : decode cX3_defined 1 = .ok (.getfield 54, 3) := by decide +kernel
theorem dX3_defined_4 : decode cX3_defined 4 = .ok (.iload_n 2, 1) := by decide +kernel
theorem dX3_defined_5 : decode cX3_defined 5 = .ok (.aaload, 1) := by decide +kernel
theorem dX3_defined_6 : decode cX3_defined 6 = .ok (.astore_n 3, 1) := by decide +kernel
theorem dX3_defined_7 : decode cX3_defined 7 = .ok (.aload_n 3, 1) := by decide +kernel
theorem dX3_defined_8 : decode cX3_defined 8 = .ok (.ifnonnull 9, 3) := by decide +kernel
theorem dX3_defined_11 : decode cX3_defined 11 = .ok (.aload_n 0, 1) := by decide +kernel
theorem dX3_defined_12 : decode cX3_defined 12 = .ok (.iconst 1, 1) := by decide +kernel
theorem dX3_defined_13 : decode cX3_defined 13 = .ok (.invokevirtual 50, 3) := by decide +kernel
theorem dX3_defined_16 : decode cX3_defined 16 = .ok (.areturn, 1) := by decide +kernel
theorem dX3_defined_17 : decode cX3_defined 17 = .ok (.aload_n 3, 1) := by decide +kernel
theorem dX3_defined_18 : decode cX3_defined 18 = .ok (.getfield 58, 3) := by decide +kernel
theorem dX3_defined_21 : decode cX3_defined 21 = .ok (.ifCond .eq 9, 3) := by decide +kernel
theorem dX3_defined_24 : decode cX3_defined 24 = .ok (.aload_n 0, 1) := by decide +kernel
theorem dX3_defined_25 : decode cX3_defined 25 = .ok (.iconst 3, 1) := by decide +kernel
theorem dX3_defined_26 : decode cX3_defined 26 = .ok (.invokevirtual 50, 3) := by decide +kernel
theorem dX3_defined_29 : decode cX3_defined 29 = .ok (.areturn, 1) := by decide +kernel
theorem dX3_defined_30 : decode cX3_defined 30 = .ok (.aload_n 0, 1) := by decide +kernel
theorem dX3_defined_31 : decode cX3_defined 31 = .ok (.aload_n 3, 1) := by decide +kernel
theorem dX3_defined_32 : decode cX3_defined 32 = .ok (.iconst 0, 1) := by decide +kernel
theorem dX3_defined_33 : decode cX3_defined 33 = .ok (.invokevirtual 61, 3) := by decide +kernel
theorem dX3_defined_36 : decode cX3_defined 36 = .ok (.ifCond .eq 7, 3) := by decide +kernel
theorem dX3_defined_39 : decode cX3_defined 39 = .ok (.aload_n 3, 1) := by decide +kernel
theorem dX3_defined_40 : decode cX3_defined 40 = .ok (.goto 4, 3) := by decide +kernel
theorem dX3_defined_43 : decode cX3_defined 43 = .ok (.aconst_null, 1) := by decide +kernel
theorem dX3_defined_44 : decode cX3_defined 44 = .ok (.areturn, 1) := by decide +kernel
theorem dX3_letGo_0 : decode cX3_letGo 0 = .ok (.iconst 0, 1) := by decide +kernel
theorem dX3_letGo_1 : decode cX3_letGo 1 = .ok (.istore_n 2, 1) := by decide +kernel
theorem dX3_letGo_2 : decode cX3_letGo 2 = .ok (.iconst 0, 1) := by decide +kernel
theorem dX3_letGo_3 : decode cX3_letGo 3 = .ok (.istore_n 3, 1) := by decide +kernel
theorem dX3_letGo_4 : decode cX3_letGo 4 = .ok (.iload_n 3, 1) := by decide +kernel
theorem dX3_letGo_5 : decode cX3_letGo 5 = .ok (.aload_n 0, 1) := by decide +kernel
theorem dX3_letGo_6 : decode cX3_letGo 6 = .ok (.getfield 26, 3) := by decide +kernel
theorem dX3_letGo_9 : decode cX3_letGo 9 = .ok (.if_icmp .ge 34, 3) := by decide +kernel
theorem dX3_letGo_12 : decode cX3_letGo 12 = .ok (.aload_n 0, 1) := by decide +kernel
theorem dX3_letGo_13 : decode cX3_letGo 13 = .ok (.getfield 19, 3) := by decide +kernel
theorem dX3_letGo_16 : decode cX3_letGo 16 = .ok (.iload_n 3, 1) := by decide +kernel
theorem dX3_letGo_17 : decode cX3_letGo 17 = .ok (.aaload, 1) := by decide +kernel
theorem dX3_letGo_18 : decode cX3_letGo 18 = .ok (.aload_n 1, 1) := by decide +kernel
theorem dX3_letGo_19 : decode cX3_letGo 19 = .ok (.invokevirtual 65, 3) := by decide +kernel
theorem dX3_letGo_22 : decode cX3_letGo 22 = .ok (.ifCond .eq 15, 3) := by decide +kernel
theorem dX3_letGo_25 : decode cX3_letGo 25 = .ok (.iload_n 2, 1) := by decide +kernel
theorem dX3_letGo_26 : decode cX3_letGo 26 = .ok (.aload_n 0, 1) := by decide +kernel
theorem dX3_letGo_27 : decode cX3_letGo 27 = .ok (.getfield 19, 3) := by decide +kernel
theorem dX3_letGo_30 : decode cX3_letGo 30 = .ok (.iload_n 3, 1) := by decide +kernel
theorem dX3_letGo_31 : decode cX3_letGo 31 = .ok (.aaload, 1) := by decide +kernel
theorem dX3_letGo_32 : decode cX3_letGo 32 = .ok (.invokevirtual 69, 3) := by decide +kernel
theorem dX3_letGo_35 : decode cX3_letGo 35 = .ok (.iadd, 1) := by decide +kernel
theorem dX3_letGo_36 : decode cX3_letGo 36 = .ok (.istore_n 2, 1) := by decide +kernel
theorem dX3_letGo_37 : decode cX3_letGo 37 = .ok (.iinc 3 1, 3) := by decide +kernel
theorem dX3_letGo_40 : decode cX3_letGo 40 = .ok (.goto (-36), 3) := by decide +kernel
theorem dX3_letGo_43 : decode cX3_letGo 43 = .ok (.iload_n 2, 1) := by decide +kernel
theorem dX3_letGo_44 : decode cX3_letGo 44 = .ok (.ireturn, 1) := by decide +kernel
theorem dX3_refused_0 : decode cX3_refused 0 = .ok (.aload_n 0, 1) := by decide +kernel
theorem dX3_refused_1 : decode cX3_refused 1 = .ok (.iload_n 1, 1) := by decide +kernel
theorem dX3_refused_2 : decode cX3_refused 2 = .ok (.putfield 73, 3) := by decide +kernel
theorem dX3_refused_5 : decode cX3_refused 5 = .ok (.aconst_null, 1) := by decide +kernel
theorem dX3_refused_6 : decode cX3_refused 6 = .ok (.areturn, 1) := by decide +kernel
theorem dX3_found_0 : decode cX3_found 0 = .ok (.aload_n 1, 1) := by decide +kernel
theorem dX3_found_1 : decode cX3_found 1 = .ok (.iload_n 2, 1) := by decide +kernel
theorem dX3_found_2 : decode cX3_found 2 = .ok (.invokestatic 76, 3) := by decide +kernel
theorem dX3_found_5 : decode cX3_found 5 = .ok (.astore 4, 2) := by decide +kernel
theorem dX3_found_7 : decode cX3_found 7 = .ok (.aload 4, 2) := by decide +kernel
theorem dX3_found_9 : decode cX3_found 9 = .ok (.ifnonnull 9, 3) := by decide +kernel
theorem dX3_found_12 : decode cX3_found 12 = .ok (.aload_n 0, 1) := by decide +kernel
theorem dX3_found_13 : decode cX3_found 13 = .ok (.iconst 1, 1) := by decide +kernel
theorem dX3_found_14 : decode cX3_found 14 = .ok (.invokevirtual 50, 3) := by decide +kernel
theorem dX3_found_17 : decode cX3_found 17 = .ok (.areturn, 1) := by decide +kernel
theorem dX3_found_18 : decode cX3_found 18 = .ok (.aload 4, 2) := by decide +kernel
theorem dX3_found_20 : decode cX3_found 20 = .ok (.getfield 58, 3) := by decide +kernel
theorem dX3_found_23 : decode cX3_found 23 = .ok (.ifCond .ne 13, 3) := by decide +kernel
theorem dX3_found_26 : decode cX3_found 26 = .ok (.aload_n 0, 1) := by decide +kernel
theorem dX3_found_27 : decode cX3_found 27 = .ok (.aload 4, 2) := by decide +kernel
theorem dX3_found_29 : decode cX3_found 29 = .ok (.iload_n 3, 1) := by decide +kernel
theorem dX3_found_30 : decode cX3_found 30 = .ok (.invokevirtual 61, 3) := by decide +kernel
theorem dX3_found_33 : decode cX3_found 33 = .ok (.ifCond .eq 8, 3) := by decide +kernel
theorem dX3_found_36 : decode cX3_found 36 = .ok (.aload 4, 2) := by decide +kernel
theorem dX3_found_38 : decode cX3_found 38 = .ok (.goto 4, 3) := by decide +kernel
theorem dX3_found_41 : decode cX3_found 41 = .ok (.aconst_null, 1) := by decide +kernel
theorem dX3_found_42 : decode cX3_found 42 = .ok (.areturn, 1) := by decide +kernel
theorem dX3_thereOrOffered_0 : decode cX3_thereOrOffered 0 = .ok (.aconst_null, 1) := by decide +kernel
theorem dX3_thereOrOffered_1 : decode cX3_thereOrOffered 1 = .ok (.astore_n 2, 1) := by decide +kernel
theorem dX3_thereOrOffered_2 : decode cX3_thereOrOffered 2 = .ok (.aload_n 0, 1) := by decide +kernel
theorem dX3_thereOrOffered_3 : decode cX3_thereOrOffered 3 = .ok (.astore_n 3, 1) := by decide +kernel
theorem dX3_thereOrOffered_4 : decode cX3_thereOrOffered 4 = .ok (.aload_n 3, 1) := by decide +kernel
theorem dX3_thereOrOffered_5 : decode cX3_thereOrOffered 5 = .ok (.ifnull 47, 3) := by decide +kernel
theorem dX3_thereOrOffered_8 : decode cX3_thereOrOffered 8 = .ok (.aload_n 3, 1) := by decide +kernel
theorem dX3_thereOrOffered_9 : decode cX3_thereOrOffered 9 = .ok (.getfield 54, 3) := by decide +kernel
theorem dX3_thereOrOffered_12 : decode cX3_thereOrOffered 12 = .ok (.iload_n 1, 1) := by decide +kernel
theorem dX3_thereOrOffered_13 : decode cX3_thereOrOffered 13 = .ok (.aaload, 1) := by decide +kernel
theorem dX3_thereOrOffered_14 : decode cX3_thereOrOffered 14 = .ok (.astore 4, 2) := by decide +kernel
theorem dX3_thereOrOffered_16 : decode cX3_thereOrOffered 16 = .ok (.aload 4, 2) := by decide +kernel
theorem dX3_thereOrOffered_18 : decode cX3_thereOrOffered 18 = .ok (.ifnull 14, 3) := by decide +kernel
theorem dX3_thereOrOffered_21 : decode cX3_thereOrOffered 21 = .ok (.aload 4, 2) := by decide +kernel
theorem dX3_thereOrOffered_23 : decode cX3_thereOrOffered 23 = .ok (.getfield 58, 3) := by decide +kernel
theorem dX3_thereOrOffered_26 : decode cX3_thereOrOffered 26 = .ok (.ifCond .eq 6, 3) := by decide +kernel
theorem dX3_thereOrOffered_29 : decode cX3_thereOrOffered 29 = .ok (.aload 4, 2) := by decide +kernel
theorem dX3_thereOrOffered_31 : decode cX3_thereOrOffered 31 = .ok (.areturn, 1) := by decide +kernel
theorem dX3_thereOrOffered_32 : decode cX3_thereOrOffered 32 = .ok (.aload 4, 2) := by decide +kernel
theorem dX3_thereOrOffered_34 : decode cX3_thereOrOffered 34 = .ok (.ifnull 8, 3) := by decide +kernel
theorem dX3_thereOrOffered_37 : decode cX3_thereOrOffered 37 = .ok (.aload 4, 2) := by decide +kernel
theorem dX3_thereOrOffered_39 : decode cX3_thereOrOffered 39 = .ok (.goto 4, 3) := by decide +kernel
theorem dX3_thereOrOffered_42 : decode cX3_thereOrOffered 42 = .ok (.aload_n 2, 1) := by decide +kernel
theorem dX3_thereOrOffered_43 : decode cX3_thereOrOffered 43 = .ok (.astore_n 2, 1) := by decide +kernel
theorem dX3_thereOrOffered_44 : decode cX3_thereOrOffered 44 = .ok (.aload_n 3, 1) := by decide +kernel
theorem dX3_thereOrOffered_45 : decode cX3_thereOrOffered 45 = .ok (.getfield 80, 3) := by decide +kernel
theorem dX3_thereOrOffered_48 : decode cX3_thereOrOffered 48 = .ok (.astore_n 3, 1) := by decide +kernel
theorem dX3_thereOrOffered_49 : decode cX3_thereOrOffered 49 = .ok (.goto (-45), 3) := by decide +kernel
theorem dX3_thereOrOffered_52 : decode cX3_thereOrOffered 52 = .ok (.aload_n 2, 1) := by decide +kernel
theorem dX3_thereOrOffered_53 : decode cX3_thereOrOffered 53 = .ok (.areturn, 1) := by decide +kernel
theorem dX3_makes_0 : decode cX3_makes 0 = .ok (.aload_n 0, 1) := by decide +kernel
theorem dX3_makes_1 : decode cX3_makes 1 = .ok (.aload_n 1, 1) := by decide +kernel
theorem dX3_makes_2 : decode cX3_makes 2 = .ok (.iload_n 2, 1) := by decide +kernel
theorem dX3_makes_3 : decode cX3_makes 3 = .ok (.invokestatic 84, 3) := by decide +kernel
theorem dX3_makes_6 : decode cX3_makes 6 = .ok (.putfield 73, 3) := by decide +kernel
theorem dX3_makes_9 : decode cX3_makes 9 = .ok (.aload_n 0, 1) := by decide +kernel
theorem dX3_makes_10 : decode cX3_makes 10 = .ok (.getfield 73, 3) := by decide +kernel
theorem dX3_makes_13 : decode cX3_makes 13 = .ok (.ifCond .eq 5, 3) := by decide +kernel
theorem dX3_makes_16 : decode cX3_makes 16 = .ok (.iconst 0, 1) := by decide +kernel
theorem dX3_makes_17 : decode cX3_makes 17 = .ok (.ireturn, 1) := by decide +kernel
theorem dX3_makes_18 : decode cX3_makes 18 = .ok (.aload_n 1, 1) := by decide +kernel
theorem dX3_makes_19 : decode cX3_makes 19 = .ok (.invokevirtual 88, 3) := by decide +kernel
theorem dX3_makes_22 : decode cX3_makes 22 = .ok (.iconst 0, 1) := by decide +kernel
theorem dX3_makes_23 : decode cX3_makes 23 = .ok (.istore_n 3, 1) := by decide +kernel
theorem dX3_makes_24 : decode cX3_makes 24 = .ok (.iload_n 3, 1) := by decide +kernel
theorem dX3_makes_25 : decode cX3_makes 25 = .ok (.aload_n 1, 1) := by decide +kernel
theorem dX3_makes_26 : decode cX3_makes 26 = .ok (.getfield 40, 3) := by decide +kernel
theorem dX3_makes_29 : decode cX3_makes 29 = .ok (.invokevirtual 91, 3) := by decide +kernel
theorem dX3_makes_32 : decode cX3_makes 32 = .ok (.if_icmp .ge 70, 3) := by decide +kernel
theorem dX3_makes_35 : decode cX3_makes 35 = .ok (.aload_n 0, 1) := by decide +kernel
theorem dX3_makes_36 : decode cX3_makes 36 = .ok (.getfield 73, 3) := by decide +kernel
theorem dX3_makes_39 : decode cX3_makes 39 = .ok (.ifCond .ne 63, 3) := by decide +kernel
theorem dX3_makes_42 : decode cX3_makes 42 = .ok (.aload_n 0, 1) := by decide +kernel
theorem dX3_makes_43 : decode cX3_makes 43 = .ok (.aload_n 1, 1) := by decide +kernel
theorem dX3_makes_44 : decode cX3_makes 44 = .ok (.getfield 94, 3) := by decide +kernel
theorem dX3_makes_47 : decode cX3_makes 47 = .ok (.aload_n 1, 1) := by decide +kernel
theorem dX3_makes_48 : decode cX3_makes 48 = .ok (.getfield 40, 3) := by decide +kernel
theorem dX3_makes_51 : decode cX3_makes 51 = .ok (.iload_n 3, 1) := by decide +kernel
theorem dX3_makes_52 : decode cX3_makes 52 = .ok (.invokevirtual 97, 3) := by decide +kernel
theorem dX3_makes_55 : decode cX3_makes 55 = .ok (.iload_n 2, 1) := by decide +kernel
theorem dX3_makes_56 : decode cX3_makes 56 = .ok (.iconst 1, 1) := by decide +kernel
theorem dX3_makes_57 : decode cX3_makes 57 = .ok (.iadd, 1) := by decide +kernel
theorem dX3_makes_58 : decode cX3_makes 58 = .ok (.invokevirtual 36, 3) := by decide +kernel
theorem dX3_makes_61 : decode cX3_makes 61 = .ok (.astore 4, 2) := by decide +kernel
theorem dX3_makes_63 : decode cX3_makes 63 = .ok (.aload_n 0, 1) := by decide +kernel
theorem dX3_makes_64 : decode cX3_makes 64 = .ok (.aload 4, 2) := by decide +kernel
theorem dX3_makes_66 : decode cX3_makes 66 = .ok (.ifnonnull 13, 3) := by decide +kernel
theorem dX3_makes_69 : decode cX3_makes 69 = .ok (.aload_n 0, 1) := by decide +kernel
theorem dX3_makes_70 : decode cX3_makes 70 = .ok (.getfield 73, 3) := by decide +kernel
theorem dX3_makes_73 : decode cX3_makes 73 = .ok (.invokestatic 101, 3) := by decide +kernel
theorem dX3_makes_76 : decode cX3_makes 76 = .ok (.goto 17, 3) := by decide +kernel
theorem dX3_makes_79 : decode cX3_makes 79 = .ok (.aload_n 1, 1) := by decide +kernel
theorem dX3_makes_80 : decode cX3_makes 80 = .ok (.aload 4, 2) := by decide +kernel
theorem dX3_makes_82 : decode cX3_makes 82 = .ok (.aload_n 1, 1) := by decide +kernel
theorem dX3_makes_83 : decode cX3_makes 83 = .ok (.getfield 40, 3) := by decide +kernel
theorem dX3_makes_86 : decode cX3_makes 86 = .ok (.iload_n 3, 1) := by decide +kernel
theorem dX3_makes_87 : decode cX3_makes 87 = .ok (.invokevirtual 104, 3) := by decide +kernel
theorem dX3_makes_90 : decode cX3_makes 90 = .ok (.invokevirtual 108, 3) := by decide +kernel
theorem dX3_makes_93 : decode cX3_makes 93 = .ok (.putfield 73, 3) := by decide +kernel
theorem dX3_makes_96 : decode cX3_makes 96 = .ok (.iinc 3 1, 3) := by decide +kernel
theorem dX3_makes_99 : decode cX3_makes 99 = .ok (.goto (-75), 3) := by decide +kernel
theorem dX3_makes_102 : decode cX3_makes 102 = .ok (.aload_n 1, 1) := by decide +kernel
theorem dX3_makes_103 : decode cX3_makes 103 = .ok (.iconst 0, 1) := by decide +kernel
theorem dX3_makes_104 : decode cX3_makes 104 = .ok (.putfield 112, 3) := by decide +kernel
theorem dX3_makes_107 : decode cX3_makes 107 = .ok (.aload_n 0, 1) := by decide +kernel
theorem dX3_makes_108 : decode cX3_makes 108 = .ok (.getfield 73, 3) := by decide +kernel
theorem dX3_makes_111 : decode cX3_makes 111 = .ok (.ifCond .eq 5, 3) := by decide +kernel
theorem dX3_makes_114 : decode cX3_makes 114 = .ok (.iconst 0, 1) := by decide +kernel
theorem dX3_makes_115 : decode cX3_makes 115 = .ok (.ireturn, 1) := by decide +kernel
theorem dX3_makes_116 : decode cX3_makes 116 = .ok (.aload_n 1, 1) := by decide +kernel
theorem dX3_makes_117 : decode cX3_makes 117 = .ok (.iconst 1, 1) := by decide +kernel
theorem dX3_makes_118 : decode cX3_makes 118 = .ok (.putfield 58, 3) := by decide +kernel
theorem dX3_makes_121 : decode cX3_makes 121 = .ok (.aload_n 1, 1) := by decide +kernel
theorem dX3_makes_122 : decode cX3_makes 122 = .ok (.getfield 94, 3) := by decide +kernel
theorem dX3_makes_125 : decode cX3_makes 125 = .ok (.dup, 1) := by decide +kernel
theorem dX3_makes_126 : decode cX3_makes 126 = .ok (.getfield 33, 3) := by decide +kernel
theorem dX3_makes_129 : decode cX3_makes 129 = .ok (.iconst 1, 1) := by decide +kernel
theorem dX3_makes_130 : decode cX3_makes 130 = .ok (.iadd, 1) := by decide +kernel
theorem dX3_makes_131 : decode cX3_makes 131 = .ok (.putfield 33, 3) := by decide +kernel
theorem dX3_makes_134 : decode cX3_makes 134 = .ok (.aload_n 0, 1) := by decide +kernel
theorem dX3_makes_135 : decode cX3_makes 135 = .ok (.dup, 1) := by decide +kernel
theorem dX3_makes_136 : decode cX3_makes 136 = .ok (.getfield 115, 3) := by decide +kernel
theorem dX3_makes_139 : decode cX3_makes 139 = .ok (.iconst 1, 1) := by decide +kernel
theorem dX3_makes_140 : decode cX3_makes 140 = .ok (.iadd, 1) := by decide +kernel
theorem dX3_makes_141 : decode cX3_makes 141 = .ok (.putfield 115, 3) := by decide +kernel
theorem dX3_makes_144 : decode cX3_makes 144 = .ok (.iconst 1, 1) := by decide +kernel
theorem dX3_makes_145 : decode cX3_makes 145 = .ok (.ireturn, 1) := by decide +kernel
theorem dX3_reasonNotToMake_0 : decode cX3_reasonNotToMake 0 = .ok (.aload_n 0, 1) := by decide +kernel
theorem dX3_reasonNotToMake_1 : decode cX3_reasonNotToMake 1 = .ok (.getfield 94, 3) := by decide +kernel
theorem dX3_reasonNotToMake_4 : decode cX3_reasonNotToMake 4 = .ok (.getfield 118, 3) := by decide +kernel
theorem dX3_reasonNotToMake_7 : decode cX3_reasonNotToMake 7 = .ok (.ifCond .eq 13, 3) := by decide +kernel
theorem dX3_reasonNotToMake_10 : decode cX3_reasonNotToMake 10 = .ok (.aload_n 0, 1) := by decide +kernel
theorem dX3_reasonNotToMake_11 : decode cX3_reasonNotToMake 11 = .ok (.getfield 121, 3) := by decide +kernel
theorem dX3_reasonNotToMake_14 : decode cX3_reasonNotToMake 14 = .ok (.iconst 5, 1) := by decide +kernel
theorem dX3_reasonNotToMake_15 : decode cX3_reasonNotToMake 15 = .ok (.if_icmp .ge 5, 3) := by decide +kernel
theorem dX3_reasonNotToMake_18 : decode cX3_reasonNotToMake 18 = .ok (.iconst 4, 1) := by decide +kernel
theorem dX3_reasonNotToMake_19 : decode cX3_reasonNotToMake 19 = .ok (.ireturn, 1) := by decide +kernel
theorem dX3_reasonNotToMake_20 : decode cX3_reasonNotToMake 20 = .ok (.aload_n 0, 1) := by decide +kernel
theorem dX3_reasonNotToMake_21 : decode cX3_reasonNotToMake 21 = .ok (.getfield 40, 3) := by decide +kernel
theorem dX3_reasonNotToMake_24 : decode cX3_reasonNotToMake 24 = .ok (.getfield 124, 3) := by decide +kernel
theorem dX3_reasonNotToMake_27 : decode cX3_reasonNotToMake 27 = .ok (.aload_n 0, 1) := by decide +kernel
theorem dX3_reasonNotToMake_28 : decode cX3_reasonNotToMake 28 = .ok (.getfield 121, 3) := by decide +kernel
theorem dX3_reasonNotToMake_31 : decode cX3_reasonNotToMake 31 = .ok (.if_icmp .eq 5, 3) := by decide +kernel
theorem dX3_reasonNotToMake_34 : decode cX3_reasonNotToMake 34 = .ok (.iconst 2, 1) := by decide +kernel
theorem dX3_reasonNotToMake_35 : decode cX3_reasonNotToMake 35 = .ok (.ireturn, 1) := by decide +kernel
theorem dX3_reasonNotToMake_36 : decode cX3_reasonNotToMake 36 = .ok (.aload_n 0, 1) := by decide +kernel
theorem dX3_reasonNotToMake_37 : decode cX3_reasonNotToMake 37 = .ok (.getfield 112, 3) := by decide +kernel
theorem dX3_reasonNotToMake_40 : decode cX3_reasonNotToMake 40 = .ok (.ifCond .ne 9, 3) := by decide +kernel
theorem dX3_reasonNotToMake_43 : decode cX3_reasonNotToMake 43 = .ok (.iload_n 1, 1) := by decide +kernel
theorem dX3_reasonNotToMake_44 : decode cX3_reasonNotToMake 44 = .ok (.bipush 32, 2) := by decide +kernel
theorem dX3_reasonNotToMake_46 : decode cX3_reasonNotToMake 46 = .ok (.if_icmp .le 7, 3) := by decide +kernel
theorem dX3_reasonNotToMake_49 : decode cX3_reasonNotToMake 49 = .ok (.iconst 5, 1) := by decide +kernel
theorem dX3_reasonNotToMake_50 : decode cX3_reasonNotToMake 50 = .ok (.goto 4, 3) := by decide +kernel
theorem dX3_reasonNotToMake_53 : decode cX3_reasonNotToMake 53 = .ok (.iconst 0, 1) := by decide +kernel
theorem dX3_reasonNotToMake_54 : decode cX3_reasonNotToMake 54 = .ok (.ireturn, 1) := by decide +kernel
theorem dX3_failureOfPart_0 : decode cX3_failureOfPart 0 = .ok (.iload_n 0, 1) := by decide +kernel
theorem dX3_failureOfPart_1 : decode cX3_failureOfPart 1 = .ok (.iconst 1, 1) := by decide +kernel
theorem dX3_failureOfPart_2 : decode cX3_failureOfPart 2 = .ok (.if_icmp .ne 7, 3) := by decide +kernel
theorem dX3_failureOfPart_5 : decode cX3_failureOfPart 5 = .ok (.iconst 2, 1) := by decide +kernel
theorem dX3_failureOfPart_6 : decode cX3_failureOfPart 6 = .ok (.goto 4, 3) := by decide +kernel
theorem dX3_failureOfPart_9 : decode cX3_failureOfPart 9 = .ok (.iload_n 0, 1) := by decide +kernel
theorem dX3_failureOfPart_10 : decode cX3_failureOfPart 10 = .ok (.ireturn, 1) := by decide +kernel
theorem dX4_init_0 : decode cX4_init 0 = .ok (.aload_n 0, 1) := by decide +kernel
theorem dX4_init_1 : decode cX4_init 1 = .ok (.invokespecial 3, 3) := by decide +kernel
theorem dX4_init_4 : decode cX4_init 4 = .ok (.aload_n 0, 1) := by decide +kernel
theorem dX4_init_5 : decode cX4_init 5 = .ok (.iconst 4, 1) := by decide +kernel
theorem dX4_init_6 : decode cX4_init 6 = .ok (.newarray .long, 2) := by decide +kernel
theorem dX4_init_8 : decode cX4_init 8 = .ok (.putfield 9, 3) := by decide +kernel
theorem dX4_init_11 : decode cX4_init 11 = .ok (.aload_n 0, 1) := by decide +kernel
theorem dX4_init_12 : decode cX4_init 12 = .ok (.aload_n 1, 1) := by decide +kernel
theorem dX4_init_13 : decode cX4_init 13 = .ok (.putfield 15, 3) := by decide +kernel
theorem dX4_init_16 : decode cX4_init 16 = .ok (.aload_n 0, 1) := by decide +kernel
theorem dX4_init_17 : decode cX4_init 17 = .ok (.iload_n 2, 1) := by decide +kernel
theorem dX4_init_18 : decode cX4_init 18 = .ok (.putfield 19, 3) := by decide +kernel
theorem dX4_init_21 : decode cX4_init 21 = .ok (.aload_n 0, 1) := by decide +kernel
theorem dX4_init_22 : decode cX4_init 22 = .ok (.aload_n 3, 1) := by decide +kernel
theorem dX4_init_23 : decode cX4_init 23 = .ok (.putfield 23, 3) := by decide +kernel
theorem dX4_init_26 : decode cX4_init 26 = .ok (.aload_n 0, 1) := by decide +kernel
theorem dX4_init_27 : decode cX4_init 27 = .ok (.aload_n 1, 1) := by decide +kernel
theorem dX4_init_28 : decode cX4_init 28 = .ok (.getfield 27, 3) := by decide +kernel
theorem dX4_init_31 : decode cX4_init 31 = .ok (.bipush 30, 2) := by decide +kernel
theorem dX4_init_33 : decode cX4_init 33 = .ok (.imul, 1) := by decide +kernel
theorem dX4_init_34 : decode cX4_init 34 = .ok (.iload_n 2, 1) := by decide +kernel
theorem dX4_init_35 : decode cX4_init 35 = .ok (.iadd, 1) := by decide +kernel
theorem dX4_init_36 : decode cX4_init 36 = .ok (.putfield 32, 3) := by decide +kernel
theorem dX4_init_39 : decode cX4_init 39 = .ok (.return_, 1) := by decide +kernel
theorem dX4_number_0 : decode cX4_number 0 = .ok (.bipush 100, 2) := by decide +kernel
theorem dX4_number_2 : decode cX4_number 2 = .ok (.aload_n 0, 1) := by decide +kernel
theorem dX4_number_3 : decode cX4_number 3 = .ok (.getfield 15, 3) := by decide +kernel
theorem dX4_number_6 : decode cX4_number 6 = .ok (.getfield 27, 3) := by decide +kernel
theorem dX4_number_9 : decode cX4_number 9 = .ok (.imul, 1) := by decide +kernel
theorem dX4_number_10 : decode cX4_number 10 = .ok (.aload_n 0, 1) := by decide +kernel
theorem dX4_number_11 : decode cX4_number 11 = .ok (.getfield 19, 3) := by decide +kernel
theorem dX4_number_14 : decode cX4_number 14 = .ok (.iadd, 1) := by decide +kernel
theorem dX4_number_15 : decode cX4_number 15 = .ok (.ireturn, 1) := by decide +kernel
theorem dX4_startMaking_0 : decode cX4_startMaking 0 = .ok (.aload_n 0, 1) := by decide +kernel
theorem dX4_startMaking_1 : decode cX4_startMaking 1 = .ok (.iconst 1, 1) := by decide +kernel
theorem dX4_startMaking_2 : decode cX4_startMaking 2 = .ok (.putfield 35, 3) := by decide +kernel
theorem dX4_startMaking_5 : decode cX4_startMaking 5 = .ok (.aload_n 0, 1) := by decide +kernel
theorem dX4_startMaking_6 : decode cX4_startMaking 6 = .ok (.aconst_null, 1) := by decide +kernel
theorem dX4_startMaking_7 : decode cX4_startMaking 7 = .ok (.putfield 39, 3) := by decide +kernel
theorem dX4_startMaking_10 : decode cX4_startMaking 10 = .ok (.aload_n 0, 1) := by decide +kernel
theorem dX4_startMaking_11 : decode cX4_startMaking 11 = .ok (.iconst 0, 1) := by decide +kernel
theorem dX4_startMaking_12 : decode cX4_startMaking 12 = .ok (.putfield 43, 3) := by decide +kernel
theorem dX4_startMaking_15 : decode cX4_startMaking 15 = .ok (.iconst 0, 1) := by decide +kernel
theorem dX4_startMaking_16 : decode cX4_startMaking 16 = .ok (.istore_n 1, 1) := by decide +kernel
theorem dX4_startMaking_17 : decode cX4_startMaking 17 = .ok (.iload_n 1, 1) := by decide +kernel
theorem dX4_startMaking_18 : decode cX4_startMaking 18 = .ok (.iconst 4, 1) := by decide +kernel
theorem dX4_startMaking_19 : decode cX4_startMaking 19 = .ok (.if_icmp .ge 39, 3) := by decide +kernel
theorem dX4_startMaking_22 : decode cX4_startMaking 22 = .ok (.aload_n 0, 1) := by decide +kernel
theorem dX4_startMaking_23 : decode cX4_startMaking 23 = .ok (.getfield 9, 3) := by decide +kernel
theorem dX4_startMaking_26 : decode cX4_startMaking 26 = .ok (.iload_n 1, 1) := by decide +kernel
theorem dX4_startMaking_27 : decode cX4_startMaking 27 = .ok (.iload_n 1, 1) := by decide +kernel
theorem dX4_startMaking_28 : decode cX4_startMaking 28 = .ok (.aload_n 0, 1) := by decide +kernel
theorem dX4_startMaking_29 : decode cX4_startMaking 29 = .ok (.getfield 32, 3) := by decide +kernel
theorem dX4_startMaking_32 : decode cX4_startMaking 32 = .ok (.bipush 6, 2) := by decide +kernel
theorem dX4_startMaking_34 : decode cX4_startMaking 34 = .ok (.ishr, 1) := by decide +kernel
theorem dX4_startMaking_35 : decode cX4_startMaking 35 = .ok (.if_icmp .ne 15, 3) := by decide +kernel
theorem dX4_startMaking_38 : decode cX4_startMaking 38 = .ok (.lconst 1, 1) := by decide +kernel
theorem dX4_startMaking_39 : decode cX4_startMaking 39 = .ok (.aload_n 0, 1) := by decide +kernel
theorem dX4_startMaking_40 : decode cX4_startMaking 40 = .ok (.getfield 32, 3) := by decide +kernel
theorem dX4_startMaking_43 : decode cX4_startMaking 43 = .ok (.bipush 63, 2) := by decide +kernel
theorem dX4_startMaking_45 : decode cX4_startMaking 45 = .ok (.iand, 1) := by decide +kernel
theorem dX4_startMaking_46 : decode cX4_startMaking 46 = .ok (.lshl, 1) := by decide +kernel
theorem dX4_startMaking_47 : decode cX4_startMaking 47 = .ok (.goto 4, 3) := by decide +kernel
theorem dX4_startMaking_50 : decode cX4_startMaking 50 = .ok (.lconst 0, 1) := by decide +kernel
theorem dX4_startMaking_51 : decode cX4_startMaking 51 = .ok (.lastore, 1) := by decide +kernel
theorem dX4_startMaking_52 : decode cX4_startMaking 52 = .ok (.iinc 1 1, 3) := by decide +kernel
theorem dX4_startMaking_55 : decode cX4_startMaking 55 = .ok (.goto (-38), 3) := by decide +kernel
theorem dX4_startMaking_58 : decode cX4_startMaking 58 = .ok (.return_, 1) := by decide +kernel
theorem dX4_put_0 : decode cX4_put 0 = .ok (.aload_n 1, 1) := by decide +kernel
theorem dX4_put_1 : decode cX4_put 1 = .ok (.getfield 23, 3) := by decide +kernel
theorem dX4_put_4 : decode cX4_put 4 = .ok (.getfield 46, 3) := by decide +kernel
theorem dX4_put_7 : decode cX4_put 7 = .ok (.iload_n 2, 1) := by decide +kernel
theorem dX4_put_8 : decode cX4_put 8 = .ok (.if_icmp .ne 6, 3) := by decide +kernel
theorem dX4_put_11 : decode cX4_put 11 = .ok (.bipush 6, 2) := by decide +kernel
theorem dX4_put_13 : decode cX4_put 13 = .ok (.ireturn, 1) := by decide +kernel
theorem dX4_put_14 : decode cX4_put 14 = .ok (.iload_n 2, 1) := by decide +kernel
theorem dX4_put_15 : decode cX4_put 15 = .ok (.ifCond .eq 16, 3) := by decide +kernel
theorem dX4_put_18 : decode cX4_put 18 = .ok (.aload_n 1, 1) := by decide +kernel
theorem dX4_put_19 : decode cX4_put 19 = .ok (.getfield 23, 3) := by decide +kernel
theorem dX4_put_22 : decode cX4_put 22 = .ok (.getfield 51, 3) := by decide +kernel
theorem dX4_put_25 : decode cX4_put 25 = .ok (.ifCond .eq 6, 3) := by decide +kernel
theorem dX4_put_28 : decode cX4_put 28 = .ok (.bipush 7, 2) := by decide +kernel
theorem dX4_put_30 : decode cX4_put 30 = .ok (.ireturn, 1) := by decide +kernel
theorem dX4_put_31 : decode cX4_put 31 = .ok (.iload_n 2, 1) := by decide +kernel
theorem dX4_put_32 : decode cX4_put 32 = .ok (.ifCond .eq 15, 3) := by decide +kernel
theorem dX4_put_35 : decode cX4_put 35 = .ok (.aload_n 1, 1) := by decide +kernel
theorem dX4_put_36 : decode cX4_put 36 = .ok (.getfield 43, 3) := by decide +kernel
theorem dX4_put_39 : decode cX4_put 39 = .ok (.bipush 12, 2) := by decide +kernel
theorem dX4_put_41 : decode cX4_put 41 = .ok (.if_icmp .lt 6, 3) := by decide +kernel
theorem dX4_put_44 : decode cX4_put 44 = .ok (.bipush 17, 2) := by decide +kernel
theorem dX4_put_46 : decode cX4_put 46 = .ok (.ireturn, 1) := by decide +kernel
theorem dX4_put_47 : decode cX4_put 47 = .ok (.iload_n 2, 1) := by decide +kernel
theorem dX4_put_48 : decode cX4_put 48 = .ok (.ifCond .eq 18, 3) := by decide +kernel
theorem dX4_put_51 : decode cX4_put 51 = .ok (.aload_n 0, 1) := by decide +kernel
theorem dX4_put_52 : decode cX4_put 52 = .ok (.aload_n 1, 1) := by decide +kernel
theorem dX4_put_53 : decode cX4_put 53 = .ok (.putfield 39, 3) := by decide +kernel
theorem dX4_put_56 : decode cX4_put 56 = .ok (.aload_n 0, 1) := by decide +kernel
theorem dX4_put_57 : decode cX4_put 57 = .ok (.aload_n 1, 1) := by decide +kernel
theorem dX4_put_58 : decode cX4_put 58 = .ok (.getfield 43, 3) := by decide +kernel
theorem dX4_put_61 : decode cX4_put 61 = .ok (.iconst 1, 1) := by decide +kernel
theorem dX4_put_62 : decode cX4_put 62 = .ok (.iadd, 1) := by decide +kernel
theorem dX4_put_63 : decode cX4_put 63 = .ok (.putfield 43, 3) := by decide +kernel
theorem dX4_put_66 : decode cX4_put 66 = .ok (.iconst 0, 1) := by decide +kernel
theorem dX4_put_67 : decode cX4_put 67 = .ok (.istore_n 3, 1) := by decide +kernel
theorem dX4_put_68 : decode cX4_put 68 = .ok (.iload_n 3, 1) := by decide +kernel
theorem dX4_put_69 : decode cX4_put 69 = .ok (.iconst 4, 1) := by decide +kernel
theorem dX4_put_70 : decode cX4_put 70 = .ok (.if_icmp .ge 24, 3) := by decide +kernel
theorem dX4_put_73 : decode cX4_put 73 = .ok (.aload_n 0, 1) := by decide +kernel
theorem dX4_put_74 : decode cX4_put 74 = .ok (.getfield 9, 3) := by decide +kernel
theorem dX4_put_77 : decode cX4_put 77 = .ok (.iload_n 3, 1) := by decide +kernel
theorem dX4_put_78 : decode cX4_put 78 = .ok (.dup2, 1) := by decide +kernel
theorem dX4_put_79 : decode cX4_put 79 = .ok (.laload, 1) := by decide +kernel
theorem dX4_put_80 : decode cX4_put 80 = .ok (.aload_n 1, 1) := by decide +kernel
theorem dX4_put_81 : decode cX4_put 81 = .ok (.getfield 9, 3) := by decide +kernel
theorem dX4_put_84 : decode cX4_put 84 = .ok (.iload_n 3, 1) := by decide +kernel
theorem dX4_put_85 : decode cX4_put 85 = .ok (.laload, 1) := by decide +kernel
theorem dX4_put_86 : decode cX4_put 86 = .ok (.lor, 1) := by decide +kernel
theorem dX4_put_87 : decode cX4_put 87 = .ok (.lastore, 1) := by decide +kernel
theorem dX4_put_88 : decode cX4_put 88 = .ok (.iinc 3 1, 3) := by decide +kernel
theorem dX4_put_91 : decode cX4_put 91 = .ok (.goto (-23), 3) := by decide +kernel
theorem dX4_put_94 : decode cX4_put 94 = .ok (.iconst 0, 1) := by decide +kernel
theorem dX4_put_95 : decode cX4_put 95 = .ok (.ireturn, 1) := by decide +kernel
theorem dX4_isBelow_0 : decode cX4_isBelow 0 = .ok (.aload_n 0, 1) := by decide +kernel
theorem dX4_isBelow_1 : decode cX4_isBelow 1 = .ok (.getfield 9, 3) := by decide +kernel
theorem dX4_isBelow_4 : decode cX4_isBelow 4 = .ok (.aload_n 1, 1) := by decide +kernel
theorem dX4_isBelow_5 : decode cX4_isBelow 5 = .ok (.getfield 32, 3) := by decide +kernel
theorem dX4_isBelow_8 : decode cX4_isBelow 8 = .ok (.bipush 6, 2) := by decide +kernel
theorem dX4_isBelow_10 : decode cX4_isBelow 10 = .ok (.ishr, 1) := by decide +kernel
theorem dX4_isBelow_11 : decode cX4_isBelow 11 = .ok (.laload, 1) := by decide +kernel
theorem dX4_isBelow_12 : decode cX4_isBelow 12 = .ok (.aload_n 1, 1) := by decide +kernel
theorem dX4_isBelow_13 : decode cX4_isBelow 13 = .ok (.getfield 32, 3) := by decide +kernel
theorem dX4_isBelow_16 : decode cX4_isBelow 16 = .ok (.bipush 63, 2) := by decide +kernel
theorem dX4_isBelow_18 : decode cX4_isBelow 18 = .ok (.iand, 1) := by decide +kernel
theorem dX4_isBelow_19 : decode cX4_isBelow 19 = .ok (.lshr, 1) := by decide +kernel
theorem dX4_isBelow_20 : decode cX4_isBelow 20 = .ok (.lconst 1, 1) := by decide +kernel
theorem dX4_isBelow_21 : decode cX4_isBelow 21 = .ok (.land, 1) := by decide +kernel
theorem dX4_isBelow_22 : decode cX4_isBelow 22 = .ok (.lconst 0, 1) := by decide +kernel
theorem dX4_isBelow_23 : decode cX4_isBelow 23 = .ok (.lcmp, 1) := by decide +kernel
theorem dX4_isBelow_24 : decode cX4_isBelow 24 = .ok (.ifCond .eq 7, 3) := by decide +kernel
theorem dX4_isBelow_27 : decode cX4_isBelow 27 = .ok (.iconst 1, 1) := by decide +kernel
theorem dX4_isBelow_28 : decode cX4_isBelow 28 = .ok (.goto 4, 3) := by decide +kernel
theorem dX4_isBelow_31 : decode cX4_isBelow 31 = .ok (.iconst 0, 1) := by decide +kernel
theorem dX4_isBelow_32 : decode cX4_isBelow 32 = .ok (.ireturn, 1) := by decide +kernel
theorem dX5_init_0 : decode cX5_init 0 = .ok (.aload_n 0, 1) := by decide +kernel
theorem dX5_init_1 : decode cX5_init 1 = .ok (.invokespecial 3, 3) := by decide +kernel
theorem dX5_init_4 : decode cX5_init 4 = .ok (.aload_n 0, 1) := by decide +kernel
theorem dX5_init_5 : decode cX5_init 5 = .ok (.bipush 30, 2) := by decide +kernel
theorem dX5_init_7 : decode cX5_init 7 = .ok (.anewarray 9, 3) := by decide +kernel
theorem dX5_init_10 : decode cX5_init 10 = .ok (.putfield 11, 3) := by decide +kernel
theorem dX5_init_13 : decode cX5_init 13 = .ok (.aload_n 0, 1) := by decide +kernel
theorem dX5_init_14 : decode cX5_init 14 = .ok (.iload_n 1, 1) := by decide +kernel
theorem dX5_init_15 : decode cX5_init 15 = .ok (.putfield 17, 3) := by decide +kernel
theorem dX5_init_18 : decode cX5_init 18 = .ok (.aload_n 0, 1) := by decide +kernel
theorem dX5_init_19 : decode cX5_init 19 = .ok (.aload_n 2, 1) := by decide +kernel
theorem dX5_init_20 : decode cX5_init 20 = .ok (.putfield 21, 3) := by decide +kernel
theorem dX5_init_23 : decode cX5_init 23 = .ok (.return_, 1) := by decide +kernel
theorem dX5_addOffer_0 : decode cX5_addOffer 0 = .ok (.aload_n 2, 1) := by decide +kernel
theorem dX5_addOffer_1 : decode cX5_addOffer 1 = .ok (.iconst 1, 1) := by decide +kernel
theorem dX5_addOffer_2 : decode cX5_addOffer 2 = .ok (.putfield 25, 3) := by decide +kernel
theorem dX5_addOffer_5 : decode cX5_addOffer 5 = .ok (.aload_n 0, 1) := by decide +kernel
theorem dX5_addOffer_6 : decode cX5_addOffer 6 = .ok (.getfield 11, 3) := by decide +kernel
theorem dX5_addOffer_9 : decode cX5_addOffer 9 = .ok (.iload_n 1, 1) := by decide +kernel
theorem dX5_addOffer_10 : decode cX5_addOffer 10 = .ok (.new 9, 3) := by decide +kernel
theorem dX5_addOffer_13 : decode cX5_addOffer 13 = .ok (.dup, 1) := by decide +kernel
theorem dX5_addOffer_14 : decode cX5_addOffer 14 = .ok (.aload_n 0, 1) := by decide +kernel
theorem dX5_addOffer_15 : decode cX5_addOffer 15 = .ok (.iload_n 1, 1) := by decide +kernel
theorem dX5_addOffer_16 : decode cX5_addOffer 16 = .ok (.aload_n 2, 1) := by decide +kernel
theorem dX5_addOffer_17 : decode cX5_addOffer 17 = .ok (.invokespecial 31, 3) := by decide +kernel
theorem dX5_addOffer_20 : decode cX5_addOffer 20 = .ok (.aastore, 1) := by decide +kernel
theorem dX5_addOffer_21 : decode cX5_addOffer 21 = .ok (.aload_n 0, 1) := by decide +kernel
theorem dX5_addOffer_22 : decode cX5_addOffer 22 = .ok (.dup, 1) := by decide +kernel
theorem dX5_addOffer_23 : decode cX5_addOffer 23 = .ok (.getfield 34, 3) := by decide +kernel
theorem dX5_addOffer_26 : decode cX5_addOffer 26 = .ok (.iconst 1, 1) := by decide +kernel
theorem dX5_addOffer_27 : decode cX5_addOffer 27 = .ok (.iadd, 1) := by decide +kernel
theorem dX5_addOffer_28 : decode cX5_addOffer 28 = .ok (.putfield 34, 3) := by decide +kernel
theorem dX5_addOffer_31 : decode cX5_addOffer 31 = .ok (.return_, 1) := by decide +kernel
theorem dX5_isBelow_0 : decode cX5_isBelow 0 = .ok (.aload_n 0, 1) := by decide +kernel
theorem dX5_isBelow_1 : decode cX5_isBelow 1 = .ok (.astore_n 2, 1) := by decide +kernel
theorem dX5_isBelow_2 : decode cX5_isBelow 2 = .ok (.aload_n 2, 1) := by decide +kernel
theorem dX5_isBelow_3 : decode cX5_isBelow 3 = .ok (.ifnull 18, 3) := by decide +kernel
theorem dX5_isBelow_6 : decode cX5_isBelow 6 = .ok (.aload_n 2, 1) := by decide +kernel
theorem dX5_isBelow_7 : decode cX5_isBelow 7 = .ok (.aload_n 1, 1) := by decide +kernel
theorem dX5_isBelow_8 : decode cX5_isBelow 8 = .ok (.if_acmp .ne 5, 3) := by decide +kernel
theorem dX5_isBelow_11 : decode cX5_isBelow 11 = .ok (.iconst 1, 1) := by decide +kernel
theorem dX5_isBelow_12 : decode cX5_isBelow 12 = .ok (.ireturn, 1) := by decide +kernel
theorem dX5_isBelow_13 : decode cX5_isBelow 13 = .ok (.aload_n 2, 1) := by decide +kernel
theorem dX5_isBelow_14 : decode cX5_isBelow 14 = .ok (.getfield 21, 3) := by decide +kernel
theorem dX5_isBelow_17 : decode cX5_isBelow 17 = .ok (.astore_n 2, 1) := by decide +kernel
theorem dX5_isBelow_18 : decode cX5_isBelow 18 = .ok (.goto (-16), 3) := by decide +kernel
theorem dX5_isBelow_21 : decode cX5_isBelow 21 = .ok (.iconst 0, 1) := by decide +kernel
theorem dX5_isBelow_22 : decode cX5_isBelow 22 = .ok (.ireturn, 1) := by decide +kernel
theorem dX5_forgetClasses_0 : decode cX5_forgetClasses 0 = .ok (.aload_n 0, 1) := by decide +kernel
theorem dX5_forgetClasses_1 : decode cX5_forgetClasses 1 = .ok (.getfield 37, 3) := by decide +kernel
theorem dX5_forgetClasses_4 : decode cX5_forgetClasses 4 = .ok (.istore_n 1, 1) := by decide +kernel
theorem dX5_forgetClasses_5 : decode cX5_forgetClasses 5 = .ok (.iconst 0, 1) := by decide +kernel
theorem dX5_forgetClasses_6 : decode cX5_forgetClasses 6 = .ok (.istore_n 2, 1) := by decide +kernel
theorem dX5_forgetClasses_7 : decode cX5_forgetClasses 7 = .ok (.iload_n 2, 1) := by decide +kernel
theorem dX5_forgetClasses_8 : decode cX5_forgetClasses 8 = .ok (.bipush 30, 2) := by decide +kernel
theorem dX5_forgetClasses_10 : decode cX5_forgetClasses 10 = .ok (.if_icmp .ge 28, 3) := by decide +kernel
theorem dX5_forgetClasses_13 : decode cX5_forgetClasses 13 = .ok (.aload_n 0, 1) := by decide +kernel
theorem dX5_forgetClasses_14 : decode cX5_forgetClasses 14 = .ok (.getfield 11, 3) := by decide +kernel
theorem dX5_forgetClasses_17 : decode cX5_forgetClasses 17 = .ok (.iload_n 2, 1) := by decide +kernel
theorem dX5_forgetClasses_18 : decode cX5_forgetClasses 18 = .ok (.aaload, 1) := by decide +kernel
theorem dX5_forgetClasses_19 : decode cX5_forgetClasses 19 = .ok (.ifnull 13, 3) := by decide +kernel
theorem dX5_forgetClasses_22 : decode cX5_forgetClasses 22 = .ok (.aload_n 0, 1) := by decide +kernel
theorem dX5_forgetClasses_23 : decode cX5_forgetClasses 23 = .ok (.getfield 11, 3) := by decide +kernel
theorem dX5_forgetClasses_26 : decode cX5_forgetClasses 26 = .ok (.iload_n 2, 1) := by decide +kernel
theorem dX5_forgetClasses_27 : decode cX5_forgetClasses 27 = .ok (.aaload, 1) := by decide +kernel
theorem dX5_forgetClasses_28 : decode cX5_forgetClasses 28 = .ok (.iconst 0, 1) := by decide +kernel
theorem dX5_forgetClasses_29 : decode cX5_forgetClasses 29 = .ok (.putfield 40, 3) := by decide +kernel
theorem dX5_forgetClasses_32 : decode cX5_forgetClasses 32 = .ok (.iinc 2 1, 3) := by decide +kernel
theorem dX5_forgetClasses_35 : decode cX5_forgetClasses 35 = .ok (.goto (-28), 3) := by decide +kernel
theorem dX5_forgetClasses_38 : decode cX5_forgetClasses 38 = .ok (.aload_n 0, 1) := by decide +kernel
theorem dX5_forgetClasses_39 : decode cX5_forgetClasses 39 = .ok (.iconst 0, 1) := by decide +kernel
theorem dX5_forgetClasses_40 : decode cX5_forgetClasses 40 = .ok (.putfield 37, 3) := by decide +kernel
theorem dX5_forgetClasses_43 : decode cX5_forgetClasses 43 = .ok (.iload_n 1, 1) := by decide +kernel
theorem dX5_forgetClasses_44 : decode cX5_forgetClasses 44 = .ok (.ireturn, 1) := by decide +kernel
theorem dX6_init_0 : decode cX6_init 0 = .ok (.aload_n 0, 1) := by decide +kernel
theorem dX6_init_1 : decode cX6_init 1 = .ok (.invokespecial 3, 3) := by decide +kernel
theorem dX6_init_4 : decode cX6_init 4 = .ok (.aload_n 0, 1) := by decide +kernel
theorem dX6_init_5 : decode cX6_init 5 = .ok (.bipush 10, 2) := by decide +kernel
theorem dX6_init_7 : decode cX6_init 7 = .ok (.anewarray 9, 3) := by decide +kernel
theorem dX6_init_10 : decode cX6_init 10 = .ok (.putfield 11, 3) := by decide +kernel
theorem dX6_init_13 : decode cX6_init 13 = .ok (.aload_n 0, 1) := by decide +kernel
theorem dX6_init_14 : decode cX6_init 14 = .ok (.new 17, 3) := by decide +kernel
theorem dX6_init_17 : decode cX6_init 17 = .ok (.dup, 1) := by decide +kernel
theorem dX6_init_18 : decode cX6_init 18 = .ok (.invokespecial 19, 3) := by decide +kernel
theorem dX6_init_21 : decode cX6_init 21 = .ok (.putfield 20, 3) := by decide +kernel
theorem dX6_init_24 : decode cX6_init 24 = .ok (.aload_n 0, 1) := by decide +kernel
theorem dX6_init_25 : decode cX6_init 25 = .ok (.new 17, 3) := by decide +kernel
theorem dX6_init_28 : decode cX6_init 28 = .ok (.dup, 1) := by decide +kernel
theorem dX6_init_29 : decode cX6_init 29 = .ok (.invokespecial 19, 3) := by decide +kernel
theorem dX6_init_32 : decode cX6_init 32 = .ok (.putfield 24, 3) := by decide +kernel
theorem dX6_init_35 : decode cX6_init 35 = .ok (.aload_n 0, 1) := by decide +kernel
theorem dX6_init_36 : decode cX6_init 36 = .ok (.bipush 104, 2) := by decide +kernel
theorem dX6_init_38 : decode cX6_init 38 = .ok (.anewarray 27, 3) := by decide +kernel
theorem dX6_init_41 : decode cX6_init 41 = .ok (.putfield 29, 3) := by decide +kernel
theorem dX6_init_44 : decode cX6_init 44 = .ok (.aload_n 0, 1) := by decide +kernel
theorem dX6_init_45 : decode cX6_init 45 = .ok (.aload_n 1, 1) := by decide +kernel
theorem dX6_init_46 : decode cX6_init 46 = .ok (.putfield 33, 3) := by decide +kernel
theorem dX6_init_49 : decode cX6_init 49 = .ok (.return_, 1) := by decide +kernel
theorem dX6_contractAt_0 : decode cX6_contractAt 0 = .ok (.iload_n 1, 1) := by decide +kernel
theorem dX6_contractAt_1 : decode cX6_contractAt 1 = .ok (.ifCond .lt 11, 3) := by decide +kernel
theorem dX6_contractAt_4 : decode cX6_contractAt 4 = .ok (.iload_n 1, 1) := by decide +kernel
theorem dX6_contractAt_5 : decode cX6_contractAt 5 = .ok (.aload_n 0, 1) := by decide +kernel
theorem dX6_contractAt_6 : decode cX6_contractAt 6 = .ok (.getfield 37, 3) := by decide +kernel
theorem dX6_contractAt_9 : decode cX6_contractAt 9 = .ok (.if_icmp .lt 7, 3) := by decide +kernel
theorem dX6_contractAt_12 : decode cX6_contractAt 12 = .ok (.aconst_null, 1) := by decide +kernel
theorem dX6_contractAt_13 : decode cX6_contractAt 13 = .ok (.goto 9, 3) := by decide +kernel
theorem dX6_contractAt_16 : decode cX6_contractAt 16 = .ok (.aload_n 0, 1) := by decide +kernel
theorem dX6_contractAt_17 : decode cX6_contractAt 17 = .ok (.getfield 11, 3) := by decide +kernel
theorem dX6_contractAt_20 : decode cX6_contractAt 20 = .ok (.iload_n 1, 1) := by decide +kernel
theorem dX6_contractAt_21 : decode cX6_contractAt 21 = .ok (.aaload, 1) := by decide +kernel
theorem dX6_contractAt_22 : decode cX6_contractAt 22 = .ok (.areturn, 1) := by decide +kernel
theorem dX6_addContract_0 : decode cX6_addContract 0 = .ok (.aload_n 0, 1) := by decide +kernel
theorem dX6_addContract_1 : decode cX6_addContract 1 = .ok (.getfield 11, 3) := by decide +kernel
theorem dX6_addContract_4 : decode cX6_addContract 4 = .ok (.aload_n 0, 1) := by decide +kernel
theorem dX6_addContract_5 : decode cX6_addContract 5 = .ok (.getfield 37, 3) := by decide +kernel
theorem dX6_addContract_8 : decode cX6_addContract 8 = .ok (.new 9, 3) := by decide +kernel
theorem dX6_addContract_11 : decode cX6_addContract 11 = .ok (.dup, 1) := by decide +kernel
theorem dX6_addContract_12 : decode cX6_addContract 12 = .ok (.aload_n 0, 1) := by decide +kernel
theorem dX6_addContract_13 : decode cX6_addContract 13 = .ok (.getfield 37, 3) := by decide +kernel
theorem dX6_addContract_16 : decode cX6_addContract 16 = .ok (.iload_n 3, 1) := by decide +kernel
theorem dX6_addContract_17 : decode cX6_addContract 17 = .ok (.aload_n 1, 1) := by decide +kernel
theorem dX6_addContract_18 : decode cX6_addContract 18 = .ok (.iload_n 2, 1) := by decide +kernel
theorem dX6_addContract_19 : decode cX6_addContract 19 = .ok (.invokespecial 41, 3) := by decide +kernel
theorem dX6_addContract_22 : decode cX6_addContract 22 = .ok (.aastore, 1) := by decide +kernel
theorem dX6_addContract_23 : decode cX6_addContract 23 = .ok (.aload_n 0, 1) := by decide +kernel
theorem dX6_addContract_24 : decode cX6_addContract 24 = .ok (.dup, 1) := by decide +kernel
theorem dX6_addContract_25 : decode cX6_addContract 25 = .ok (.getfield 37, 3) := by decide +kernel
theorem dX6_addContract_28 : decode cX6_addContract 28 = .ok (.iconst 1, 1) := by decide +kernel
theorem dX6_addContract_29 : decode cX6_addContract 29 = .ok (.iadd, 1) := by decide +kernel
theorem dX6_addContract_30 : decode cX6_addContract 30 = .ok (.putfield 37, 3) := by decide +kernel
theorem dX6_addContract_33 : decode cX6_addContract 33 = .ok (.aload_n 0, 1) := by decide +kernel
theorem dX6_addContract_34 : decode cX6_addContract 34 = .ok (.getfield 37, 3) := by decide +kernel
theorem dX6_addContract_37 : decode cX6_addContract 37 = .ok (.iconst 1, 1) := by decide +kernel
theorem dX6_addContract_38 : decode cX6_addContract 38 = .ok (.isub, 1) := by decide +kernel
theorem dX6_addContract_39 : decode cX6_addContract 39 = .ok (.ireturn, 1) := by decide +kernel
theorem dX6_callFromOutside_0 : decode cX6_callFromOutside 0 = .ok (.aload_n 0, 1) := by decide +kernel
theorem dX6_callFromOutside_1 : decode cX6_callFromOutside 1 = .ok (.getfield 24, 3) := by decide +kernel
theorem dX6_callFromOutside_4 : decode cX6_callFromOutside 4 = .ok (.aload_n 0, 1) := by decide +kernel
theorem dX6_callFromOutside_5 : decode cX6_callFromOutside 5 = .ok (.getfield 20, 3) := by decide +kernel
theorem dX6_callFromOutside_8 : decode cX6_callFromOutside 8 = .ok (.invokevirtual 44, 3) := by decide +kernel
theorem dX6_callFromOutside_11 : decode cX6_callFromOutside 11 = .ok (.aload_n 0, 1) := by decide +kernel
theorem dX6_callFromOutside_12 : decode cX6_callFromOutside 12 = .ok (.lload_n 3, 1) := by decide +kernel
theorem dX6_callFromOutside_13 : decode cX6_callFromOutside 13 = .ok (.putfield 48, 3) := by decide +kernel
theorem dX6_callFromOutside_16 : decode cX6_callFromOutside 16 = .ok (.aload_n 0, 1) := by decide +kernel
theorem dX6_callFromOutside_17 : decode cX6_callFromOutside 17 = .ok (.aload_n 1, 1) := by decide +kernel
theorem dX6_callFromOutside_18 : decode cX6_callFromOutside 18 = .ok (.iload_n 2, 1) := by decide +kernel
theorem dX6_callFromOutside_19 : decode cX6_callFromOutside 19 = .ok (.invokevirtual 52, 3) := by decide +kernel
theorem dX6_callFromOutside_22 : decode cX6_callFromOutside 22 = .ok (.istore 5, 2) := by decide +kernel
theorem dX6_callFromOutside_24 : decode cX6_callFromOutside 24 = .ok (.iconst 0, 1) := by decide +kernel
theorem dX6_callFromOutside_25 : decode cX6_callFromOutside 25 = .ok (.istore 6, 2) := by decide +kernel
theorem dX6_callFromOutside_27 : decode cX6_callFromOutside 27 = .ok (.iload 6, 2) := by decide +kernel
theorem dX6_callFromOutside_29 : decode cX6_callFromOutside 29 = .ok (.sipush 20000, 3) := by decide +kernel
theorem dX6_callFromOutside_32 : decode cX6_callFromOutside 32 = .ok (.if_icmp .ge 55, 3) := by decide +kernel
theorem dX6_callFromOutside_35 : decode cX6_callFromOutside 35 = .ok (.iload 5, 2) := by decide +kernel
theorem dX6_callFromOutside_37 : decode cX6_callFromOutside 37 = .ok (.ifCond .ne 50, 3) := by decide +kernel
theorem dX6_callFromOutside_40 : decode cX6_callFromOutside 40 = .ok (.aload_n 0, 1) := by decide +kernel
theorem dX6_callFromOutside_41 : decode cX6_callFromOutside 41 = .ok (.getfield 56, 3) := by decide +kernel
theorem dX6_callFromOutside_44 : decode cX6_callFromOutside 44 = .ok (.ifCond .le 43, 3) := by decide +kernel
theorem dX6_callFromOutside_47 : decode cX6_callFromOutside 47 = .ok (.aload_n 0, 1) := by decide +kernel
theorem dX6_callFromOutside_48 : decode cX6_callFromOutside 48 = .ok (.aload_n 0, 1) := by decide +kernel
theorem dX6_callFromOutside_49 : decode cX6_callFromOutside 49 = .ok (.getfield 29, 3) := by decide +kernel
theorem dX6_callFromOutside_52 : decode cX6_callFromOutside 52 = .ok (.aload_n 0, 1) := by decide +kernel
theorem dX6_callFromOutside_53 : decode cX6_callFromOutside 53 = .ok (.getfield 56, 3) := by decide +kernel
theorem dX6_callFromOutside_56 : decode cX6_callFromOutside 56 = .ok (.iconst 1, 1) := by decide +kernel
theorem dX6_callFromOutside_57 : decode cX6_callFromOutside 57 = .ok (.isub, 1) := by decide +kernel
theorem dX6_callFromOutside_58 : decode cX6_callFromOutside 58 = .ok (.aaload, 1) := by decide +kernel
theorem dX6_callFromOutside_59 : decode cX6_callFromOutside 59 = .ok (.invokevirtual 59, 3) := by decide +kernel
theorem dX6_callFromOutside_62 : decode cX6_callFromOutside 62 = .ok (.istore 5, 2) := by decide +kernel
theorem dX6_callFromOutside_64 : decode cX6_callFromOutside 64 = .ok (.iload 5, 2) := by decide +kernel
theorem dX6_callFromOutside_66 : decode cX6_callFromOutside 66 = .ok (.ifCond .eq 15, 3) := by decide +kernel
theorem dX6_callFromOutside_69 : decode cX6_callFromOutside 69 = .ok (.aload_n 0, 1) := by decide +kernel
theorem dX6_callFromOutside_70 : decode cX6_callFromOutside 70 = .ok (.iload 5, 2) := by decide +kernel
theorem dX6_callFromOutside_72 : decode cX6_callFromOutside 72 = .ok (.invokevirtual 63, 3) := by decide +kernel
theorem dX6_callFromOutside_75 : decode cX6_callFromOutside 75 = .ok (.ifCond .eq 6, 3) := by decide +kernel
theorem dX6_callFromOutside_78 : decode cX6_callFromOutside 78 = .ok (.iconst 0, 1) := by decide +kernel
theorem dX6_callFromOutside_79 : decode cX6_callFromOutside 79 = .ok (.istore 5, 2) := by decide +kernel
theorem dX6_callFromOutside_81 : decode cX6_callFromOutside 81 = .ok (.iinc 6 1, 3) := by decide +kernel
theorem dX6_callFromOutside_84 : decode cX6_callFromOutside 84 = .ok (.goto (-57), 3) := by decide +kernel
theorem dX6_callFromOutside_87 : decode cX6_callFromOutside 87 = .ok (.iload 5, 2) := by decide +kernel
theorem dX6_callFromOutside_89 : decode cX6_callFromOutside 89 = .ok (.ifCond .ne 14, 3) := by decide +kernel
theorem dX6_callFromOutside_92 : decode cX6_callFromOutside 92 = .ok (.aload_n 0, 1) := by decide +kernel
theorem dX6_callFromOutside_93 : decode cX6_callFromOutside 93 = .ok (.aload_n 0, 1) := by decide +kernel
theorem dX6_callFromOutside_94 : decode cX6_callFromOutside 94 = .ok (.getfield 48, 3) := by decide +kernel
theorem dX6_callFromOutside_97 : decode cX6_callFromOutside 97 = .ok (.putfield 67, 3) := by decide +kernel
theorem dX6_callFromOutside_100 : decode cX6_callFromOutside 100 = .ok (.goto 14, 3) := by decide +kernel
theorem dX6_callFromOutside_103 : decode cX6_callFromOutside 103 = .ok (.aload_n 0, 1) := by decide +kernel
theorem dX6_callFromOutside_104 : decode cX6_callFromOutside 104 = .ok (.getfield 20, 3) := by decide +kernel
theorem dX6_callFromOutside_107 : decode cX6_callFromOutside 107 = .ok (.aload_n 0, 1) := by decide +kernel
theorem dX6_callFromOutside_108 : decode cX6_callFromOutside 108 = .ok (.getfield 24, 3) := by decide +kernel
theorem dX6_callFromOutside_111 : decode cX6_callFromOutside 111 = .ok (.invokevirtual 44, 3) := by decide +kernel
theorem dX6_callFromOutside_114 : decode cX6_callFromOutside 114 = .ok (.iload 5, 2) := by decide +kernel
theorem dX6_callFromOutside_116 : decode cX6_callFromOutside 116 = .ok (.ireturn, 1) := by decide +kernel
theorem dX6_enter_0 : decode cX6_enter 0 = .ok (.aload_n 0, 1) := by decide +kernel
theorem dX6_enter_1 : decode cX6_enter 1 = .ok (.getfield 70, 3) := by decide +kernel
theorem dX6_enter_4 : decode cX6_enter 4 = .ok (.bipush 8, 2) := by decide +kernel
theorem dX6_enter_6 : decode cX6_enter 6 = .ok (.if_icmp .lt 6, 3) := by decide +kernel
theorem dX6_enter_9 : decode cX6_enter 9 = .ok (.bipush 13, 2) := by decide +kernel
theorem dX6_enter_11 : decode cX6_enter 11 = .ok (.ireturn, 1) := by decide +kernel
theorem dX6_enter_12 : decode cX6_enter 12 = .ok (.aload_n 0, 1) := by decide +kernel
theorem dX6_enter_13 : decode cX6_enter 13 = .ok (.dup, 1) := by decide +kernel
theorem dX6_enter_14 : decode cX6_enter 14 = .ok (.getfield 73, 3) := by decide +kernel
theorem dX6_enter_17 : decode cX6_enter 17 = .ok (.iconst 1, 1) := by decide +kernel
theorem dX6_enter_18 : decode cX6_enter 18 = .ok (.iadd, 1) := by decide +kernel
theorem dX6_enter_19 : decode cX6_enter 19 = .ok (.putfield 73, 3) := by decide +kernel
theorem dX6_enter_22 : decode cX6_enter 22 = .ok (.aload_n 0, 1) := by decide +kernel
theorem dX6_enter_23 : decode cX6_enter 23 = .ok (.dup, 1) := by decide +kernel
theorem dX6_enter_24 : decode cX6_enter 24 = .ok (.getfield 70, 3) := by decide +kernel
theorem dX6_enter_27 : decode cX6_enter 27 = .ok (.iconst 1, 1) := by decide +kernel
theorem dX6_enter_28 : decode cX6_enter 28 = .ok (.iadd, 1) := by decide +kernel
theorem dX6_enter_29 : decode cX6_enter 29 = .ok (.putfield 70, 3) := by decide +kernel
theorem dX6_enter_32 : decode cX6_enter 32 = .ok (.aload_n 0, 1) := by decide +kernel
theorem dX6_enter_33 : decode cX6_enter 33 = .ok (.aload_n 0, 1) := by decide +kernel
theorem dX6_enter_34 : decode cX6_enter 34 = .ok (.getfield 76, 3) := by decide +kernel
theorem dX6_enter_37 : decode cX6_enter 37 = .ok (.aload_n 0, 1) := by decide +kernel
theorem dX6_enter_38 : decode cX6_enter 38 = .ok (.getfield 70, 3) := by decide +kernel
theorem dX6_enter_41 : decode cX6_enter 41 = .ok (.invokestatic 79, 3) := by decide +kernel
theorem dX6_enter_44 : decode cX6_enter 44 = .ok (.putfield 76, 3) := by decide +kernel
theorem dX6_enter_47 : decode cX6_enter 47 = .ok (.aload_n 0, 1) := by decide +kernel
theorem dX6_enter_48 : decode cX6_enter 48 = .ok (.getfield 33, 3) := by decide +kernel
theorem dX6_enter_51 : decode cX6_enter 51 = .ok (.aload_n 1, 1) := by decide +kernel
theorem dX6_enter_52 : decode cX6_enter 52 = .ok (.getfield 85, 3) := by decide +kernel
theorem dX6_enter_55 : decode cX6_enter 55 = .ok (.aload_n 1, 1) := by decide +kernel
theorem dX6_enter_56 : decode cX6_enter 56 = .ok (.getfield 89, 3) := by decide +kernel
theorem dX6_enter_59 : decode cX6_enter 59 = .ok (.iconst 0, 1) := by decide +kernel
theorem dX6_enter_60 : decode cX6_enter 60 = .ok (.invokevirtual 92, 3) := by decide +kernel
theorem dX6_enter_63 : decode cX6_enter 63 = .ok (.astore_n 3, 1) := by decide +kernel
theorem dX6_enter_64 : decode cX6_enter 64 = .ok (.aload_n 3, 1) := by decide +kernel
theorem dX6_enter_65 : decode cX6_enter 65 = .ok (.ifnonnull 13, 3) := by decide +kernel
theorem dX6_enter_68 : decode cX6_enter 68 = .ok (.aload_n 0, 1) := by decide +kernel
theorem dX6_enter_69 : decode cX6_enter 69 = .ok (.getfield 33, 3) := by decide +kernel
theorem dX6_enter_72 : decode cX6_enter 72 = .ok (.getfield 98, 3) := by decide +kernel
theorem dX6_enter_75 : decode cX6_enter 75 = .ok (.goto 12, 3) := by decide +kernel
theorem dX6_enter_78 : decode cX6_enter 78 = .ok (.aload_n 0, 1) := by decide +kernel
theorem dX6_enter_79 : decode cX6_enter 79 = .ok (.iconst 1, 1) := by decide +kernel
theorem dX6_enter_80 : decode cX6_enter 80 = .ok (.aload_n 1, 1) := by decide +kernel
theorem dX6_enter_81 : decode cX6_enter 81 = .ok (.aload_n 3, 1) := by decide +kernel
theorem dX6_enter_82 : decode cX6_enter 82 = .ok (.aload_n 3, 1) := by decide +kernel
theorem dX6_enter_83 : decode cX6_enter 83 = .ok (.iload_n 2, 1) := by decide +kernel
theorem dX6_enter_84 : decode cX6_enter 84 = .ok (.invokevirtual 101, 3) := by decide +kernel
theorem dX6_enter_87 : decode cX6_enter 87 = .ok (.istore 4, 2) := by decide +kernel
theorem dX6_enter_89 : decode cX6_enter 89 = .ok (.iload 4, 2) := by decide +kernel
theorem dX6_enter_91 : decode cX6_enter 91 = .ok (.ifCond .eq 13, 3) := by decide +kernel
theorem dX6_enter_94 : decode cX6_enter 94 = .ok (.aload_n 0, 1) := by decide +kernel
theorem dX6_enter_95 : decode cX6_enter 95 = .ok (.dup, 1) := by decide +kernel
theorem dX6_enter_96 : decode cX6_enter 96 = .ok (.getfield 70, 3) := by decide +kernel
theorem dX6_enter_99 : decode cX6_enter 99 = .ok (.iconst 1, 1) := by decide +kernel
theorem dX6_enter_100 : decode cX6_enter 100 = .ok (.isub, 1) := by decide +kernel
theorem dX6_enter_101 : decode cX6_enter 101 = .ok (.putfield 70, 3) := by decide +kernel
theorem dX6_enter_104 : decode cX6_enter 104 = .ok (.iload 4, 2) := by decide +kernel
theorem dX6_enter_106 : decode cX6_enter 106 = .ok (.ireturn, 1) := by decide +kernel
theorem dX6_push_0 : decode cX6_push 0 = .ok (.aload 4, 2) := by decide +kernel
theorem dX6_push_2 : decode cX6_push 2 = .ok (.iload 5, 2) := by decide +kernel
theorem dX6_push_4 : decode cX6_push 4 = .ok (.invokestatic 105, 3) := by decide +kernel
theorem dX6_push_7 : decode cX6_push 7 = .ok (.astore 6, 2) := by decide +kernel
theorem dX6_push_9 : decode cX6_push 9 = .ok (.aload 6, 2) := by decide +kernel
theorem dX6_push_11 : decode cX6_push 11 = .ok (.ifnonnull 6, 3) := by decide +kernel
theorem dX6_push_14 : decode cX6_push 14 = .ok (.bipush 14, 2) := by decide +kernel
theorem dX6_push_16 : decode cX6_push 16 = .ok (.ireturn, 1) := by decide +kernel
theorem dX6_push_17 : decode cX6_push 17 = .ok (.aload_n 0, 1) := by decide +kernel
theorem dX6_push_18 : decode cX6_push 18 = .ok (.getfield 56, 3) := by decide +kernel
theorem dX6_push_21 : decode cX6_push 21 = .ok (.bipush 104, 2) := by decide +kernel
theorem dX6_push_23 : decode cX6_push 23 = .ok (.if_icmp .lt 6, 3) := by decide +kernel
theorem dX6_push_26 : decode cX6_push 26 = .ok (.bipush 13, 2) := by decide +kernel
theorem dX6_push_28 : decode cX6_push 28 = .ok (.ireturn, 1) := by decide +kernel
theorem dX6_push_29 : decode cX6_push 29 = .ok (.aload_n 0, 1) := by decide +kernel
theorem dX6_push_30 : decode cX6_push 30 = .ok (.getfield 29, 3) := by decide +kernel
theorem dX6_push_33 : decode cX6_push 33 = .ok (.aload_n 0, 1) := by decide +kernel
theorem dX6_push_34 : decode cX6_push 34 = .ok (.getfield 56, 3) := by decide +kernel
theorem dX6_push_37 : decode cX6_push 37 = .ok (.aaload, 1) := by decide +kernel
theorem dX6_push_38 : decode cX6_push 38 = .ok (.ifnonnull 19, 3) := by decide +kernel
theorem dX6_push_41 : decode cX6_push 41 = .ok (.aload_n 0, 1) := by decide +kernel
theorem dX6_push_42 : decode cX6_push 42 = .ok (.getfield 29, 3) := by decide +kernel
theorem dX6_push_45 : decode cX6_push 45 = .ok (.aload_n 0, 1) := by decide +kernel
theorem dX6_push_46 : decode cX6_push 46 = .ok (.getfield 56, 3) := by decide +kernel
theorem dX6_push_49 : decode cX6_push 49 = .ok (.new 27, 3) := by decide +kernel
theorem dX6_push_52 : decode cX6_push 52 = .ok (.dup, 1) := by decide +kernel
theorem dX6_push_53 : decode cX6_push 53 = .ok (.invokespecial 109, 3) := by decide +kernel
theorem dX6_push_56 : decode cX6_push 56 = .ok (.aastore, 1) := by decide +kernel
theorem dX6_push_57 : decode cX6_push 57 = .ok (.aload_n 0, 1) := by decide +kernel
theorem dX6_push_58 : decode cX6_push 58 = .ok (.getfield 29, 3) := by decide +kernel
theorem dX6_push_61 : decode cX6_push 61 = .ok (.aload_n 0, 1) := by decide +kernel
theorem dX6_push_62 : decode cX6_push 62 = .ok (.getfield 56, 3) := by decide +kernel
theorem dX6_push_65 : decode cX6_push 65 = .ok (.aaload, 1) := by decide +kernel
theorem dX6_push_66 : decode cX6_push 66 = .ok (.iload_n 1, 1) := by decide +kernel
theorem dX6_push_67 : decode cX6_push 67 = .ok (.aload_n 2, 1) := by decide +kernel
theorem dX6_push_68 : decode cX6_push 68 = .ok (.aload_n 3, 1) := by decide +kernel
theorem dX6_push_69 : decode cX6_push 69 = .ok (.aload 6, 2) := by decide +kernel
theorem dX6_push_71 : decode cX6_push 71 = .ok (.iload 5, 2) := by decide +kernel
theorem dX6_push_73 : decode cX6_push 73 = .ok (.invokevirtual 110, 3) := by decide +kernel
theorem dX6_push_76 : decode cX6_push 76 = .ok (.aload_n 0, 1) := by decide +kernel
theorem dX6_push_77 : decode cX6_push 77 = .ok (.dup, 1) := by decide +kernel
theorem dX6_push_78 : decode cX6_push 78 = .ok (.getfield 56, 3) := by decide +kernel
theorem dX6_push_81 : decode cX6_push 81 = .ok (.iconst 1, 1) := by decide +kernel
theorem dX6_push_82 : decode cX6_push 82 = .ok (.iadd, 1) := by decide +kernel
theorem dX6_push_83 : decode cX6_push 83 = .ok (.putfield 56, 3) := by decide +kernel
theorem dX6_push_86 : decode cX6_push 86 = .ok (.iconst 0, 1) := by decide +kernel
theorem dX6_push_87 : decode cX6_push 87 = .ok (.ireturn, 1) := by decide +kernel
theorem dX6_firstWithActs_0 : decode cX6_firstWithActs 0 = .ok (.aload_n 0, 1) := by decide +kernel
theorem dX6_firstWithActs_1 : decode cX6_firstWithActs 1 = .ok (.astore_n 2, 1) := by decide +kernel
theorem dX6_firstWithActs_2 : decode cX6_firstWithActs 2 = .ok (.aload_n 2, 1) := by decide +kernel
theorem dX6_firstWithActs_3 : decode cX6_firstWithActs 3 = .ok (.ifnull 24, 3) := by decide +kernel
theorem dX6_firstWithActs_6 : decode cX6_firstWithActs 6 = .ok (.aload_n 2, 1) := by decide +kernel
theorem dX6_firstWithActs_7 : decode cX6_firstWithActs 7 = .ok (.getfield 114, 3) := by decide +kernel
theorem dX6_firstWithActs_10 : decode cX6_firstWithActs 10 = .ok (.iload_n 1, 1) := by decide +kernel
theorem dX6_firstWithActs_11 : decode cX6_firstWithActs 11 = .ok (.invokevirtual 120, 3) := by decide +kernel
theorem dX6_firstWithActs_14 : decode cX6_firstWithActs 14 = .ok (.ifCond .le 5, 3) := by decide +kernel
theorem dX6_firstWithActs_17 : decode cX6_firstWithActs 17 = .ok (.aload_n 2, 1) := by decide +kernel
theorem dX6_firstWithActs_18 : decode cX6_firstWithActs 18 = .ok (.areturn, 1) := by decide +kernel
theorem dX6_firstWithActs_19 : decode cX6_firstWithActs 19 = .ok (.aload_n 2, 1) := by decide +kernel
theorem dX6_firstWithActs_20 : decode cX6_firstWithActs 20 = .ok (.getfield 126, 3) := by decide +kernel
theorem dX6_firstWithActs_23 : decode cX6_firstWithActs 23 = .ok (.astore_n 2, 1) := by decide +kernel
theorem dX6_firstWithActs_24 : decode cX6_firstWithActs 24 = .ok (.goto (-22), 3) := by decide +kernel
theorem dX6_firstWithActs_27 : decode cX6_firstWithActs 27 = .ok (.aconst_null, 1) := by decide +kernel
theorem dX6_firstWithActs_28 : decode cX6_firstWithActs 28 = .ok (.areturn, 1) := by decide +kernel
theorem dX6_leave_0 : decode cX6_leave 0 = .ok (.aload_n 0, 1) := by decide +kernel
theorem dX6_leave_1 : decode cX6_leave 1 = .ok (.dup, 1) := by decide +kernel
theorem dX6_leave_2 : decode cX6_leave 2 = .ok (.getfield 56, 3) := by decide +kernel
theorem dX6_leave_5 : decode cX6_leave 5 = .ok (.iconst 1, 1) := by decide +kernel
theorem dX6_leave_6 : decode cX6_leave 6 = .ok (.isub, 1) := by decide +kernel
theorem dX6_leave_7 : decode cX6_leave 7 = .ok (.putfield 56, 3) := by decide +kernel
theorem dX6_leave_10 : decode cX6_leave 10 = .ok (.aload_n 0, 1) := by decide +kernel
theorem dX6_leave_11 : decode cX6_leave 11 = .ok (.getfield 29, 3) := by decide +kernel
theorem dX6_leave_14 : decode cX6_leave 14 = .ok (.aload_n 0, 1) := by decide +kernel
theorem dX6_leave_15 : decode cX6_leave 15 = .ok (.getfield 56, 3) := by decide +kernel
theorem dX6_leave_18 : decode cX6_leave 18 = .ok (.aaload, 1) := by decide +kernel
theorem dX6_leave_19 : decode cX6_leave 19 = .ok (.getfield 130, 3) := by decide +kernel
theorem dX6_leave_22 : decode cX6_leave 22 = .ok (.ifCond .eq 13, 3) := by decide +kernel
theorem dX6_leave_25 : decode cX6_leave 25 = .ok (.aload_n 0, 1) := by decide +kernel
theorem dX6_leave_26 : decode cX6_leave 26 = .ok (.dup, 1) := by decide +kernel
theorem dX6_leave_27 : decode cX6_leave 27 = .ok (.getfield 70, 3) := by decide +kernel
theorem dX6_leave_30 : decode cX6_leave 30 = .ok (.iconst 1, 1) := by decide +kernel
theorem dX6_leave_31 : decode cX6_leave 31 = .ok (.isub, 1) := by decide +kernel
theorem dX6_leave_32 : decode cX6_leave 32 = .ok (.putfield 70, 3) := by decide +kernel
theorem dX6_leave_35 : decode cX6_leave 35 = .ok (.return_, 1) := by decide +kernel
theorem dX6_isHeldByTry_0 : decode cX6_isHeldByTry 0 = .ok (.aload_n 0, 1) := by decide +kernel
theorem dX6_isHeldByTry_1 : decode cX6_isHeldByTry 1 = .ok (.getfield 56, 3) := by decide +kernel
theorem dX6_isHeldByTry_4 : decode cX6_isHeldByTry 4 = .ok (.istore_n 2, 1) := by decide +kernel
theorem dX6_isHeldByTry_5 : decode cX6_isHeldByTry 5 = .ok (.iload_n 2, 1) := by decide +kernel
theorem dX6_isHeldByTry_6 : decode cX6_isHeldByTry 6 = .ok (.ifCond .le 54, 3) := by decide +kernel
theorem dX6_isHeldByTry_9 : decode cX6_isHeldByTry 9 = .ok (.aload_n 0, 1) := by decide +kernel
theorem dX6_isHeldByTry_10 : decode cX6_isHeldByTry 10 = .ok (.getfield 29, 3) := by decide +kernel
theorem dX6_isHeldByTry_13 : decode cX6_isHeldByTry 13 = .ok (.iload_n 2, 1) := by decide +kernel
theorem dX6_isHeldByTry_14 : decode cX6_isHeldByTry 14 = .ok (.iconst 1, 1) := by decide +kernel
theorem dX6_isHeldByTry_15 : decode cX6_isHeldByTry 15 = .ok (.isub, 1) := by decide +kernel
theorem dX6_isHeldByTry_16 : decode cX6_isHeldByTry 16 = .ok (.aaload, 1) := by decide +kernel
theorem dX6_isHeldByTry_17 : decode cX6_isHeldByTry 17 = .ok (.astore_n 3, 1) := by decide +kernel
theorem dX6_isHeldByTry_18 : decode cX6_isHeldByTry 18 = .ok (.iload_n 1, 1) := by decide +kernel
theorem dX6_isHeldByTry_19 : decode cX6_isHeldByTry 19 = .ok (.bipush 16, 2) := by decide +kernel
theorem dX6_isHeldByTry_21 : decode cX6_isHeldByTry 21 = .ok (.if_icmp .eq 29, 3) := by decide +kernel
theorem dX6_isHeldByTry_24 : decode cX6_isHeldByTry 24 = .ok (.aload_n 3, 1) := by decide +kernel
theorem dX6_isHeldByTry_25 : decode cX6_isHeldByTry 25 = .ok (.invokevirtual 134, 3) := by decide +kernel
theorem dX6_isHeldByTry_28 : decode cX6_isHeldByTry 28 = .ok (.ifCond .eq 22, 3) := by decide +kernel
theorem dX6_isHeldByTry_31 : decode cX6_isHeldByTry 31 = .ok (.aload_n 0, 1) := by decide +kernel
theorem dX6_isHeldByTry_32 : decode cX6_isHeldByTry 32 = .ok (.getfield 20, 3) := by decide +kernel
theorem dX6_isHeldByTry_35 : decode cX6_isHeldByTry 35 = .ok (.aload_n 3, 1) := by decide +kernel
theorem dX6_isHeldByTry_36 : decode cX6_isHeldByTry 36 = .ok (.getfield 138, 3) := by decide +kernel
theorem dX6_isHeldByTry_39 : decode cX6_isHeldByTry 39 = .ok (.invokevirtual 44, 3) := by decide +kernel
theorem dX6_isHeldByTry_42 : decode cX6_isHeldByTry 42 = .ok (.aload_n 0, 1) := by decide +kernel
theorem dX6_isHeldByTry_43 : decode cX6_isHeldByTry 43 = .ok (.iload_n 1, 1) := by decide +kernel
theorem dX6_isHeldByTry_44 : decode cX6_isHeldByTry 44 = .ok (.i2l, 1) := by decide +kernel
theorem dX6_isHeldByTry_45 : decode cX6_isHeldByTry 45 = .ok (.putfield 48, 3) := by decide +kernel
theorem dX6_isHeldByTry_48 : decode cX6_isHeldByTry 48 = .ok (.iconst 1, 1) := by decide +kernel
theorem dX6_isHeldByTry_49 : decode cX6_isHeldByTry 49 = .ok (.ireturn, 1) := by decide +kernel
theorem dX6_isHeldByTry_50 : decode cX6_isHeldByTry 50 = .ok (.aload_n 0, 1) := by decide +kernel
theorem dX6_isHeldByTry_51 : decode cX6_isHeldByTry 51 = .ok (.invokevirtual 141, 3) := by decide +kernel
theorem dX6_isHeldByTry_54 : decode cX6_isHeldByTry 54 = .ok (.iinc 2 (-1), 3) := by decide +kernel
theorem dX6_isHeldByTry_57 : decode cX6_isHeldByTry 57 = .ok (.goto (-52), 3) := by decide +kernel
theorem dX6_isHeldByTry_60 : decode cX6_isHeldByTry 60 = .ok (.iconst 0, 1) := by decide +kernel
theorem dX6_isHeldByTry_61 : decode cX6_isHeldByTry 61 = .ok (.ireturn, 1) := by decide +kernel
theorem dX6_work_0 : decode cX6_work 0 = .ok (.aload_n 1, 1) := by decide +kernel
theorem dX6_work_1 : decode cX6_work 1 = .ok (.invokevirtual 144, 3) := by decide +kernel
theorem dX6_work_4 : decode cX6_work 4 = .ok (.ifCond .eq 9, 3) := by decide +kernel
theorem dX6_work_7 : decode cX6_work 7 = .ok (.aload_n 0, 1) := by decide +kernel
theorem dX6_work_8 : decode cX6_work 8 = .ok (.invokevirtual 141, 3) := by decide +kernel
theorem dX6_work_11 : decode cX6_work 11 = .ok (.iconst 0, 1) := by decide +kernel
theorem dX6_work_12 : decode cX6_work 12 = .ok (.ireturn, 1) := by decide +kernel
theorem dX6_work_13 : decode cX6_work 13 = .ok (.aload_n 0, 1) := by decide +kernel
theorem dX6_work_14 : decode cX6_work 14 = .ok (.getfield 147, 3) := by decide +kernel
theorem dX6_work_17 : decode cX6_work 17 = .ok (.sipush 5000, 3) := by decide +kernel
theorem dX6_work_20 : decode cX6_work 20 = .ok (.if_icmp .lt 6, 3) := by decide +kernel
theorem dX6_work_23 : decode cX6_work 23 = .ok (.bipush 16, 2) := by decide +kernel
theorem dX6_work_25 : decode cX6_work 25 = .ok (.ireturn, 1) := by decide +kernel
theorem dX6_work_26 : decode cX6_work 26 = .ok (.aload_n 0, 1) := by decide +kernel
theorem dX6_work_27 : decode cX6_work 27 = .ok (.dup, 1) := by decide +kernel
theorem dX6_work_28 : decode cX6_work 28 = .ok (.getfield 147, 3) := by decide +kernel
theorem dX6_work_31 : decode cX6_work 31 = .ok (.iconst 1, 1) := by decide +kernel
theorem dX6_work_32 : decode cX6_work 32 = .ok (.iadd, 1) := by decide +kernel
theorem dX6_work_33 : decode cX6_work 33 = .ok (.putfield 147, 3) := by decide +kernel
theorem dX6_work_36 : decode cX6_work 36 = .ok (.aload_n 1, 1) := by decide +kernel
theorem dX6_work_37 : decode cX6_work 37 = .ok (.getfield 150, 3) := by decide +kernel
theorem dX6_work_40 : decode cX6_work 40 = .ok (.getfield 114, 3) := by decide +kernel
theorem dX6_work_43 : decode cX6_work 43 = .ok (.astore_n 2, 1) := by decide +kernel
theorem dX6_work_44 : decode cX6_work 44 = .ok (.aload_n 1, 1) := by decide +kernel
theorem dX6_work_45 : decode cX6_work 45 = .ok (.getfield 153, 3) := by decide +kernel
theorem dX6_work_48 : decode cX6_work 48 = .ok (.iconst 5, 1) := by decide +kernel
theorem dX6_work_49 : decode cX6_work 49 = .ok (.imul, 1) := by decide +kernel
theorem dX6_work_50 : decode cX6_work 50 = .ok (.aload_n 1, 1) := by decide +kernel
theorem dX6_work_51 : decode cX6_work 51 = .ok (.getfield 156, 3) := by decide +kernel
theorem dX6_work_54 : decode cX6_work 54 = .ok (.iadd, 1) := by decide +kernel
theorem dX6_work_55 : decode cX6_work 55 = .ok (.istore_n 3, 1) := by decide +kernel
theorem dX6_work_56 : decode cX6_work 56 = .ok (.aload_n 1, 1) := by decide +kernel
theorem dX6_work_57 : decode cX6_work 57 = .ok (.dup, 1) := by decide +kernel
theorem dX6_work_58 : decode cX6_work 58 = .ok (.getfield 156, 3) := by decide +kernel
theorem dX6_work_61 : decode cX6_work 61 = .ok (.iconst 1, 1) := by decide +kernel
theorem dX6_work_62 : decode cX6_work 62 = .ok (.iadd, 1) := by decide +kernel
theorem dX6_work_63 : decode cX6_work 63 = .ok (.putfield 156, 3) := by decide +kernel
theorem dX6_work_66 : decode cX6_work 66 = .ok (.aload_n 2, 1) := by decide +kernel
theorem dX6_work_67 : decode cX6_work 67 = .ok (.getfield 159, 3) := by decide +kernel
theorem dX6_work_70 : decode cX6_work 70 = .ok (.iload_n 3, 1) := by decide +kernel
theorem dX6_work_71 : decode cX6_work 71 = .ok (.iaload, 1) := by decide +kernel
theorem dX6_work_72 : decode cX6_work 72 = .ok (.istore 4, 2) := by decide +kernel
theorem dX6_work_74 : decode cX6_work 74 = .ok (.aload_n 2, 1) := by decide +kernel
theorem dX6_work_75 : decode cX6_work 75 = .ok (.getfield 163, 3) := by decide +kernel
theorem dX6_work_78 : decode cX6_work 78 = .ok (.iload_n 3, 1) := by decide +kernel
theorem dX6_work_79 : decode cX6_work 79 = .ok (.iaload, 1) := by decide +kernel
theorem dX6_work_80 : decode cX6_work 80 = .ok (.istore 5, 2) := by decide +kernel
theorem dX6_work_82 : decode cX6_work 82 = .ok (.aload_n 2, 1) := by decide +kernel
theorem dX6_work_83 : decode cX6_work 83 = .ok (.getfield 166, 3) := by decide +kernel
theorem dX6_work_86 : decode cX6_work 86 = .ok (.iload_n 3, 1) := by decide +kernel
theorem dX6_work_87 : decode cX6_work 87 = .ok (.iaload, 1) := by decide +kernel
theorem dX6_work_88 : decode cX6_work 88 = .ok (.tableswitch 132 4 11 #[48, 62, 72, 80, 88, 94, 119, 126], 48) := by decide +kernel
theorem dX6_work_136 : decode cX6_work 136 = .ok (.aload_n 0, 1) := by decide +kernel
theorem dX6_work_137 : decode cX6_work 137 = .ok (.dup, 1) := by decide +kernel
theorem dX6_work_138 : decode cX6_work 138 = .ok (.getfield 48, 3) := by decide +kernel
theorem dX6_work_141 : decode cX6_work 141 = .ok (.iload 5, 2) := by decide +kernel
theorem dX6_work_143 : decode cX6_work 143 = .ok (.i2l, 1) := by decide +kernel
theorem dX6_work_144 : decode cX6_work 144 = .ok (.ladd, 1) := by decide +kernel
theorem dX6_work_145 : decode cX6_work 145 = .ok (.putfield 48, 3) := by decide +kernel
theorem dX6_work_148 : decode cX6_work 148 = .ok (.iconst 0, 1) := by decide +kernel
theorem dX6_work_149 : decode cX6_work 149 = .ok (.ireturn, 1) := by decide +kernel
theorem dX6_work_150 : decode cX6_work 150 = .ok (.aload_n 0, 1) := by decide +kernel
theorem dX6_work_151 : decode cX6_work 151 = .ok (.aload_n 1, 1) := by decide +kernel
theorem dX6_work_152 : decode cX6_work 152 = .ok (.iload 4, 2) := by decide +kernel
theorem dX6_work_154 : decode cX6_work 154 = .ok (.iload 5, 2) := by decide +kernel
theorem dX6_work_156 : decode cX6_work 156 = .ok (.invokevirtual 169, 3) := by decide +kernel
theorem dX6_work_159 : decode cX6_work 159 = .ok (.ireturn, 1) := by decide +kernel
theorem dX6_work_160 : decode cX6_work 160 = .ok (.aload_n 0, 1) := by decide +kernel
theorem dX6_work_161 : decode cX6_work 161 = .ok (.aload_n 1, 1) := by decide +kernel
theorem dX6_work_162 : decode cX6_work 162 = .ok (.iload 4, 2) := by decide +kernel
theorem dX6_work_164 : decode cX6_work 164 = .ok (.invokevirtual 173, 3) := by decide +kernel
theorem dX6_work_167 : decode cX6_work 167 = .ok (.ireturn, 1) := by decide +kernel
theorem dX6_work_168 : decode cX6_work 168 = .ok (.aload_n 0, 1) := by decide +kernel
theorem dX6_work_169 : decode cX6_work 169 = .ok (.aload_n 1, 1) := by decide +kernel
theorem dX6_work_170 : decode cX6_work 170 = .ok (.iload 4, 2) := by decide +kernel
theorem dX6_work_172 : decode cX6_work 172 = .ok (.invokevirtual 177, 3) := by decide +kernel
theorem dX6_work_175 : decode cX6_work 175 = .ok (.ireturn, 1) := by decide +kernel
theorem dX6_work_176 : decode cX6_work 176 = .ok (.bipush 20, 2) := by decide +kernel
theorem dX6_work_178 : decode cX6_work 178 = .ok (.iload 4, 2) := by decide +kernel
theorem dX6_work_180 : decode cX6_work 180 = .ok (.iadd, 1) := by decide +kernel
theorem dX6_work_181 : decode cX6_work 181 = .ok (.ireturn, 1) := by decide +kernel
theorem dX6_work_182 : decode cX6_work 182 = .ok (.aload_n 0, 1) := by decide +kernel
theorem dX6_work_183 : decode cX6_work 183 = .ok (.iconst 0, 1) := by decide +kernel
theorem dX6_work_184 : decode cX6_work 184 = .ok (.aload_n 1, 1) := by decide +kernel
theorem dX6_work_185 : decode cX6_work 185 = .ok (.getfield 180, 3) := by decide +kernel
theorem dX6_work_188 : decode cX6_work 188 = .ok (.aload_n 1, 1) := by decide +kernel
theorem dX6_work_189 : decode cX6_work 189 = .ok (.getfield 184, 3) := by decide +kernel
theorem dX6_work_192 : decode cX6_work 192 = .ok (.aload_n 1, 1) := by decide +kernel
theorem dX6_work_193 : decode cX6_work 193 = .ok (.getfield 150, 3) := by decide +kernel
theorem dX6_work_196 : decode cX6_work 196 = .ok (.getfield 126, 3) := by decide +kernel
theorem dX6_work_199 : decode cX6_work 199 = .ok (.aload_n 1, 1) := by decide +kernel
theorem dX6_work_200 : decode cX6_work 200 = .ok (.getfield 153, 3) := by decide +kernel
theorem dX6_work_203 : decode cX6_work 203 = .ok (.invokevirtual 101, 3) := by decide +kernel
theorem dX6_work_206 : decode cX6_work 206 = .ok (.ireturn, 1) := by decide +kernel
theorem dX6_work_207 : decode cX6_work 207 = .ok (.aload_n 0, 1) := by decide +kernel
theorem dX6_work_208 : decode cX6_work 208 = .ok (.iload 4, 2) := by decide +kernel
theorem dX6_work_210 : decode cX6_work 210 = .ok (.invokevirtual 187, 3) := by decide +kernel
theorem dX6_work_213 : decode cX6_work 213 = .ok (.ireturn, 1) := by decide +kernel
theorem dX6_work_214 : decode cX6_work 214 = .ok (.aload_n 0, 1) := by decide +kernel
theorem dX6_work_215 : decode cX6_work 215 = .ok (.aload_n 1, 1) := by decide +kernel
theorem dX6_work_216 : decode cX6_work 216 = .ok (.invokevirtual 190, 3) := by decide +kernel
theorem dX6_work_219 : decode cX6_work 219 = .ok (.ireturn, 1) := by decide +kernel
theorem dX6_work_220 : decode cX6_work 220 = .ok (.aload_n 0, 1) := by decide +kernel
theorem dX6_work_221 : decode cX6_work 221 = .ok (.aload_n 1, 1) := by decide +kernel
theorem dX6_work_222 : decode cX6_work 222 = .ok (.aload_n 2, 1) := by decide +kernel
theorem dX6_work_223 : decode cX6_work 223 = .ok (.getfield 166, 3) := by decide +kernel
theorem dX6_work_226 : decode cX6_work 226 = .ok (.iload_n 3, 1) := by decide +kernel
theorem dX6_work_227 : decode cX6_work 227 = .ok (.iaload, 1) := by decide +kernel
theorem dX6_work_228 : decode cX6_work 228 = .ok (.iload 4, 2) := by decide +kernel
theorem dX6_work_230 : decode cX6_work 230 = .ok (.iload 5, 2) := by decide +kernel
theorem dX6_work_232 : decode cX6_work 232 = .ok (.invokevirtual 193, 3) := by decide +kernel
theorem dX6_work_235 : decode cX6_work 235 = .ok (.ireturn, 1) := by decide +kernel
theorem dX6_workOnRow_0 : decode cX6_workOnRow 0 = .ok (.aload_n 1, 1) := by decide +kernel
theorem dX6_workOnRow_1 : decode cX6_workOnRow 1 = .ok (.getfield 150, 3) := by decide +kernel
theorem dX6_workOnRow_4 : decode cX6_workOnRow 4 = .ok (.getfield 114, 3) := by decide +kernel
theorem dX6_workOnRow_7 : decode cX6_workOnRow 7 = .ok (.getfield 197, 3) := by decide +kernel
theorem dX6_workOnRow_10 : decode cX6_workOnRow 10 = .ok (.istore 5, 2) := by decide +kernel
theorem dX6_workOnRow_12 : decode cX6_workOnRow 12 = .ok (.aload_n 1, 1) := by decide +kernel
theorem dX6_workOnRow_13 : decode cX6_workOnRow 13 = .ok (.getfield 180, 3) := by decide +kernel
theorem dX6_workOnRow_16 : decode cX6_workOnRow 16 = .ok (.getfield 200, 3) := by decide +kernel
theorem dX6_workOnRow_19 : decode cX6_workOnRow 19 = .ok (.iload 5, 2) := by decide +kernel
theorem dX6_workOnRow_21 : decode cX6_workOnRow 21 = .ok (.if_icmp .eq 6, 3) := by decide +kernel
theorem dX6_workOnRow_24 : decode cX6_workOnRow 24 = .ok (.bipush 8, 2) := by decide +kernel
theorem dX6_workOnRow_26 : decode cX6_workOnRow 26 = .ok (.ireturn, 1) := by decide +kernel
theorem dX6_workOnRow_27 : decode cX6_workOnRow 27 = .ok (.iload_n 3, 1) := by decide +kernel
theorem dX6_workOnRow_28 : decode cX6_workOnRow 28 = .ok (.ifCond .lt 8, 3) := by decide +kernel
theorem dX6_workOnRow_31 : decode cX6_workOnRow 31 = .ok (.iload_n 3, 1) := by decide +kernel
theorem dX6_workOnRow_32 : decode cX6_workOnRow 32 = .ok (.iconst 4, 1) := by decide +kernel
theorem dX6_workOnRow_33 : decode cX6_workOnRow 33 = .ok (.if_icmp .lt 6, 3) := by decide +kernel
theorem dX6_workOnRow_36 : decode cX6_workOnRow 36 = .ok (.bipush 10, 2) := by decide +kernel
theorem dX6_workOnRow_38 : decode cX6_workOnRow 38 = .ok (.ireturn, 1) := by decide +kernel
theorem dX6_workOnRow_39 : decode cX6_workOnRow 39 = .ok (.aload_n 1, 1) := by decide +kernel
theorem dX6_workOnRow_40 : decode cX6_workOnRow 40 = .ok (.getfield 180, 3) := by decide +kernel
theorem dX6_workOnRow_43 : decode cX6_workOnRow 43 = .ok (.invokevirtual 201, 3) := by decide +kernel
theorem dX6_workOnRow_46 : decode cX6_workOnRow 46 = .ok (.iload_n 3, 1) := by decide +kernel
theorem dX6_workOnRow_47 : decode cX6_workOnRow 47 = .ok (.iadd, 1) := by decide +kernel
theorem dX6_workOnRow_48 : decode cX6_workOnRow 48 = .ok (.istore 6, 2) := by decide +kernel
theorem dX6_workOnRow_50 : decode cX6_workOnRow 50 = .ok (.iload_n 2, 1) := by decide +kernel
theorem dX6_workOnRow_51 : decode cX6_workOnRow 51 = .ok (.ifCond .ne 19, 3) := by decide +kernel
theorem dX6_workOnRow_54 : decode cX6_workOnRow 54 = .ok (.aload_n 0, 1) := by decide +kernel
theorem dX6_workOnRow_55 : decode cX6_workOnRow 55 = .ok (.getfield 20, 3) := by decide +kernel
theorem dX6_workOnRow_58 : decode cX6_workOnRow 58 = .ok (.iload 5, 2) := by decide +kernel
theorem dX6_workOnRow_60 : decode cX6_workOnRow 60 = .ok (.iload 6, 2) := by decide +kernel
theorem dX6_workOnRow_62 : decode cX6_workOnRow 62 = .ok (.iload 4, 2) := by decide +kernel
theorem dX6_workOnRow_64 : decode cX6_workOnRow 64 = .ok (.invokevirtual 205, 3) := by decide +kernel
theorem dX6_workOnRow_67 : decode cX6_workOnRow 67 = .ok (.goto 90, 3) := by decide +kernel
theorem dX6_workOnRow_70 : decode cX6_workOnRow 70 = .ok (.iload_n 2, 1) := by decide +kernel
theorem dX6_workOnRow_71 : decode cX6_workOnRow 71 = .ok (.iconst 1, 1) := by decide +kernel
theorem dX6_workOnRow_72 : decode cX6_workOnRow 72 = .ok (.if_icmp .ne 21, 3) := by decide +kernel
theorem dX6_workOnRow_75 : decode cX6_workOnRow 75 = .ok (.aload_n 0, 1) := by decide +kernel
theorem dX6_workOnRow_76 : decode cX6_workOnRow 76 = .ok (.aload_n 0, 1) := by decide +kernel
theorem dX6_workOnRow_77 : decode cX6_workOnRow 77 = .ok (.getfield 20, 3) := by decide +kernel
theorem dX6_workOnRow_80 : decode cX6_workOnRow 80 = .ok (.iload 5, 2) := by decide +kernel
theorem dX6_workOnRow_82 : decode cX6_workOnRow 82 = .ok (.iload 6, 2) := by decide +kernel
theorem dX6_workOnRow_84 : decode cX6_workOnRow 84 = .ok (.invokevirtual 209, 3) := by decide +kernel
theorem dX6_workOnRow_87 : decode cX6_workOnRow 87 = .ok (.putfield 48, 3) := by decide +kernel
theorem dX6_workOnRow_90 : decode cX6_workOnRow 90 = .ok (.goto 67, 3) := by decide +kernel
theorem dX6_workOnRow_93 : decode cX6_workOnRow 93 = .ok (.iload_n 2, 1) := by decide +kernel
theorem dX6_workOnRow_94 : decode cX6_workOnRow 94 = .ok (.iconst 2, 1) := by decide +kernel
theorem dX6_workOnRow_95 : decode cX6_workOnRow 95 = .ok (.if_icmp .ne 21, 3) := by decide +kernel
theorem dX6_workOnRow_98 : decode cX6_workOnRow 98 = .ok (.aload_n 0, 1) := by decide +kernel
theorem dX6_workOnRow_99 : decode cX6_workOnRow 99 = .ok (.getfield 20, 3) := by decide +kernel
theorem dX6_workOnRow_102 : decode cX6_workOnRow 102 = .ok (.iload 5, 2) := by decide +kernel
theorem dX6_workOnRow_104 : decode cX6_workOnRow 104 = .ok (.iload 6, 2) := by decide +kernel
theorem dX6_workOnRow_106 : decode cX6_workOnRow 106 = .ok (.aload_n 0, 1) := by decide +kernel
theorem dX6_workOnRow_107 : decode cX6_workOnRow 107 = .ok (.getfield 48, 3) := by decide +kernel
theorem dX6_workOnRow_110 : decode cX6_workOnRow 110 = .ok (.invokevirtual 213, 3) := by decide +kernel
theorem dX6_workOnRow_113 : decode cX6_workOnRow 113 = .ok (.goto 44, 3) := by decide +kernel
theorem dX6_workOnRow_116 : decode cX6_workOnRow 116 = .ok (.iload_n 2, 1) := by decide +kernel
theorem dX6_workOnRow_117 : decode cX6_workOnRow 117 = .ok (.iconst 3, 1) := by decide +kernel
theorem dX6_workOnRow_118 : decode cX6_workOnRow 118 = .ok (.if_icmp .ne 39, 3) := by decide +kernel
theorem dX6_workOnRow_121 : decode cX6_workOnRow 121 = .ok (.aload_n 0, 1) := by decide +kernel
theorem dX6_workOnRow_122 : decode cX6_workOnRow 122 = .ok (.getfield 20, 3) := by decide +kernel
theorem dX6_workOnRow_125 : decode cX6_workOnRow 125 = .ok (.iload 5, 2) := by decide +kernel
theorem dX6_workOnRow_127 : decode cX6_workOnRow 127 = .ok (.iload 6, 2) := by decide +kernel
theorem dX6_workOnRow_129 : decode cX6_workOnRow 129 = .ok (.invokevirtual 217, 3) := by decide +kernel
theorem dX6_workOnRow_132 : decode cX6_workOnRow 132 = .ok (.ifCond .eq 6, 3) := by decide +kernel
theorem dX6_workOnRow_135 : decode cX6_workOnRow 135 = .ok (.bipush 12, 2) := by decide +kernel
theorem dX6_workOnRow_137 : decode cX6_workOnRow 137 = .ok (.ireturn, 1) := by decide +kernel
theorem dX6_workOnRow_138 : decode cX6_workOnRow 138 = .ok (.aload_n 0, 1) := by decide +kernel
theorem dX6_workOnRow_139 : decode cX6_workOnRow 139 = .ok (.aload_n 0, 1) := by decide +kernel
theorem dX6_workOnRow_140 : decode cX6_workOnRow 140 = .ok (.getfield 20, 3) := by decide +kernel
theorem dX6_workOnRow_143 : decode cX6_workOnRow 143 = .ok (.iload 5, 2) := by decide +kernel
theorem dX6_workOnRow_145 : decode cX6_workOnRow 145 = .ok (.iload 6, 2) := by decide +kernel
theorem dX6_workOnRow_147 : decode cX6_workOnRow 147 = .ok (.aload_n 0, 1) := by decide +kernel
theorem dX6_workOnRow_148 : decode cX6_workOnRow 148 = .ok (.getfield 48, 3) := by decide +kernel
theorem dX6_workOnRow_151 : decode cX6_workOnRow 151 = .ok (.invokevirtual 221, 3) := by decide +kernel
theorem dX6_workOnRow_154 : decode cX6_workOnRow 154 = .ok (.putfield 48, 3) := by decide +kernel
theorem dX6_workOnRow_157 : decode cX6_workOnRow 157 = .ok (.iconst 0, 1) := by decide +kernel
theorem dX6_workOnRow_158 : decode cX6_workOnRow 158 = .ok (.ireturn, 1) := by decide +kernel
theorem dX6_workCall_0 : decode cX6_workCall 0 = .ok (.aload_n 0, 1) := by decide +kernel
theorem dX6_workCall_1 : decode cX6_workCall 1 = .ok (.iload_n 2, 1) := by decide +kernel
theorem dX6_workCall_2 : decode cX6_workCall 2 = .ok (.invokevirtual 225, 3) := by decide +kernel
theorem dX6_workCall_5 : decode cX6_workCall 5 = .ok (.astore 4, 2) := by decide +kernel
theorem dX6_workCall_7 : decode cX6_workCall 7 = .ok (.aload 4, 2) := by decide +kernel
theorem dX6_workCall_9 : decode cX6_workCall 9 = .ok (.ifnonnull 6, 3) := by decide +kernel
theorem dX6_workCall_12 : decode cX6_workCall 12 = .ok (.bipush 11, 2) := by decide +kernel
theorem dX6_workCall_14 : decode cX6_workCall 14 = .ok (.ireturn, 1) := by decide +kernel
theorem dX6_workCall_15 : decode cX6_workCall 15 = .ok (.aload_n 0, 1) := by decide +kernel
theorem dX6_workCall_16 : decode cX6_workCall 16 = .ok (.getfield 33, 3) := by decide +kernel
theorem dX6_workCall_19 : decode cX6_workCall 19 = .ok (.aload_n 1, 1) := by decide +kernel
theorem dX6_workCall_20 : decode cX6_workCall 20 = .ok (.getfield 150, 3) := by decide +kernel
theorem dX6_workCall_23 : decode cX6_workCall 23 = .ok (.getfield 229, 3) := by decide +kernel
theorem dX6_workCall_26 : decode cX6_workCall 26 = .ok (.iload_n 3, 1) := by decide +kernel
theorem dX6_workCall_27 : decode cX6_workCall 27 = .ok (.iconst 3, 1) := by decide +kernel
theorem dX6_workCall_28 : decode cX6_workCall 28 = .ok (.idiv, 1) := by decide +kernel
theorem dX6_workCall_29 : decode cX6_workCall 29 = .ok (.invokevirtual 230, 3) := by decide +kernel
theorem dX6_workCall_32 : decode cX6_workCall 32 = .ok (.astore 5, 2) := by decide +kernel
theorem dX6_workCall_34 : decode cX6_workCall 34 = .ok (.aload 5, 2) := by decide +kernel
theorem dX6_workCall_36 : decode cX6_workCall 36 = .ok (.ifnonnull 11, 3) := by decide +kernel
theorem dX6_workCall_39 : decode cX6_workCall 39 = .ok (.aload_n 0, 1) := by decide +kernel
theorem dX6_workCall_40 : decode cX6_workCall 40 = .ok (.getfield 33, 3) := by decide +kernel
theorem dX6_workCall_43 : decode cX6_workCall 43 = .ok (.getfield 98, 3) := by decide +kernel
theorem dX6_workCall_46 : decode cX6_workCall 46 = .ok (.ireturn, 1) := by decide +kernel
theorem dX6_workCall_47 : decode cX6_workCall 47 = .ok (.aload_n 0, 1) := by decide +kernel
theorem dX6_workCall_48 : decode cX6_workCall 48 = .ok (.getfield 33, 3) := by decide +kernel
theorem dX6_workCall_51 : decode cX6_workCall 51 = .ok (.aload 4, 2) := by decide +kernel
theorem dX6_workCall_53 : decode cX6_workCall 53 = .ok (.getfield 85, 3) := by decide +kernel
theorem dX6_workCall_56 : decode cX6_workCall 56 = .ok (.aload 4, 2) := by decide +kernel
theorem dX6_workCall_58 : decode cX6_workCall 58 = .ok (.getfield 89, 3) := by decide +kernel
theorem dX6_workCall_61 : decode cX6_workCall 61 = .ok (.iconst 0, 1) := by decide +kernel
theorem dX6_workCall_62 : decode cX6_workCall 62 = .ok (.invokevirtual 92, 3) := by decide +kernel
theorem dX6_workCall_65 : decode cX6_workCall 65 = .ok (.astore 6, 2) := by decide +kernel
theorem dX6_workCall_67 : decode cX6_workCall 67 = .ok (.aload 6, 2) := by decide +kernel
theorem dX6_workCall_69 : decode cX6_workCall 69 = .ok (.ifnonnull 11, 3) := by decide +kernel
theorem dX6_workCall_72 : decode cX6_workCall 72 = .ok (.aload_n 0, 1) := by decide +kernel
theorem dX6_workCall_73 : decode cX6_workCall 73 = .ok (.getfield 33, 3) := by decide +kernel
theorem dX6_workCall_76 : decode cX6_workCall 76 = .ok (.getfield 98, 3) := by decide +kernel
theorem dX6_workCall_79 : decode cX6_workCall 79 = .ok (.ireturn, 1) := by decide +kernel
theorem dX6_workCall_80 : decode cX6_workCall 80 = .ok (.aload 6, 2) := by decide +kernel
theorem dX6_workCall_82 : decode cX6_workCall 82 = .ok (.aload 5, 2) := by decide +kernel
theorem dX6_workCall_84 : decode cX6_workCall 84 = .ok (.invokevirtual 234, 3) := by decide +kernel
theorem dX6_workCall_87 : decode cX6_workCall 87 = .ok (.ifCond .eq 15, 3) := by decide +kernel
theorem dX6_workCall_90 : decode cX6_workCall 90 = .ok (.aload_n 0, 1) := by decide +kernel
theorem dX6_workCall_91 : decode cX6_workCall 91 = .ok (.aload 4, 2) := by decide +kernel
theorem dX6_workCall_93 : decode cX6_workCall 93 = .ok (.iload_n 3, 1) := by decide +kernel
theorem dX6_workCall_94 : decode cX6_workCall 94 = .ok (.iconst 3, 1) := by decide +kernel
theorem dX6_workCall_95 : decode cX6_workCall 95 = .ok (.irem, 1) := by decide +kernel
theorem dX6_workCall_96 : decode cX6_workCall 96 = .ok (.invokevirtual 52, 3) := by decide +kernel
theorem dX6_workCall_99 : decode cX6_workCall 99 = .ok (.goto 5, 3) := by decide +kernel
theorem dX6_workCall_102 : decode cX6_workCall 102 = .ok (.bipush 8, 2) := by decide +kernel
theorem dX6_workCall_104 : decode cX6_workCall 104 = .ok (.ireturn, 1) := by decide +kernel
theorem dX6_workFind_0 : decode cX6_workFind 0 = .ok (.aload_n 0, 1) := by decide +kernel
theorem dX6_workFind_1 : decode cX6_workFind 1 = .ok (.getfield 33, 3) := by decide +kernel
theorem dX6_workFind_4 : decode cX6_workFind 4 = .ok (.aload_n 1, 1) := by decide +kernel
theorem dX6_workFind_5 : decode cX6_workFind 5 = .ok (.getfield 150, 3) := by decide +kernel
theorem dX6_workFind_8 : decode cX6_workFind 8 = .ok (.getfield 229, 3) := by decide +kernel
theorem dX6_workFind_11 : decode cX6_workFind 11 = .ok (.iload_n 2, 1) := by decide +kernel
theorem dX6_workFind_12 : decode cX6_workFind 12 = .ok (.iconst 0, 1) := by decide +kernel
theorem dX6_workFind_13 : decode cX6_workFind 13 = .ok (.invokevirtual 92, 3) := by decide +kernel
theorem dX6_workFind_16 : decode cX6_workFind 16 = .ok (.astore_n 3, 1) := by decide +kernel
theorem dX6_workFind_17 : decode cX6_workFind 17 = .ok (.aload_n 3, 1) := by decide +kernel
theorem dX6_workFind_18 : decode cX6_workFind 18 = .ok (.ifnonnull 11, 3) := by decide +kernel
theorem dX6_workFind_21 : decode cX6_workFind 21 = .ok (.aload_n 0, 1) := by decide +kernel
theorem dX6_workFind_22 : decode cX6_workFind 22 = .ok (.getfield 33, 3) := by decide +kernel
theorem dX6_workFind_25 : decode cX6_workFind 25 = .ok (.getfield 98, 3) := by decide +kernel
theorem dX6_workFind_28 : decode cX6_workFind 28 = .ok (.ireturn, 1) := by decide +kernel
theorem dX6_workFind_29 : decode cX6_workFind 29 = .ok (.aload_n 0, 1) := by decide +kernel
theorem dX6_workFind_30 : decode cX6_workFind 30 = .ok (.aload_n 3, 1) := by decide +kernel
theorem dX6_workFind_31 : decode cX6_workFind 31 = .ok (.invokevirtual 238, 3) := by decide +kernel
theorem dX6_workFind_34 : decode cX6_workFind 34 = .ok (.i2l, 1) := by decide +kernel
theorem dX6_workFind_35 : decode cX6_workFind 35 = .ok (.putfield 48, 3) := by decide +kernel
theorem dX6_workFind_38 : decode cX6_workFind 38 = .ok (.iconst 0, 1) := by decide +kernel
theorem dX6_workFind_39 : decode cX6_workFind 39 = .ok (.ireturn, 1) := by decide +kernel
theorem dX6_workAs_0 : decode cX6_workAs 0 = .ok (.aload_n 0, 1) := by decide +kernel
theorem dX6_workAs_1 : decode cX6_workAs 1 = .ok (.getfield 33, 3) := by decide +kernel
theorem dX6_workAs_4 : decode cX6_workAs 4 = .ok (.aload_n 1, 1) := by decide +kernel
theorem dX6_workAs_5 : decode cX6_workAs 5 = .ok (.getfield 150, 3) := by decide +kernel
theorem dX6_workAs_8 : decode cX6_workAs 8 = .ok (.getfield 229, 3) := by decide +kernel
theorem dX6_workAs_11 : decode cX6_workAs 11 = .ok (.iload_n 2, 1) := by decide +kernel
theorem dX6_workAs_12 : decode cX6_workAs 12 = .ok (.iconst 0, 1) := by decide +kernel
theorem dX6_workAs_13 : decode cX6_workAs 13 = .ok (.invokevirtual 92, 3) := by decide +kernel
theorem dX6_workAs_16 : decode cX6_workAs 16 = .ok (.astore_n 3, 1) := by decide +kernel
theorem dX6_workAs_17 : decode cX6_workAs 17 = .ok (.aload_n 3, 1) := by decide +kernel
theorem dX6_workAs_18 : decode cX6_workAs 18 = .ok (.ifnonnull 11, 3) := by decide +kernel
theorem dX6_workAs_21 : decode cX6_workAs 21 = .ok (.aload_n 0, 1) := by decide +kernel
theorem dX6_workAs_22 : decode cX6_workAs 22 = .ok (.getfield 33, 3) := by decide +kernel
theorem dX6_workAs_25 : decode cX6_workAs 25 = .ok (.getfield 98, 3) := by decide +kernel
theorem dX6_workAs_28 : decode cX6_workAs 28 = .ok (.ireturn, 1) := by decide +kernel
theorem dX6_workAs_29 : decode cX6_workAs 29 = .ok (.aload_n 1, 1) := by decide +kernel
theorem dX6_workAs_30 : decode cX6_workAs 30 = .ok (.getfield 184, 3) := by decide +kernel
theorem dX6_workAs_33 : decode cX6_workAs 33 = .ok (.aload_n 3, 1) := by decide +kernel
theorem dX6_workAs_34 : decode cX6_workAs 34 = .ok (.invokevirtual 234, 3) := by decide +kernel
theorem dX6_workAs_37 : decode cX6_workAs 37 = .ok (.ifCond .eq 7, 3) := by decide +kernel
theorem dX6_workAs_40 : decode cX6_workAs 40 = .ok (.iconst 0, 1) := by decide +kernel
theorem dX6_workAs_41 : decode cX6_workAs 41 = .ok (.goto 5, 3) := by decide +kernel
theorem dX6_workAs_44 : decode cX6_workAs 44 = .ok (.bipush 8, 2) := by decide +kernel
theorem dX6_workAs_46 : decode cX6_workAs 46 = .ok (.ireturn, 1) := by decide +kernel
theorem dX6_workLetGo_0 : decode cX6_workLetGo 0 = .ok (.aload_n 0, 1) := by decide +kernel
theorem dX6_workLetGo_1 : decode cX6_workLetGo 1 = .ok (.getfield 33, 3) := by decide +kernel
theorem dX6_workLetGo_4 : decode cX6_workLetGo 4 = .ok (.iload_n 1, 1) := by decide +kernel
theorem dX6_workLetGo_5 : decode cX6_workLetGo 5 = .ok (.invokevirtual 241, 3) := by decide +kernel
theorem dX6_workLetGo_8 : decode cX6_workLetGo 8 = .ok (.astore_n 2, 1) := by decide +kernel
theorem dX6_workLetGo_9 : decode cX6_workLetGo 9 = .ok (.aload_n 2, 1) := by decide +kernel
theorem dX6_workLetGo_10 : decode cX6_workLetGo 10 = .ok (.ifnonnull 6, 3) := by decide +kernel
theorem dX6_workLetGo_13 : decode cX6_workLetGo 13 = .ok (.bipush 11, 2) := by decide +kernel
theorem dX6_workLetGo_15 : decode cX6_workLetGo 15 = .ok (.ireturn, 1) := by decide +kernel
theorem dX6_workLetGo_16 : decode cX6_workLetGo 16 = .ok (.iconst 0, 1) := by decide +kernel
theorem dX6_workLetGo_17 : decode cX6_workLetGo 17 = .ok (.istore_n 3, 1) := by decide +kernel
theorem dX6_workLetGo_18 : decode cX6_workLetGo 18 = .ok (.iload_n 3, 1) := by decide +kernel
theorem dX6_workLetGo_19 : decode cX6_workLetGo 19 = .ok (.aload_n 0, 1) := by decide +kernel
theorem dX6_workLetGo_20 : decode cX6_workLetGo 20 = .ok (.getfield 56, 3) := by decide +kernel
theorem dX6_workLetGo_23 : decode cX6_workLetGo 23 = .ok (.if_icmp .ge 31, 3) := by decide +kernel
theorem dX6_workLetGo_26 : decode cX6_workLetGo 26 = .ok (.aload_n 0, 1) := by decide +kernel
theorem dX6_workLetGo_27 : decode cX6_workLetGo 27 = .ok (.getfield 29, 3) := by decide +kernel
theorem dX6_workLetGo_30 : decode cX6_workLetGo 30 = .ok (.iload_n 3, 1) := by decide +kernel
theorem dX6_workLetGo_31 : decode cX6_workLetGo 31 = .ok (.aaload, 1) := by decide +kernel
theorem dX6_workLetGo_32 : decode cX6_workLetGo 32 = .ok (.getfield 184, 3) := by decide +kernel
theorem dX6_workLetGo_35 : decode cX6_workLetGo 35 = .ok (.getfield 229, 3) := by decide +kernel
theorem dX6_workLetGo_38 : decode cX6_workLetGo 38 = .ok (.aload_n 2, 1) := by decide +kernel
theorem dX6_workLetGo_39 : decode cX6_workLetGo 39 = .ok (.invokevirtual 245, 3) := by decide +kernel
theorem dX6_workLetGo_42 : decode cX6_workLetGo 42 = .ok (.ifCond .eq 6, 3) := by decide +kernel
theorem dX6_workLetGo_45 : decode cX6_workLetGo 45 = .ok (.bipush 15, 2) := by decide +kernel
theorem dX6_workLetGo_47 : decode cX6_workLetGo 47 = .ok (.ireturn, 1) := by decide +kernel
theorem dX6_workLetGo_48 : decode cX6_workLetGo 48 = .ok (.iinc 3 1, 3) := by decide +kernel
theorem dX6_workLetGo_51 : decode cX6_workLetGo 51 = .ok (.goto (-33), 3) := by decide +kernel
theorem dX6_workLetGo_54 : decode cX6_workLetGo 54 = .ok (.aload_n 0, 1) := by decide +kernel
theorem dX6_workLetGo_55 : decode cX6_workLetGo 55 = .ok (.getfield 33, 3) := by decide +kernel
theorem dX6_workLetGo_58 : decode cX6_workLetGo 58 = .ok (.aload_n 2, 1) := by decide +kernel
theorem dX6_workLetGo_59 : decode cX6_workLetGo 59 = .ok (.invokevirtual 250, 3) := by decide +kernel
theorem dX6_workLetGo_62 : decode cX6_workLetGo 62 = .ok (.pop, 1) := by decide +kernel
theorem dX6_workLetGo_63 : decode cX6_workLetGo 63 = .ok (.iconst 0, 1) := by decide +kernel
theorem dX6_workLetGo_64 : decode cX6_workLetGo 64 = .ok (.ireturn, 1) := by decide +kernel
theorem dX6_workTry_0 : decode cX6_workTry 0 = .ok (.aload_n 1, 1) := by decide +kernel
theorem dX6_workTry_1 : decode cX6_workTry 1 = .ok (.invokevirtual 144, 3) := by decide +kernel
theorem dX6_workTry_4 : decode cX6_workTry 4 = .ok (.ifCond .ne 19, 3) := by decide +kernel
theorem dX6_workTry_7 : decode cX6_workTry 7 = .ok (.aload_n 1, 1) := by decide +kernel
theorem dX6_workTry_8 : decode cX6_workTry 8 = .ok (.aload_n 1, 1) := by decide +kernel
theorem dX6_workTry_9 : decode cX6_workTry 9 = .ok (.getfield 156, 3) := by decide +kernel
theorem dX6_workTry_12 : decode cX6_workTry 12 = .ok (.putfield 254, 3) := by decide +kernel
theorem dX6_workTry_15 : decode cX6_workTry 15 = .ok (.aload_n 1, 1) := by decide +kernel
theorem dX6_workTry_16 : decode cX6_workTry 16 = .ok (.aload_n 0, 1) := by decide +kernel
theorem dX6_workTry_17 : decode cX6_workTry 17 = .ok (.getfield 20, 3) := by decide +kernel
theorem dX6_workTry_20 : decode cX6_workTry 20 = .ok (.invokevirtual 257, 3) := by decide +kernel
theorem dX6_workTry_23 : decode cX6_workTry 23 = .ok (.iconst 0, 1) := by decide +kernel
theorem dX6_workTry_24 : decode cX6_workTry 24 = .ok (.ireturn, 1) := by decide +kernel
theorem dX7_init_0 : decode cX7_init 0 = .ok (.aload_n 0, 1) := by decide +kernel
theorem dX7_init_1 : decode cX7_init 1 = .ok (.invokespecial 3, 3) := by decide +kernel
theorem dX7_init_4 : decode cX7_init 4 = .ok (.aload_n 0, 1) := by decide +kernel
theorem dX7_init_5 : decode cX7_init 5 = .ok (.bipush 40, 2) := by decide +kernel
theorem dX7_init_7 : decode cX7_init 7 = .ok (.newarray .long, 2) := by decide +kernel
theorem dX7_init_9 : decode cX7_init 9 = .ok (.putfield 9, 3) := by decide +kernel
theorem dX7_init_12 : decode cX7_init 12 = .ok (.aload_n 0, 1) := by decide +kernel
theorem dX7_init_13 : decode cX7_init 13 = .ok (.bipush 40, 2) := by decide +kernel
theorem dX7_init_15 : decode cX7_init 15 = .ok (.newarray .double, 2) := by decide +kernel
theorem dX7_init_17 : decode cX7_init 17 = .ok (.putfield 15, 3) := by decide +kernel
theorem dX7_init_20 : decode cX7_init 20 = .ok (.return_, 1) := by decide +kernel
theorem dX7_copyFrom_0 : decode cX7_copyFrom 0 = .ok (.aload_n 1, 1) := by decide +kernel
theorem dX7_copyFrom_1 : decode cX7_copyFrom 1 = .ok (.getfield 9, 3) := by decide +kernel
theorem dX7_copyFrom_4 : decode cX7_copyFrom 4 = .ok (.iconst 0, 1) := by decide +kernel
theorem dX7_copyFrom_5 : decode cX7_copyFrom 5 = .ok (.aload_n 0, 1) := by decide +kernel
theorem dX7_copyFrom_6 : decode cX7_copyFrom 6 = .ok (.getfield 9, 3) := by decide +kernel
theorem dX7_copyFrom_9 : decode cX7_copyFrom 9 = .ok (.iconst 0, 1) := by decide +kernel
theorem dX7_copyFrom_10 : decode cX7_copyFrom 10 = .ok (.bipush 40, 2) := by decide +kernel
theorem dX7_copyFrom_12 : decode cX7_copyFrom 12 = .ok (.invokestatic 19, 3) := by decide +kernel
theorem dX7_copyFrom_15 : decode cX7_copyFrom 15 = .ok (.aload_n 1, 1) := by decide +kernel
theorem dX7_copyFrom_16 : decode cX7_copyFrom 16 = .ok (.getfield 15, 3) := by decide +kernel
theorem dX7_copyFrom_19 : decode cX7_copyFrom 19 = .ok (.iconst 0, 1) := by decide +kernel
theorem dX7_copyFrom_20 : decode cX7_copyFrom 20 = .ok (.aload_n 0, 1) := by decide +kernel
theorem dX7_copyFrom_21 : decode cX7_copyFrom 21 = .ok (.getfield 15, 3) := by decide +kernel
theorem dX7_copyFrom_24 : decode cX7_copyFrom 24 = .ok (.iconst 0, 1) := by decide +kernel
theorem dX7_copyFrom_25 : decode cX7_copyFrom 25 = .ok (.bipush 40, 2) := by decide +kernel
theorem dX7_copyFrom_27 : decode cX7_copyFrom 27 = .ok (.invokestatic 19, 3) := by decide +kernel
theorem dX7_copyFrom_30 : decode cX7_copyFrom 30 = .ok (.return_, 1) := by decide +kernel
theorem dX7_shift_0 : decode cX7_shift 0 = .ok (.aload_n 0, 1) := by decide +kernel
theorem dX7_shift_1 : decode cX7_shift 1 = .ok (.getfield 9, 3) := by decide +kernel
theorem dX7_shift_4 : decode cX7_shift 4 = .ok (.iload_n 1, 1) := by decide +kernel
theorem dX7_shift_5 : decode cX7_shift 5 = .ok (.iload_n 2, 1) := by decide +kernel
theorem dX7_shift_6 : decode cX7_shift 6 = .ok (.iadd, 1) := by decide +kernel
theorem dX7_shift_7 : decode cX7_shift 7 = .ok (.aload_n 0, 1) := by decide +kernel
theorem dX7_shift_8 : decode cX7_shift 8 = .ok (.getfield 9, 3) := by decide +kernel
theorem dX7_shift_11 : decode cX7_shift 11 = .ok (.iload_n 1, 1) := by decide +kernel
theorem dX7_shift_12 : decode cX7_shift 12 = .ok (.iload_n 3, 1) := by decide +kernel
theorem dX7_shift_13 : decode cX7_shift 13 = .ok (.invokestatic 19, 3) := by decide +kernel
theorem dX7_shift_16 : decode cX7_shift 16 = .ok (.aload_n 0, 1) := by decide +kernel
theorem dX7_shift_17 : decode cX7_shift 17 = .ok (.getfield 15, 3) := by decide +kernel
theorem dX7_shift_20 : decode cX7_shift 20 = .ok (.iload_n 1, 1) := by decide +kernel
theorem dX7_shift_21 : decode cX7_shift 21 = .ok (.iload_n 2, 1) := by decide +kernel
theorem dX7_shift_22 : decode cX7_shift 22 = .ok (.iadd, 1) := by decide +kernel
theorem dX7_shift_23 : decode cX7_shift 23 = .ok (.aload_n 0, 1) := by decide +kernel
theorem dX7_shift_24 : decode cX7_shift 24 = .ok (.getfield 15, 3) := by decide +kernel
theorem dX7_shift_27 : decode cX7_shift 27 = .ok (.iload_n 1, 1) := by decide +kernel
theorem dX7_shift_28 : decode cX7_shift 28 = .ok (.iload_n 3, 1) := by decide +kernel
theorem dX7_shift_29 : decode cX7_shift 29 = .ok (.invokestatic 19, 3) := by decide +kernel
theorem dX7_shift_32 : decode cX7_shift 32 = .ok (.iload_n 3, 1) := by decide +kernel
theorem dX7_shift_33 : decode cX7_shift 33 = .ok (.istore 4, 2) := by decide +kernel
theorem dX7_shift_35 : decode cX7_shift 35 = .ok (.iload 4, 2) := by decide +kernel
theorem dX7_shift_37 : decode cX7_shift 37 = .ok (.iconst 4, 1) := by decide +kernel
theorem dX7_shift_38 : decode cX7_shift 38 = .ok (.if_icmp .ge 29, 3) := by decide +kernel
theorem dX7_shift_41 : decode cX7_shift 41 = .ok (.aload_n 0, 1) := by decide +kernel
theorem dX7_shift_42 : decode cX7_shift 42 = .ok (.getfield 9, 3) := by decide +kernel
theorem dX7_shift_45 : decode cX7_shift 45 = .ok (.iload_n 1, 1) := by decide +kernel
theorem dX7_shift_46 : decode cX7_shift 46 = .ok (.iload 4, 2) := by decide +kernel
theorem dX7_shift_48 : decode cX7_shift 48 = .ok (.iadd, 1) := by decide +kernel
theorem dX7_shift_49 : decode cX7_shift 49 = .ok (.lconst 0, 1) := by decide +kernel
theorem dX7_shift_50 : decode cX7_shift 50 = .ok (.lastore, 1) := by decide +kernel
theorem dX7_shift_51 : decode cX7_shift 51 = .ok (.aload_n 0, 1) := by decide +kernel
theorem dX7_shift_52 : decode cX7_shift 52 = .ok (.getfield 15, 3) := by decide +kernel
theorem dX7_shift_55 : decode cX7_shift 55 = .ok (.iload_n 1, 1) := by decide +kernel
theorem dX7_shift_56 : decode cX7_shift 56 = .ok (.iload 4, 2) := by decide +kernel
theorem dX7_shift_58 : decode cX7_shift 58 = .ok (.iadd, 1) := by decide +kernel
theorem dX7_shift_59 : decode cX7_shift 59 = .ok (.dconst 0, 1) := by decide +kernel
theorem dX7_shift_60 : decode cX7_shift 60 = .ok (.dastore, 1) := by decide +kernel
theorem dX7_shift_61 : decode cX7_shift 61 = .ok (.iinc 4 1, 3) := by decide +kernel
theorem dX7_shift_64 : decode cX7_shift 64 = .ok (.goto (-29), 3) := by decide +kernel
theorem dX7_shift_67 : decode cX7_shift 67 = .ok (.return_, 1) := by decide +kernel
theorem dX7_add_0 : decode cX7_add 0 = .ok (.iload_n 1, 1) := by decide +kernel
theorem dX7_add_1 : decode cX7_add 1 = .ok (.iconst 3, 1) := by decide +kernel
theorem dX7_add_2 : decode cX7_add 2 = .ok (.if_icmp .ne 21, 3) := by decide +kernel
theorem dX7_add_5 : decode cX7_add 5 = .ok (.aload_n 0, 1) := by decide +kernel
theorem dX7_add_6 : decode cX7_add 6 = .ok (.getfield 15, 3) := by decide +kernel
theorem dX7_add_9 : decode cX7_add 9 = .ok (.iload_n 2, 1) := by decide +kernel
theorem dX7_add_10 : decode cX7_add 10 = .ok (.aload_n 0, 1) := by decide +kernel
theorem dX7_add_11 : decode cX7_add 11 = .ok (.getfield 15, 3) := by decide +kernel
theorem dX7_add_14 : decode cX7_add 14 = .ok (.iload_n 2, 1) := by decide +kernel
theorem dX7_add_15 : decode cX7_add 15 = .ok (.daload, 1) := by decide +kernel
theorem dX7_add_16 : decode cX7_add 16 = .ok (.iload_n 3, 1) := by decide +kernel
theorem dX7_add_17 : decode cX7_add 17 = .ok (.i2d, 1) := by decide +kernel
theorem dX7_add_18 : decode cX7_add 18 = .ok (.dadd, 1) := by decide +kernel
theorem dX7_add_19 : decode cX7_add 19 = .ok (.dastore, 1) := by decide +kernel
theorem dX7_add_20 : decode cX7_add 20 = .ok (.goto 22, 3) := by decide +kernel
theorem dX7_add_23 : decode cX7_add 23 = .ok (.aload_n 0, 1) := by decide +kernel
theorem dX7_add_24 : decode cX7_add 24 = .ok (.getfield 9, 3) := by decide +kernel
theorem dX7_add_27 : decode cX7_add 27 = .ok (.iload_n 2, 1) := by decide +kernel
theorem dX7_add_28 : decode cX7_add 28 = .ok (.iload_n 1, 1) := by decide +kernel
theorem dX7_add_29 : decode cX7_add 29 = .ok (.aload_n 0, 1) := by decide +kernel
theorem dX7_add_30 : decode cX7_add 30 = .ok (.getfield 9, 3) := by decide +kernel
theorem dX7_add_33 : decode cX7_add 33 = .ok (.iload_n 2, 1) := by decide +kernel
theorem dX7_add_34 : decode cX7_add 34 = .ok (.laload, 1) := by decide +kernel
theorem dX7_add_35 : decode cX7_add 35 = .ok (.iload_n 3, 1) := by decide +kernel
theorem dX7_add_36 : decode cX7_add 36 = .ok (.i2l, 1) := by decide +kernel
theorem dX7_add_37 : decode cX7_add 37 = .ok (.ladd, 1) := by decide +kernel
theorem dX7_add_38 : decode cX7_add 38 = .ok (.invokestatic 25, 3) := by decide +kernel
theorem dX7_add_41 : decode cX7_add 41 = .ok (.lastore, 1) := by decide +kernel
theorem dX7_add_42 : decode cX7_add 42 = .ok (.return_, 1) := by decide +kernel
theorem dX7_put_0 : decode cX7_put 0 = .ok (.iload_n 1, 1) := by decide +kernel
theorem dX7_put_1 : decode cX7_put 1 = .ok (.iconst 3, 1) := by decide +kernel
theorem dX7_put_2 : decode cX7_put 2 = .ok (.if_icmp .ne 14, 3) := by decide +kernel
theorem dX7_put_5 : decode cX7_put 5 = .ok (.aload_n 0, 1) := by decide +kernel
theorem dX7_put_6 : decode cX7_put 6 = .ok (.getfield 15, 3) := by decide +kernel
theorem dX7_put_9 : decode cX7_put 9 = .ok (.iload_n 2, 1) := by decide +kernel
theorem dX7_put_10 : decode cX7_put 10 = .ok (.lload_n 3, 1) := by decide +kernel
theorem dX7_put_11 : decode cX7_put 11 = .ok (.l2d, 1) := by decide +kernel
theorem dX7_put_12 : decode cX7_put 12 = .ok (.dastore, 1) := by decide +kernel
theorem dX7_put_13 : decode cX7_put 13 = .ok (.goto 14, 3) := by decide +kernel
theorem dX7_put_16 : decode cX7_put 16 = .ok (.aload_n 0, 1) := by decide +kernel
theorem dX7_put_17 : decode cX7_put 17 = .ok (.getfield 9, 3) := by decide +kernel
theorem dX7_put_20 : decode cX7_put 20 = .ok (.iload_n 2, 1) := by decide +kernel
theorem dX7_put_21 : decode cX7_put 21 = .ok (.iload_n 1, 1) := by decide +kernel
theorem dX7_put_22 : decode cX7_put 22 = .ok (.lload_n 3, 1) := by decide +kernel
theorem dX7_put_23 : decode cX7_put 23 = .ok (.invokestatic 25, 3) := by decide +kernel
theorem dX7_put_26 : decode cX7_put 26 = .ok (.lastore, 1) := by decide +kernel
theorem dX7_put_27 : decode cX7_put 27 = .ok (.return_, 1) := by decide +kernel
theorem dX7_cut_0 : decode cX7_cut 0 = .ok (.iload_n 1, 1) := by decide +kernel
theorem dX7_cut_1 : decode cX7_cut 1 = .ok (.iconst 3, 1) := by decide +kernel
theorem dX7_cut_2 : decode cX7_cut 2 = .ok (.if_icmp .ne 13, 3) := by decide +kernel
theorem dX7_cut_5 : decode cX7_cut 5 = .ok (.aload_n 0, 1) := by decide +kernel
theorem dX7_cut_6 : decode cX7_cut 6 = .ok (.getfield 15, 3) := by decide +kernel
theorem dX7_cut_9 : decode cX7_cut 9 = .ok (.iload_n 2, 1) := by decide +kernel
theorem dX7_cut_10 : decode cX7_cut 10 = .ok (.daload, 1) := by decide +kernel
theorem dX7_cut_11 : decode cX7_cut 11 = .ok (.d2l, 1) := by decide +kernel
theorem dX7_cut_12 : decode cX7_cut 12 = .ok (.goto 9, 3) := by decide +kernel
theorem dX7_cut_15 : decode cX7_cut 15 = .ok (.aload_n 0, 1) := by decide +kernel
theorem dX7_cut_16 : decode cX7_cut 16 = .ok (.getfield 9, 3) := by decide +kernel
theorem dX7_cut_19 : decode cX7_cut 19 = .ok (.iload_n 2, 1) := by decide +kernel
theorem dX7_cut_20 : decode cX7_cut 20 = .ok (.laload, 1) := by decide +kernel
theorem dX7_cut_21 : decode cX7_cut 21 = .ok (.lreturn, 1) := by decide +kernel
theorem dX7_refusesDivision_0 : decode cX7_refusesDivision 0 = .ok (.iload_n 1, 1) := by decide +kernel
theorem dX7_refusesDivision_1 : decode cX7_refusesDivision 1 = .ok (.iconst 3, 1) := by decide +kernel
theorem dX7_refusesDivision_2 : decode cX7_refusesDivision 2 = .ok (.if_icmp .eq 18, 3) := by decide +kernel
theorem dX7_refusesDivision_5 : decode cX7_refusesDivision 5 = .ok (.aload_n 0, 1) := by decide +kernel
theorem dX7_refusesDivision_6 : decode cX7_refusesDivision 6 = .ok (.getfield 9, 3) := by decide +kernel
theorem dX7_refusesDivision_9 : decode cX7_refusesDivision 9 = .ok (.iload_n 2, 1) := by decide +kernel
theorem dX7_refusesDivision_10 : decode cX7_refusesDivision 10 = .ok (.laload, 1) := by decide +kernel
theorem dX7_refusesDivision_11 : decode cX7_refusesDivision 11 = .ok (.lconst 0, 1) := by decide +kernel
theorem dX7_refusesDivision_12 : decode cX7_refusesDivision 12 = .ok (.lcmp, 1) := by decide +kernel
theorem dX7_refusesDivision_13 : decode cX7_refusesDivision 13 = .ok (.ifCond .ne 7, 3) := by decide +kernel
theorem dX7_refusesDivision_16 : decode cX7_refusesDivision 16 = .ok (.iconst 1, 1) := by decide +kernel
theorem dX7_refusesDivision_17 : decode cX7_refusesDivision 17 = .ok (.goto 4, 3) := by decide +kernel
theorem dX7_refusesDivision_20 : decode cX7_refusesDivision 20 = .ok (.iconst 0, 1) := by decide +kernel
theorem dX7_refusesDivision_21 : decode cX7_refusesDivision 21 = .ok (.ireturn, 1) := by decide +kernel
theorem dX7_divided_0 : decode cX7_divided 0 = .ok (.iload_n 1, 1) := by decide +kernel
theorem dX7_divided_1 : decode cX7_divided 1 = .ok (.iconst 3, 1) := by decide +kernel
theorem dX7_divided_2 : decode cX7_divided 2 = .ok (.if_icmp .eq 27, 3) := by decide +kernel
theorem dX7_divided_5 : decode cX7_divided 5 = .ok (.aload_n 0, 1) := by decide +kernel
theorem dX7_divided_6 : decode cX7_divided 6 = .ok (.getfield 9, 3) := by decide +kernel
theorem dX7_divided_9 : decode cX7_divided 9 = .ok (.iload_n 2, 1) := by decide +kernel
theorem dX7_divided_10 : decode cX7_divided 10 = .ok (.laload, 1) := by decide +kernel
theorem dX7_divided_11 : decode cX7_divided 11 = .ok (.lconst 0, 1) := by decide +kernel
theorem dX7_divided_12 : decode cX7_divided 12 = .ok (.lcmp, 1) := by decide +kernel
theorem dX7_divided_13 : decode cX7_divided 13 = .ok (.ifCond .ne 7, 3) := by decide +kernel
theorem dX7_divided_16 : decode cX7_divided 16 = .ok (.lconst 0, 1) := by decide +kernel
theorem dX7_divided_17 : decode cX7_divided 17 = .ok (.goto 11, 3) := by decide +kernel
theorem dX7_divided_20 : decode cX7_divided 20 = .ok (.lload_n 3, 1) := by decide +kernel
theorem dX7_divided_21 : decode cX7_divided 21 = .ok (.aload_n 0, 1) := by decide +kernel
theorem dX7_divided_22 : decode cX7_divided 22 = .ok (.getfield 9, 3) := by decide +kernel
theorem dX7_divided_25 : decode cX7_divided 25 = .ok (.iload_n 2, 1) := by decide +kernel
theorem dX7_divided_26 : decode cX7_divided 26 = .ok (.laload, 1) := by decide +kernel
theorem dX7_divided_27 : decode cX7_divided 27 = .ok (.ldiv, 1) := by decide +kernel
theorem dX7_divided_28 : decode cX7_divided 28 = .ok (.lreturn, 1) := by decide +kernel
theorem dX7_divided_29 : decode cX7_divided 29 = .ok (.aload_n 0, 1) := by decide +kernel
theorem dX7_divided_30 : decode cX7_divided 30 = .ok (.getfield 15, 3) := by decide +kernel
theorem dX7_divided_33 : decode cX7_divided 33 = .ok (.iload_n 2, 1) := by decide +kernel
theorem dX7_divided_34 : decode cX7_divided 34 = .ok (.daload, 1) := by decide +kernel
theorem dX7_divided_35 : decode cX7_divided 35 = .ok (.dconst 0, 1) := by decide +kernel
theorem dX7_divided_36 : decode cX7_divided 36 = .ok (.dcmp .l, 1) := by decide +kernel
theorem dX7_divided_37 : decode cX7_divided 37 = .ok (.ifCond .eq 14, 3) := by decide +kernel
theorem dX7_divided_40 : decode cX7_divided 40 = .ok (.lload_n 3, 1) := by decide +kernel
theorem dX7_divided_41 : decode cX7_divided 41 = .ok (.l2d, 1) := by decide +kernel
theorem dX7_divided_42 : decode cX7_divided 42 = .ok (.aload_n 0, 1) := by decide +kernel
theorem dX7_divided_43 : decode cX7_divided 43 = .ok (.getfield 15, 3) := by decide +kernel
theorem dX7_divided_46 : decode cX7_divided 46 = .ok (.iload_n 2, 1) := by decide +kernel
theorem dX7_divided_47 : decode cX7_divided 47 = .ok (.daload, 1) := by decide +kernel
theorem dX7_divided_48 : decode cX7_divided 48 = .ok (.ddiv, 1) := by decide +kernel
theorem dX7_divided_49 : decode cX7_divided 49 = .ok (.d2l, 1) := by decide +kernel
theorem dX7_divided_50 : decode cX7_divided 50 = .ok (.lreturn, 1) := by decide +kernel
theorem dX7_divided_51 : decode cX7_divided 51 = .ok (.lload_n 3, 1) := by decide +kernel
theorem dX7_divided_52 : decode cX7_divided 52 = .ok (.lconst 0, 1) := by decide +kernel
theorem dX7_divided_53 : decode cX7_divided 53 = .ok (.lcmp, 1) := by decide +kernel
theorem dX7_divided_54 : decode cX7_divided 54 = .ok (.ifCond .ne 5, 3) := by decide +kernel
theorem dX7_divided_57 : decode cX7_divided 57 = .ok (.lconst 0, 1) := by decide +kernel
theorem dX7_divided_58 : decode cX7_divided 58 = .ok (.lreturn, 1) := by decide +kernel
theorem dX7_divided_59 : decode cX7_divided 59 = .ok (.lload_n 3, 1) := by decide +kernel
theorem dX7_divided_60 : decode cX7_divided 60 = .ok (.lconst 0, 1) := by decide +kernel
theorem dX7_divided_61 : decode cX7_divided 61 = .ok (.lcmp, 1) := by decide +kernel
theorem dX7_divided_62 : decode cX7_divided 62 = .ok (.ifCond .le 9, 3) := by decide +kernel
theorem dX7_divided_65 : decode cX7_divided 65 = .ok (.ldc2_w 29, 3) := by decide +kernel
theorem dX7_divided_68 : decode cX7_divided 68 = .ok (.goto 6, 3) := by decide +kernel
theorem dX7_divided_71 : decode cX7_divided 71 = .ok (.ldc2_w 31, 3) := by decide +kernel
theorem dX7_divided_74 : decode cX7_divided 74 = .ok (.lreturn, 1) := by decide +kernel
theorem dX7_shown_0 : decode cX7_shown 0 = .ok (.iload_n 1, 1) := by decide +kernel
theorem dX7_shown_1 : decode cX7_shown 1 = .ok (.iconst 3, 1) := by decide +kernel
theorem dX7_shown_2 : decode cX7_shown 2 = .ok (.if_icmp .ne 15, 3) := by decide +kernel
theorem dX7_shown_5 : decode cX7_shown 5 = .ok (.aload_n 0, 1) := by decide +kernel
theorem dX7_shown_6 : decode cX7_shown 6 = .ok (.getfield 15, 3) := by decide +kernel
theorem dX7_shown_9 : decode cX7_shown 9 = .ok (.iload_n 2, 1) := by decide +kernel
theorem dX7_shown_10 : decode cX7_shown 10 = .ok (.daload, 1) := by decide +kernel
theorem dX7_shown_11 : decode cX7_shown 11 = .ok (.invokestatic 33, 3) := by decide +kernel
theorem dX7_shown_14 : decode cX7_shown 14 = .ok (.goto 9, 3) := by decide +kernel
theorem dX7_shown_17 : decode cX7_shown 17 = .ok (.aload_n 0, 1) := by decide +kernel
theorem dX7_shown_18 : decode cX7_shown 18 = .ok (.getfield 9, 3) := by decide +kernel
theorem dX7_shown_21 : decode cX7_shown 21 = .ok (.iload_n 2, 1) := by decide +kernel
theorem dX7_shown_22 : decode cX7_shown 22 = .ok (.laload, 1) := by decide +kernel
theorem dX7_shown_23 : decode cX7_shown 23 = .ok (.lreturn, 1) := by decide +kernel
theorem dX7_lowestBits_0 : decode cX7_lowestBits 0 = .ok (.iload_n 0, 1) := by decide +kernel
theorem dX7_lowestBits_1 : decode cX7_lowestBits 1 = .ok (.ifCond .ne 8, 3) := by decide +kernel
theorem dX7_lowestBits_4 : decode cX7_lowestBits 4 = .ok (.lload_n 1, 1) := by decide +kernel
theorem dX7_lowestBits_5 : decode cX7_lowestBits 5 = .ok (.l2i, 1) := by decide +kernel
theorem dX7_lowestBits_6 : decode cX7_lowestBits 6 = .ok (.i2b, 1) := by decide +kernel
theorem dX7_lowestBits_7 : decode cX7_lowestBits 7 = .ok (.i2l, 1) := by decide +kernel
theorem dX7_lowestBits_8 : decode cX7_lowestBits 8 = .ok (.lreturn, 1) := by decide +kernel
theorem dX7_lowestBits_9 : decode cX7_lowestBits 9 = .ok (.iload_n 0, 1) := by decide +kernel
theorem dX7_lowestBits_10 : decode cX7_lowestBits 10 = .ok (.iconst 1, 1) := by decide +kernel
theorem dX7_lowestBits_11 : decode cX7_lowestBits 11 = .ok (.if_icmp .ne 9, 3) := by decide +kernel
theorem dX7_lowestBits_14 : decode cX7_lowestBits 14 = .ok (.lload_n 1, 1) := by decide +kernel
theorem dX7_lowestBits_15 : decode cX7_lowestBits 15 = .ok (.l2i, 1) := by decide +kernel
theorem dX7_lowestBits_16 : decode cX7_lowestBits 16 = .ok (.i2l, 1) := by decide +kernel
theorem dX7_lowestBits_17 : decode cX7_lowestBits 17 = .ok (.goto 4, 3) := by decide +kernel
theorem dX7_lowestBits_20 : decode cX7_lowestBits 20 = .ok (.lload_n 1, 1) := by decide +kernel
theorem dX7_lowestBits_21 : decode cX7_lowestBits 21 = .ok (.lreturn, 1) := by decide +kernel
theorem dX7_bitsOf_0 : decode cX7_bitsOf 0 = .ok (.dload_n 0, 1) := by decide +kernel
theorem dX7_bitsOf_1 : decode cX7_bitsOf 1 = .ok (.dconst 0, 1) := by decide +kernel
theorem dX7_bitsOf_2 : decode cX7_bitsOf 2 = .ok (.dcmp .l, 1) := by decide +kernel
theorem dX7_bitsOf_3 : decode cX7_bitsOf 3 = .ok (.ifCond .ne 5, 3) := by decide +kernel
theorem dX7_bitsOf_6 : decode cX7_bitsOf 6 = .ok (.lconst 0, 1) := by decide +kernel
theorem dX7_bitsOf_7 : decode cX7_bitsOf 7 = .ok (.lreturn, 1) := by decide +kernel
theorem dX7_bitsOf_8 : decode cX7_bitsOf 8 = .ok (.dload_n 0, 1) := by decide +kernel
theorem dX7_bitsOf_9 : decode cX7_bitsOf 9 = .ok (.dconst 0, 1) := by decide +kernel
theorem dX7_bitsOf_10 : decode cX7_bitsOf 10 = .ok (.dcmp .g, 1) := by decide +kernel
theorem dX7_bitsOf_11 : decode cX7_bitsOf 11 = .ok (.ifCond .ge 8, 3) := by decide +kernel
theorem dX7_bitsOf_14 : decode cX7_bitsOf 14 = .ok (.dload_n 0, 1) := by decide +kernel
theorem dX7_bitsOf_15 : decode cX7_bitsOf 15 = .ok (.dneg, 1) := by decide +kernel
theorem dX7_bitsOf_16 : decode cX7_bitsOf 16 = .ok (.goto 4, 3) := by decide +kernel
theorem dX7_bitsOf_19 : decode cX7_bitsOf 19 = .ok (.dload_n 0, 1) := by decide +kernel
theorem dX7_bitsOf_20 : decode cX7_bitsOf 20 = .ok (.dstore_n 2, 1) := by decide +kernel
theorem dX7_bitsOf_21 : decode cX7_bitsOf 21 = .ok (.ldc2_w 37, 3) := by decide +kernel
theorem dX7_bitsOf_24 : decode cX7_bitsOf 24 = .ok (.lstore 4, 2) := by decide +kernel
theorem dX7_bitsOf_26 : decode cX7_bitsOf 26 = .ok (.dload_n 2, 1) := by decide +kernel
theorem dX7_bitsOf_27 : decode cX7_bitsOf 27 = .ok (.ldc2_w 39, 3) := by decide +kernel
theorem dX7_bitsOf_30 : decode cX7_bitsOf 30 = .ok (.dcmp .l, 1) := by decide +kernel
theorem dX7_bitsOf_31 : decode cX7_bitsOf 31 = .ok (.ifCond .lt 27, 3) := by decide +kernel
theorem dX7_bitsOf_34 : decode cX7_bitsOf 34 = .ok (.lload 4, 2) := by decide +kernel
theorem dX7_bitsOf_36 : decode cX7_bitsOf 36 = .ok (.ldc2_w 41, 3) := by decide +kernel
theorem dX7_bitsOf_39 : decode cX7_bitsOf 39 = .ok (.lcmp, 1) := by decide +kernel
theorem dX7_bitsOf_40 : decode cX7_bitsOf 40 = .ok (.ifCond .ge 18, 3) := by decide +kernel
theorem dX7_bitsOf_43 : decode cX7_bitsOf 43 = .ok (.dload_n 2, 1) := by decide +kernel
theorem dX7_bitsOf_44 : decode cX7_bitsOf 44 = .ok (.ldc2_w 39, 3) := by decide +kernel
theorem dX7_bitsOf_47 : decode cX7_bitsOf 47 = .ok (.ddiv, 1) := by decide +kernel
theorem dX7_bitsOf_48 : decode cX7_bitsOf 48 = .ok (.dstore_n 2, 1) := by decide +kernel
theorem dX7_bitsOf_49 : decode cX7_bitsOf 49 = .ok (.lload 4, 2) := by decide +kernel
theorem dX7_bitsOf_51 : decode cX7_bitsOf 51 = .ok (.lconst 1, 1) := by decide +kernel
theorem dX7_bitsOf_52 : decode cX7_bitsOf 52 = .ok (.ladd, 1) := by decide +kernel
theorem dX7_bitsOf_53 : decode cX7_bitsOf 53 = .ok (.lstore 4, 2) := by decide +kernel
theorem dX7_bitsOf_55 : decode cX7_bitsOf 55 = .ok (.goto (-29), 3) := by decide +kernel
theorem dX7_bitsOf_58 : decode cX7_bitsOf 58 = .ok (.dload_n 2, 1) := by decide +kernel
theorem dX7_bitsOf_59 : decode cX7_bitsOf 59 = .ok (.ldc2_w 43, 3) := by decide +kernel
theorem dX7_bitsOf_62 : decode cX7_bitsOf 62 = .ok (.dmul, 1) := by decide +kernel
theorem dX7_bitsOf_63 : decode cX7_bitsOf 63 = .ok (.d2l, 1) := by decide +kernel
theorem dX7_bitsOf_64 : decode cX7_bitsOf 64 = .ok (.ldc2_w 45, 3) := by decide +kernel
theorem dX7_bitsOf_67 : decode cX7_bitsOf 67 = .ok (.lsub, 1) := by decide +kernel
theorem dX7_bitsOf_68 : decode cX7_bitsOf 68 = .ok (.lstore 6, 2) := by decide +kernel
theorem dX7_bitsOf_70 : decode cX7_bitsOf 70 = .ok (.dload_n 0, 1) := by decide +kernel
theorem dX7_bitsOf_71 : decode cX7_bitsOf 71 = .ok (.dconst 0, 1) := by decide +kernel
theorem dX7_bitsOf_72 : decode cX7_bitsOf 72 = .ok (.dcmp .g, 1) := by decide +kernel
theorem dX7_bitsOf_73 : decode cX7_bitsOf 73 = .ok (.ifCond .ge 9, 3) := by decide +kernel
theorem dX7_bitsOf_76 : decode cX7_bitsOf 76 = .ok (.ldc2_w 31, 3) := by decide +kernel
theorem dX7_bitsOf_79 : decode cX7_bitsOf 79 = .ok (.goto 4, 3) := by decide +kernel
theorem dX7_bitsOf_82 : decode cX7_bitsOf 82 = .ok (.lconst 0, 1) := by decide +kernel
theorem dX7_bitsOf_83 : decode cX7_bitsOf 83 = .ok (.lstore 8, 2) := by decide +kernel
theorem dX7_bitsOf_85 : decode cX7_bitsOf 85 = .ok (.lload 8, 2) := by decide +kernel
theorem dX7_bitsOf_87 : decode cX7_bitsOf 87 = .ok (.lload 4, 2) := by decide +kernel
theorem dX7_bitsOf_89 : decode cX7_bitsOf 89 = .ok (.bipush 52, 2) := by decide +kernel
theorem dX7_bitsOf_91 : decode cX7_bitsOf 91 = .ok (.lshl, 1) := by decide +kernel
theorem dX7_bitsOf_92 : decode cX7_bitsOf 92 = .ok (.lor, 1) := by decide +kernel
theorem dX7_bitsOf_93 : decode cX7_bitsOf 93 = .ok (.lload 6, 2) := by decide +kernel
theorem dX7_bitsOf_95 : decode cX7_bitsOf 95 = .ok (.lor, 1) := by decide +kernel
theorem dX7_bitsOf_96 : decode cX7_bitsOf 96 = .ok (.lreturn, 1) := by decide +kernel
theorem dX8_init_0 : decode cX8_init 0 = .ok (.aload_n 0, 1) := by decide +kernel
theorem dX8_init_1 : decode cX8_init 1 = .ok (.invokespecial 3, 3) := by decide +kernel
theorem dX8_init_4 : decode cX8_init 4 = .ok (.aload_n 0, 1) := by decide +kernel
theorem dX8_init_5 : decode cX8_init 5 = .ok (.new 9, 3) := by decide +kernel
theorem dX8_init_8 : decode cX8_init 8 = .ok (.dup, 1) := by decide +kernel
theorem dX8_init_9 : decode cX8_init 9 = .ok (.invokespecial 11, 3) := by decide +kernel
theorem dX8_init_12 : decode cX8_init 12 = .ok (.putfield 12, 3) := by decide +kernel
theorem dX8_init_15 : decode cX8_init 15 = .ok (.aload_n 0, 1) := by decide +kernel
theorem dX8_init_16 : decode cX8_init 16 = .ok (.new 16, 3) := by decide +kernel
theorem dX8_init_19 : decode cX8_init 19 = .ok (.dup, 1) := by decide +kernel
theorem dX8_init_20 : decode cX8_init 20 = .ok (.aload_n 0, 1) := by decide +kernel
theorem dX8_init_21 : decode cX8_init 21 = .ok (.getfield 12, 3) := by decide +kernel
theorem dX8_init_24 : decode cX8_init 24 = .ok (.invokespecial 18, 3) := by decide +kernel
theorem dX8_init_27 : decode cX8_init 27 = .ok (.putfield 21, 3) := by decide +kernel
theorem dX8_init_30 : decode cX8_init 30 = .ok (.return_, 1) := by decide +kernel
theorem dX8_file_0 : decode cX8_file 0 = .ok (.iload_n 1, 1) := by decide +kernel
theorem dX8_file_1 : decode cX8_file 1 = .ok (.invokestatic 25, 3) := by decide +kernel
theorem dX8_file_4 : decode cX8_file 4 = .ok (.ifCond .eq 23, 3) := by decide +kernel
theorem dX8_file_7 : decode cX8_file 7 = .ok (.iload_n 2, 1) := by decide +kernel
theorem dX8_file_8 : decode cX8_file 8 = .ok (.iconst (-1), 1) := by decide +kernel
theorem dX8_file_9 : decode cX8_file 9 = .ok (.if_icmp .eq 10, 3) := by decide +kernel
theorem dX8_file_12 : decode cX8_file 12 = .ok (.iload_n 2, 1) := by decide +kernel
theorem dX8_file_13 : decode cX8_file 13 = .ok (.invokestatic 25, 3) := by decide +kernel
theorem dX8_file_16 : decode cX8_file 16 = .ok (.ifCond .eq 11, 3) := by decide +kernel
theorem dX8_file_19 : decode cX8_file 19 = .ok (.iload 5, 2) := by decide +kernel
theorem dX8_file_21 : decode cX8_file 21 = .ok (.invokestatic 29, 3) := by decide +kernel
theorem dX8_file_24 : decode cX8_file 24 = .ok (.ifCond .ne 5, 3) := by decide +kernel
theorem dX8_file_27 : decode cX8_file 27 = .ok (.iconst (-1), 1) := by decide +kernel
theorem dX8_file_28 : decode cX8_file 28 = .ok (.ireturn, 1) := by decide +kernel
theorem dX8_file_29 : decode cX8_file 29 = .ok (.aload_n 0, 1) := by decide +kernel
theorem dX8_file_30 : decode cX8_file 30 = .ok (.getfield 12, 3) := by decide +kernel
theorem dX8_file_33 : decode cX8_file 33 = .ok (.getfield 32, 3) := by decide +kernel
theorem dX8_file_36 : decode cX8_file 36 = .ok (.bipush 24, 2) := by decide +kernel
theorem dX8_file_38 : decode cX8_file 38 = .ok (.if_icmp .lt 6, 3) := by decide +kernel
theorem dX8_file_41 : decode cX8_file 41 = .ok (.bipush (-2), 2) := by decide +kernel
theorem dX8_file_43 : decode cX8_file 43 = .ok (.ireturn, 1) := by decide +kernel
theorem dX8_file_44 : decode cX8_file 44 = .ok (.aload_n 0, 1) := by decide +kernel
theorem dX8_file_45 : decode cX8_file 45 = .ok (.getfield 12, 3) := by decide +kernel
theorem dX8_file_48 : decode cX8_file 48 = .ok (.new 36, 3) := by decide +kernel
theorem dX8_file_51 : decode cX8_file 51 = .ok (.dup, 1) := by decide +kernel
theorem dX8_file_52 : decode cX8_file 52 = .ok (.iload_n 1, 1) := by decide +kernel
theorem dX8_file_53 : decode cX8_file 53 = .ok (.iload_n 2, 1) := by decide +kernel
theorem dX8_file_54 : decode cX8_file 54 = .ok (.iload_n 3, 1) := by decide +kernel
theorem dX8_file_55 : decode cX8_file 55 = .ok (.iload 4, 2) := by decide +kernel
theorem dX8_file_57 : decode cX8_file 57 = .ok (.iload 5, 2) := by decide +kernel
theorem dX8_file_59 : decode cX8_file 59 = .ok (.invokespecial 38, 3) := by decide +kernel
theorem dX8_file_62 : decode cX8_file 62 = .ok (.invokevirtual 41, 3) := by decide +kernel
theorem dX8_file_65 : decode cX8_file 65 = .ok (.ireturn, 1) := by decide +kernel
theorem dX8_under_0 : decode cX8_under 0 = .ok (.aload_n 0, 1) := by decide +kernel
theorem dX8_under_1 : decode cX8_under 1 = .ok (.getfield 12, 3) := by decide +kernel
theorem dX8_under_4 : decode cX8_under 4 = .ok (.iload_n 1, 1) := by decide +kernel
theorem dX8_under_5 : decode cX8_under 5 = .ok (.invokevirtual 45, 3) := by decide +kernel
theorem dX8_under_8 : decode cX8_under 8 = .ok (.astore_n 3, 1) := by decide +kernel
theorem dX8_under_9 : decode cX8_under 9 = .ok (.aload_n 3, 1) := by decide +kernel
theorem dX8_under_10 : decode cX8_under 10 = .ok (.ifnull 10, 3) := by decide +kernel
theorem dX8_under_13 : decode cX8_under 13 = .ok (.iload_n 2, 1) := by decide +kernel
theorem dX8_under_14 : decode cX8_under 14 = .ok (.invokestatic 25, 3) := by decide +kernel
theorem dX8_under_17 : decode cX8_under 17 = .ok (.ifCond .ne 5, 3) := by decide +kernel
theorem dX8_under_20 : decode cX8_under 20 = .ok (.iconst (-1), 1) := by decide +kernel
theorem dX8_under_21 : decode cX8_under 21 = .ok (.ireturn, 1) := by decide +kernel
theorem dX8_under_22 : decode cX8_under 22 = .ok (.aload_n 3, 1) := by decide +kernel
theorem dX8_under_23 : decode cX8_under 23 = .ok (.getfield 49, 3) := by decide +kernel
theorem dX8_under_26 : decode cX8_under 26 = .ok (.ifCond .eq 6, 3) := by decide +kernel
theorem dX8_under_29 : decode cX8_under 29 = .ok (.bipush (-3), 2) := by decide +kernel
theorem dX8_under_31 : decode cX8_under 31 = .ok (.ireturn, 1) := by decide +kernel
theorem dX8_under_32 : decode cX8_under 32 = .ok (.aload_n 3, 1) := by decide +kernel
theorem dX8_under_33 : decode cX8_under 33 = .ok (.getfield 53, 3) := by decide +kernel
theorem dX8_under_36 : decode cX8_under 36 = .ok (.iconst 2, 1) := by decide +kernel
theorem dX8_under_37 : decode cX8_under 37 = .ok (.if_icmp .lt 8, 3) := by decide +kernel
theorem dX8_under_40 : decode cX8_under 40 = .ok (.bipush (-2), 2) := by decide +kernel
theorem dX8_under_42 : decode cX8_under 42 = .ok (.goto 8, 3) := by decide +kernel
theorem dX8_under_45 : decode cX8_under 45 = .ok (.aload_n 3, 1) := by decide +kernel
theorem dX8_under_46 : decode cX8_under 46 = .ok (.iload_n 2, 1) := by decide +kernel
theorem dX8_under_47 : decode cX8_under 47 = .ok (.invokevirtual 56, 3) := by decide +kernel
theorem dX8_under_50 : decode cX8_under 50 = .ok (.ireturn, 1) := by decide +kernel
theorem dX8_act_0 : decode cX8_act 0 = .ok (.aload_n 0, 1) := by decide +kernel
theorem dX8_act_1 : decode cX8_act 1 = .ok (.getfield 12, 3) := by decide +kernel
theorem dX8_act_4 : decode cX8_act 4 = .ok (.iload_n 1, 1) := by decide +kernel
theorem dX8_act_5 : decode cX8_act 5 = .ok (.invokevirtual 45, 3) := by decide +kernel
theorem dX8_act_8 : decode cX8_act 8 = .ok (.astore 6, 2) := by decide +kernel
theorem dX8_act_10 : decode cX8_act 10 = .ok (.aload 6, 2) := by decide +kernel
theorem dX8_act_12 : decode cX8_act 12 = .ok (.ifnull 21, 3) := by decide +kernel
theorem dX8_act_15 : decode cX8_act 15 = .ok (.iload_n 2, 1) := by decide +kernel
theorem dX8_act_16 : decode cX8_act 16 = .ok (.invokestatic 60, 3) := by decide +kernel
theorem dX8_act_19 : decode cX8_act 19 = .ok (.ifCond .eq 14, 3) := by decide +kernel
theorem dX8_act_22 : decode cX8_act 22 = .ok (.iload_n 3, 1) := by decide +kernel
theorem dX8_act_23 : decode cX8_act 23 = .ok (.iload 4, 2) := by decide +kernel
theorem dX8_act_25 : decode cX8_act 25 = .ok (.iload 5, 2) := by decide +kernel
theorem dX8_act_27 : decode cX8_act 27 = .ok (.invokestatic 63, 3) := by decide +kernel
theorem dX8_act_30 : decode cX8_act 30 = .ok (.ifCond .ne 5, 3) := by decide +kernel
theorem dX8_act_33 : decode cX8_act 33 = .ok (.iconst (-1), 1) := by decide +kernel
theorem dX8_act_34 : decode cX8_act 34 = .ok (.ireturn, 1) := by decide +kernel
theorem dX8_act_35 : decode cX8_act 35 = .ok (.aload 6, 2) := by decide +kernel
theorem dX8_act_37 : decode cX8_act 37 = .ok (.getfield 49, 3) := by decide +kernel
theorem dX8_act_40 : decode cX8_act 40 = .ok (.ifCond .eq 6, 3) := by decide +kernel
theorem dX8_act_43 : decode cX8_act 43 = .ok (.bipush (-3), 2) := by decide +kernel
theorem dX8_act_45 : decode cX8_act 45 = .ok (.ireturn, 1) := by decide +kernel
theorem dX8_act_46 : decode cX8_act 46 = .ok (.aload 6, 2) := by decide +kernel
theorem dX8_act_48 : decode cX8_act 48 = .ok (.iload_n 2, 1) := by decide +kernel
theorem dX8_act_49 : decode cX8_act 49 = .ok (.invokevirtual 67, 3) := by decide +kernel
theorem dX8_act_52 : decode cX8_act 52 = .ok (.iconst 5, 1) := by decide +kernel
theorem dX8_act_53 : decode cX8_act 53 = .ok (.if_icmp .lt 8, 3) := by decide +kernel
theorem dX8_act_56 : decode cX8_act 56 = .ok (.bipush (-2), 2) := by decide +kernel
theorem dX8_act_58 : decode cX8_act 58 = .ok (.goto 14, 3) := by decide +kernel
theorem dX8_act_61 : decode cX8_act 61 = .ok (.aload 6, 2) := by decide +kernel
theorem dX8_act_63 : decode cX8_act 63 = .ok (.iload_n 2, 1) := by decide +kernel
theorem dX8_act_64 : decode cX8_act 64 = .ok (.iload_n 3, 1) := by decide +kernel
theorem dX8_act_65 : decode cX8_act 65 = .ok (.iload 4, 2) := by decide +kernel
theorem dX8_act_67 : decode cX8_act 67 = .ok (.iload 5, 2) := by decide +kernel
theorem dX8_act_69 : decode cX8_act 69 = .ok (.invokevirtual 70, 3) := by decide +kernel
theorem dX8_act_72 : decode cX8_act 72 = .ok (.ireturn, 1) := by decide +kernel
theorem dX8_loader_0 : decode cX8_loader 0 = .ok (.aload_n 0, 1) := by decide +kernel
theorem dX8_loader_1 : decode cX8_loader 1 = .ok (.getfield 12, 3) := by decide +kernel
theorem dX8_loader_4 : decode cX8_loader 4 = .ok (.iload_n 1, 1) := by decide +kernel
theorem dX8_loader_5 : decode cX8_loader 5 = .ok (.invokevirtual 74, 3) := by decide +kernel
theorem dX8_loader_8 : decode cX8_loader 8 = .ok (.astore_n 2, 1) := by decide +kernel
theorem dX8_loader_9 : decode cX8_loader 9 = .ok (.aload_n 2, 1) := by decide +kernel
theorem dX8_loader_10 : decode cX8_loader 10 = .ok (.ifnonnull 5, 3) := by decide +kernel
theorem dX8_loader_13 : decode cX8_loader 13 = .ok (.iconst (-1), 1) := by decide +kernel
theorem dX8_loader_14 : decode cX8_loader 14 = .ok (.ireturn, 1) := by decide +kernel
theorem dX8_loader_15 : decode cX8_loader 15 = .ok (.aload_n 0, 1) := by decide +kernel
theorem dX8_loader_16 : decode cX8_loader 16 = .ok (.getfield 12, 3) := by decide +kernel
theorem dX8_loader_19 : decode cX8_loader 19 = .ok (.getfield 78, 3) := by decide +kernel
theorem dX8_loader_22 : decode cX8_loader 22 = .ok (.bipush 8, 2) := by decide +kernel
theorem dX8_loader_24 : decode cX8_loader 24 = .ok (.if_icmp .lt 8, 3) := by decide +kernel
theorem dX8_loader_27 : decode cX8_loader 27 = .ok (.bipush (-2), 2) := by decide +kernel
theorem dX8_loader_29 : decode cX8_loader 29 = .ok (.goto 11, 3) := by decide +kernel
theorem dX8_loader_32 : decode cX8_loader 32 = .ok (.aload_n 0, 1) := by decide +kernel
theorem dX8_loader_33 : decode cX8_loader 33 = .ok (.getfield 12, 3) := by decide +kernel
theorem dX8_loader_36 : decode cX8_loader 36 = .ok (.aload_n 2, 1) := by decide +kernel
theorem dX8_loader_37 : decode cX8_loader 37 = .ok (.invokevirtual 81, 3) := by decide +kernel
theorem dX8_loader_40 : decode cX8_loader 40 = .ok (.ireturn, 1) := by decide +kernel
theorem dX8_offer_0 : decode cX8_offer 0 = .ok (.aload_n 0, 1) := by decide +kernel
theorem dX8_offer_1 : decode cX8_offer 1 = .ok (.getfield 12, 3) := by decide +kernel
theorem dX8_offer_4 : decode cX8_offer 4 = .ok (.iload_n 1, 1) := by decide +kernel
theorem dX8_offer_5 : decode cX8_offer 5 = .ok (.invokevirtual 74, 3) := by decide +kernel
theorem dX8_offer_8 : decode cX8_offer 8 = .ok (.astore 4, 2) := by decide +kernel
theorem dX8_offer_10 : decode cX8_offer 10 = .ok (.aload_n 0, 1) := by decide +kernel
theorem dX8_offer_11 : decode cX8_offer 11 = .ok (.getfield 12, 3) := by decide +kernel
theorem dX8_offer_14 : decode cX8_offer 14 = .ok (.iload_n 3, 1) := by decide +kernel
theorem dX8_offer_15 : decode cX8_offer 15 = .ok (.invokevirtual 45, 3) := by decide +kernel
theorem dX8_offer_18 : decode cX8_offer 18 = .ok (.astore 5, 2) := by decide +kernel
theorem dX8_offer_20 : decode cX8_offer 20 = .ok (.aload 4, 2) := by decide +kernel
theorem dX8_offer_22 : decode cX8_offer 22 = .ok (.ifnull 15, 3) := by decide +kernel
theorem dX8_offer_25 : decode cX8_offer 25 = .ok (.iload_n 2, 1) := by decide +kernel
theorem dX8_offer_26 : decode cX8_offer 26 = .ok (.invokestatic 25, 3) := by decide +kernel
theorem dX8_offer_29 : decode cX8_offer 29 = .ok (.ifCond .eq 8, 3) := by decide +kernel
theorem dX8_offer_32 : decode cX8_offer 32 = .ok (.aload 5, 2) := by decide +kernel
theorem dX8_offer_34 : decode cX8_offer 34 = .ok (.ifnonnull 5, 3) := by decide +kernel
theorem dX8_offer_37 : decode cX8_offer 37 = .ok (.iconst (-1), 1) := by decide +kernel
theorem dX8_offer_38 : decode cX8_offer 38 = .ok (.ireturn, 1) := by decide +kernel
theorem dX8_offer_39 : decode cX8_offer 39 = .ok (.aload 4, 2) := by decide +kernel
theorem dX8_offer_41 : decode cX8_offer 41 = .ok (.getfield 85, 3) := by decide +kernel
theorem dX8_offer_44 : decode cX8_offer 44 = .ok (.iload_n 2, 1) := by decide +kernel
theorem dX8_offer_45 : decode cX8_offer 45 = .ok (.aaload, 1) := by decide +kernel
theorem dX8_offer_46 : decode cX8_offer 46 = .ok (.ifnull 6, 3) := by decide +kernel
theorem dX8_offer_49 : decode cX8_offer 49 = .ok (.bipush (-3), 2) := by decide +kernel
theorem dX8_offer_51 : decode cX8_offer 51 = .ok (.ireturn, 1) := by decide +kernel
theorem dX8_offer_52 : decode cX8_offer 52 = .ok (.aload 4, 2) := by decide +kernel
theorem dX8_offer_54 : decode cX8_offer 54 = .ok (.iload_n 2, 1) := by decide +kernel
theorem dX8_offer_55 : decode cX8_offer 55 = .ok (.aload 5, 2) := by decide +kernel
theorem dX8_offer_57 : decode cX8_offer 57 = .ok (.invokevirtual 91, 3) := by decide +kernel
theorem dX8_offer_60 : decode cX8_offer 60 = .ok (.iconst 1, 1) := by decide +kernel
theorem dX8_offer_61 : decode cX8_offer 61 = .ok (.ireturn, 1) := by decide +kernel
theorem dX8_find_0 : decode cX8_find 0 = .ok (.aload_n 0, 1) := by decide +kernel
theorem dX8_find_1 : decode cX8_find 1 = .ok (.getfield 12, 3) := by decide +kernel
theorem dX8_find_4 : decode cX8_find 4 = .ok (.iload_n 1, 1) := by decide +kernel
theorem dX8_find_5 : decode cX8_find 5 = .ok (.invokevirtual 74, 3) := by decide +kernel
theorem dX8_find_8 : decode cX8_find 8 = .ok (.astore_n 3, 1) := by decide +kernel
theorem dX8_find_9 : decode cX8_find 9 = .ok (.aload_n 3, 1) := by decide +kernel
theorem dX8_find_10 : decode cX8_find 10 = .ok (.ifnull 10, 3) := by decide +kernel
theorem dX8_find_13 : decode cX8_find 13 = .ok (.iload_n 2, 1) := by decide +kernel
theorem dX8_find_14 : decode cX8_find 14 = .ok (.invokestatic 25, 3) := by decide +kernel
theorem dX8_find_17 : decode cX8_find 17 = .ok (.ifCond .ne 5, 3) := by decide +kernel
theorem dX8_find_20 : decode cX8_find 20 = .ok (.iconst (-1), 1) := by decide +kernel
theorem dX8_find_21 : decode cX8_find 21 = .ok (.ireturn, 1) := by decide +kernel
theorem dX8_find_22 : decode cX8_find 22 = .ok (.aload_n 0, 1) := by decide +kernel
theorem dX8_find_23 : decode cX8_find 23 = .ok (.aload_n 0, 1) := by decide +kernel
theorem dX8_find_24 : decode cX8_find 24 = .ok (.getfield 12, 3) := by decide +kernel
theorem dX8_find_27 : decode cX8_find 27 = .ok (.aload_n 3, 1) := by decide +kernel
theorem dX8_find_28 : decode cX8_find 28 = .ok (.iload_n 2, 1) := by decide +kernel
theorem dX8_find_29 : decode cX8_find 29 = .ok (.iconst 0, 1) := by decide +kernel
theorem dX8_find_30 : decode cX8_find 30 = .ok (.invokevirtual 95, 3) := by decide +kernel
theorem dX8_find_33 : decode cX8_find 33 = .ok (.invokevirtual 99, 3) := by decide +kernel
theorem dX8_find_36 : decode cX8_find 36 = .ok (.ireturn, 1) := by decide +kernel
theorem dX8_define_0 : decode cX8_define 0 = .ok (.aload_n 0, 1) := by decide +kernel
theorem dX8_define_1 : decode cX8_define 1 = .ok (.getfield 12, 3) := by decide +kernel
theorem dX8_define_4 : decode cX8_define 4 = .ok (.iload_n 1, 1) := by decide +kernel
theorem dX8_define_5 : decode cX8_define 5 = .ok (.invokevirtual 74, 3) := by decide +kernel
theorem dX8_define_8 : decode cX8_define 8 = .ok (.astore_n 3, 1) := by decide +kernel
theorem dX8_define_9 : decode cX8_define 9 = .ok (.aload_n 3, 1) := by decide +kernel
theorem dX8_define_10 : decode cX8_define 10 = .ok (.ifnull 10, 3) := by decide +kernel
theorem dX8_define_13 : decode cX8_define 13 = .ok (.iload_n 2, 1) := by decide +kernel
theorem dX8_define_14 : decode cX8_define 14 = .ok (.invokestatic 25, 3) := by decide +kernel
theorem dX8_define_17 : decode cX8_define 17 = .ok (.ifCond .ne 5, 3) := by decide +kernel
theorem dX8_define_20 : decode cX8_define 20 = .ok (.iconst (-1), 1) := by decide +kernel
theorem dX8_define_21 : decode cX8_define 21 = .ok (.ireturn, 1) := by decide +kernel
theorem dX8_define_22 : decode cX8_define 22 = .ok (.aload_n 0, 1) := by decide +kernel
theorem dX8_define_23 : decode cX8_define 23 = .ok (.aload_n 0, 1) := by decide +kernel
theorem dX8_define_24 : decode cX8_define 24 = .ok (.getfield 12, 3) := by decide +kernel
theorem dX8_define_27 : decode cX8_define 27 = .ok (.aload_n 3, 1) := by decide +kernel
theorem dX8_define_28 : decode cX8_define 28 = .ok (.iload_n 2, 1) := by decide +kernel
theorem dX8_define_29 : decode cX8_define 29 = .ok (.invokevirtual 103, 3) := by decide +kernel
theorem dX8_define_32 : decode cX8_define 32 = .ok (.invokevirtual 99, 3) := by decide +kernel
theorem dX8_define_35 : decode cX8_define 35 = .ok (.ireturn, 1) := by decide +kernel
theorem dX8_release_0 : decode cX8_release 0 = .ok (.aload_n 0, 1) := by decide +kernel
theorem dX8_release_1 : decode cX8_release 1 = .ok (.getfield 12, 3) := by decide +kernel
theorem dX8_release_4 : decode cX8_release 4 = .ok (.iload_n 1, 1) := by decide +kernel
theorem dX8_release_5 : decode cX8_release 5 = .ok (.invokevirtual 74, 3) := by decide +kernel
theorem dX8_release_8 : decode cX8_release 8 = .ok (.astore_n 2, 1) := by decide +kernel
theorem dX8_release_9 : decode cX8_release 9 = .ok (.aload_n 2, 1) := by decide +kernel
theorem dX8_release_10 : decode cX8_release 10 = .ok (.ifnonnull 7, 3) := by decide +kernel
theorem dX8_release_13 : decode cX8_release 13 = .ok (.iconst (-1), 1) := by decide +kernel
theorem dX8_release_14 : decode cX8_release 14 = .ok (.goto 11, 3) := by decide +kernel
theorem dX8_release_17 : decode cX8_release 17 = .ok (.aload_n 0, 1) := by decide +kernel
theorem dX8_release_18 : decode cX8_release 18 = .ok (.getfield 12, 3) := by decide +kernel
theorem dX8_release_21 : decode cX8_release 21 = .ok (.aload_n 2, 1) := by decide +kernel
theorem dX8_release_22 : decode cX8_release 22 = .ok (.invokevirtual 107, 3) := by decide +kernel
theorem dX8_release_25 : decode cX8_release 25 = .ok (.ireturn, 1) := by decide +kernel
theorem dX8_below_0 : decode cX8_below 0 = .ok (.aload_n 0, 1) := by decide +kernel
theorem dX8_below_1 : decode cX8_below 1 = .ok (.getfield 12, 3) := by decide +kernel
theorem dX8_below_4 : decode cX8_below 4 = .ok (.iload_n 1, 1) := by decide +kernel
theorem dX8_below_5 : decode cX8_below 5 = .ok (.invokevirtual 74, 3) := by decide +kernel
theorem dX8_below_8 : decode cX8_below 8 = .ok (.astore 5, 2) := by decide +kernel
theorem dX8_below_10 : decode cX8_below 10 = .ok (.aload_n 0, 1) := by decide +kernel
theorem dX8_below_11 : decode cX8_below 11 = .ok (.getfield 12, 3) := by decide +kernel
theorem dX8_below_14 : decode cX8_below 14 = .ok (.iload_n 3, 1) := by decide +kernel
theorem dX8_below_15 : decode cX8_below 15 = .ok (.invokevirtual 74, 3) := by decide +kernel
theorem dX8_below_18 : decode cX8_below 18 = .ok (.astore 6, 2) := by decide +kernel
theorem dX8_below_20 : decode cX8_below 20 = .ok (.aload 5, 2) := by decide +kernel
theorem dX8_below_22 : decode cX8_below 22 = .ok (.ifnull 23, 3) := by decide +kernel
theorem dX8_below_25 : decode cX8_below 25 = .ok (.iload_n 2, 1) := by decide +kernel
theorem dX8_below_26 : decode cX8_below 26 = .ok (.invokestatic 25, 3) := by decide +kernel
theorem dX8_below_29 : decode cX8_below 29 = .ok (.ifCond .eq 16, 3) := by decide +kernel
theorem dX8_below_32 : decode cX8_below 32 = .ok (.aload 6, 2) := by decide +kernel
theorem dX8_below_34 : decode cX8_below 34 = .ok (.ifnull 11, 3) := by decide +kernel
theorem dX8_below_37 : decode cX8_below 37 = .ok (.iload 4, 2) := by decide +kernel
theorem dX8_below_39 : decode cX8_below 39 = .ok (.invokestatic 25, 3) := by decide +kernel
theorem dX8_below_42 : decode cX8_below 42 = .ok (.ifCond .ne 5, 3) := by decide +kernel
theorem dX8_below_45 : decode cX8_below 45 = .ok (.iconst (-1), 1) := by decide +kernel
theorem dX8_below_46 : decode cX8_below 46 = .ok (.ireturn, 1) := by decide +kernel
theorem dX8_below_47 : decode cX8_below 47 = .ok (.aload_n 0, 1) := by decide +kernel
theorem dX8_below_48 : decode cX8_below 48 = .ok (.getfield 12, 3) := by decide +kernel
theorem dX8_below_51 : decode cX8_below 51 = .ok (.aload 5, 2) := by decide +kernel
theorem dX8_below_53 : decode cX8_below 53 = .ok (.iload_n 2, 1) := by decide +kernel
theorem dX8_below_54 : decode cX8_below 54 = .ok (.iconst 0, 1) := by decide +kernel
theorem dX8_below_55 : decode cX8_below 55 = .ok (.invokevirtual 95, 3) := by decide +kernel
theorem dX8_below_58 : decode cX8_below 58 = .ok (.astore 7, 2) := by decide +kernel
theorem dX8_below_60 : decode cX8_below 60 = .ok (.aload 7, 2) := by decide +kernel
theorem dX8_below_62 : decode cX8_below 62 = .ok (.ifnonnull 14, 3) := by decide +kernel
theorem dX8_below_65 : decode cX8_below 65 = .ok (.aload_n 0, 1) := by decide +kernel
theorem dX8_below_66 : decode cX8_below 66 = .ok (.getfield 12, 3) := by decide +kernel
theorem dX8_below_69 : decode cX8_below 69 = .ok (.getfield 110, 3) := by decide +kernel
theorem dX8_below_72 : decode cX8_below 72 = .ok (.invokestatic 113, 3) := by decide +kernel
theorem dX8_below_75 : decode cX8_below 75 = .ok (.ireturn, 1) := by decide +kernel
theorem dX8_below_76 : decode cX8_below 76 = .ok (.aload_n 0, 1) := by decide +kernel
theorem dX8_below_77 : decode cX8_below 77 = .ok (.getfield 12, 3) := by decide +kernel
theorem dX8_below_80 : decode cX8_below 80 = .ok (.aload 6, 2) := by decide +kernel
theorem dX8_below_82 : decode cX8_below 82 = .ok (.iload 4, 2) := by decide +kernel
theorem dX8_below_84 : decode cX8_below 84 = .ok (.iconst 0, 1) := by decide +kernel
theorem dX8_below_85 : decode cX8_below 85 = .ok (.invokevirtual 95, 3) := by decide +kernel
theorem dX8_below_88 : decode cX8_below 88 = .ok (.astore 8, 2) := by decide +kernel
theorem dX8_below_90 : decode cX8_below 90 = .ok (.aload 8, 2) := by decide +kernel
theorem dX8_below_92 : decode cX8_below 92 = .ok (.ifnonnull 14, 3) := by decide +kernel
theorem dX8_below_95 : decode cX8_below 95 = .ok (.aload_n 0, 1) := by decide +kernel
theorem dX8_below_96 : decode cX8_below 96 = .ok (.getfield 12, 3) := by decide +kernel
theorem dX8_below_99 : decode cX8_below 99 = .ok (.getfield 110, 3) := by decide +kernel
theorem dX8_below_102 : decode cX8_below 102 = .ok (.invokestatic 113, 3) := by decide +kernel
theorem dX8_below_105 : decode cX8_below 105 = .ok (.ireturn, 1) := by decide +kernel
theorem dX8_below_106 : decode cX8_below 106 = .ok (.aload 7, 2) := by decide +kernel
theorem dX8_below_108 : decode cX8_below 108 = .ok (.aload 8, 2) := by decide +kernel
theorem dX8_below_110 : decode cX8_below 110 = .ok (.invokevirtual 116, 3) := by decide +kernel
theorem dX8_below_113 : decode cX8_below 113 = .ok (.ifCond .eq 7, 3) := by decide +kernel
theorem dX8_below_116 : decode cX8_below 116 = .ok (.iconst 1, 1) := by decide +kernel
theorem dX8_below_117 : decode cX8_below 117 = .ok (.goto 4, 3) := by decide +kernel
theorem dX8_below_120 : decode cX8_below 120 = .ok (.iconst 0, 1) := by decide +kernel
theorem dX8_below_121 : decode cX8_below 121 = .ok (.ireturn, 1) := by decide +kernel
theorem dX8_deploy_0 : decode cX8_deploy 0 = .ok (.aload_n 0, 1) := by decide +kernel
theorem dX8_deploy_1 : decode cX8_deploy 1 = .ok (.getfield 12, 3) := by decide +kernel
theorem dX8_deploy_4 : decode cX8_deploy 4 = .ok (.iload_n 1, 1) := by decide +kernel
theorem dX8_deploy_5 : decode cX8_deploy 5 = .ok (.invokevirtual 74, 3) := by decide +kernel
theorem dX8_deploy_8 : decode cX8_deploy 8 = .ok (.astore_n 3, 1) := by decide +kernel
theorem dX8_deploy_9 : decode cX8_deploy 9 = .ok (.aload_n 3, 1) := by decide +kernel
theorem dX8_deploy_10 : decode cX8_deploy 10 = .ok (.ifnull 10, 3) := by decide +kernel
theorem dX8_deploy_13 : decode cX8_deploy 13 = .ok (.iload_n 2, 1) := by decide +kernel
theorem dX8_deploy_14 : decode cX8_deploy 14 = .ok (.invokestatic 25, 3) := by decide +kernel
theorem dX8_deploy_17 : decode cX8_deploy 17 = .ok (.ifCond .ne 5, 3) := by decide +kernel
theorem dX8_deploy_20 : decode cX8_deploy 20 = .ok (.iconst (-1), 1) := by decide +kernel
theorem dX8_deploy_21 : decode cX8_deploy 21 = .ok (.ireturn, 1) := by decide +kernel
theorem dX8_deploy_22 : decode cX8_deploy 22 = .ok (.aload_n 0, 1) := by decide +kernel
theorem dX8_deploy_23 : decode cX8_deploy 23 = .ok (.getfield 21, 3) := by decide +kernel
theorem dX8_deploy_26 : decode cX8_deploy 26 = .ok (.getfield 122, 3) := by decide +kernel
theorem dX8_deploy_29 : decode cX8_deploy 29 = .ok (.bipush 10, 2) := by decide +kernel
theorem dX8_deploy_31 : decode cX8_deploy 31 = .ok (.if_icmp .lt 6, 3) := by decide +kernel
theorem dX8_deploy_34 : decode cX8_deploy 34 = .ok (.bipush (-2), 2) := by decide +kernel
theorem dX8_deploy_36 : decode cX8_deploy 36 = .ok (.ireturn, 1) := by decide +kernel
theorem dX8_deploy_37 : decode cX8_deploy 37 = .ok (.aload_n 0, 1) := by decide +kernel
theorem dX8_deploy_38 : decode cX8_deploy 38 = .ok (.getfield 12, 3) := by decide +kernel
theorem dX8_deploy_41 : decode cX8_deploy 41 = .ok (.aload_n 3, 1) := by decide +kernel
theorem dX8_deploy_42 : decode cX8_deploy 42 = .ok (.iload_n 2, 1) := by decide +kernel
theorem dX8_deploy_43 : decode cX8_deploy 43 = .ok (.invokevirtual 125, 3) := by decide +kernel
theorem dX8_deploy_46 : decode cX8_deploy 46 = .ok (.astore 4, 2) := by decide +kernel
theorem dX8_deploy_48 : decode cX8_deploy 48 = .ok (.aload 4, 2) := by decide +kernel
theorem dX8_deploy_50 : decode cX8_deploy 50 = .ok (.ifnonnull 16, 3) := by decide +kernel
theorem dX8_deploy_53 : decode cX8_deploy 53 = .ok (.aload_n 0, 1) := by decide +kernel
theorem dX8_deploy_54 : decode cX8_deploy 54 = .ok (.getfield 12, 3) := by decide +kernel
theorem dX8_deploy_57 : decode cX8_deploy 57 = .ok (.getfield 110, 3) := by decide +kernel
theorem dX8_deploy_60 : decode cX8_deploy 60 = .ok (.invokestatic 113, 3) := by decide +kernel
theorem dX8_deploy_63 : decode cX8_deploy 63 = .ok (.goto 20, 3) := by decide +kernel
theorem dX8_deploy_66 : decode cX8_deploy 66 = .ok (.aload_n 0, 1) := by decide +kernel
theorem dX8_deploy_67 : decode cX8_deploy 67 = .ok (.getfield 21, 3) := by decide +kernel
theorem dX8_deploy_70 : decode cX8_deploy 70 = .ok (.aload_n 3, 1) := by decide +kernel
theorem dX8_deploy_71 : decode cX8_deploy 71 = .ok (.iload_n 2, 1) := by decide +kernel
theorem dX8_deploy_72 : decode cX8_deploy 72 = .ok (.aload 4, 2) := by decide +kernel
theorem dX8_deploy_74 : decode cX8_deploy 74 = .ok (.getfield 128, 3) := by decide +kernel
theorem dX8_deploy_77 : decode cX8_deploy 77 = .ok (.getfield 132, 3) := by decide +kernel
theorem dX8_deploy_80 : decode cX8_deploy 80 = .ok (.invokevirtual 135, 3) := by decide +kernel
theorem dX8_deploy_83 : decode cX8_deploy 83 = .ok (.ireturn, 1) := by decide +kernel
theorem dX8_upgrade_0 : decode cX8_upgrade 0 = .ok (.aload_n 0, 1) := by decide +kernel
theorem dX8_upgrade_1 : decode cX8_upgrade 1 = .ok (.getfield 21, 3) := by decide +kernel
theorem dX8_upgrade_4 : decode cX8_upgrade 4 = .ok (.iload_n 1, 1) := by decide +kernel
theorem dX8_upgrade_5 : decode cX8_upgrade 5 = .ok (.invokevirtual 139, 3) := by decide +kernel
theorem dX8_upgrade_8 : decode cX8_upgrade 8 = .ok (.astore 4, 2) := by decide +kernel
theorem dX8_upgrade_10 : decode cX8_upgrade 10 = .ok (.aload_n 0, 1) := by decide +kernel
theorem dX8_upgrade_11 : decode cX8_upgrade 11 = .ok (.getfield 12, 3) := by decide +kernel
theorem dX8_upgrade_14 : decode cX8_upgrade 14 = .ok (.iload_n 2, 1) := by decide +kernel
theorem dX8_upgrade_15 : decode cX8_upgrade 15 = .ok (.invokevirtual 74, 3) := by decide +kernel
theorem dX8_upgrade_18 : decode cX8_upgrade 18 = .ok (.astore 5, 2) := by decide +kernel
theorem dX8_upgrade_20 : decode cX8_upgrade 20 = .ok (.aload 4, 2) := by decide +kernel
theorem dX8_upgrade_22 : decode cX8_upgrade 22 = .ok (.ifnull 15, 3) := by decide +kernel
theorem dX8_upgrade_25 : decode cX8_upgrade 25 = .ok (.aload 5, 2) := by decide +kernel
theorem dX8_upgrade_27 : decode cX8_upgrade 27 = .ok (.ifnull 10, 3) := by decide +kernel
theorem dX8_upgrade_30 : decode cX8_upgrade 30 = .ok (.iload_n 3, 1) := by decide +kernel
theorem dX8_upgrade_31 : decode cX8_upgrade 31 = .ok (.invokestatic 25, 3) := by decide +kernel
theorem dX8_upgrade_34 : decode cX8_upgrade 34 = .ok (.ifCond .ne 5, 3) := by decide +kernel
theorem dX8_upgrade_37 : decode cX8_upgrade 37 = .ok (.iconst (-1), 1) := by decide +kernel
theorem dX8_upgrade_38 : decode cX8_upgrade 38 = .ok (.ireturn, 1) := by decide +kernel
theorem dX8_upgrade_39 : decode cX8_upgrade 39 = .ok (.aload_n 0, 1) := by decide +kernel
theorem dX8_upgrade_40 : decode cX8_upgrade 40 = .ok (.getfield 12, 3) := by decide +kernel
theorem dX8_upgrade_43 : decode cX8_upgrade 43 = .ok (.aload 5, 2) := by decide +kernel
theorem dX8_upgrade_45 : decode cX8_upgrade 45 = .ok (.iload_n 3, 1) := by decide +kernel
theorem dX8_upgrade_46 : decode cX8_upgrade 46 = .ok (.invokevirtual 125, 3) := by decide +kernel
theorem dX8_upgrade_49 : decode cX8_upgrade 49 = .ok (.ifnonnull 14, 3) := by decide +kernel
theorem dX8_upgrade_52 : decode cX8_upgrade 52 = .ok (.aload_n 0, 1) := by decide +kernel
theorem dX8_upgrade_53 : decode cX8_upgrade 53 = .ok (.getfield 12, 3) := by decide +kernel
theorem dX8_upgrade_56 : decode cX8_upgrade 56 = .ok (.getfield 110, 3) := by decide +kernel
theorem dX8_upgrade_59 : decode cX8_upgrade 59 = .ok (.invokestatic 113, 3) := by decide +kernel
theorem dX8_upgrade_62 : decode cX8_upgrade 62 = .ok (.ireturn, 1) := by decide +kernel
theorem dX8_upgrade_63 : decode cX8_upgrade 63 = .ok (.aload 4, 2) := by decide +kernel
theorem dX8_upgrade_65 : decode cX8_upgrade 65 = .ok (.aload 5, 2) := by decide +kernel
theorem dX8_upgrade_67 : decode cX8_upgrade 67 = .ok (.putfield 143, 3) := by decide +kernel
theorem dX8_upgrade_70 : decode cX8_upgrade 70 = .ok (.aload 4, 2) := by decide +kernel
theorem dX8_upgrade_72 : decode cX8_upgrade 72 = .ok (.iload_n 3, 1) := by decide +kernel
theorem dX8_upgrade_73 : decode cX8_upgrade 73 = .ok (.putfield 149, 3) := by decide +kernel
theorem dX8_upgrade_76 : decode cX8_upgrade 76 = .ok (.iconst 1, 1) := by decide +kernel
theorem dX8_upgrade_77 : decode cX8_upgrade 77 = .ok (.ireturn, 1) := by decide +kernel
theorem dX8_move_0 : decode cX8_move 0 = .ok (.aload_n 0, 1) := by decide +kernel
theorem dX8_move_1 : decode cX8_move 1 = .ok (.getfield 21, 3) := by decide +kernel
theorem dX8_move_4 : decode cX8_move 4 = .ok (.iload_n 1, 1) := by decide +kernel
theorem dX8_move_5 : decode cX8_move 5 = .ok (.invokevirtual 139, 3) := by decide +kernel
theorem dX8_move_8 : decode cX8_move 8 = .ok (.astore 5, 2) := by decide +kernel
theorem dX8_move_10 : decode cX8_move 10 = .ok (.aload 5, 2) := by decide +kernel
theorem dX8_move_12 : decode cX8_move 12 = .ok (.ifnull 16, 3) := by decide +kernel
theorem dX8_move_15 : decode cX8_move 15 = .ok (.iload_n 2, 1) := by decide +kernel
theorem dX8_move_16 : decode cX8_move 16 = .ok (.invokestatic 29, 3) := by decide +kernel
theorem dX8_move_19 : decode cX8_move 19 = .ok (.ifCond .eq 9, 3) := by decide +kernel
theorem dX8_move_22 : decode cX8_move 22 = .ok (.iload 4, 2) := by decide +kernel
theorem dX8_move_24 : decode cX8_move 24 = .ok (.iconst 4, 1) := by decide +kernel
theorem dX8_move_25 : decode cX8_move 25 = .ok (.if_icmp .le 5, 3) := by decide +kernel
theorem dX8_move_28 : decode cX8_move 28 = .ok (.iconst (-1), 1) := by decide +kernel
theorem dX8_move_29 : decode cX8_move 29 = .ok (.ireturn, 1) := by decide +kernel
theorem dX8_move_30 : decode cX8_move 30 = .ok (.iload_n 2, 1) := by decide +kernel
theorem dX8_move_31 : decode cX8_move 31 = .ok (.aload 5, 2) := by decide +kernel
theorem dX8_move_33 : decode cX8_move 33 = .ok (.getfield 152, 3) := by decide +kernel
theorem dX8_move_36 : decode cX8_move 36 = .ok (.if_icmp .eq 9, 3) := by decide +kernel
theorem dX8_move_39 : decode cX8_move 39 = .ok (.bipush 9, 2) := by decide +kernel
theorem dX8_move_41 : decode cX8_move 41 = .ok (.invokestatic 113, 3) := by decide +kernel
theorem dX8_move_44 : decode cX8_move 44 = .ok (.ireturn, 1) := by decide +kernel
theorem dX8_move_45 : decode cX8_move 45 = .ok (.iload 4, 2) := by decide +kernel
theorem dX8_move_47 : decode cX8_move 47 = .ok (.ifCond .lt 15, 3) := by decide +kernel
theorem dX8_move_50 : decode cX8_move 50 = .ok (.iload_n 3, 1) := by decide +kernel
theorem dX8_move_51 : decode cX8_move 51 = .ok (.ifCond .lt 11, 3) := by decide +kernel
theorem dX8_move_54 : decode cX8_move 54 = .ok (.iload_n 3, 1) := by decide +kernel
theorem dX8_move_55 : decode cX8_move 55 = .ok (.iconst 4, 1) := by decide +kernel
theorem dX8_move_56 : decode cX8_move 56 = .ok (.iload 4, 2) := by decide +kernel
theorem dX8_move_58 : decode cX8_move 58 = .ok (.isub, 1) := by decide +kernel
theorem dX8_move_59 : decode cX8_move 59 = .ok (.if_icmp .le 9, 3) := by decide +kernel
theorem dX8_move_62 : decode cX8_move 62 = .ok (.bipush 10, 2) := by decide +kernel
theorem dX8_move_64 : decode cX8_move 64 = .ok (.invokestatic 113, 3) := by decide +kernel
theorem dX8_move_67 : decode cX8_move 67 = .ok (.ireturn, 1) := by decide +kernel
theorem dX8_move_68 : decode cX8_move 68 = .ok (.aload_n 0, 1) := by decide +kernel
theorem dX8_move_69 : decode cX8_move 69 = .ok (.getfield 21, 3) := by decide +kernel
theorem dX8_move_72 : decode cX8_move 72 = .ok (.getfield 153, 3) := by decide +kernel
theorem dX8_move_75 : decode cX8_move 75 = .ok (.aload 5, 2) := by decide +kernel
theorem dX8_move_77 : decode cX8_move 77 = .ok (.invokevirtual 157, 3) := by decide +kernel
theorem dX8_move_80 : decode cX8_move 80 = .ok (.iload_n 3, 1) := by decide +kernel
theorem dX8_move_81 : decode cX8_move 81 = .ok (.iload 4, 2) := by decide +kernel
theorem dX8_move_83 : decode cX8_move 83 = .ok (.invokevirtual 161, 3) := by decide +kernel
theorem dX8_move_86 : decode cX8_move 86 = .ok (.iconst 1, 1) := by decide +kernel
theorem dX8_move_87 : decode cX8_move 87 = .ok (.ireturn, 1) := by decide +kernel
theorem dX8_call_0 : decode cX8_call 0 = .ok (.aload_n 0, 1) := by decide +kernel
theorem dX8_call_1 : decode cX8_call 1 = .ok (.getfield 21, 3) := by decide +kernel
theorem dX8_call_4 : decode cX8_call 4 = .ok (.iload_n 1, 1) := by decide +kernel
theorem dX8_call_5 : decode cX8_call 5 = .ok (.invokevirtual 139, 3) := by decide +kernel
theorem dX8_call_8 : decode cX8_call 8 = .ok (.astore 5, 2) := by decide +kernel
theorem dX8_call_10 : decode cX8_call 10 = .ok (.aload 5, 2) := by decide +kernel
theorem dX8_call_12 : decode cX8_call 12 = .ok (.ifnull 10, 3) := by decide +kernel
theorem dX8_call_15 : decode cX8_call 15 = .ok (.iload_n 2, 1) := by decide +kernel
theorem dX8_call_16 : decode cX8_call 16 = .ok (.invokestatic 60, 3) := by decide +kernel
theorem dX8_call_19 : decode cX8_call 19 = .ok (.ifCond .ne 5, 3) := by decide +kernel
theorem dX8_call_22 : decode cX8_call 22 = .ok (.iconst (-1), 1) := by decide +kernel
theorem dX8_call_23 : decode cX8_call 23 = .ok (.ireturn, 1) := by decide +kernel
theorem dX8_call_24 : decode cX8_call 24 = .ok (.aload_n 0, 1) := by decide +kernel
theorem dX8_call_25 : decode cX8_call 25 = .ok (.getfield 21, 3) := by decide +kernel
theorem dX8_call_28 : decode cX8_call 28 = .ok (.aload 5, 2) := by decide +kernel
theorem dX8_call_30 : decode cX8_call 30 = .ok (.iload_n 2, 1) := by decide +kernel
theorem dX8_call_31 : decode cX8_call 31 = .ok (.lload_n 3, 1) := by decide +kernel
theorem dX8_call_32 : decode cX8_call 32 = .ok (.invokevirtual 167, 3) := by decide +kernel
theorem dX8_call_35 : decode cX8_call 35 = .ok (.istore 6, 2) := by decide +kernel
theorem dX8_call_37 : decode cX8_call 37 = .ok (.iload 6, 2) := by decide +kernel
theorem dX8_call_39 : decode cX8_call 39 = .ok (.ifCond .ne 7, 3) := by decide +kernel
theorem dX8_call_42 : decode cX8_call 42 = .ok (.iconst 1, 1) := by decide +kernel
theorem dX8_call_43 : decode cX8_call 43 = .ok (.goto 8, 3) := by decide +kernel
theorem dX8_call_46 : decode cX8_call 46 = .ok (.iload 6, 2) := by decide +kernel
theorem dX8_call_48 : decode cX8_call 48 = .ok (.invokestatic 113, 3) := by decide +kernel
theorem dX8_call_51 : decode cX8_call 51 = .ok (.ireturn, 1) := by decide +kernel
theorem dX8_value_0 : decode cX8_value 0 = .ok (.aload_n 0, 1) := by decide +kernel
theorem dX8_value_1 : decode cX8_value 1 = .ok (.getfield 21, 3) := by decide +kernel
theorem dX8_value_4 : decode cX8_value 4 = .ok (.getfield 171, 3) := by decide +kernel
theorem dX8_value_7 : decode cX8_value 7 = .ok (.lreturn, 1) := by decide +kernel
theorem dX8_place_0 : decode cX8_place 0 = .ok (.aload_n 0, 1) := by decide +kernel
theorem dX8_place_1 : decode cX8_place 1 = .ok (.getfield 21, 3) := by decide +kernel
theorem dX8_place_4 : decode cX8_place 4 = .ok (.iload_n 1, 1) := by decide +kernel
theorem dX8_place_5 : decode cX8_place 5 = .ok (.invokevirtual 139, 3) := by decide +kernel
theorem dX8_place_8 : decode cX8_place 8 = .ok (.astore_n 3, 1) := by decide +kernel
theorem dX8_place_9 : decode cX8_place 9 = .ok (.aload_n 3, 1) := by decide +kernel
theorem dX8_place_10 : decode cX8_place 10 = .ok (.ifnull 12, 3) := by decide +kernel
theorem dX8_place_13 : decode cX8_place 13 = .ok (.iload_n 2, 1) := by decide +kernel
theorem dX8_place_14 : decode cX8_place 14 = .ok (.ifCond .lt 8, 3) := by decide +kernel
theorem dX8_place_17 : decode cX8_place 17 = .ok (.iload_n 2, 1) := by decide +kernel
theorem dX8_place_18 : decode cX8_place 18 = .ok (.iconst 4, 1) := by decide +kernel
theorem dX8_place_19 : decode cX8_place 19 = .ok (.if_icmp .lt 13, 3) := by decide +kernel
theorem dX8_place_22 : decode cX8_place 22 = .ok (.new 175, 3) := by decide +kernel
theorem dX8_place_25 : decode cX8_place 25 = .ok (.dup, 1) := by decide +kernel
theorem dX8_place_26 : decode cX8_place 26 = .ok (.ldc 177, 2) := by decide +kernel
theorem dX8_place_28 : decode cX8_place 28 = .ok (.invokespecial 179, 3) := by decide +kernel
theorem dX8_place_31 : decode cX8_place 31 = .ok (.athrow, 1) := by decide +kernel
theorem dX8_place_32 : decode cX8_place 32 = .ok (.aload_n 0, 1) := by decide +kernel
theorem dX8_place_33 : decode cX8_place 33 = .ok (.getfield 21, 3) := by decide +kernel
theorem dX8_place_36 : decode cX8_place 36 = .ok (.getfield 153, 3) := by decide +kernel
theorem dX8_place_39 : decode cX8_place 39 = .ok (.aload_n 3, 1) := by decide +kernel
theorem dX8_place_40 : decode cX8_place 40 = .ok (.getfield 152, 3) := by decide +kernel
theorem dX8_place_43 : decode cX8_place 43 = .ok (.aload_n 3, 1) := by decide +kernel
theorem dX8_place_44 : decode cX8_place 44 = .ok (.invokevirtual 157, 3) := by decide +kernel
theorem dX8_place_47 : decode cX8_place 47 = .ok (.iload_n 2, 1) := by decide +kernel
theorem dX8_place_48 : decode cX8_place 48 = .ok (.iadd, 1) := by decide +kernel
theorem dX8_place_49 : decode cX8_place 49 = .ok (.invokevirtual 182, 3) := by decide +kernel
theorem dX8_place_52 : decode cX8_place 52 = .ok (.lreturn, 1) := by decide +kernel
theorem dX8_told_0 : decode cX8_told 0 = .ok (.iload_n 2, 1) := by decide +kernel
theorem dX8_told_1 : decode cX8_told 1 = .ok (.ifCond .lt 31, 3) := by decide +kernel
theorem dX8_told_4 : decode cX8_told 4 = .ok (.iload_n 2, 1) := by decide +kernel
theorem dX8_told_5 : decode cX8_told 5 = .ok (.iconst 2, 1) := by decide +kernel
theorem dX8_told_6 : decode cX8_told 6 = .ok (.if_icmp .gt 26, 3) := by decide +kernel
theorem dX8_told_9 : decode cX8_told 9 = .ok (.aload_n 0, 1) := by decide +kernel
theorem dX8_told_10 : decode cX8_told 10 = .ok (.getfield 21, 3) := by decide +kernel
theorem dX8_told_13 : decode cX8_told 13 = .ok (.iload_n 1, 1) := by decide +kernel
theorem dX8_told_14 : decode cX8_told 14 = .ok (.invokevirtual 139, 3) := by decide +kernel
theorem dX8_told_17 : decode cX8_told 17 = .ok (.astore_n 3, 1) := by decide +kernel
theorem dX8_told_18 : decode cX8_told 18 = .ok (.aload_n 3, 1) := by decide +kernel
theorem dX8_told_19 : decode cX8_told 19 = .ok (.ifnonnull 7, 3) := by decide +kernel
theorem dX8_told_22 : decode cX8_told 22 = .ok (.iconst (-1), 1) := by decide +kernel
theorem dX8_told_23 : decode cX8_told 23 = .ok (.goto 8, 3) := by decide +kernel
theorem dX8_told_26 : decode cX8_told 26 = .ok (.aload_n 3, 1) := by decide +kernel
theorem dX8_told_27 : decode cX8_told 27 = .ok (.iload_n 2, 1) := by decide +kernel
theorem dX8_told_28 : decode cX8_told 28 = .ok (.invokestatic 186, 3) := by decide +kernel
theorem dX8_told_31 : decode cX8_told 31 = .ok (.ireturn, 1) := by decide +kernel
theorem dX8_told_32 : decode cX8_told 32 = .ok (.iload_n 2, 1) := by decide +kernel
theorem dX8_told_33 : decode cX8_told 33 = .ok (.iconst 3, 1) := by decide +kernel
theorem dX8_told_34 : decode cX8_told 34 = .ok (.if_icmp .lt 31, 3) := by decide +kernel
theorem dX8_told_37 : decode cX8_told 37 = .ok (.iload_n 2, 1) := by decide +kernel
theorem dX8_told_38 : decode cX8_told 38 = .ok (.iconst 5, 1) := by decide +kernel
theorem dX8_told_39 : decode cX8_told 39 = .ok (.if_icmp .gt 26, 3) := by decide +kernel
theorem dX8_told_42 : decode cX8_told 42 = .ok (.aload_n 0, 1) := by decide +kernel
theorem dX8_told_43 : decode cX8_told 43 = .ok (.getfield 12, 3) := by decide +kernel
theorem dX8_told_46 : decode cX8_told 46 = .ok (.iload_n 1, 1) := by decide +kernel
theorem dX8_told_47 : decode cX8_told 47 = .ok (.invokevirtual 74, 3) := by decide +kernel
theorem dX8_told_50 : decode cX8_told 50 = .ok (.astore_n 3, 1) := by decide +kernel
theorem dX8_told_51 : decode cX8_told 51 = .ok (.aload_n 3, 1) := by decide +kernel
theorem dX8_told_52 : decode cX8_told 52 = .ok (.ifnonnull 7, 3) := by decide +kernel
theorem dX8_told_55 : decode cX8_told 55 = .ok (.iconst (-1), 1) := by decide +kernel
theorem dX8_told_56 : decode cX8_told 56 = .ok (.goto 8, 3) := by decide +kernel
theorem dX8_told_59 : decode cX8_told 59 = .ok (.aload_n 3, 1) := by decide +kernel
theorem dX8_told_60 : decode cX8_told 60 = .ok (.iload_n 2, 1) := by decide +kernel
theorem dX8_told_61 : decode cX8_told 61 = .ok (.invokestatic 190, 3) := by decide +kernel
theorem dX8_told_64 : decode cX8_told 64 = .ok (.ireturn, 1) := by decide +kernel
theorem dX8_told_65 : decode cX8_told 65 = .ok (.iconst (-1), 1) := by decide +kernel
theorem dX8_told_66 : decode cX8_told 66 = .ok (.ireturn, 1) := by decide +kernel
theorem dX8_count_0 : decode cX8_count 0 = .ok (.iload_n 1, 1) := by decide +kernel
theorem dX8_count_1 : decode cX8_count 1 = .ok (.tableswitch 111 0 7 #[47, 55, 63, 71, 79, 87, 95, 103], 47) := by decide +kernel
theorem dX8_count_48 : decode cX8_count 48 = .ok (.aload_n 0, 1) := by decide +kernel
theorem dX8_count_49 : decode cX8_count 49 = .ok (.getfield 12, 3) := by decide +kernel
theorem dX8_count_52 : decode cX8_count 52 = .ok (.getfield 32, 3) := by decide +kernel
theorem dX8_count_55 : decode cX8_count 55 = .ok (.ireturn, 1) := by decide +kernel
theorem dX8_count_56 : decode cX8_count 56 = .ok (.aload_n 0, 1) := by decide +kernel
theorem dX8_count_57 : decode cX8_count 57 = .ok (.getfield 12, 3) := by decide +kernel
theorem dX8_count_60 : decode cX8_count 60 = .ok (.getfield 78, 3) := by decide +kernel
theorem dX8_count_63 : decode cX8_count 63 = .ok (.ireturn, 1) := by decide +kernel
theorem dX8_count_64 : decode cX8_count 64 = .ok (.aload_n 0, 1) := by decide +kernel
theorem dX8_count_65 : decode cX8_count 65 = .ok (.getfield 21, 3) := by decide +kernel
theorem dX8_count_68 : decode cX8_count 68 = .ok (.getfield 122, 3) := by decide +kernel
theorem dX8_count_71 : decode cX8_count 71 = .ok (.ireturn, 1) := by decide +kernel
theorem dX8_count_72 : decode cX8_count 72 = .ok (.aload_n 0, 1) := by decide +kernel
theorem dX8_count_73 : decode cX8_count 73 = .ok (.getfield 12, 3) := by decide +kernel
theorem dX8_count_76 : decode cX8_count 76 = .ok (.invokevirtual 194, 3) := by decide +kernel
theorem dX8_count_79 : decode cX8_count 79 = .ok (.ireturn, 1) := by decide +kernel
theorem dX8_count_80 : decode cX8_count 80 = .ok (.aload_n 0, 1) := by decide +kernel
theorem dX8_count_81 : decode cX8_count 81 = .ok (.getfield 12, 3) := by decide +kernel
theorem dX8_count_84 : decode cX8_count 84 = .ok (.getfield 197, 3) := by decide +kernel
theorem dX8_count_87 : decode cX8_count 87 = .ok (.ireturn, 1) := by decide +kernel
theorem dX8_count_88 : decode cX8_count 88 = .ok (.aload_n 0, 1) := by decide +kernel
theorem dX8_count_89 : decode cX8_count 89 = .ok (.getfield 21, 3) := by decide +kernel
theorem dX8_count_92 : decode cX8_count 92 = .ok (.getfield 200, 3) := by decide +kernel
theorem dX8_count_95 : decode cX8_count 95 = .ok (.ireturn, 1) := by decide +kernel
theorem dX8_count_96 : decode cX8_count 96 = .ok (.aload_n 0, 1) := by decide +kernel
theorem dX8_count_97 : decode cX8_count 97 = .ok (.getfield 21, 3) := by decide +kernel
theorem dX8_count_100 : decode cX8_count 100 = .ok (.getfield 203, 3) := by decide +kernel
theorem dX8_count_103 : decode cX8_count 103 = .ok (.ireturn, 1) := by decide +kernel
theorem dX8_count_104 : decode cX8_count 104 = .ok (.aload_n 0, 1) := by decide +kernel
theorem dX8_count_105 : decode cX8_count 105 = .ok (.getfield 21, 3) := by decide +kernel
theorem dX8_count_108 : decode cX8_count 108 = .ok (.getfield 206, 3) := by decide +kernel
theorem dX8_count_111 : decode cX8_count 111 = .ok (.ireturn, 1) := by decide +kernel
theorem dX8_count_112 : decode cX8_count 112 = .ok (.iconst (-1), 1) := by decide +kernel
theorem dX8_count_113 : decode cX8_count 113 = .ok (.ireturn, 1) := by decide +kernel
theorem dX8_toldOrFailure_0 : decode cX8_toldOrFailure 0 = .ok (.aload_n 1, 1) := by decide +kernel
theorem dX8_toldOrFailure_1 : decode cX8_toldOrFailure 1 = .ok (.ifnonnull 16, 3) := by decide +kernel
theorem dX8_toldOrFailure_4 : decode cX8_toldOrFailure 4 = .ok (.aload_n 0, 1) := by decide +kernel
theorem dX8_toldOrFailure_5 : decode cX8_toldOrFailure 5 = .ok (.getfield 12, 3) := by decide +kernel
theorem dX8_toldOrFailure_8 : decode cX8_toldOrFailure 8 = .ok (.getfield 110, 3) := by decide +kernel
theorem dX8_toldOrFailure_11 : decode cX8_toldOrFailure 11 = .ok (.invokestatic 113, 3) := by decide +kernel
theorem dX8_toldOrFailure_14 : decode cX8_toldOrFailure 14 = .ok (.goto 7, 3) := by decide +kernel
theorem dX8_toldOrFailure_17 : decode cX8_toldOrFailure 17 = .ok (.aload_n 1, 1) := by decide +kernel
theorem dX8_toldOrFailure_18 : decode cX8_toldOrFailure 18 = .ok (.invokevirtual 209, 3) := by decide +kernel
theorem dX8_toldOrFailure_21 : decode cX8_toldOrFailure 21 = .ok (.ireturn, 1) := by decide +kernel
theorem dX8_toldOfContract_0 : decode cX8_toldOfContract 0 = .ok (.iload_n 1, 1) := by decide +kernel
theorem dX8_toldOfContract_1 : decode cX8_toldOfContract 1 = .ok (.ifCond .ne 11, 3) := by decide +kernel
theorem dX8_toldOfContract_4 : decode cX8_toldOfContract 4 = .ok (.aload_n 0, 1) := by decide +kernel
theorem dX8_toldOfContract_5 : decode cX8_toldOfContract 5 = .ok (.getfield 143, 3) := by decide +kernel
theorem dX8_toldOfContract_8 : decode cX8_toldOfContract 8 = .ok (.getfield 212, 3) := by decide +kernel
theorem dX8_toldOfContract_11 : decode cX8_toldOfContract 11 = .ok (.ireturn, 1) := by decide +kernel
theorem dX8_toldOfContract_12 : decode cX8_toldOfContract 12 = .ok (.iload_n 1, 1) := by decide +kernel
theorem dX8_toldOfContract_13 : decode cX8_toldOfContract 13 = .ok (.iconst 1, 1) := by decide +kernel
theorem dX8_toldOfContract_14 : decode cX8_toldOfContract 14 = .ok (.if_icmp .ne 10, 3) := by decide +kernel
theorem dX8_toldOfContract_17 : decode cX8_toldOfContract 17 = .ok (.aload_n 0, 1) := by decide +kernel
theorem dX8_toldOfContract_18 : decode cX8_toldOfContract 18 = .ok (.getfield 149, 3) := by decide +kernel
theorem dX8_toldOfContract_21 : decode cX8_toldOfContract 21 = .ok (.goto 7, 3) := by decide +kernel
theorem dX8_toldOfContract_24 : decode cX8_toldOfContract 24 = .ok (.aload_n 0, 1) := by decide +kernel
theorem dX8_toldOfContract_25 : decode cX8_toldOfContract 25 = .ok (.getfield 152, 3) := by decide +kernel
theorem dX8_toldOfContract_28 : decode cX8_toldOfContract 28 = .ok (.ireturn, 1) := by decide +kernel
theorem dX8_toldOfLoader_0 : decode cX8_toldOfLoader 0 = .ok (.iload_n 1, 1) := by decide +kernel
theorem dX8_toldOfLoader_1 : decode cX8_toldOfLoader 1 = .ok (.iconst 3, 1) := by decide +kernel
theorem dX8_toldOfLoader_2 : decode cX8_toldOfLoader 2 = .ok (.if_icmp .ne 23, 3) := by decide +kernel
theorem dX8_toldOfLoader_5 : decode cX8_toldOfLoader 5 = .ok (.aload_n 0, 1) := by decide +kernel
theorem dX8_toldOfLoader_6 : decode cX8_toldOfLoader 6 = .ok (.getfield 214, 3) := by decide +kernel
theorem dX8_toldOfLoader_9 : decode cX8_toldOfLoader 9 = .ok (.ifnonnull 8, 3) := by decide +kernel
theorem dX8_toldOfLoader_12 : decode cX8_toldOfLoader 12 = .ok (.bipush (-3), 2) := by decide +kernel
theorem dX8_toldOfLoader_14 : decode cX8_toldOfLoader 14 = .ok (.goto 10, 3) := by decide +kernel
theorem dX8_toldOfLoader_17 : decode cX8_toldOfLoader 17 = .ok (.aload_n 0, 1) := by decide +kernel
theorem dX8_toldOfLoader_18 : decode cX8_toldOfLoader 18 = .ok (.getfield 214, 3) := by decide +kernel
theorem dX8_toldOfLoader_21 : decode cX8_toldOfLoader 21 = .ok (.getfield 212, 3) := by decide +kernel
theorem dX8_toldOfLoader_24 : decode cX8_toldOfLoader 24 = .ok (.ireturn, 1) := by decide +kernel
theorem dX8_toldOfLoader_25 : decode cX8_toldOfLoader 25 = .ok (.iload_n 1, 1) := by decide +kernel
theorem dX8_toldOfLoader_26 : decode cX8_toldOfLoader 26 = .ok (.iconst 4, 1) := by decide +kernel
theorem dX8_toldOfLoader_27 : decode cX8_toldOfLoader 27 = .ok (.if_icmp .ne 10, 3) := by decide +kernel
theorem dX8_toldOfLoader_30 : decode cX8_toldOfLoader 30 = .ok (.aload_n 0, 1) := by decide +kernel
theorem dX8_toldOfLoader_31 : decode cX8_toldOfLoader 31 = .ok (.getfield 217, 3) := by decide +kernel
theorem dX8_toldOfLoader_34 : decode cX8_toldOfLoader 34 = .ok (.goto 7, 3) := by decide +kernel
theorem dX8_toldOfLoader_37 : decode cX8_toldOfLoader 37 = .ok (.aload_n 0, 1) := by decide +kernel
theorem dX8_toldOfLoader_38 : decode cX8_toldOfLoader 38 = .ok (.getfield 220, 3) := by decide +kernel
theorem dX8_toldOfLoader_41 : decode cX8_toldOfLoader 41 = .ok (.ireturn, 1) := by decide +kernel
theorem dX8_failed_0 : decode cX8_failed 0 = .ok (.bipush (-20), 2) := by decide +kernel
theorem dX8_failed_2 : decode cX8_failed 2 = .ok (.iload_n 0, 1) := by decide +kernel
theorem dX8_failed_3 : decode cX8_failed 3 = .ok (.isub, 1) := by decide +kernel
theorem dX8_failed_4 : decode cX8_failed 4 = .ok (.ireturn, 1) := by decide +kernel
theorem dX8_isName_0 : decode cX8_isName 0 = .ok (.iload_n 0, 1) := by decide +kernel
theorem dX8_isName_1 : decode cX8_isName 1 = .ok (.ifCond .lt 13, 3) := by decide +kernel
theorem dX8_isName_4 : decode cX8_isName 4 = .ok (.iload_n 0, 1) := by decide +kernel
theorem dX8_isName_5 : decode cX8_isName 5 = .ok (.bipush 30, 2) := by decide +kernel
theorem dX8_isName_7 : decode cX8_isName 7 = .ok (.if_icmp .ge 7, 3) := by decide +kernel
theorem dX8_isName_10 : decode cX8_isName 10 = .ok (.iconst 1, 1) := by decide +kernel
theorem dX8_isName_11 : decode cX8_isName 11 = .ok (.goto 4, 3) := by decide +kernel
theorem dX8_isName_14 : decode cX8_isName 14 = .ok (.iconst 0, 1) := by decide +kernel
theorem dX8_isName_15 : decode cX8_isName 15 = .ok (.ireturn, 1) := by decide +kernel
theorem dX8_isLane_0 : decode cX8_isLane 0 = .ok (.iload_n 0, 1) := by decide +kernel
theorem dX8_isLane_1 : decode cX8_isLane 1 = .ok (.ifCond .lt 12, 3) := by decide +kernel
theorem dX8_isLane_4 : decode cX8_isLane 4 = .ok (.iload_n 0, 1) := by decide +kernel
theorem dX8_isLane_5 : decode cX8_isLane 5 = .ok (.iconst 3, 1) := by decide +kernel
theorem dX8_isLane_6 : decode cX8_isLane 6 = .ok (.if_icmp .gt 7, 3) := by decide +kernel
theorem dX8_isLane_9 : decode cX8_isLane 9 = .ok (.iconst 1, 1) := by decide +kernel
theorem dX8_isLane_10 : decode cX8_isLane 10 = .ok (.goto 4, 3) := by decide +kernel
theorem dX8_isLane_13 : decode cX8_isLane 13 = .ok (.iconst 0, 1) := by decide +kernel
theorem dX8_isLane_14 : decode cX8_isLane 14 = .ok (.ireturn, 1) := by decide +kernel
theorem dX8_isMethod_0 : decode cX8_isMethod 0 = .ok (.iload_n 0, 1) := by decide +kernel
theorem dX8_isMethod_1 : decode cX8_isMethod 1 = .ok (.ifCond .lt 12, 3) := by decide +kernel
theorem dX8_isMethod_4 : decode cX8_isMethod 4 = .ok (.iload_n 0, 1) := by decide +kernel
theorem dX8_isMethod_5 : decode cX8_isMethod 5 = .ok (.iconst 3, 1) := by decide +kernel
theorem dX8_isMethod_6 : decode cX8_isMethod 6 = .ok (.if_icmp .ge 7, 3) := by decide +kernel
theorem dX8_isMethod_9 : decode cX8_isMethod 9 = .ok (.iconst 1, 1) := by decide +kernel
theorem dX8_isMethod_10 : decode cX8_isMethod 10 = .ok (.goto 4, 3) := by decide +kernel
theorem dX8_isMethod_13 : decode cX8_isMethod 13 = .ok (.iconst 0, 1) := by decide +kernel
theorem dX8_isMethod_14 : decode cX8_isMethod 14 = .ok (.ireturn, 1) := by decide +kernel
theorem dX8_isAct_0 : decode cX8_isAct 0 = .ok (.iload_n 0, 1) := by decide +kernel
theorem dX8_isAct_1 : decode cX8_isAct 1 = .ok (.tableswitch 68 5 8 #[31, 47, 47, 52], 31) := by decide +kernel
theorem dX8_isAct_32 : decode cX8_isAct 32 = .ok (.iload_n 2, 1) := by decide +kernel
theorem dX8_isAct_33 : decode cX8_isAct 33 = .ok (.ifCond .lt 13, 3) := by decide +kernel
theorem dX8_isAct_36 : decode cX8_isAct 36 = .ok (.iload_n 2, 1) := by decide +kernel
theorem dX8_isAct_37 : decode cX8_isAct 37 = .ok (.bipush 90, 2) := by decide +kernel
theorem dX8_isAct_39 : decode cX8_isAct 39 = .ok (.if_icmp .ge 7, 3) := by decide +kernel
theorem dX8_isAct_42 : decode cX8_isAct 42 = .ok (.iconst 1, 1) := by decide +kernel
theorem dX8_isAct_43 : decode cX8_isAct 43 = .ok (.goto 4, 3) := by decide +kernel
theorem dX8_isAct_46 : decode cX8_isAct 46 = .ok (.iconst 0, 1) := by decide +kernel
theorem dX8_isAct_47 : decode cX8_isAct 47 = .ok (.ireturn, 1) := by decide +kernel
theorem dX8_isAct_48 : decode cX8_isAct 48 = .ok (.iload_n 1, 1) := by decide +kernel
theorem dX8_isAct_49 : decode cX8_isAct 49 = .ok (.invokestatic 25, 3) := by decide +kernel
theorem dX8_isAct_52 : decode cX8_isAct 52 = .ok (.ireturn, 1) := by decide +kernel
theorem dX8_isAct_53 : decode cX8_isAct 53 = .ok (.iload_n 1, 1) := by decide +kernel
theorem dX8_isAct_54 : decode cX8_isAct 54 = .ok (.ifCond .lt 13, 3) := by decide +kernel
theorem dX8_isAct_57 : decode cX8_isAct 57 = .ok (.iload_n 1, 1) := by decide +kernel
theorem dX8_isAct_58 : decode cX8_isAct 58 = .ok (.bipush 9, 2) := by decide +kernel
theorem dX8_isAct_60 : decode cX8_isAct 60 = .ok (.if_icmp .gt 7, 3) := by decide +kernel
theorem dX8_isAct_63 : decode cX8_isAct 63 = .ok (.iconst 1, 1) := by decide +kernel
theorem dX8_isAct_64 : decode cX8_isAct 64 = .ok (.goto 4, 3) := by decide +kernel
theorem dX8_isAct_67 : decode cX8_isAct 67 = .ok (.iconst 0, 1) := by decide +kernel
theorem dX8_isAct_68 : decode cX8_isAct 68 = .ok (.ireturn, 1) := by decide +kernel
theorem dX8_isAct_69 : decode cX8_isAct 69 = .ok (.iload_n 0, 1) := by decide +kernel
theorem dX8_isAct_70 : decode cX8_isAct 70 = .ok (.ifCond .lt 13, 3) := by decide +kernel
theorem dX8_isAct_73 : decode cX8_isAct 73 = .ok (.iload_n 0, 1) := by decide +kernel
theorem dX8_isAct_74 : decode cX8_isAct 74 = .ok (.bipush 11, 2) := by decide +kernel
theorem dX8_isAct_76 : decode cX8_isAct 76 = .ok (.if_icmp .gt 7, 3) := by decide +kernel
theorem dX8_isAct_79 : decode cX8_isAct 79 = .ok (.iconst 1, 1) := by decide +kernel
theorem dX8_isAct_80 : decode cX8_isAct 80 = .ok (.goto 4, 3) := by decide +kernel
theorem dX8_isAct_83 : decode cX8_isAct 83 = .ok (.iconst 0, 1) := by decide +kernel
theorem dX8_isAct_84 : decode cX8_isAct 84 = .ok (.ireturn, 1) := by decide +kernel
theorem dX9_init_0 : decode cX9_init 0 = .ok (.aload_n 0, 1) := by decide +kernel
theorem dX9_init_1 : decode cX9_init 1 = .ok (.invokespecial 1, 3) := by decide +kernel
theorem dX9_init_4 : decode cX9_init 4 = .ok (.aload_n 0, 1) := by decide +kernel
theorem dX9_init_5 : decode cX9_init 5 = .ok (.bipush 24, 2) := by decide +kernel
theorem dX9_init_7 : decode cX9_init 7 = .ok (.newarray .int, 2) := by decide +kernel
theorem dX9_init_9 : decode cX9_init 9 = .ok (.putfield 7, 3) := by decide +kernel
theorem dX9_init_12 : decode cX9_init 12 = .ok (.aload_n 0, 1) := by decide +kernel
theorem dX9_init_13 : decode cX9_init 13 = .ok (.bipush 24, 2) := by decide +kernel
theorem dX9_init_15 : decode cX9_init 15 = .ok (.newarray .int, 2) := by decide +kernel
theorem dX9_init_17 : decode cX9_init 17 = .ok (.putfield 13, 3) := by decide +kernel
theorem dX9_init_20 : decode cX9_init 20 = .ok (.aload_n 0, 1) := by decide +kernel
theorem dX9_init_21 : decode cX9_init 21 = .ok (.bipush 24, 2) := by decide +kernel
theorem dX9_init_23 : decode cX9_init 23 = .ok (.newarray .boolean, 2) := by decide +kernel
theorem dX9_init_25 : decode cX9_init 25 = .ok (.putfield 16, 3) := by decide +kernel
theorem dX9_init_28 : decode cX9_init 28 = .ok (.aload_n 0, 1) := by decide +kernel
theorem dX9_init_29 : decode cX9_init 29 = .ok (.bipush 24, 2) := by decide +kernel
theorem dX9_init_31 : decode cX9_init 31 = .ok (.newarray .boolean, 2) := by decide +kernel
theorem dX9_init_33 : decode cX9_init 33 = .ok (.putfield 20, 3) := by decide +kernel
theorem dX9_init_36 : decode cX9_init 36 = .ok (.aload_n 0, 1) := by decide +kernel
theorem dX9_init_37 : decode cX9_init 37 = .ok (.bipush 24, 2) := by decide +kernel
theorem dX9_init_39 : decode cX9_init 39 = .ok (.newarray .int, 2) := by decide +kernel
theorem dX9_init_41 : decode cX9_init 41 = .ok (.putfield 23, 3) := by decide +kernel
theorem dX9_init_44 : decode cX9_init 44 = .ok (.aload_n 0, 1) := by decide +kernel
theorem dX9_init_45 : decode cX9_init 45 = .ok (.bipush 24, 2) := by decide +kernel
theorem dX9_init_47 : decode cX9_init 47 = .ok (.newarray .int, 2) := by decide +kernel
theorem dX9_init_49 : decode cX9_init 49 = .ok (.putfield 26, 3) := by decide +kernel
theorem dX9_init_52 : decode cX9_init 52 = .ok (.aload_n 0, 1) := by decide +kernel
theorem dX9_init_53 : decode cX9_init 53 = .ok (.bipush 48, 2) := by decide +kernel
theorem dX9_init_55 : decode cX9_init 55 = .ok (.newarray .int, 2) := by decide +kernel
theorem dX9_init_57 : decode cX9_init 57 = .ok (.putfield 29, 3) := by decide +kernel
theorem dX9_init_60 : decode cX9_init 60 = .ok (.aload_n 0, 1) := by decide +kernel
theorem dX9_init_61 : decode cX9_init 61 = .ok (.bipush 72, 2) := by decide +kernel
theorem dX9_init_63 : decode cX9_init 63 = .ok (.newarray .int, 2) := by decide +kernel
theorem dX9_init_65 : decode cX9_init 65 = .ok (.putfield 32, 3) := by decide +kernel
theorem dX9_init_68 : decode cX9_init 68 = .ok (.aload_n 0, 1) := by decide +kernel
theorem dX9_init_69 : decode cX9_init 69 = .ok (.sipush 360, 3) := by decide +kernel
theorem dX9_init_72 : decode cX9_init 72 = .ok (.newarray .int, 2) := by decide +kernel
theorem dX9_init_74 : decode cX9_init 74 = .ok (.putfield 35, 3) := by decide +kernel
theorem dX9_init_77 : decode cX9_init 77 = .ok (.aload_n 0, 1) := by decide +kernel
theorem dX9_init_78 : decode cX9_init 78 = .ok (.sipush 360, 3) := by decide +kernel
theorem dX9_init_81 : decode cX9_init 81 = .ok (.newarray .int, 2) := by decide +kernel
theorem dX9_init_83 : decode cX9_init 83 = .ok (.putfield 38, 3) := by decide +kernel
theorem dX9_init_86 : decode cX9_init 86 = .ok (.aload_n 0, 1) := by decide +kernel
theorem dX9_init_87 : decode cX9_init 87 = .ok (.sipush 360, 3) := by decide +kernel
theorem dX9_init_90 : decode cX9_init 90 = .ok (.newarray .int, 2) := by decide +kernel
theorem dX9_init_92 : decode cX9_init 92 = .ok (.putfield 41, 3) := by decide +kernel
theorem dX9_init_95 : decode cX9_init 95 = .ok (.aload_n 0, 1) := by decide +kernel
theorem dX9_init_96 : decode cX9_init 96 = .ok (.iconst 1, 1) := by decide +kernel
theorem dX9_init_97 : decode cX9_init 97 = .ok (.putfield 44, 3) := by decide +kernel
theorem dX9_init_100 : decode cX9_init 100 = .ok (.aload_n 0, 1) := by decide +kernel
theorem dX9_init_101 : decode cX9_init 101 = .ok (.bipush 8, 2) := by decide +kernel
theorem dX9_init_103 : decode cX9_init 103 = .ok (.newarray .int, 2) := by decide +kernel
theorem dX9_init_105 : decode cX9_init 105 = .ok (.putfield 48, 3) := by decide +kernel
theorem dX9_init_108 : decode cX9_init 108 = .ok (.aload_n 0, 1) := by decide +kernel
theorem dX9_init_109 : decode cX9_init 109 = .ok (.sipush 240, 3) := by decide +kernel
theorem dX9_init_112 : decode cX9_init 112 = .ok (.newarray .int, 2) := by decide +kernel
theorem dX9_init_114 : decode cX9_init 114 = .ok (.putfield 51, 3) := by decide +kernel
theorem dX9_init_117 : decode cX9_init 117 = .ok (.aload_n 0, 1) := by decide +kernel
theorem dX9_init_118 : decode cX9_init 118 = .ok (.sipush 240, 3) := by decide +kernel
theorem dX9_init_121 : decode cX9_init 121 = .ok (.newarray .boolean, 2) := by decide +kernel
theorem dX9_init_123 : decode cX9_init 123 = .ok (.putfield 54, 3) := by decide +kernel
theorem dX9_init_126 : decode cX9_init 126 = .ok (.aload_n 0, 1) := by decide +kernel
theorem dX9_init_127 : decode cX9_init 127 = .ok (.sipush 240, 3) := by decide +kernel
theorem dX9_init_130 : decode cX9_init 130 = .ok (.newarray .boolean, 2) := by decide +kernel
theorem dX9_init_132 : decode cX9_init 132 = .ok (.putfield 57, 3) := by decide +kernel
theorem dX9_init_135 : decode cX9_init 135 = .ok (.aload_n 0, 1) := by decide +kernel
theorem dX9_init_136 : decode cX9_init 136 = .ok (.sipush 240, 3) := by decide +kernel
theorem dX9_init_139 : decode cX9_init 139 = .ok (.newarray .int, 2) := by decide +kernel
theorem dX9_init_141 : decode cX9_init 141 = .ok (.putfield 60, 3) := by decide +kernel
theorem dX9_init_144 : decode cX9_init 144 = .ok (.aload_n 0, 1) := by decide +kernel
theorem dX9_init_145 : decode cX9_init 145 = .ok (.sipush 480, 3) := by decide +kernel
theorem dX9_init_148 : decode cX9_init 148 = .ok (.newarray .int, 2) := by decide +kernel
theorem dX9_init_150 : decode cX9_init 150 = .ok (.putfield 63, 3) := by decide +kernel
theorem dX9_init_153 : decode cX9_init 153 = .ok (.aload_n 0, 1) := by decide +kernel
theorem dX9_init_154 : decode cX9_init 154 = .ok (.sipush 240, 3) := by decide +kernel
theorem dX9_init_157 : decode cX9_init 157 = .ok (.newarray .int, 2) := by decide +kernel
theorem dX9_init_159 : decode cX9_init 159 = .ok (.putfield 66, 3) := by decide +kernel
theorem dX9_init_162 : decode cX9_init 162 = .ok (.aload_n 0, 1) := by decide +kernel
theorem dX9_init_163 : decode cX9_init 163 = .ok (.sipush 2600, 3) := by decide +kernel
theorem dX9_init_166 : decode cX9_init 166 = .ok (.newarray .int, 2) := by decide +kernel
theorem dX9_init_168 : decode cX9_init 168 = .ok (.putfield 69, 3) := by decide +kernel
theorem dX9_init_171 : decode cX9_init 171 = .ok (.aload_n 0, 1) := by decide +kernel
theorem dX9_init_172 : decode cX9_init 172 = .ok (.sipush 2600, 3) := by decide +kernel
theorem dX9_init_175 : decode cX9_init 175 = .ok (.newarray .int, 2) := by decide +kernel
theorem dX9_init_177 : decode cX9_init 177 = .ok (.putfield 72, 3) := by decide +kernel
theorem dX9_init_180 : decode cX9_init 180 = .ok (.aload_n 0, 1) := by decide +kernel
theorem dX9_init_181 : decode cX9_init 181 = .ok (.sipush 240, 3) := by decide +kernel
theorem dX9_init_184 : decode cX9_init 184 = .ok (.newarray .int, 2) := by decide +kernel
theorem dX9_init_186 : decode cX9_init 186 = .ok (.putfield 75, 3) := by decide +kernel
theorem dX9_init_189 : decode cX9_init 189 = .ok (.aload_n 0, 1) := by decide +kernel
theorem dX9_init_190 : decode cX9_init 190 = .ok (.sipush 240, 3) := by decide +kernel
theorem dX9_init_193 : decode cX9_init 193 = .ok (.newarray .boolean, 2) := by decide +kernel
theorem dX9_init_195 : decode cX9_init 195 = .ok (.putfield 78, 3) := by decide +kernel
theorem dX9_init_198 : decode cX9_init 198 = .ok (.aload_n 0, 1) := by decide +kernel
theorem dX9_init_199 : decode cX9_init 199 = .ok (.bipush 10, 2) := by decide +kernel
theorem dX9_init_201 : decode cX9_init 201 = .ok (.newarray .int, 2) := by decide +kernel
theorem dX9_init_203 : decode cX9_init 203 = .ok (.putfield 81, 3) := by decide +kernel
theorem dX9_init_206 : decode cX9_init 206 = .ok (.aload_n 0, 1) := by decide +kernel
theorem dX9_init_207 : decode cX9_init 207 = .ok (.bipush 10, 2) := by decide +kernel
theorem dX9_init_209 : decode cX9_init 209 = .ok (.newarray .int, 2) := by decide +kernel
theorem dX9_init_211 : decode cX9_init 211 = .ok (.putfield 84, 3) := by decide +kernel
theorem dX9_init_214 : decode cX9_init 214 = .ok (.aload_n 0, 1) := by decide +kernel
theorem dX9_init_215 : decode cX9_init 215 = .ok (.bipush 10, 2) := by decide +kernel
theorem dX9_init_217 : decode cX9_init 217 = .ok (.newarray .int, 2) := by decide +kernel
theorem dX9_init_219 : decode cX9_init 219 = .ok (.putfield 87, 3) := by decide +kernel
theorem dX9_init_222 : decode cX9_init 222 = .ok (.aload_n 0, 1) := by decide +kernel
theorem dX9_init_223 : decode cX9_init 223 = .ok (.bipush 40, 2) := by decide +kernel
theorem dX9_init_225 : decode cX9_init 225 = .ok (.newarray .long, 2) := by decide +kernel
theorem dX9_init_227 : decode cX9_init 227 = .ok (.putfield 90, 3) := by decide +kernel
theorem dX9_init_230 : decode cX9_init 230 = .ok (.aload_n 0, 1) := by decide +kernel
theorem dX9_init_231 : decode cX9_init 231 = .ok (.sipush 2100, 3) := by decide +kernel
theorem dX9_init_234 : decode cX9_init 234 = .ok (.newarray .int, 2) := by decide +kernel
theorem dX9_init_236 : decode cX9_init 236 = .ok (.putfield 94, 3) := by decide +kernel
theorem dX9_init_239 : decode cX9_init 239 = .ok (.aload_n 0, 1) := by decide +kernel
theorem dX9_init_240 : decode cX9_init 240 = .ok (.sipush 2100, 3) := by decide +kernel
theorem dX9_init_243 : decode cX9_init 243 = .ok (.newarray .int, 2) := by decide +kernel
theorem dX9_init_245 : decode cX9_init 245 = .ok (.putfield 97, 3) := by decide +kernel
theorem dX9_init_248 : decode cX9_init 248 = .ok (.aload_n 0, 1) := by decide +kernel
theorem dX9_init_249 : decode cX9_init 249 = .ok (.sipush 2100, 3) := by decide +kernel
theorem dX9_init_252 : decode cX9_init 252 = .ok (.newarray .boolean, 2) := by decide +kernel
theorem dX9_init_254 : decode cX9_init 254 = .ok (.putfield 100, 3) := by decide +kernel
theorem dX9_init_257 : decode cX9_init 257 = .ok (.aload_n 0, 1) := by decide +kernel
theorem dX9_init_258 : decode cX9_init 258 = .ok (.sipush 2100, 3) := by decide +kernel
theorem dX9_init_261 : decode cX9_init 261 = .ok (.newarray .int, 2) := by decide +kernel
theorem dX9_init_263 : decode cX9_init 263 = .ok (.putfield 103, 3) := by decide +kernel
theorem dX9_init_266 : decode cX9_init 266 = .ok (.aload_n 0, 1) := by decide +kernel
theorem dX9_init_267 : decode cX9_init 267 = .ok (.sipush 2100, 3) := by decide +kernel
theorem dX9_init_270 : decode cX9_init 270 = .ok (.newarray .int, 2) := by decide +kernel
theorem dX9_init_272 : decode cX9_init 272 = .ok (.putfield 106, 3) := by decide +kernel
theorem dX9_init_275 : decode cX9_init 275 = .ok (.aload_n 0, 1) := by decide +kernel
theorem dX9_init_276 : decode cX9_init 276 = .ok (.sipush 2100, 3) := by decide +kernel
theorem dX9_init_279 : decode cX9_init 279 = .ok (.newarray .int, 2) := by decide +kernel
theorem dX9_init_281 : decode cX9_init 281 = .ok (.putfield 109, 3) := by decide +kernel
theorem dX9_init_284 : decode cX9_init 284 = .ok (.aload_n 0, 1) := by decide +kernel
theorem dX9_init_285 : decode cX9_init 285 = .ok (.sipush 2100, 3) := by decide +kernel
theorem dX9_init_288 : decode cX9_init 288 = .ok (.newarray .boolean, 2) := by decide +kernel
theorem dX9_init_290 : decode cX9_init 290 = .ok (.putfield 112, 3) := by decide +kernel
theorem dX9_init_293 : decode cX9_init 293 = .ok (.aload_n 0, 1) := by decide +kernel
theorem dX9_init_294 : decode cX9_init 294 = .ok (.sipush 2100, 3) := by decide +kernel
theorem dX9_init_297 : decode cX9_init 297 = .ok (.newarray .boolean, 2) := by decide +kernel
theorem dX9_init_299 : decode cX9_init 299 = .ok (.putfield 115, 3) := by decide +kernel
theorem dX9_init_302 : decode cX9_init 302 = .ok (.aload_n 0, 1) := by decide +kernel
theorem dX9_init_303 : decode cX9_init 303 = .ok (.sipush 2100, 3) := by decide +kernel
theorem dX9_init_306 : decode cX9_init 306 = .ok (.newarray .long, 2) := by decide +kernel
theorem dX9_init_308 : decode cX9_init 308 = .ok (.putfield 118, 3) := by decide +kernel
theorem dX9_init_311 : decode cX9_init 311 = .ok (.aload_n 0, 1) := by decide +kernel
theorem dX9_init_312 : decode cX9_init 312 = .ok (.ldc 121, 2) := by decide +kernel
theorem dX9_init_314 : decode cX9_init 314 = .ok (.newarray .long, 2) := by decide +kernel
theorem dX9_init_316 : decode cX9_init 316 = .ok (.putfield 122, 3) := by decide +kernel
theorem dX9_init_319 : decode cX9_init 319 = .ok (.aload_n 0, 1) := by decide +kernel
theorem dX9_init_320 : decode cX9_init 320 = .ok (.bipush 40, 2) := by decide +kernel
theorem dX9_init_322 : decode cX9_init 322 = .ok (.newarray .long, 2) := by decide +kernel
theorem dX9_init_324 : decode cX9_init 324 = .ok (.putfield 125, 3) := by decide +kernel
theorem dX9_init_327 : decode cX9_init 327 = .ok (.aload_n 0, 1) := by decide +kernel
theorem dX9_init_328 : decode cX9_init 328 = .ok (.getfield 48, 3) := by decide +kernel
theorem dX9_init_331 : decode cX9_init 331 = .ok (.iconst 0, 1) := by decide +kernel
theorem dX9_init_332 : decode cX9_init 332 = .ok (.iconst (-1), 1) := by decide +kernel
theorem dX9_init_333 : decode cX9_init 333 = .ok (.iastore, 1) := by decide +kernel
theorem dX9_init_334 : decode cX9_init 334 = .ok (.iconst 0, 1) := by decide +kernel
theorem dX9_init_335 : decode cX9_init 335 = .ok (.istore_n 1, 1) := by decide +kernel
theorem dX9_init_336 : decode cX9_init 336 = .ok (.iload_n 1, 1) := by decide +kernel
theorem dX9_init_337 : decode cX9_init 337 = .ok (.sipush 240, 3) := by decide +kernel
theorem dX9_init_340 : decode cX9_init 340 = .ok (.if_icmp .ge 16, 3) := by decide +kernel
theorem dX9_init_343 : decode cX9_init 343 = .ok (.aload_n 0, 1) := by decide +kernel
theorem dX9_init_344 : decode cX9_init 344 = .ok (.getfield 51, 3) := by decide +kernel
theorem dX9_init_347 : decode cX9_init 347 = .ok (.iload_n 1, 1) := by decide +kernel
theorem dX9_init_348 : decode cX9_init 348 = .ok (.iconst (-1), 1) := by decide +kernel
theorem dX9_init_349 : decode cX9_init 349 = .ok (.iastore, 1) := by decide +kernel
theorem dX9_init_350 : decode cX9_init 350 = .ok (.iinc 1 1, 3) := by decide +kernel
theorem dX9_init_353 : decode cX9_init 353 = .ok (.goto (-17), 3) := by decide +kernel
theorem dX9_init_356 : decode cX9_init 356 = .ok (.return_, 1) := by decide +kernel
theorem dX9_thrown_0 : decode cX9_thrown 0 = .ok (.aload_n 0, 1) := by decide +kernel
theorem dX9_thrown_1 : decode cX9_thrown 1 = .ok (.getfield 128, 3) := by decide +kernel
theorem dX9_thrown_4 : decode cX9_thrown 4 = .ok (.ireturn, 1) := by decide +kernel
theorem dX9_in_0 : decode cX9_in 0 = .ok (.lload_n 0, 1) := by decide +kernel
theorem dX9_in_1 : decode cX9_in 1 = .ok (.lload_n 2, 1) := by decide +kernel
theorem dX9_in_2 : decode cX9_in 2 = .ok (.lcmp, 1) := by decide +kernel
theorem dX9_in_3 : decode cX9_in 3 = .ok (.ifCond .lt 14, 3) := by decide +kernel
theorem dX9_in_6 : decode cX9_in 6 = .ok (.lload_n 0, 1) := by decide +kernel
theorem dX9_in_7 : decode cX9_in 7 = .ok (.lload 4, 2) := by decide +kernel
theorem dX9_in_9 : decode cX9_in 9 = .ok (.lcmp, 1) := by decide +kernel
theorem dX9_in_10 : decode cX9_in 10 = .ok (.ifCond .gt 7, 3) := by decide +kernel
theorem dX9_in_13 : decode cX9_in 13 = .ok (.iconst 1, 1) := by decide +kernel
theorem dX9_in_14 : decode cX9_in 14 = .ok (.goto 4, 3) := by decide +kernel
theorem dX9_in_17 : decode cX9_in 17 = .ok (.iconst 0, 1) := by decide +kernel
theorem dX9_in_18 : decode cX9_in 18 = .ok (.ireturn, 1) := by decide +kernel
theorem dX9_isName_0 : decode cX9_isName 0 = .ok (.iload_n 0, 1) := by decide +kernel
theorem dX9_isName_1 : decode cX9_isName 1 = .ok (.i2l, 1) := by decide +kernel
theorem dX9_isName_2 : decode cX9_isName 2 = .ok (.lconst 0, 1) := by decide +kernel
theorem dX9_isName_3 : decode cX9_isName 3 = .ok (.ldc2_w 131, 3) := by decide +kernel
theorem dX9_isName_6 : decode cX9_isName 6 = .ok (.invokestatic 133, 3) := by decide +kernel
theorem dX9_isName_9 : decode cX9_isName 9 = .ok (.ireturn, 1) := by decide +kernel
theorem dX9_isLoader_0 : decode cX9_isLoader 0 = .ok (.iload_n 1, 1) := by decide +kernel
theorem dX9_isLoader_1 : decode cX9_isLoader 1 = .ok (.i2l, 1) := by decide +kernel
theorem dX9_isLoader_2 : decode cX9_isLoader 2 = .ok (.lconst 0, 1) := by decide +kernel
theorem dX9_isLoader_3 : decode cX9_isLoader 3 = .ok (.aload_n 0, 1) := by decide +kernel
theorem dX9_isLoader_4 : decode cX9_isLoader 4 = .ok (.getfield 44, 3) := by decide +kernel
theorem dX9_isLoader_7 : decode cX9_isLoader 7 = .ok (.iconst 1, 1) := by decide +kernel
theorem dX9_isLoader_8 : decode cX9_isLoader 8 = .ok (.isub, 1) := by decide +kernel
theorem dX9_isLoader_9 : decode cX9_isLoader 9 = .ok (.i2l, 1) := by decide +kernel
theorem dX9_isLoader_10 : decode cX9_isLoader 10 = .ok (.invokestatic 133, 3) := by decide +kernel
theorem dX9_isLoader_13 : decode cX9_isLoader 13 = .ok (.ireturn, 1) := by decide +kernel
theorem dX9_isFile_0 : decode cX9_isFile 0 = .ok (.iload_n 1, 1) := by decide +kernel
theorem dX9_isFile_1 : decode cX9_isFile 1 = .ok (.i2l, 1) := by decide +kernel
theorem dX9_isFile_2 : decode cX9_isFile 2 = .ok (.lconst 0, 1) := by decide +kernel
theorem dX9_isFile_3 : decode cX9_isFile 3 = .ok (.aload_n 0, 1) := by decide +kernel
theorem dX9_isFile_4 : decode cX9_isFile 4 = .ok (.getfield 137, 3) := by decide +kernel
theorem dX9_isFile_7 : decode cX9_isFile 7 = .ok (.iconst 1, 1) := by decide +kernel
theorem dX9_isFile_8 : decode cX9_isFile 8 = .ok (.isub, 1) := by decide +kernel
theorem dX9_isFile_9 : decode cX9_isFile 9 = .ok (.i2l, 1) := by decide +kernel
theorem dX9_isFile_10 : decode cX9_isFile 10 = .ok (.invokestatic 133, 3) := by decide +kernel
theorem dX9_isFile_13 : decode cX9_isFile 13 = .ok (.ireturn, 1) := by decide +kernel
theorem dX9_file_0 : decode cX9_file 0 = .ok (.aload_n 0, 1) := by decide +kernel
theorem dX9_file_1 : decode cX9_file 1 = .ok (.iconst 0, 1) := by decide +kernel
theorem dX9_file_2 : decode cX9_file 2 = .ok (.putfield 128, 3) := by decide +kernel
theorem dX9_file_5 : decode cX9_file 5 = .ok (.iload_n 1, 1) := by decide +kernel
theorem dX9_file_6 : decode cX9_file 6 = .ok (.invokestatic 140, 3) := by decide +kernel
theorem dX9_file_9 : decode cX9_file 9 = .ok (.ifCond .eq 28, 3) := by decide +kernel
theorem dX9_file_12 : decode cX9_file 12 = .ok (.iload_n 2, 1) := by decide +kernel
theorem dX9_file_13 : decode cX9_file 13 = .ok (.iconst (-1), 1) := by decide +kernel
theorem dX9_file_14 : decode cX9_file 14 = .ok (.if_icmp .eq 10, 3) := by decide +kernel
theorem dX9_file_17 : decode cX9_file 17 = .ok (.iload_n 2, 1) := by decide +kernel
theorem dX9_file_18 : decode cX9_file 18 = .ok (.invokestatic 140, 3) := by decide +kernel
theorem dX9_file_21 : decode cX9_file 21 = .ok (.ifCond .eq 16, 3) := by decide +kernel
theorem dX9_file_24 : decode cX9_file 24 = .ok (.iload 5, 2) := by decide +kernel
theorem dX9_file_26 : decode cX9_file 26 = .ok (.i2l, 1) := by decide +kernel
theorem dX9_file_27 : decode cX9_file 27 = .ok (.lconst 0, 1) := by decide +kernel
theorem dX9_file_28 : decode cX9_file 28 = .ok (.ldc2_w 144, 3) := by decide +kernel
theorem dX9_file_31 : decode cX9_file 31 = .ok (.invokestatic 133, 3) := by decide +kernel
theorem dX9_file_34 : decode cX9_file 34 = .ok (.ifCond .ne 5, 3) := by decide +kernel
theorem dX9_file_37 : decode cX9_file 37 = .ok (.iconst (-1), 1) := by decide +kernel
theorem dX9_file_38 : decode cX9_file 38 = .ok (.ireturn, 1) := by decide +kernel
theorem dX9_file_39 : decode cX9_file 39 = .ok (.aload_n 0, 1) := by decide +kernel
theorem dX9_file_40 : decode cX9_file 40 = .ok (.getfield 137, 3) := by decide +kernel
theorem dX9_file_43 : decode cX9_file 43 = .ok (.bipush 24, 2) := by decide +kernel
theorem dX9_file_45 : decode cX9_file 45 = .ok (.if_icmp .ne 6, 3) := by decide +kernel
theorem dX9_file_48 : decode cX9_file 48 = .ok (.bipush (-2), 2) := by decide +kernel
theorem dX9_file_50 : decode cX9_file 50 = .ok (.ireturn, 1) := by decide +kernel
theorem dX9_file_51 : decode cX9_file 51 = .ok (.aload_n 0, 1) := by decide +kernel
theorem dX9_file_52 : decode cX9_file 52 = .ok (.getfield 7, 3) := by decide +kernel
theorem dX9_file_55 : decode cX9_file 55 = .ok (.aload_n 0, 1) := by decide +kernel
theorem dX9_file_56 : decode cX9_file 56 = .ok (.getfield 137, 3) := by decide +kernel
theorem dX9_file_59 : decode cX9_file 59 = .ok (.iload_n 1, 1) := by decide +kernel
theorem dX9_file_60 : decode cX9_file 60 = .ok (.iastore, 1) := by decide +kernel
theorem dX9_file_61 : decode cX9_file 61 = .ok (.aload_n 0, 1) := by decide +kernel
theorem dX9_file_62 : decode cX9_file 62 = .ok (.getfield 13, 3) := by decide +kernel
theorem dX9_file_65 : decode cX9_file 65 = .ok (.aload_n 0, 1) := by decide +kernel
theorem dX9_file_66 : decode cX9_file 66 = .ok (.getfield 137, 3) := by decide +kernel
theorem dX9_file_69 : decode cX9_file 69 = .ok (.iload_n 2, 1) := by decide +kernel
theorem dX9_file_70 : decode cX9_file 70 = .ok (.iastore, 1) := by decide +kernel
theorem dX9_file_71 : decode cX9_file 71 = .ok (.aload_n 0, 1) := by decide +kernel
theorem dX9_file_72 : decode cX9_file 72 = .ok (.getfield 16, 3) := by decide +kernel
theorem dX9_file_75 : decode cX9_file 75 = .ok (.aload_n 0, 1) := by decide +kernel
theorem dX9_file_76 : decode cX9_file 76 = .ok (.getfield 137, 3) := by decide +kernel
theorem dX9_file_79 : decode cX9_file 79 = .ok (.iload_n 3, 1) := by decide +kernel
theorem dX9_file_80 : decode cX9_file 80 = .ok (.bastore, 1) := by decide +kernel
theorem dX9_file_81 : decode cX9_file 81 = .ok (.aload_n 0, 1) := by decide +kernel
theorem dX9_file_82 : decode cX9_file 82 = .ok (.getfield 20, 3) := by decide +kernel
theorem dX9_file_85 : decode cX9_file 85 = .ok (.aload_n 0, 1) := by decide +kernel
theorem dX9_file_86 : decode cX9_file 86 = .ok (.getfield 137, 3) := by decide +kernel
theorem dX9_file_89 : decode cX9_file 89 = .ok (.iload 4, 2) := by decide +kernel
theorem dX9_file_91 : decode cX9_file 91 = .ok (.bastore, 1) := by decide +kernel
theorem dX9_file_92 : decode cX9_file 92 = .ok (.aload_n 0, 1) := by decide +kernel
theorem dX9_file_93 : decode cX9_file 93 = .ok (.getfield 23, 3) := by decide +kernel
theorem dX9_file_96 : decode cX9_file 96 = .ok (.aload_n 0, 1) := by decide +kernel
theorem dX9_file_97 : decode cX9_file 97 = .ok (.getfield 137, 3) := by decide +kernel
theorem dX9_file_100 : decode cX9_file 100 = .ok (.iload 5, 2) := by decide +kernel
theorem dX9_file_102 : decode cX9_file 102 = .ok (.iastore, 1) := by decide +kernel
theorem dX9_file_103 : decode cX9_file 103 = .ok (.aload_n 0, 1) := by decide +kernel
theorem dX9_file_104 : decode cX9_file 104 = .ok (.dup, 1) := by decide +kernel
theorem dX9_file_105 : decode cX9_file 105 = .ok (.getfield 137, 3) := by decide +kernel
theorem dX9_file_108 : decode cX9_file 108 = .ok (.iconst 1, 1) := by decide +kernel
theorem dX9_file_109 : decode cX9_file 109 = .ok (.iadd, 1) := by decide +kernel
theorem dX9_file_110 : decode cX9_file 110 = .ok (.putfield 137, 3) := by decide +kernel
theorem dX9_file_113 : decode cX9_file 113 = .ok (.aload_n 0, 1) := by decide +kernel
theorem dX9_file_114 : decode cX9_file 114 = .ok (.getfield 137, 3) := by decide +kernel
theorem dX9_file_117 : decode cX9_file 117 = .ok (.iconst 1, 1) := by decide +kernel
theorem dX9_file_118 : decode cX9_file 118 = .ok (.isub, 1) := by decide +kernel
theorem dX9_file_119 : decode cX9_file 119 = .ok (.ireturn, 1) := by decide +kernel
theorem dX9_isOffered_0 : decode cX9_isOffered 0 = .ok (.iconst 0, 1) := by decide +kernel
theorem dX9_isOffered_1 : decode cX9_isOffered 1 = .ok (.istore_n 2, 1) := by decide +kernel
theorem dX9_isOffered_2 : decode cX9_isOffered 2 = .ok (.iconst 0, 1) := by decide +kernel
theorem dX9_isOffered_3 : decode cX9_isOffered 3 = .ok (.istore_n 3, 1) := by decide +kernel
theorem dX9_isOffered_4 : decode cX9_isOffered 4 = .ok (.iload_n 3, 1) := by decide +kernel
theorem dX9_isOffered_5 : decode cX9_isOffered 5 = .ok (.sipush 240, 3) := by decide +kernel
theorem dX9_isOffered_8 : decode cX9_isOffered 8 = .ok (.if_icmp .ge 29, 3) := by decide +kernel
theorem dX9_isOffered_11 : decode cX9_isOffered 11 = .ok (.iload_n 2, 1) := by decide +kernel
theorem dX9_isOffered_12 : decode cX9_isOffered 12 = .ok (.ifCond .ne 13, 3) := by decide +kernel
theorem dX9_isOffered_15 : decode cX9_isOffered 15 = .ok (.aload_n 0, 1) := by decide +kernel
theorem dX9_isOffered_16 : decode cX9_isOffered 16 = .ok (.getfield 51, 3) := by decide +kernel
theorem dX9_isOffered_19 : decode cX9_isOffered 19 = .ok (.iload_n 3, 1) := by decide +kernel
theorem dX9_isOffered_20 : decode cX9_isOffered 20 = .ok (.iaload, 1) := by decide +kernel
theorem dX9_isOffered_21 : decode cX9_isOffered 21 = .ok (.iload_n 1, 1) := by decide +kernel
theorem dX9_isOffered_22 : decode cX9_isOffered 22 = .ok (.if_icmp .ne 7, 3) := by decide +kernel
theorem dX9_isOffered_25 : decode cX9_isOffered 25 = .ok (.iconst 1, 1) := by decide +kernel
theorem dX9_isOffered_26 : decode cX9_isOffered 26 = .ok (.goto 4, 3) := by decide +kernel
theorem dX9_isOffered_29 : decode cX9_isOffered 29 = .ok (.iconst 0, 1) := by decide +kernel
theorem dX9_isOffered_30 : decode cX9_isOffered 30 = .ok (.istore_n 2, 1) := by decide +kernel
theorem dX9_isOffered_31 : decode cX9_isOffered 31 = .ok (.iinc 3 1, 3) := by decide +kernel
theorem dX9_isOffered_34 : decode cX9_isOffered 34 = .ok (.goto (-30), 3) := by decide +kernel
theorem dX9_isOffered_37 : decode cX9_isOffered 37 = .ok (.iload_n 2, 1) := by decide +kernel
theorem dX9_isOffered_38 : decode cX9_isOffered 38 = .ok (.ireturn, 1) := by decide +kernel
theorem dX9_under_0 : decode cX9_under 0 = .ok (.aload_n 0, 1) := by decide +kernel
theorem dX9_under_1 : decode cX9_under 1 = .ok (.iconst 0, 1) := by decide +kernel
theorem dX9_under_2 : decode cX9_under 2 = .ok (.putfield 128, 3) := by decide +kernel
theorem dX9_under_5 : decode cX9_under 5 = .ok (.aload_n 0, 1) := by decide +kernel
theorem dX9_under_6 : decode cX9_under 6 = .ok (.iload_n 1, 1) := by decide +kernel
theorem dX9_under_7 : decode cX9_under 7 = .ok (.invokevirtual 146, 3) := by decide +kernel
theorem dX9_under_10 : decode cX9_under 10 = .ok (.ifCond .eq 10, 3) := by decide +kernel
theorem dX9_under_13 : decode cX9_under 13 = .ok (.iload_n 2, 1) := by decide +kernel
theorem dX9_under_14 : decode cX9_under 14 = .ok (.invokestatic 140, 3) := by decide +kernel
theorem dX9_under_17 : decode cX9_under 17 = .ok (.ifCond .ne 5, 3) := by decide +kernel
theorem dX9_under_20 : decode cX9_under 20 = .ok (.iconst (-1), 1) := by decide +kernel
theorem dX9_under_21 : decode cX9_under 21 = .ok (.ireturn, 1) := by decide +kernel
theorem dX9_under_22 : decode cX9_under 22 = .ok (.aload_n 0, 1) := by decide +kernel
theorem dX9_under_23 : decode cX9_under 23 = .ok (.iload_n 1, 1) := by decide +kernel
theorem dX9_under_24 : decode cX9_under 24 = .ok (.invokevirtual 149, 3) := by decide +kernel
theorem dX9_under_27 : decode cX9_under 27 = .ok (.ifCond .eq 6, 3) := by decide +kernel
theorem dX9_under_30 : decode cX9_under 30 = .ok (.bipush (-3), 2) := by decide +kernel
theorem dX9_under_32 : decode cX9_under 32 = .ok (.ireturn, 1) := by decide +kernel
theorem dX9_under_33 : decode cX9_under 33 = .ok (.aload_n 0, 1) := by decide +kernel
theorem dX9_under_34 : decode cX9_under 34 = .ok (.getfield 26, 3) := by decide +kernel
theorem dX9_under_37 : decode cX9_under 37 = .ok (.iload_n 1, 1) := by decide +kernel
theorem dX9_under_38 : decode cX9_under 38 = .ok (.iaload, 1) := by decide +kernel
theorem dX9_under_39 : decode cX9_under 39 = .ok (.iconst 2, 1) := by decide +kernel
theorem dX9_under_40 : decode cX9_under 40 = .ok (.if_icmp .ne 6, 3) := by decide +kernel
theorem dX9_under_43 : decode cX9_under 43 = .ok (.bipush (-2), 2) := by decide +kernel
theorem dX9_under_45 : decode cX9_under 45 = .ok (.ireturn, 1) := by decide +kernel
theorem dX9_under_46 : decode cX9_under 46 = .ok (.aload_n 0, 1) := by decide +kernel
theorem dX9_under_47 : decode cX9_under 47 = .ok (.getfield 29, 3) := by decide +kernel
theorem dX9_under_50 : decode cX9_under 50 = .ok (.iconst 2, 1) := by decide +kernel
theorem dX9_under_51 : decode cX9_under 51 = .ok (.iload_n 1, 1) := by decide +kernel
theorem dX9_under_52 : decode cX9_under 52 = .ok (.imul, 1) := by decide +kernel
theorem dX9_under_53 : decode cX9_under 53 = .ok (.aload_n 0, 1) := by decide +kernel
theorem dX9_under_54 : decode cX9_under 54 = .ok (.getfield 26, 3) := by decide +kernel
theorem dX9_under_57 : decode cX9_under 57 = .ok (.iload_n 1, 1) := by decide +kernel
theorem dX9_under_58 : decode cX9_under 58 = .ok (.iaload, 1) := by decide +kernel
theorem dX9_under_59 : decode cX9_under 59 = .ok (.iadd, 1) := by decide +kernel
theorem dX9_under_60 : decode cX9_under 60 = .ok (.iload_n 2, 1) := by decide +kernel
theorem dX9_under_61 : decode cX9_under 61 = .ok (.iastore, 1) := by decide +kernel
theorem dX9_under_62 : decode cX9_under 62 = .ok (.aload_n 0, 1) := by decide +kernel
theorem dX9_under_63 : decode cX9_under 63 = .ok (.getfield 26, 3) := by decide +kernel
theorem dX9_under_66 : decode cX9_under 66 = .ok (.iload_n 1, 1) := by decide +kernel
theorem dX9_under_67 : decode cX9_under 67 = .ok (.dup2, 1) := by decide +kernel
theorem dX9_under_68 : decode cX9_under 68 = .ok (.iaload, 1) := by decide +kernel
theorem dX9_under_69 : decode cX9_under 69 = .ok (.iconst 1, 1) := by decide +kernel
theorem dX9_under_70 : decode cX9_under 70 = .ok (.iadd, 1) := by decide +kernel
theorem dX9_under_71 : decode cX9_under 71 = .ok (.iastore, 1) := by decide +kernel
theorem dX9_under_72 : decode cX9_under 72 = .ok (.aload_n 0, 1) := by decide +kernel
theorem dX9_under_73 : decode cX9_under 73 = .ok (.getfield 26, 3) := by decide +kernel
theorem dX9_under_76 : decode cX9_under 76 = .ok (.iload_n 1, 1) := by decide +kernel
theorem dX9_under_77 : decode cX9_under 77 = .ok (.iaload, 1) := by decide +kernel
theorem dX9_under_78 : decode cX9_under 78 = .ok (.ireturn, 1) := by decide +kernel
theorem dX9_act_0 : decode cX9_act 0 = .ok (.aload_n 0, 1) := by decide +kernel
theorem dX9_act_1 : decode cX9_act 1 = .ok (.iconst 0, 1) := by decide +kernel
theorem dX9_act_2 : decode cX9_act 2 = .ok (.putfield 128, 3) := by decide +kernel
theorem dX9_act_5 : decode cX9_act 5 = .ok (.aload_n 0, 1) := by decide +kernel
theorem dX9_act_6 : decode cX9_act 6 = .ok (.iload_n 1, 1) := by decide +kernel
theorem dX9_act_7 : decode cX9_act 7 = .ok (.invokevirtual 146, 3) := by decide +kernel
theorem dX9_act_10 : decode cX9_act 10 = .ok (.ifCond .eq 31, 3) := by decide +kernel
theorem dX9_act_13 : decode cX9_act 13 = .ok (.iload_n 2, 1) := by decide +kernel
theorem dX9_act_14 : decode cX9_act 14 = .ok (.i2l, 1) := by decide +kernel
theorem dX9_act_15 : decode cX9_act 15 = .ok (.lconst 0, 1) := by decide +kernel
theorem dX9_act_16 : decode cX9_act 16 = .ok (.ldc2_w 152, 3) := by decide +kernel
theorem dX9_act_19 : decode cX9_act 19 = .ok (.invokestatic 133, 3) := by decide +kernel
theorem dX9_act_22 : decode cX9_act 22 = .ok (.ifCond .eq 19, 3) := by decide +kernel
theorem dX9_act_25 : decode cX9_act 25 = .ok (.iload_n 3, 1) := by decide +kernel
theorem dX9_act_26 : decode cX9_act 26 = .ok (.i2l, 1) := by decide +kernel
theorem dX9_act_27 : decode cX9_act 27 = .ok (.lconst 0, 1) := by decide +kernel
theorem dX9_act_28 : decode cX9_act 28 = .ok (.ldc2_w 154, 3) := by decide +kernel
theorem dX9_act_31 : decode cX9_act 31 = .ok (.invokestatic 133, 3) := by decide +kernel
theorem dX9_act_34 : decode cX9_act 34 = .ok (.ifCond .eq 7, 3) := by decide +kernel
theorem dX9_act_37 : decode cX9_act 37 = .ok (.iconst 1, 1) := by decide +kernel
theorem dX9_act_38 : decode cX9_act 38 = .ok (.goto 4, 3) := by decide +kernel
theorem dX9_act_41 : decode cX9_act 41 = .ok (.iconst 0, 1) := by decide +kernel
theorem dX9_act_42 : decode cX9_act 42 = .ok (.istore 6, 2) := by decide +kernel
theorem dX9_act_44 : decode cX9_act 44 = .ok (.iload 6, 2) := by decide +kernel
theorem dX9_act_46 : decode cX9_act 46 = .ok (.ifCond .eq 64, 3) := by decide +kernel
theorem dX9_act_49 : decode cX9_act 49 = .ok (.iload_n 3, 1) := by decide +kernel
theorem dX9_act_50 : decode cX9_act 50 = .ok (.bipush 6, 2) := by decide +kernel
theorem dX9_act_52 : decode cX9_act 52 = .ok (.if_icmp .eq 9, 3) := by decide +kernel
theorem dX9_act_55 : decode cX9_act 55 = .ok (.iload_n 3, 1) := by decide +kernel
theorem dX9_act_56 : decode cX9_act 56 = .ok (.bipush 7, 2) := by decide +kernel
theorem dX9_act_58 : decode cX9_act 58 = .ok (.if_icmp .ne 11, 3) := by decide +kernel
theorem dX9_act_61 : decode cX9_act 61 = .ok (.iload 4, 2) := by decide +kernel
theorem dX9_act_63 : decode cX9_act 63 = .ok (.invokestatic 140, 3) := by decide +kernel
theorem dX9_act_66 : decode cX9_act 66 = .ok (.ifCond .eq 44, 3) := by decide +kernel
theorem dX9_act_69 : decode cX9_act 69 = .ok (.iload_n 3, 1) := by decide +kernel
theorem dX9_act_70 : decode cX9_act 70 = .ok (.bipush 8, 2) := by decide +kernel
theorem dX9_act_72 : decode cX9_act 72 = .ok (.if_icmp .ne 16, 3) := by decide +kernel
theorem dX9_act_75 : decode cX9_act 75 = .ok (.iload 4, 2) := by decide +kernel
theorem dX9_act_77 : decode cX9_act 77 = .ok (.i2l, 1) := by decide +kernel
theorem dX9_act_78 : decode cX9_act 78 = .ok (.lconst 0, 1) := by decide +kernel
theorem dX9_act_79 : decode cX9_act 79 = .ok (.ldc2_w 156, 3) := by decide +kernel
theorem dX9_act_82 : decode cX9_act 82 = .ok (.invokestatic 133, 3) := by decide +kernel
theorem dX9_act_85 : decode cX9_act 85 = .ok (.ifCond .eq 25, 3) := by decide +kernel
theorem dX9_act_88 : decode cX9_act 88 = .ok (.iload_n 3, 1) := by decide +kernel
theorem dX9_act_89 : decode cX9_act 89 = .ok (.iconst 5, 1) := by decide +kernel
theorem dX9_act_90 : decode cX9_act 90 = .ok (.if_icmp .ne 16, 3) := by decide +kernel
theorem dX9_act_93 : decode cX9_act 93 = .ok (.iload 5, 2) := by decide +kernel
theorem dX9_act_95 : decode cX9_act 95 = .ok (.i2l, 1) := by decide +kernel
theorem dX9_act_96 : decode cX9_act 96 = .ok (.lconst 0, 1) := by decide +kernel
theorem dX9_act_97 : decode cX9_act 97 = .ok (.ldc2_w 158, 3) := by decide +kernel
theorem dX9_act_100 : decode cX9_act 100 = .ok (.invokestatic 133, 3) := by decide +kernel
theorem dX9_act_103 : decode cX9_act 103 = .ok (.ifCond .eq 7, 3) := by decide +kernel
theorem dX9_act_106 : decode cX9_act 106 = .ok (.iconst 1, 1) := by decide +kernel
theorem dX9_act_107 : decode cX9_act 107 = .ok (.goto 4, 3) := by decide +kernel
theorem dX9_act_110 : decode cX9_act 110 = .ok (.iconst 0, 1) := by decide +kernel
theorem dX9_act_111 : decode cX9_act 111 = .ok (.istore 6, 2) := by decide +kernel
theorem dX9_act_113 : decode cX9_act 113 = .ok (.iload 6, 2) := by decide +kernel
theorem dX9_act_115 : decode cX9_act 115 = .ok (.ifCond .ne 5, 3) := by decide +kernel
theorem dX9_act_118 : decode cX9_act 118 = .ok (.iconst (-1), 1) := by decide +kernel
theorem dX9_act_119 : decode cX9_act 119 = .ok (.ireturn, 1) := by decide +kernel
theorem dX9_act_120 : decode cX9_act 120 = .ok (.aload_n 0, 1) := by decide +kernel
theorem dX9_act_121 : decode cX9_act 121 = .ok (.iload_n 1, 1) := by decide +kernel
theorem dX9_act_122 : decode cX9_act 122 = .ok (.invokevirtual 149, 3) := by decide +kernel
theorem dX9_act_125 : decode cX9_act 125 = .ok (.ifCond .eq 6, 3) := by decide +kernel
theorem dX9_act_128 : decode cX9_act 128 = .ok (.bipush (-3), 2) := by decide +kernel
theorem dX9_act_130 : decode cX9_act 130 = .ok (.ireturn, 1) := by decide +kernel
theorem dX9_act_131 : decode cX9_act 131 = .ok (.iconst 3, 1) := by decide +kernel
theorem dX9_act_132 : decode cX9_act 132 = .ok (.iload_n 1, 1) := by decide +kernel
theorem dX9_act_133 : decode cX9_act 133 = .ok (.imul, 1) := by decide +kernel
theorem dX9_act_134 : decode cX9_act 134 = .ok (.iload_n 2, 1) := by decide +kernel
theorem dX9_act_135 : decode cX9_act 135 = .ok (.iadd, 1) := by decide +kernel
theorem dX9_act_136 : decode cX9_act 136 = .ok (.istore 7, 2) := by decide +kernel
theorem dX9_act_138 : decode cX9_act 138 = .ok (.aload_n 0, 1) := by decide +kernel
theorem dX9_act_139 : decode cX9_act 139 = .ok (.getfield 32, 3) := by decide +kernel
theorem dX9_act_142 : decode cX9_act 142 = .ok (.iload 7, 2) := by decide +kernel
theorem dX9_act_144 : decode cX9_act 144 = .ok (.iaload, 1) := by decide +kernel
theorem dX9_act_145 : decode cX9_act 145 = .ok (.iconst 5, 1) := by decide +kernel
theorem dX9_act_146 : decode cX9_act 146 = .ok (.if_icmp .ne 6, 3) := by decide +kernel
theorem dX9_act_149 : decode cX9_act 149 = .ok (.bipush (-2), 2) := by decide +kernel
theorem dX9_act_151 : decode cX9_act 151 = .ok (.ireturn, 1) := by decide +kernel
theorem dX9_act_152 : decode cX9_act 152 = .ok (.iconst 5, 1) := by decide +kernel
theorem dX9_act_153 : decode cX9_act 153 = .ok (.iload 7, 2) := by decide +kernel
theorem dX9_act_155 : decode cX9_act 155 = .ok (.imul, 1) := by decide +kernel
theorem dX9_act_156 : decode cX9_act 156 = .ok (.aload_n 0, 1) := by decide +kernel
theorem dX9_act_157 : decode cX9_act 157 = .ok (.getfield 32, 3) := by decide +kernel
theorem dX9_act_160 : decode cX9_act 160 = .ok (.iload 7, 2) := by decide +kernel
theorem dX9_act_162 : decode cX9_act 162 = .ok (.iaload, 1) := by decide +kernel
theorem dX9_act_163 : decode cX9_act 163 = .ok (.iadd, 1) := by decide +kernel
theorem dX9_act_164 : decode cX9_act 164 = .ok (.istore 8, 2) := by decide +kernel
theorem dX9_act_166 : decode cX9_act 166 = .ok (.aload_n 0, 1) := by decide +kernel
theorem dX9_act_167 : decode cX9_act 167 = .ok (.getfield 35, 3) := by decide +kernel
theorem dX9_act_170 : decode cX9_act 170 = .ok (.iload 8, 2) := by decide +kernel
theorem dX9_act_172 : decode cX9_act 172 = .ok (.iload_n 3, 1) := by decide +kernel
theorem dX9_act_173 : decode cX9_act 173 = .ok (.iastore, 1) := by decide +kernel
theorem dX9_act_174 : decode cX9_act 174 = .ok (.aload_n 0, 1) := by decide +kernel
theorem dX9_act_175 : decode cX9_act 175 = .ok (.getfield 38, 3) := by decide +kernel
theorem dX9_act_178 : decode cX9_act 178 = .ok (.iload 8, 2) := by decide +kernel
theorem dX9_act_180 : decode cX9_act 180 = .ok (.iload 4, 2) := by decide +kernel
theorem dX9_act_182 : decode cX9_act 182 = .ok (.iastore, 1) := by decide +kernel
theorem dX9_act_183 : decode cX9_act 183 = .ok (.aload_n 0, 1) := by decide +kernel
theorem dX9_act_184 : decode cX9_act 184 = .ok (.getfield 41, 3) := by decide +kernel
theorem dX9_act_187 : decode cX9_act 187 = .ok (.iload 8, 2) := by decide +kernel
theorem dX9_act_189 : decode cX9_act 189 = .ok (.iload 5, 2) := by decide +kernel
theorem dX9_act_191 : decode cX9_act 191 = .ok (.iastore, 1) := by decide +kernel
theorem dX9_act_192 : decode cX9_act 192 = .ok (.aload_n 0, 1) := by decide +kernel
theorem dX9_act_193 : decode cX9_act 193 = .ok (.getfield 32, 3) := by decide +kernel
theorem dX9_act_196 : decode cX9_act 196 = .ok (.iload 7, 2) := by decide +kernel
theorem dX9_act_198 : decode cX9_act 198 = .ok (.dup2, 1) := by decide +kernel
theorem dX9_act_199 : decode cX9_act 199 = .ok (.iaload, 1) := by decide +kernel
theorem dX9_act_200 : decode cX9_act 200 = .ok (.iconst 1, 1) := by decide +kernel
theorem dX9_act_201 : decode cX9_act 201 = .ok (.iadd, 1) := by decide +kernel
theorem dX9_act_202 : decode cX9_act 202 = .ok (.iastore, 1) := by decide +kernel
theorem dX9_act_203 : decode cX9_act 203 = .ok (.aload_n 0, 1) := by decide +kernel
theorem dX9_act_204 : decode cX9_act 204 = .ok (.getfield 32, 3) := by decide +kernel
theorem dX9_act_207 : decode cX9_act 207 = .ok (.iload 7, 2) := by decide +kernel
theorem dX9_act_209 : decode cX9_act 209 = .ok (.iaload, 1) := by decide +kernel
theorem dX9_act_210 : decode cX9_act 210 = .ok (.ireturn, 1) := by decide +kernel
theorem dX9_loader_0 : decode cX9_loader 0 = .ok (.aload_n 0, 1) := by decide +kernel
theorem dX9_loader_1 : decode cX9_loader 1 = .ok (.iconst 0, 1) := by decide +kernel
theorem dX9_loader_2 : decode cX9_loader 2 = .ok (.putfield 128, 3) := by decide +kernel
theorem dX9_loader_5 : decode cX9_loader 5 = .ok (.aload_n 0, 1) := by decide +kernel
theorem dX9_loader_6 : decode cX9_loader 6 = .ok (.iload_n 1, 1) := by decide +kernel
theorem dX9_loader_7 : decode cX9_loader 7 = .ok (.invokevirtual 160, 3) := by decide +kernel
theorem dX9_loader_10 : decode cX9_loader 10 = .ok (.ifCond .ne 5, 3) := by decide +kernel
theorem dX9_loader_13 : decode cX9_loader 13 = .ok (.iconst (-1), 1) := by decide +kernel
theorem dX9_loader_14 : decode cX9_loader 14 = .ok (.ireturn, 1) := by decide +kernel
theorem dX9_loader_15 : decode cX9_loader 15 = .ok (.aload_n 0, 1) := by decide +kernel
theorem dX9_loader_16 : decode cX9_loader 16 = .ok (.getfield 44, 3) := by decide +kernel
theorem dX9_loader_19 : decode cX9_loader 19 = .ok (.bipush 8, 2) := by decide +kernel
theorem dX9_loader_21 : decode cX9_loader 21 = .ok (.if_icmp .ne 6, 3) := by decide +kernel
theorem dX9_loader_24 : decode cX9_loader 24 = .ok (.bipush (-2), 2) := by decide +kernel
theorem dX9_loader_26 : decode cX9_loader 26 = .ok (.ireturn, 1) := by decide +kernel
theorem dX9_loader_27 : decode cX9_loader 27 = .ok (.aload_n 0, 1) := by decide +kernel
theorem dX9_loader_28 : decode cX9_loader 28 = .ok (.getfield 48, 3) := by decide +kernel
theorem dX9_loader_31 : decode cX9_loader 31 = .ok (.aload_n 0, 1) := by decide +kernel
theorem dX9_loader_32 : decode cX9_loader 32 = .ok (.getfield 44, 3) := by decide +kernel
theorem dX9_loader_35 : decode cX9_loader 35 = .ok (.iload_n 1, 1) := by decide +kernel
theorem dX9_loader_36 : decode cX9_loader 36 = .ok (.iastore, 1) := by decide +kernel
theorem dX9_loader_37 : decode cX9_loader 37 = .ok (.aload_n 0, 1) := by decide +kernel
theorem dX9_loader_38 : decode cX9_loader 38 = .ok (.dup, 1) := by decide +kernel
theorem dX9_loader_39 : decode cX9_loader 39 = .ok (.getfield 44, 3) := by decide +kernel
theorem dX9_loader_42 : decode cX9_loader 42 = .ok (.iconst 1, 1) := by decide +kernel
theorem dX9_loader_43 : decode cX9_loader 43 = .ok (.iadd, 1) := by decide +kernel
theorem dX9_loader_44 : decode cX9_loader 44 = .ok (.putfield 44, 3) := by decide +kernel
theorem dX9_loader_47 : decode cX9_loader 47 = .ok (.aload_n 0, 1) := by decide +kernel
theorem dX9_loader_48 : decode cX9_loader 48 = .ok (.getfield 44, 3) := by decide +kernel
theorem dX9_loader_51 : decode cX9_loader 51 = .ok (.iconst 1, 1) := by decide +kernel
theorem dX9_loader_52 : decode cX9_loader 52 = .ok (.isub, 1) := by decide +kernel
theorem dX9_loader_53 : decode cX9_loader 53 = .ok (.ireturn, 1) := by decide +kernel
theorem dX9_offer_0 : decode cX9_offer 0 = .ok (.aload_n 0, 1) := by decide +kernel
theorem dX9_offer_1 : decode cX9_offer 1 = .ok (.iconst 0, 1) := by decide +kernel
theorem dX9_offer_2 : decode cX9_offer 2 = .ok (.putfield 128, 3) := by decide +kernel
theorem dX9_offer_5 : decode cX9_offer 5 = .ok (.aload_n 0, 1) := by decide +kernel
theorem dX9_offer_6 : decode cX9_offer 6 = .ok (.iload_n 1, 1) := by decide +kernel
theorem dX9_offer_7 : decode cX9_offer 7 = .ok (.invokevirtual 160, 3) := by decide +kernel
theorem dX9_offer_10 : decode cX9_offer 10 = .ok (.ifCond .eq 18, 3) := by decide +kernel
theorem dX9_offer_13 : decode cX9_offer 13 = .ok (.iload_n 2, 1) := by decide +kernel
theorem dX9_offer_14 : decode cX9_offer 14 = .ok (.invokestatic 140, 3) := by decide +kernel
theorem dX9_offer_17 : decode cX9_offer 17 = .ok (.ifCond .eq 11, 3) := by decide +kernel
theorem dX9_offer_20 : decode cX9_offer 20 = .ok (.aload_n 0, 1) := by decide +kernel
theorem dX9_offer_21 : decode cX9_offer 21 = .ok (.iload_n 3, 1) := by decide +kernel
theorem dX9_offer_22 : decode cX9_offer 22 = .ok (.invokevirtual 146, 3) := by decide +kernel
theorem dX9_offer_25 : decode cX9_offer 25 = .ok (.ifCond .ne 5, 3) := by decide +kernel
theorem dX9_offer_28 : decode cX9_offer 28 = .ok (.iconst (-1), 1) := by decide +kernel
theorem dX9_offer_29 : decode cX9_offer 29 = .ok (.ireturn, 1) := by decide +kernel
theorem dX9_offer_30 : decode cX9_offer 30 = .ok (.aload_n 0, 1) := by decide +kernel
theorem dX9_offer_31 : decode cX9_offer 31 = .ok (.getfield 51, 3) := by decide +kernel
theorem dX9_offer_34 : decode cX9_offer 34 = .ok (.bipush 30, 2) := by decide +kernel
theorem dX9_offer_36 : decode cX9_offer 36 = .ok (.iload_n 1, 1) := by decide +kernel
theorem dX9_offer_37 : decode cX9_offer 37 = .ok (.imul, 1) := by decide +kernel
theorem dX9_offer_38 : decode cX9_offer 38 = .ok (.iload_n 2, 1) := by decide +kernel
theorem dX9_offer_39 : decode cX9_offer 39 = .ok (.iadd, 1) := by decide +kernel
theorem dX9_offer_40 : decode cX9_offer 40 = .ok (.iaload, 1) := by decide +kernel
theorem dX9_offer_41 : decode cX9_offer 41 = .ok (.ifCond .lt 6, 3) := by decide +kernel
theorem dX9_offer_44 : decode cX9_offer 44 = .ok (.bipush (-3), 2) := by decide +kernel
theorem dX9_offer_46 : decode cX9_offer 46 = .ok (.ireturn, 1) := by decide +kernel
theorem dX9_offer_47 : decode cX9_offer 47 = .ok (.aload_n 0, 1) := by decide +kernel
theorem dX9_offer_48 : decode cX9_offer 48 = .ok (.getfield 51, 3) := by decide +kernel
theorem dX9_offer_51 : decode cX9_offer 51 = .ok (.bipush 30, 2) := by decide +kernel
theorem dX9_offer_53 : decode cX9_offer 53 = .ok (.iload_n 1, 1) := by decide +kernel
theorem dX9_offer_54 : decode cX9_offer 54 = .ok (.imul, 1) := by decide +kernel
theorem dX9_offer_55 : decode cX9_offer 55 = .ok (.iload_n 2, 1) := by decide +kernel
theorem dX9_offer_56 : decode cX9_offer 56 = .ok (.iadd, 1) := by decide +kernel
theorem dX9_offer_57 : decode cX9_offer 57 = .ok (.iload_n 3, 1) := by decide +kernel
theorem dX9_offer_58 : decode cX9_offer 58 = .ok (.iastore, 1) := by decide +kernel
theorem dX9_offer_59 : decode cX9_offer 59 = .ok (.iconst 1, 1) := by decide +kernel
theorem dX9_offer_60 : decode cX9_offer 60 = .ok (.ireturn, 1) := by decide +kernel
theorem dX9_isLoaderBelow_0 : decode cX9_isLoaderBelow 0 = .ok (.iload_n 1, 1) := by decide +kernel
theorem dX9_isLoaderBelow_1 : decode cX9_isLoaderBelow 1 = .ok (.istore_n 3, 1) := by decide +kernel
theorem dX9_isLoaderBelow_2 : decode cX9_isLoaderBelow 2 = .ok (.iload_n 3, 1) := by decide +kernel
theorem dX9_isLoaderBelow_3 : decode cX9_isLoaderBelow 3 = .ok (.ifCond .lt 18, 3) := by decide +kernel
theorem dX9_isLoaderBelow_6 : decode cX9_isLoaderBelow 6 = .ok (.iload_n 3, 1) := by decide +kernel
theorem dX9_isLoaderBelow_7 : decode cX9_isLoaderBelow 7 = .ok (.iload_n 2, 1) := by decide +kernel
theorem dX9_isLoaderBelow_8 : decode cX9_isLoaderBelow 8 = .ok (.if_icmp .eq 13, 3) := by decide +kernel
theorem dX9_isLoaderBelow_11 : decode cX9_isLoaderBelow 11 = .ok (.aload_n 0, 1) := by decide +kernel
theorem dX9_isLoaderBelow_12 : decode cX9_isLoaderBelow 12 = .ok (.getfield 48, 3) := by decide +kernel
theorem dX9_isLoaderBelow_15 : decode cX9_isLoaderBelow 15 = .ok (.iload_n 3, 1) := by decide +kernel
theorem dX9_isLoaderBelow_16 : decode cX9_isLoaderBelow 16 = .ok (.iaload, 1) := by decide +kernel
theorem dX9_isLoaderBelow_17 : decode cX9_isLoaderBelow 17 = .ok (.istore_n 3, 1) := by decide +kernel
theorem dX9_isLoaderBelow_18 : decode cX9_isLoaderBelow 18 = .ok (.goto (-16), 3) := by decide +kernel
theorem dX9_isLoaderBelow_21 : decode cX9_isLoaderBelow 21 = .ok (.iload_n 3, 1) := by decide +kernel
theorem dX9_isLoaderBelow_22 : decode cX9_isLoaderBelow 22 = .ok (.iload_n 2, 1) := by decide +kernel
theorem dX9_isLoaderBelow_23 : decode cX9_isLoaderBelow 23 = .ok (.if_icmp .ne 7, 3) := by decide +kernel
theorem dX9_isLoaderBelow_26 : decode cX9_isLoaderBelow 26 = .ok (.iconst 1, 1) := by decide +kernel
theorem dX9_isLoaderBelow_27 : decode cX9_isLoaderBelow 27 = .ok (.goto 4, 3) := by decide +kernel
theorem dX9_isLoaderBelow_30 : decode cX9_isLoaderBelow 30 = .ok (.iconst 0, 1) := by decide +kernel
theorem dX9_isLoaderBelow_31 : decode cX9_isLoaderBelow 31 = .ok (.ireturn, 1) := by decide +kernel
theorem dX9_look_0 : decode cX9_look 0 = .ok (.aload_n 0, 1) := by decide +kernel
theorem dX9_look_1 : decode cX9_look 1 = .ok (.getfield 69, 3) := by decide +kernel
theorem dX9_look_4 : decode cX9_look 4 = .ok (.aload_n 0, 1) := by decide +kernel
theorem dX9_look_5 : decode cX9_look 5 = .ok (.getfield 163, 3) := by decide +kernel
theorem dX9_look_8 : decode cX9_look 8 = .ok (.bipush 30, 2) := by decide +kernel
theorem dX9_look_10 : decode cX9_look 10 = .ok (.iload_n 1, 1) := by decide +kernel
theorem dX9_look_11 : decode cX9_look 11 = .ok (.imul, 1) := by decide +kernel
theorem dX9_look_12 : decode cX9_look 12 = .ok (.iload_n 2, 1) := by decide +kernel
theorem dX9_look_13 : decode cX9_look 13 = .ok (.iadd, 1) := by decide +kernel
theorem dX9_look_14 : decode cX9_look 14 = .ok (.iastore, 1) := by decide +kernel
theorem dX9_look_15 : decode cX9_look 15 = .ok (.aload_n 0, 1) := by decide +kernel
theorem dX9_look_16 : decode cX9_look 16 = .ok (.getfield 72, 3) := by decide +kernel
theorem dX9_look_19 : decode cX9_look 19 = .ok (.aload_n 0, 1) := by decide +kernel
theorem dX9_look_20 : decode cX9_look 20 = .ok (.getfield 163, 3) := by decide +kernel
theorem dX9_look_23 : decode cX9_look 23 = .ok (.iload_n 3, 1) := by decide +kernel
theorem dX9_look_24 : decode cX9_look 24 = .ok (.iastore, 1) := by decide +kernel
theorem dX9_look_25 : decode cX9_look 25 = .ok (.aload_n 0, 1) := by decide +kernel
theorem dX9_look_26 : decode cX9_look 26 = .ok (.dup, 1) := by decide +kernel
theorem dX9_look_27 : decode cX9_look 27 = .ok (.getfield 163, 3) := by decide +kernel
theorem dX9_look_30 : decode cX9_look 30 = .ok (.iconst 1, 1) := by decide +kernel
theorem dX9_look_31 : decode cX9_look 31 = .ok (.iadd, 1) := by decide +kernel
theorem dX9_look_32 : decode cX9_look 32 = .ok (.putfield 163, 3) := by decide +kernel
theorem dX9_look_35 : decode cX9_look 35 = .ok (.return_, 1) := by decide +kernel
theorem dX9_gives_0 : decode cX9_gives 0 = .ok (.aload_n 0, 1) := by decide +kernel
theorem dX9_gives_1 : decode cX9_gives 1 = .ok (.iload_n 1, 1) := by decide +kernel
theorem dX9_gives_2 : decode cX9_gives 2 = .ok (.putfield 166, 3) := by decide +kernel
theorem dX9_gives_5 : decode cX9_gives 5 = .ok (.aload_n 0, 1) := by decide +kernel
theorem dX9_gives_6 : decode cX9_gives 6 = .ok (.dup, 1) := by decide +kernel
theorem dX9_gives_7 : decode cX9_gives 7 = .ok (.getfield 163, 3) := by decide +kernel
theorem dX9_gives_10 : decode cX9_gives 10 = .ok (.iconst 1, 1) := by decide +kernel
theorem dX9_gives_11 : decode cX9_gives 11 = .ok (.isub, 1) := by decide +kernel
theorem dX9_gives_12 : decode cX9_gives 12 = .ok (.putfield 163, 3) := by decide +kernel
theorem dX9_gives_15 : decode cX9_gives 15 = .ok (.return_, 1) := by decide +kernel
theorem dX9_fails_0 : decode cX9_fails 0 = .ok (.aload_n 0, 1) := by decide +kernel
theorem dX9_fails_1 : decode cX9_fails 1 = .ok (.getfield 57, 3) := by decide +kernel
theorem dX9_fails_4 : decode cX9_fails 4 = .ok (.iload_n 1, 1) := by decide +kernel
theorem dX9_fails_5 : decode cX9_fails 5 = .ok (.iconst 0, 1) := by decide +kernel
theorem dX9_fails_6 : decode cX9_fails 6 = .ok (.bastore, 1) := by decide +kernel
theorem dX9_fails_7 : decode cX9_fails 7 = .ok (.aload_n 0, 1) := by decide +kernel
theorem dX9_fails_8 : decode cX9_fails 8 = .ok (.iload_n 2, 1) := by decide +kernel
theorem dX9_fails_9 : decode cX9_fails 9 = .ok (.ineg, 1) := by decide +kernel
theorem dX9_fails_10 : decode cX9_fails 10 = .ok (.invokevirtual 169, 3) := by decide +kernel
theorem dX9_fails_13 : decode cX9_fails 13 = .ok (.return_, 1) := by decide +kernel
theorem dX9_findFrom_0 : decode cX9_findFrom 0 = .ok (.aload_n 0, 1) := by decide +kernel
theorem dX9_findFrom_1 : decode cX9_findFrom 1 = .ok (.iconst 0, 1) := by decide +kernel
theorem dX9_findFrom_2 : decode cX9_findFrom 2 = .ok (.putfield 163, 3) := by decide +kernel
theorem dX9_findFrom_5 : decode cX9_findFrom 5 = .ok (.aload_n 0, 1) := by decide +kernel
theorem dX9_findFrom_6 : decode cX9_findFrom 6 = .ok (.iload_n 1, 1) := by decide +kernel
theorem dX9_findFrom_7 : decode cX9_findFrom 7 = .ok (.iload_n 2, 1) := by decide +kernel
theorem dX9_findFrom_8 : decode cX9_findFrom 8 = .ok (.iload_n 3, 1) := by decide +kernel
theorem dX9_findFrom_9 : decode cX9_findFrom 9 = .ok (.invokevirtual 173, 3) := by decide +kernel
theorem dX9_findFrom_12 : decode cX9_findFrom 12 = .ok (.aload_n 0, 1) := by decide +kernel
theorem dX9_findFrom_13 : decode cX9_findFrom 13 = .ok (.getfield 163, 3) := by decide +kernel
theorem dX9_findFrom_16 : decode cX9_findFrom 16 = .ok (.ifCond .le 130, 3) := by decide +kernel
theorem dX9_findFrom_19 : decode cX9_findFrom 19 = .ok (.aload_n 0, 1) := by decide +kernel
theorem dX9_findFrom_20 : decode cX9_findFrom 20 = .ok (.getfield 163, 3) := by decide +kernel
theorem dX9_findFrom_23 : decode cX9_findFrom 23 = .ok (.iconst 1, 1) := by decide +kernel
theorem dX9_findFrom_24 : decode cX9_findFrom 24 = .ok (.isub, 1) := by decide +kernel
theorem dX9_findFrom_25 : decode cX9_findFrom 25 = .ok (.istore 4, 2) := by decide +kernel
theorem dX9_findFrom_27 : decode cX9_findFrom 27 = .ok (.aload_n 0, 1) := by decide +kernel
theorem dX9_findFrom_28 : decode cX9_findFrom 28 = .ok (.getfield 69, 3) := by decide +kernel
theorem dX9_findFrom_31 : decode cX9_findFrom 31 = .ok (.iload 4, 2) := by decide +kernel
theorem dX9_findFrom_33 : decode cX9_findFrom 33 = .ok (.iaload, 1) := by decide +kernel
theorem dX9_findFrom_34 : decode cX9_findFrom 34 = .ok (.istore 5, 2) := by decide +kernel
theorem dX9_findFrom_36 : decode cX9_findFrom 36 = .ok (.aload_n 0, 1) := by decide +kernel
theorem dX9_findFrom_37 : decode cX9_findFrom 37 = .ok (.getfield 72, 3) := by decide +kernel
theorem dX9_findFrom_40 : decode cX9_findFrom 40 = .ok (.iload 4, 2) := by decide +kernel
theorem dX9_findFrom_42 : decode cX9_findFrom 42 = .ok (.iaload, 1) := by decide +kernel
theorem dX9_findFrom_43 : decode cX9_findFrom 43 = .ok (.tableswitch 92 0 3 #[29, 40, 70, 81], 29) := by decide +kernel
theorem dX9_findFrom_72 : decode cX9_findFrom 72 = .ok (.aload_n 0, 1) := by decide +kernel
theorem dX9_findFrom_73 : decode cX9_findFrom 73 = .ok (.iload 4, 2) := by decide +kernel
theorem dX9_findFrom_75 : decode cX9_findFrom 75 = .ok (.iload 5, 2) := by decide +kernel
theorem dX9_findFrom_77 : decode cX9_findFrom 77 = .ok (.invokevirtual 177, 3) := by decide +kernel
theorem dX9_findFrom_80 : decode cX9_findFrom 80 = .ok (.goto 63, 3) := by decide +kernel
theorem dX9_findFrom_83 : decode cX9_findFrom 83 = .ok (.aload_n 0, 1) := by decide +kernel
theorem dX9_findFrom_84 : decode cX9_findFrom 84 = .ok (.getfield 166, 3) := by decide +kernel
theorem dX9_findFrom_87 : decode cX9_findFrom 87 = .ok (.iconst (-1), 1) := by decide +kernel
theorem dX9_findFrom_88 : decode cX9_findFrom 88 = .ok (.if_icmp .ne 14, 3) := by decide +kernel
theorem dX9_findFrom_91 : decode cX9_findFrom 91 = .ok (.aload_n 0, 1) := by decide +kernel
theorem dX9_findFrom_92 : decode cX9_findFrom 92 = .ok (.getfield 72, 3) := by decide +kernel
theorem dX9_findFrom_95 : decode cX9_findFrom 95 = .ok (.iload 4, 2) := by decide +kernel
theorem dX9_findFrom_97 : decode cX9_findFrom 97 = .ok (.iconst 2, 1) := by decide +kernel
theorem dX9_findFrom_98 : decode cX9_findFrom 98 = .ok (.iastore, 1) := by decide +kernel
theorem dX9_findFrom_99 : decode cX9_findFrom 99 = .ok (.goto 44, 3) := by decide +kernel
theorem dX9_findFrom_102 : decode cX9_findFrom 102 = .ok (.aload_n 0, 1) := by decide +kernel
theorem dX9_findFrom_103 : decode cX9_findFrom 103 = .ok (.aload_n 0, 1) := by decide +kernel
theorem dX9_findFrom_104 : decode cX9_findFrom 104 = .ok (.getfield 166, 3) := by decide +kernel
theorem dX9_findFrom_107 : decode cX9_findFrom 107 = .ok (.invokevirtual 169, 3) := by decide +kernel
theorem dX9_findFrom_110 : decode cX9_findFrom 110 = .ok (.goto 33, 3) := by decide +kernel
theorem dX9_findFrom_113 : decode cX9_findFrom 113 = .ok (.aload_n 0, 1) := by decide +kernel
theorem dX9_findFrom_114 : decode cX9_findFrom 114 = .ok (.iload 4, 2) := by decide +kernel
theorem dX9_findFrom_116 : decode cX9_findFrom 116 = .ok (.iload 5, 2) := by decide +kernel
theorem dX9_findFrom_118 : decode cX9_findFrom 118 = .ok (.invokevirtual 181, 3) := by decide +kernel
theorem dX9_findFrom_121 : decode cX9_findFrom 121 = .ok (.goto 22, 3) := by decide +kernel
theorem dX9_findFrom_124 : decode cX9_findFrom 124 = .ok (.aload_n 0, 1) := by decide +kernel
theorem dX9_findFrom_125 : decode cX9_findFrom 125 = .ok (.iload 4, 2) := by decide +kernel
theorem dX9_findFrom_127 : decode cX9_findFrom 127 = .ok (.iload 5, 2) := by decide +kernel
theorem dX9_findFrom_129 : decode cX9_findFrom 129 = .ok (.invokevirtual 184, 3) := by decide +kernel
theorem dX9_findFrom_132 : decode cX9_findFrom 132 = .ok (.goto 11, 3) := by decide +kernel
theorem dX9_findFrom_135 : decode cX9_findFrom 135 = .ok (.aload_n 0, 1) := by decide +kernel
theorem dX9_findFrom_136 : decode cX9_findFrom 136 = .ok (.iload 4, 2) := by decide +kernel
theorem dX9_findFrom_138 : decode cX9_findFrom 138 = .ok (.iload 5, 2) := by decide +kernel
theorem dX9_findFrom_140 : decode cX9_findFrom 140 = .ok (.invokevirtual 187, 3) := by decide +kernel
theorem dX9_findFrom_143 : decode cX9_findFrom 143 = .ok (.goto (-131), 3) := by decide +kernel
theorem dX9_findFrom_146 : decode cX9_findFrom 146 = .ok (.aload_n 0, 1) := by decide +kernel
theorem dX9_findFrom_147 : decode cX9_findFrom 147 = .ok (.getfield 166, 3) := by decide +kernel
theorem dX9_findFrom_150 : decode cX9_findFrom 150 = .ok (.ireturn, 1) := by decide +kernel
theorem dX9_first_0 : decode cX9_first 0 = .ok (.aload_n 0, 1) := by decide +kernel
theorem dX9_first_1 : decode cX9_first 1 = .ok (.getfield 48, 3) := by decide +kernel
theorem dX9_first_4 : decode cX9_first 4 = .ok (.iload_n 2, 1) := by decide +kernel
theorem dX9_first_5 : decode cX9_first 5 = .ok (.bipush 30, 2) := by decide +kernel
theorem dX9_first_7 : decode cX9_first 7 = .ok (.idiv, 1) := by decide +kernel
theorem dX9_first_8 : decode cX9_first 8 = .ok (.iaload, 1) := by decide +kernel
theorem dX9_first_9 : decode cX9_first 9 = .ok (.istore_n 3, 1) := by decide +kernel
theorem dX9_first_10 : decode cX9_first 10 = .ok (.aload_n 0, 1) := by decide +kernel
theorem dX9_first_11 : decode cX9_first 11 = .ok (.getfield 54, 3) := by decide +kernel
theorem dX9_first_14 : decode cX9_first 14 = .ok (.iload_n 2, 1) := by decide +kernel
theorem dX9_first_15 : decode cX9_first 15 = .ok (.baload, 1) := by decide +kernel
theorem dX9_first_16 : decode cX9_first 16 = .ok (.ifCond .eq 11, 3) := by decide +kernel
theorem dX9_first_19 : decode cX9_first 19 = .ok (.aload_n 0, 1) := by decide +kernel
theorem dX9_first_20 : decode cX9_first 20 = .ok (.iload_n 2, 1) := by decide +kernel
theorem dX9_first_21 : decode cX9_first 21 = .ok (.invokevirtual 169, 3) := by decide +kernel
theorem dX9_first_24 : decode cX9_first 24 = .ok (.goto 34, 3) := by decide +kernel
theorem dX9_first_27 : decode cX9_first 27 = .ok (.iload_n 3, 1) := by decide +kernel
theorem dX9_first_28 : decode cX9_first 28 = .ok (.ifCond .ge 13, 3) := by decide +kernel
theorem dX9_first_31 : decode cX9_first 31 = .ok (.aload_n 0, 1) := by decide +kernel
theorem dX9_first_32 : decode cX9_first 32 = .ok (.getfield 72, 3) := by decide +kernel
theorem dX9_first_35 : decode cX9_first 35 = .ok (.iload_n 1, 1) := by decide +kernel
theorem dX9_first_36 : decode cX9_first 36 = .ok (.iconst 2, 1) := by decide +kernel
theorem dX9_first_37 : decode cX9_first 37 = .ok (.iastore, 1) := by decide +kernel
theorem dX9_first_38 : decode cX9_first 38 = .ok (.goto 20, 3) := by decide +kernel
theorem dX9_first_41 : decode cX9_first 41 = .ok (.aload_n 0, 1) := by decide +kernel
theorem dX9_first_42 : decode cX9_first 42 = .ok (.getfield 72, 3) := by decide +kernel
theorem dX9_first_45 : decode cX9_first 45 = .ok (.iload_n 1, 1) := by decide +kernel
theorem dX9_first_46 : decode cX9_first 46 = .ok (.iconst 1, 1) := by decide +kernel
theorem dX9_first_47 : decode cX9_first 47 = .ok (.iastore, 1) := by decide +kernel
theorem dX9_first_48 : decode cX9_first 48 = .ok (.aload_n 0, 1) := by decide +kernel
theorem dX9_first_49 : decode cX9_first 49 = .ok (.iload_n 3, 1) := by decide +kernel
theorem dX9_first_50 : decode cX9_first 50 = .ok (.iload_n 2, 1) := by decide +kernel
theorem dX9_first_51 : decode cX9_first 51 = .ok (.bipush 30, 2) := by decide +kernel
theorem dX9_first_53 : decode cX9_first 53 = .ok (.irem, 1) := by decide +kernel
theorem dX9_first_54 : decode cX9_first 54 = .ok (.iconst 0, 1) := by decide +kernel
theorem dX9_first_55 : decode cX9_first 55 = .ok (.invokevirtual 173, 3) := by decide +kernel
theorem dX9_first_58 : decode cX9_first 58 = .ok (.return_, 1) := by decide +kernel
theorem dX9_begin_0 : decode cX9_begin 0 = .ok (.iload_n 2, 1) := by decide +kernel
theorem dX9_begin_1 : decode cX9_begin 1 = .ok (.bipush 30, 2) := by decide +kernel
theorem dX9_begin_3 : decode cX9_begin 3 = .ok (.idiv, 1) := by decide +kernel
theorem dX9_begin_4 : decode cX9_begin 4 = .ok (.istore_n 3, 1) := by decide +kernel
theorem dX9_begin_5 : decode cX9_begin 5 = .ok (.iload_n 2, 1) := by decide +kernel
theorem dX9_begin_6 : decode cX9_begin 6 = .ok (.bipush 30, 2) := by decide +kernel
theorem dX9_begin_8 : decode cX9_begin 8 = .ok (.irem, 1) := by decide +kernel
theorem dX9_begin_9 : decode cX9_begin 9 = .ok (.istore 4, 2) := by decide +kernel
theorem dX9_begin_11 : decode cX9_begin 11 = .ok (.aload_n 0, 1) := by decide +kernel
theorem dX9_begin_12 : decode cX9_begin 12 = .ok (.getfield 51, 3) := by decide +kernel
theorem dX9_begin_15 : decode cX9_begin 15 = .ok (.iload_n 2, 1) := by decide +kernel
theorem dX9_begin_16 : decode cX9_begin 16 = .ok (.iaload, 1) := by decide +kernel
theorem dX9_begin_17 : decode cX9_begin 17 = .ok (.istore 5, 2) := by decide +kernel
theorem dX9_begin_19 : decode cX9_begin 19 = .ok (.iload 5, 2) := by decide +kernel
theorem dX9_begin_21 : decode cX9_begin 21 = .ok (.ifCond .ge 7, 3) := by decide +kernel
theorem dX9_begin_24 : decode cX9_begin 24 = .ok (.iconst 1, 1) := by decide +kernel
theorem dX9_begin_25 : decode cX9_begin 25 = .ok (.goto 47, 3) := by decide +kernel
theorem dX9_begin_28 : decode cX9_begin 28 = .ok (.iload_n 3, 1) := by decide +kernel
theorem dX9_begin_29 : decode cX9_begin 29 = .ok (.ifCond .le 13, 3) := by decide +kernel
theorem dX9_begin_32 : decode cX9_begin 32 = .ok (.iload 4, 2) := by decide +kernel
theorem dX9_begin_34 : decode cX9_begin 34 = .ok (.iconst 5, 1) := by decide +kernel
theorem dX9_begin_35 : decode cX9_begin 35 = .ok (.if_icmp .ge 7, 3) := by decide +kernel
theorem dX9_begin_38 : decode cX9_begin 38 = .ok (.iconst 4, 1) := by decide +kernel
theorem dX9_begin_39 : decode cX9_begin 39 = .ok (.goto 33, 3) := by decide +kernel
theorem dX9_begin_42 : decode cX9_begin 42 = .ok (.aload_n 0, 1) := by decide +kernel
theorem dX9_begin_43 : decode cX9_begin 43 = .ok (.getfield 7, 3) := by decide +kernel
theorem dX9_begin_46 : decode cX9_begin 46 = .ok (.iload 5, 2) := by decide +kernel
theorem dX9_begin_48 : decode cX9_begin 48 = .ok (.iaload, 1) := by decide +kernel
theorem dX9_begin_49 : decode cX9_begin 49 = .ok (.iload 4, 2) := by decide +kernel
theorem dX9_begin_51 : decode cX9_begin 51 = .ok (.if_icmp .eq 7, 3) := by decide +kernel
theorem dX9_begin_54 : decode cX9_begin 54 = .ok (.iconst 2, 1) := by decide +kernel
theorem dX9_begin_55 : decode cX9_begin 55 = .ok (.goto 17, 3) := by decide +kernel
theorem dX9_begin_58 : decode cX9_begin 58 = .ok (.aload_n 0, 1) := by decide +kernel
theorem dX9_begin_59 : decode cX9_begin 59 = .ok (.getfield 57, 3) := by decide +kernel
theorem dX9_begin_62 : decode cX9_begin 62 = .ok (.iload_n 2, 1) := by decide +kernel
theorem dX9_begin_63 : decode cX9_begin 63 = .ok (.baload, 1) := by decide +kernel
theorem dX9_begin_64 : decode cX9_begin 64 = .ok (.ifCond .eq 7, 3) := by decide +kernel
theorem dX9_begin_67 : decode cX9_begin 67 = .ok (.iconst 5, 1) := by decide +kernel
theorem dX9_begin_68 : decode cX9_begin 68 = .ok (.goto 4, 3) := by decide +kernel
theorem dX9_begin_71 : decode cX9_begin 71 = .ok (.iconst 0, 1) := by decide +kernel
theorem dX9_begin_72 : decode cX9_begin 72 = .ok (.istore 6, 2) := by decide +kernel
theorem dX9_begin_74 : decode cX9_begin 74 = .ok (.iload 6, 2) := by decide +kernel
theorem dX9_begin_76 : decode cX9_begin 76 = .ok (.ifCond .le 11, 3) := by decide +kernel
theorem dX9_begin_79 : decode cX9_begin 79 = .ok (.aload_n 0, 1) := by decide +kernel
theorem dX9_begin_80 : decode cX9_begin 80 = .ok (.iload 6, 2) := by decide +kernel
theorem dX9_begin_82 : decode cX9_begin 82 = .ok (.ineg, 1) := by decide +kernel
theorem dX9_begin_83 : decode cX9_begin 83 = .ok (.invokevirtual 169, 3) := by decide +kernel
theorem dX9_begin_86 : decode cX9_begin 86 = .ok (.return_, 1) := by decide +kernel
theorem dX9_begin_87 : decode cX9_begin 87 = .ok (.aload_n 0, 1) := by decide +kernel
theorem dX9_begin_88 : decode cX9_begin 88 = .ok (.getfield 57, 3) := by decide +kernel
theorem dX9_begin_91 : decode cX9_begin 91 = .ok (.iload_n 2, 1) := by decide +kernel
theorem dX9_begin_92 : decode cX9_begin 92 = .ok (.iconst 1, 1) := by decide +kernel
theorem dX9_begin_93 : decode cX9_begin 93 = .ok (.bastore, 1) := by decide +kernel
theorem dX9_begin_94 : decode cX9_begin 94 = .ok (.aload_n 0, 1) := by decide +kernel
theorem dX9_begin_95 : decode cX9_begin 95 = .ok (.getfield 60, 3) := by decide +kernel
theorem dX9_begin_98 : decode cX9_begin 98 = .ok (.iload_n 2, 1) := by decide +kernel
theorem dX9_begin_99 : decode cX9_begin 99 = .ok (.iconst (-1), 1) := by decide +kernel
theorem dX9_begin_100 : decode cX9_begin 100 = .ok (.iastore, 1) := by decide +kernel
theorem dX9_begin_101 : decode cX9_begin 101 = .ok (.aload_n 0, 1) := by decide +kernel
theorem dX9_begin_102 : decode cX9_begin 102 = .ok (.getfield 13, 3) := by decide +kernel
theorem dX9_begin_105 : decode cX9_begin 105 = .ok (.iload 5, 2) := by decide +kernel
theorem dX9_begin_107 : decode cX9_begin 107 = .ok (.iaload, 1) := by decide +kernel
theorem dX9_begin_108 : decode cX9_begin 108 = .ok (.ifCond .ge 13, 3) := by decide +kernel
theorem dX9_begin_111 : decode cX9_begin 111 = .ok (.aload_n 0, 1) := by decide +kernel
theorem dX9_begin_112 : decode cX9_begin 112 = .ok (.getfield 72, 3) := by decide +kernel
theorem dX9_begin_115 : decode cX9_begin 115 = .ok (.iload_n 1, 1) := by decide +kernel
theorem dX9_begin_116 : decode cX9_begin 116 = .ok (.iconst 4, 1) := by decide +kernel
theorem dX9_begin_117 : decode cX9_begin 117 = .ok (.iastore, 1) := by decide +kernel
theorem dX9_begin_118 : decode cX9_begin 118 = .ok (.goto 23, 3) := by decide +kernel
theorem dX9_begin_121 : decode cX9_begin 121 = .ok (.aload_n 0, 1) := by decide +kernel
theorem dX9_begin_122 : decode cX9_begin 122 = .ok (.getfield 72, 3) := by decide +kernel
theorem dX9_begin_125 : decode cX9_begin 125 = .ok (.iload_n 1, 1) := by decide +kernel
theorem dX9_begin_126 : decode cX9_begin 126 = .ok (.iconst 3, 1) := by decide +kernel
theorem dX9_begin_127 : decode cX9_begin 127 = .ok (.iastore, 1) := by decide +kernel
theorem dX9_begin_128 : decode cX9_begin 128 = .ok (.aload_n 0, 1) := by decide +kernel
theorem dX9_begin_129 : decode cX9_begin 129 = .ok (.iload_n 3, 1) := by decide +kernel
theorem dX9_begin_130 : decode cX9_begin 130 = .ok (.aload_n 0, 1) := by decide +kernel
theorem dX9_begin_131 : decode cX9_begin 131 = .ok (.getfield 13, 3) := by decide +kernel
theorem dX9_begin_134 : decode cX9_begin 134 = .ok (.iload 5, 2) := by decide +kernel
theorem dX9_begin_136 : decode cX9_begin 136 = .ok (.iaload, 1) := by decide +kernel
theorem dX9_begin_137 : decode cX9_begin 137 = .ok (.iconst 0, 1) := by decide +kernel
theorem dX9_begin_138 : decode cX9_begin 138 = .ok (.invokevirtual 173, 3) := by decide +kernel
theorem dX9_begin_141 : decode cX9_begin 141 = .ok (.return_, 1) := by decide +kernel
theorem dX9_aboveMany_0 : decode cX9_aboveMany 0 = .ok (.iconst 0, 1) := by decide +kernel
theorem dX9_aboveMany_1 : decode cX9_aboveMany 1 = .ok (.istore_n 2, 1) := by decide +kernel
theorem dX9_aboveMany_2 : decode cX9_aboveMany 2 = .ok (.aload_n 0, 1) := by decide +kernel
theorem dX9_aboveMany_3 : decode cX9_aboveMany 3 = .ok (.getfield 60, 3) := by decide +kernel
theorem dX9_aboveMany_6 : decode cX9_aboveMany 6 = .ok (.iload_n 1, 1) := by decide +kernel
theorem dX9_aboveMany_7 : decode cX9_aboveMany 7 = .ok (.iaload, 1) := by decide +kernel
theorem dX9_aboveMany_8 : decode cX9_aboveMany 8 = .ok (.istore_n 3, 1) := by decide +kernel
theorem dX9_aboveMany_9 : decode cX9_aboveMany 9 = .ok (.iload_n 3, 1) := by decide +kernel
theorem dX9_aboveMany_10 : decode cX9_aboveMany 10 = .ok (.ifCond .lt 16, 3) := by decide +kernel
theorem dX9_aboveMany_13 : decode cX9_aboveMany 13 = .ok (.iinc 2 1, 3) := by decide +kernel
theorem dX9_aboveMany_16 : decode cX9_aboveMany 16 = .ok (.aload_n 0, 1) := by decide +kernel
theorem dX9_aboveMany_17 : decode cX9_aboveMany 17 = .ok (.getfield 60, 3) := by decide +kernel
theorem dX9_aboveMany_20 : decode cX9_aboveMany 20 = .ok (.iload_n 3, 1) := by decide +kernel
theorem dX9_aboveMany_21 : decode cX9_aboveMany 21 = .ok (.iaload, 1) := by decide +kernel
theorem dX9_aboveMany_22 : decode cX9_aboveMany 22 = .ok (.istore_n 3, 1) := by decide +kernel
theorem dX9_aboveMany_23 : decode cX9_aboveMany 23 = .ok (.goto (-14), 3) := by decide +kernel
theorem dX9_aboveMany_26 : decode cX9_aboveMany 26 = .ok (.iload_n 2, 1) := by decide +kernel
theorem dX9_aboveMany_27 : decode cX9_aboveMany 27 = .ok (.ireturn, 1) := by decide +kernel
theorem dX9_takeSuper_0 : decode cX9_takeSuper 0 = .ok (.aload_n 0, 1) := by decide +kernel
theorem dX9_takeSuper_1 : decode cX9_takeSuper 1 = .ok (.getfield 166, 3) := by decide +kernel
theorem dX9_takeSuper_4 : decode cX9_takeSuper 4 = .ok (.ifCond .lt 69, 3) := by decide +kernel
theorem dX9_takeSuper_7 : decode cX9_takeSuper 7 = .ok (.aload_n 0, 1) := by decide +kernel
theorem dX9_takeSuper_8 : decode cX9_takeSuper 8 = .ok (.getfield 16, 3) := by decide +kernel
theorem dX9_takeSuper_11 : decode cX9_takeSuper 11 = .ok (.aload_n 0, 1) := by decide +kernel
theorem dX9_takeSuper_12 : decode cX9_takeSuper 12 = .ok (.getfield 51, 3) := by decide +kernel
theorem dX9_takeSuper_15 : decode cX9_takeSuper 15 = .ok (.aload_n 0, 1) := by decide +kernel
theorem dX9_takeSuper_16 : decode cX9_takeSuper 16 = .ok (.getfield 166, 3) := by decide +kernel
theorem dX9_takeSuper_19 : decode cX9_takeSuper 19 = .ok (.iaload, 1) := by decide +kernel
theorem dX9_takeSuper_20 : decode cX9_takeSuper 20 = .ok (.baload, 1) := by decide +kernel
theorem dX9_takeSuper_21 : decode cX9_takeSuper 21 = .ok (.ifCond .eq 8, 3) := by decide +kernel
theorem dX9_takeSuper_24 : decode cX9_takeSuper 24 = .ok (.bipush 6, 2) := by decide +kernel
theorem dX9_takeSuper_26 : decode cX9_takeSuper 26 = .ok (.goto 64, 3) := by decide +kernel
theorem dX9_takeSuper_29 : decode cX9_takeSuper 29 = .ok (.aload_n 0, 1) := by decide +kernel
theorem dX9_takeSuper_30 : decode cX9_takeSuper 30 = .ok (.getfield 20, 3) := by decide +kernel
theorem dX9_takeSuper_33 : decode cX9_takeSuper 33 = .ok (.aload_n 0, 1) := by decide +kernel
theorem dX9_takeSuper_34 : decode cX9_takeSuper 34 = .ok (.getfield 51, 3) := by decide +kernel
theorem dX9_takeSuper_37 : decode cX9_takeSuper 37 = .ok (.aload_n 0, 1) := by decide +kernel
theorem dX9_takeSuper_38 : decode cX9_takeSuper 38 = .ok (.getfield 166, 3) := by decide +kernel
theorem dX9_takeSuper_41 : decode cX9_takeSuper 41 = .ok (.iaload, 1) := by decide +kernel
theorem dX9_takeSuper_42 : decode cX9_takeSuper 42 = .ok (.baload, 1) := by decide +kernel
theorem dX9_takeSuper_43 : decode cX9_takeSuper 43 = .ok (.ifCond .eq 8, 3) := by decide +kernel
theorem dX9_takeSuper_46 : decode cX9_takeSuper 46 = .ok (.bipush 7, 2) := by decide +kernel
theorem dX9_takeSuper_48 : decode cX9_takeSuper 48 = .ok (.goto 42, 3) := by decide +kernel
theorem dX9_takeSuper_51 : decode cX9_takeSuper 51 = .ok (.aload_n 0, 1) := by decide +kernel
theorem dX9_takeSuper_52 : decode cX9_takeSuper 52 = .ok (.aload_n 0, 1) := by decide +kernel
theorem dX9_takeSuper_53 : decode cX9_takeSuper 53 = .ok (.getfield 166, 3) := by decide +kernel
theorem dX9_takeSuper_56 : decode cX9_takeSuper 56 = .ok (.invokevirtual 190, 3) := by decide +kernel
theorem dX9_takeSuper_59 : decode cX9_takeSuper 59 = .ok (.bipush 11, 2) := by decide +kernel
theorem dX9_takeSuper_61 : decode cX9_takeSuper 61 = .ok (.if_icmp .le 8, 3) := by decide +kernel
theorem dX9_takeSuper_64 : decode cX9_takeSuper 64 = .ok (.bipush 17, 2) := by decide +kernel
theorem dX9_takeSuper_66 : decode cX9_takeSuper 66 = .ok (.goto 24, 3) := by decide +kernel
theorem dX9_takeSuper_69 : decode cX9_takeSuper 69 = .ok (.iconst 0, 1) := by decide +kernel
theorem dX9_takeSuper_70 : decode cX9_takeSuper 70 = .ok (.goto 20, 3) := by decide +kernel
theorem dX9_takeSuper_73 : decode cX9_takeSuper 73 = .ok (.aload_n 0, 1) := by decide +kernel
theorem dX9_takeSuper_74 : decode cX9_takeSuper 74 = .ok (.getfield 166, 3) := by decide +kernel
theorem dX9_takeSuper_77 : decode cX9_takeSuper 77 = .ok (.iconst (-1), 1) := by decide +kernel
theorem dX9_takeSuper_78 : decode cX9_takeSuper 78 = .ok (.if_icmp .ne 7, 3) := by decide +kernel
theorem dX9_takeSuper_81 : decode cX9_takeSuper 81 = .ok (.iconst 2, 1) := by decide +kernel
theorem dX9_takeSuper_82 : decode cX9_takeSuper 82 = .ok (.goto 8, 3) := by decide +kernel
theorem dX9_takeSuper_85 : decode cX9_takeSuper 85 = .ok (.aload_n 0, 1) := by decide +kernel
theorem dX9_takeSuper_86 : decode cX9_takeSuper 86 = .ok (.getfield 166, 3) := by decide +kernel
theorem dX9_takeSuper_89 : decode cX9_takeSuper 89 = .ok (.ineg, 1) := by decide +kernel
theorem dX9_takeSuper_90 : decode cX9_takeSuper 90 = .ok (.istore_n 3, 1) := by decide +kernel
theorem dX9_takeSuper_91 : decode cX9_takeSuper 91 = .ok (.iload_n 3, 1) := by decide +kernel
theorem dX9_takeSuper_92 : decode cX9_takeSuper 92 = .ok (.ifCond .le 10, 3) := by decide +kernel
theorem dX9_takeSuper_95 : decode cX9_takeSuper 95 = .ok (.aload_n 0, 1) := by decide +kernel
theorem dX9_takeSuper_96 : decode cX9_takeSuper 96 = .ok (.iload_n 2, 1) := by decide +kernel
theorem dX9_takeSuper_97 : decode cX9_takeSuper 97 = .ok (.iload_n 3, 1) := by decide +kernel
theorem dX9_takeSuper_98 : decode cX9_takeSuper 98 = .ok (.invokevirtual 194, 3) := by decide +kernel
theorem dX9_takeSuper_101 : decode cX9_takeSuper 101 = .ok (.return_, 1) := by decide +kernel
theorem dX9_takeSuper_102 : decode cX9_takeSuper 102 = .ok (.aload_n 0, 1) := by decide +kernel
theorem dX9_takeSuper_103 : decode cX9_takeSuper 103 = .ok (.getfield 60, 3) := by decide +kernel
theorem dX9_takeSuper_106 : decode cX9_takeSuper 106 = .ok (.iload_n 2, 1) := by decide +kernel
theorem dX9_takeSuper_107 : decode cX9_takeSuper 107 = .ok (.aload_n 0, 1) := by decide +kernel
theorem dX9_takeSuper_108 : decode cX9_takeSuper 108 = .ok (.getfield 166, 3) := by decide +kernel
theorem dX9_takeSuper_111 : decode cX9_takeSuper 111 = .ok (.iastore, 1) := by decide +kernel
theorem dX9_takeSuper_112 : decode cX9_takeSuper 112 = .ok (.aload_n 0, 1) := by decide +kernel
theorem dX9_takeSuper_113 : decode cX9_takeSuper 113 = .ok (.getfield 72, 3) := by decide +kernel
theorem dX9_takeSuper_116 : decode cX9_takeSuper 116 = .ok (.iload_n 1, 1) := by decide +kernel
theorem dX9_takeSuper_117 : decode cX9_takeSuper 117 = .ok (.iconst 4, 1) := by decide +kernel
theorem dX9_takeSuper_118 : decode cX9_takeSuper 118 = .ok (.iastore, 1) := by decide +kernel
theorem dX9_takeSuper_119 : decode cX9_takeSuper 119 = .ok (.return_, 1) := by decide +kernel
theorem dX9_takeFace_0 : decode cX9_takeFace 0 = .ok (.aload_n 0, 1) := by decide +kernel
theorem dX9_takeFace_1 : decode cX9_takeFace 1 = .ok (.getfield 51, 3) := by decide +kernel
theorem dX9_takeFace_4 : decode cX9_takeFace 4 = .ok (.iload_n 2, 1) := by decide +kernel
theorem dX9_takeFace_5 : decode cX9_takeFace 5 = .ok (.iaload, 1) := by decide +kernel
theorem dX9_takeFace_6 : decode cX9_takeFace 6 = .ok (.istore_n 3, 1) := by decide +kernel
theorem dX9_takeFace_7 : decode cX9_takeFace 7 = .ok (.aload_n 0, 1) := by decide +kernel
theorem dX9_takeFace_8 : decode cX9_takeFace 8 = .ok (.getfield 72, 3) := by decide +kernel
theorem dX9_takeFace_11 : decode cX9_takeFace 11 = .ok (.iload_n 1, 1) := by decide +kernel
theorem dX9_takeFace_12 : decode cX9_takeFace 12 = .ok (.iaload, 1) := by decide +kernel
theorem dX9_takeFace_13 : decode cX9_takeFace 13 = .ok (.iconst 4, 1) := by decide +kernel
theorem dX9_takeFace_14 : decode cX9_takeFace 14 = .ok (.isub, 1) := by decide +kernel
theorem dX9_takeFace_15 : decode cX9_takeFace 15 = .ok (.iconst 2, 1) := by decide +kernel
theorem dX9_takeFace_16 : decode cX9_takeFace 16 = .ok (.idiv, 1) := by decide +kernel
theorem dX9_takeFace_17 : decode cX9_takeFace 17 = .ok (.istore 4, 2) := by decide +kernel
theorem dX9_takeFace_19 : decode cX9_takeFace 19 = .ok (.aload_n 0, 1) := by decide +kernel
theorem dX9_takeFace_20 : decode cX9_takeFace 20 = .ok (.getfield 72, 3) := by decide +kernel
theorem dX9_takeFace_23 : decode cX9_takeFace 23 = .ok (.iload_n 1, 1) := by decide +kernel
theorem dX9_takeFace_24 : decode cX9_takeFace 24 = .ok (.iaload, 1) := by decide +kernel
theorem dX9_takeFace_25 : decode cX9_takeFace 25 = .ok (.iconst 2, 1) := by decide +kernel
theorem dX9_takeFace_26 : decode cX9_takeFace 26 = .ok (.irem, 1) := by decide +kernel
theorem dX9_takeFace_27 : decode cX9_takeFace 27 = .ok (.ifCond .ne 77, 3) := by decide +kernel
theorem dX9_takeFace_30 : decode cX9_takeFace 30 = .ok (.iload 4, 2) := by decide +kernel
theorem dX9_takeFace_32 : decode cX9_takeFace 32 = .ok (.aload_n 0, 1) := by decide +kernel
theorem dX9_takeFace_33 : decode cX9_takeFace 33 = .ok (.getfield 26, 3) := by decide +kernel
theorem dX9_takeFace_36 : decode cX9_takeFace 36 = .ok (.iload_n 3, 1) := by decide +kernel
theorem dX9_takeFace_37 : decode cX9_takeFace 37 = .ok (.iaload, 1) := by decide +kernel
theorem dX9_takeFace_38 : decode cX9_takeFace 38 = .ok (.if_icmp .ne 35, 3) := by decide +kernel
theorem dX9_takeFace_41 : decode cX9_takeFace 41 = .ok (.aload_n 0, 1) := by decide +kernel
theorem dX9_takeFace_42 : decode cX9_takeFace 42 = .ok (.getfield 57, 3) := by decide +kernel
theorem dX9_takeFace_45 : decode cX9_takeFace 45 = .ok (.iload_n 2, 1) := by decide +kernel
theorem dX9_takeFace_46 : decode cX9_takeFace 46 = .ok (.iconst 0, 1) := by decide +kernel
theorem dX9_takeFace_47 : decode cX9_takeFace 47 = .ok (.bastore, 1) := by decide +kernel
theorem dX9_takeFace_48 : decode cX9_takeFace 48 = .ok (.aload_n 0, 1) := by decide +kernel
theorem dX9_takeFace_49 : decode cX9_takeFace 49 = .ok (.getfield 54, 3) := by decide +kernel
theorem dX9_takeFace_52 : decode cX9_takeFace 52 = .ok (.iload_n 2, 1) := by decide +kernel
theorem dX9_takeFace_53 : decode cX9_takeFace 53 = .ok (.iconst 1, 1) := by decide +kernel
theorem dX9_takeFace_54 : decode cX9_takeFace 54 = .ok (.bastore, 1) := by decide +kernel
theorem dX9_takeFace_55 : decode cX9_takeFace 55 = .ok (.aload_n 0, 1) := by decide +kernel
theorem dX9_takeFace_56 : decode cX9_takeFace 56 = .ok (.dup, 1) := by decide +kernel
theorem dX9_takeFace_57 : decode cX9_takeFace 57 = .ok (.getfield 197, 3) := by decide +kernel
theorem dX9_takeFace_60 : decode cX9_takeFace 60 = .ok (.iconst 1, 1) := by decide +kernel
theorem dX9_takeFace_61 : decode cX9_takeFace 61 = .ok (.iadd, 1) := by decide +kernel
theorem dX9_takeFace_62 : decode cX9_takeFace 62 = .ok (.putfield 197, 3) := by decide +kernel
theorem dX9_takeFace_65 : decode cX9_takeFace 65 = .ok (.aload_n 0, 1) := by decide +kernel
theorem dX9_takeFace_66 : decode cX9_takeFace 66 = .ok (.iload_n 2, 1) := by decide +kernel
theorem dX9_takeFace_67 : decode cX9_takeFace 67 = .ok (.invokevirtual 169, 3) := by decide +kernel
theorem dX9_takeFace_70 : decode cX9_takeFace 70 = .ok (.goto 33, 3) := by decide +kernel
theorem dX9_takeFace_73 : decode cX9_takeFace 73 = .ok (.aload_n 0, 1) := by decide +kernel
theorem dX9_takeFace_74 : decode cX9_takeFace 74 = .ok (.getfield 72, 3) := by decide +kernel
theorem dX9_takeFace_77 : decode cX9_takeFace 77 = .ok (.iload_n 1, 1) := by decide +kernel
theorem dX9_takeFace_78 : decode cX9_takeFace 78 = .ok (.dup2, 1) := by decide +kernel
theorem dX9_takeFace_79 : decode cX9_takeFace 79 = .ok (.iaload, 1) := by decide +kernel
theorem dX9_takeFace_80 : decode cX9_takeFace 80 = .ok (.iconst 1, 1) := by decide +kernel
theorem dX9_takeFace_81 : decode cX9_takeFace 81 = .ok (.iadd, 1) := by decide +kernel
theorem dX9_takeFace_82 : decode cX9_takeFace 82 = .ok (.iastore, 1) := by decide +kernel
theorem dX9_takeFace_83 : decode cX9_takeFace 83 = .ok (.aload_n 0, 1) := by decide +kernel
theorem dX9_takeFace_84 : decode cX9_takeFace 84 = .ok (.iload_n 2, 1) := by decide +kernel
theorem dX9_takeFace_85 : decode cX9_takeFace 85 = .ok (.bipush 30, 2) := by decide +kernel
theorem dX9_takeFace_87 : decode cX9_takeFace 87 = .ok (.idiv, 1) := by decide +kernel
theorem dX9_takeFace_88 : decode cX9_takeFace 88 = .ok (.aload_n 0, 1) := by decide +kernel
theorem dX9_takeFace_89 : decode cX9_takeFace 89 = .ok (.getfield 29, 3) := by decide +kernel
theorem dX9_takeFace_92 : decode cX9_takeFace 92 = .ok (.iconst 2, 1) := by decide +kernel
theorem dX9_takeFace_93 : decode cX9_takeFace 93 = .ok (.iload_n 3, 1) := by decide +kernel
theorem dX9_takeFace_94 : decode cX9_takeFace 94 = .ok (.imul, 1) := by decide +kernel
theorem dX9_takeFace_95 : decode cX9_takeFace 95 = .ok (.iload 4, 2) := by decide +kernel
theorem dX9_takeFace_97 : decode cX9_takeFace 97 = .ok (.iadd, 1) := by decide +kernel
theorem dX9_takeFace_98 : decode cX9_takeFace 98 = .ok (.iaload, 1) := by decide +kernel
theorem dX9_takeFace_99 : decode cX9_takeFace 99 = .ok (.iconst 0, 1) := by decide +kernel
theorem dX9_takeFace_100 : decode cX9_takeFace 100 = .ok (.invokevirtual 173, 3) := by decide +kernel
theorem dX9_takeFace_103 : decode cX9_takeFace 103 = .ok (.return_, 1) := by decide +kernel
theorem dX9_takeFace_104 : decode cX9_takeFace 104 = .ok (.aload_n 0, 1) := by decide +kernel
theorem dX9_takeFace_105 : decode cX9_takeFace 105 = .ok (.getfield 166, 3) := by decide +kernel
theorem dX9_takeFace_108 : decode cX9_takeFace 108 = .ok (.ifCond .lt 29, 3) := by decide +kernel
theorem dX9_takeFace_111 : decode cX9_takeFace 111 = .ok (.aload_n 0, 1) := by decide +kernel
theorem dX9_takeFace_112 : decode cX9_takeFace 112 = .ok (.getfield 16, 3) := by decide +kernel
theorem dX9_takeFace_115 : decode cX9_takeFace 115 = .ok (.aload_n 0, 1) := by decide +kernel
theorem dX9_takeFace_116 : decode cX9_takeFace 116 = .ok (.getfield 51, 3) := by decide +kernel
theorem dX9_takeFace_119 : decode cX9_takeFace 119 = .ok (.aload_n 0, 1) := by decide +kernel
theorem dX9_takeFace_120 : decode cX9_takeFace 120 = .ok (.getfield 166, 3) := by decide +kernel
theorem dX9_takeFace_123 : decode cX9_takeFace 123 = .ok (.iaload, 1) := by decide +kernel
theorem dX9_takeFace_124 : decode cX9_takeFace 124 = .ok (.baload, 1) := by decide +kernel
theorem dX9_takeFace_125 : decode cX9_takeFace 125 = .ok (.ifCond .eq 7, 3) := by decide +kernel
theorem dX9_takeFace_128 : decode cX9_takeFace 128 = .ok (.iconst 0, 1) := by decide +kernel
theorem dX9_takeFace_129 : decode cX9_takeFace 129 = .ok (.goto 25, 3) := by decide +kernel
theorem dX9_takeFace_132 : decode cX9_takeFace 132 = .ok (.bipush 6, 2) := by decide +kernel
theorem dX9_takeFace_134 : decode cX9_takeFace 134 = .ok (.goto 20, 3) := by decide +kernel
theorem dX9_takeFace_137 : decode cX9_takeFace 137 = .ok (.aload_n 0, 1) := by decide +kernel
theorem dX9_takeFace_138 : decode cX9_takeFace 138 = .ok (.getfield 166, 3) := by decide +kernel
theorem dX9_takeFace_141 : decode cX9_takeFace 141 = .ok (.iconst (-1), 1) := by decide +kernel
theorem dX9_takeFace_142 : decode cX9_takeFace 142 = .ok (.if_icmp .ne 7, 3) := by decide +kernel
theorem dX9_takeFace_145 : decode cX9_takeFace 145 = .ok (.iconst 2, 1) := by decide +kernel
theorem dX9_takeFace_146 : decode cX9_takeFace 146 = .ok (.goto 8, 3) := by decide +kernel
theorem dX9_takeFace_149 : decode cX9_takeFace 149 = .ok (.aload_n 0, 1) := by decide +kernel
theorem dX9_takeFace_150 : decode cX9_takeFace 150 = .ok (.getfield 166, 3) := by decide +kernel
theorem dX9_takeFace_153 : decode cX9_takeFace 153 = .ok (.ineg, 1) := by decide +kernel
theorem dX9_takeFace_154 : decode cX9_takeFace 154 = .ok (.istore 5, 2) := by decide +kernel
theorem dX9_takeFace_156 : decode cX9_takeFace 156 = .ok (.iload 5, 2) := by decide +kernel
theorem dX9_takeFace_158 : decode cX9_takeFace 158 = .ok (.ifCond .le 11, 3) := by decide +kernel
theorem dX9_takeFace_161 : decode cX9_takeFace 161 = .ok (.aload_n 0, 1) := by decide +kernel
theorem dX9_takeFace_162 : decode cX9_takeFace 162 = .ok (.iload_n 2, 1) := by decide +kernel
theorem dX9_takeFace_163 : decode cX9_takeFace 163 = .ok (.iload 5, 2) := by decide +kernel
theorem dX9_takeFace_165 : decode cX9_takeFace 165 = .ok (.invokevirtual 194, 3) := by decide +kernel
theorem dX9_takeFace_168 : decode cX9_takeFace 168 = .ok (.return_, 1) := by decide +kernel
theorem dX9_takeFace_169 : decode cX9_takeFace 169 = .ok (.aload_n 0, 1) := by decide +kernel
theorem dX9_takeFace_170 : decode cX9_takeFace 170 = .ok (.getfield 63, 3) := by decide +kernel
theorem dX9_takeFace_173 : decode cX9_takeFace 173 = .ok (.iconst 2, 1) := by decide +kernel
theorem dX9_takeFace_174 : decode cX9_takeFace 174 = .ok (.iload_n 2, 1) := by decide +kernel
theorem dX9_takeFace_175 : decode cX9_takeFace 175 = .ok (.imul, 1) := by decide +kernel
theorem dX9_takeFace_176 : decode cX9_takeFace 176 = .ok (.iload 4, 2) := by decide +kernel
theorem dX9_takeFace_178 : decode cX9_takeFace 178 = .ok (.iadd, 1) := by decide +kernel
theorem dX9_takeFace_179 : decode cX9_takeFace 179 = .ok (.aload_n 0, 1) := by decide +kernel
theorem dX9_takeFace_180 : decode cX9_takeFace 180 = .ok (.getfield 166, 3) := by decide +kernel
theorem dX9_takeFace_183 : decode cX9_takeFace 183 = .ok (.iastore, 1) := by decide +kernel
theorem dX9_takeFace_184 : decode cX9_takeFace 184 = .ok (.aload_n 0, 1) := by decide +kernel
theorem dX9_takeFace_185 : decode cX9_takeFace 185 = .ok (.getfield 72, 3) := by decide +kernel
theorem dX9_takeFace_188 : decode cX9_takeFace 188 = .ok (.iload_n 1, 1) := by decide +kernel
theorem dX9_takeFace_189 : decode cX9_takeFace 189 = .ok (.dup2, 1) := by decide +kernel
theorem dX9_takeFace_190 : decode cX9_takeFace 190 = .ok (.iaload, 1) := by decide +kernel
theorem dX9_takeFace_191 : decode cX9_takeFace 191 = .ok (.iconst 1, 1) := by decide +kernel
theorem dX9_takeFace_192 : decode cX9_takeFace 192 = .ok (.iadd, 1) := by decide +kernel
theorem dX9_takeFace_193 : decode cX9_takeFace 193 = .ok (.iastore, 1) := by decide +kernel
theorem dX9_takeFace_194 : decode cX9_takeFace 194 = .ok (.return_, 1) := by decide +kernel
theorem dX9_findOne_0 : decode cX9_findOne 0 = .ok (.aload_n 0, 1) := by decide +kernel
theorem dX9_findOne_1 : decode cX9_findOne 1 = .ok (.iload_n 1, 1) := by decide +kernel
theorem dX9_findOne_2 : decode cX9_findOne 2 = .ok (.iload_n 2, 1) := by decide +kernel
theorem dX9_findOne_3 : decode cX9_findOne 3 = .ok (.iconst 0, 1) := by decide +kernel
theorem dX9_findOne_4 : decode cX9_findOne 4 = .ok (.invokevirtual 200, 3) := by decide +kernel
theorem dX9_findOne_7 : decode cX9_findOne 7 = .ok (.ireturn, 1) := by decide +kernel
theorem dX9_told_0 : decode cX9_told 0 = .ok (.iload_n 0, 1) := by decide +kernel
theorem dX9_told_1 : decode cX9_told 1 = .ok (.ifCond .ge 10, 3) := by decide +kernel
theorem dX9_told_4 : decode cX9_told 4 = .ok (.bipush (-20), 2) := by decide +kernel
theorem dX9_told_6 : decode cX9_told 6 = .ok (.iload_n 0, 1) := by decide +kernel
theorem dX9_told_7 : decode cX9_told 7 = .ok (.iadd, 1) := by decide +kernel
theorem dX9_told_8 : decode cX9_told 8 = .ok (.goto 15, 3) := by decide +kernel
theorem dX9_told_11 : decode cX9_told 11 = .ok (.bipush 100, 2) := by decide +kernel
theorem dX9_told_13 : decode cX9_told 13 = .ok (.iload_n 0, 1) := by decide +kernel
theorem dX9_told_14 : decode cX9_told 14 = .ok (.bipush 30, 2) := by decide +kernel
theorem dX9_told_16 : decode cX9_told 16 = .ok (.idiv, 1) := by decide +kernel
theorem dX9_told_17 : decode cX9_told 17 = .ok (.imul, 1) := by decide +kernel
theorem dX9_told_18 : decode cX9_told 18 = .ok (.iload_n 0, 1) := by decide +kernel
theorem dX9_told_19 : decode cX9_told 19 = .ok (.bipush 30, 2) := by decide +kernel
theorem dX9_told_21 : decode cX9_told 21 = .ok (.irem, 1) := by decide +kernel
theorem dX9_told_22 : decode cX9_told 22 = .ok (.iadd, 1) := by decide +kernel
theorem dX9_told_23 : decode cX9_told 23 = .ok (.ireturn, 1) := by decide +kernel
theorem dX9_find_0 : decode cX9_find 0 = .ok (.aload_n 0, 1) := by decide +kernel
theorem dX9_find_1 : decode cX9_find 1 = .ok (.iconst 0, 1) := by decide +kernel
theorem dX9_find_2 : decode cX9_find 2 = .ok (.putfield 128, 3) := by decide +kernel
theorem dX9_find_5 : decode cX9_find 5 = .ok (.aload_n 0, 1) := by decide +kernel
theorem dX9_find_6 : decode cX9_find 6 = .ok (.iload_n 1, 1) := by decide +kernel
theorem dX9_find_7 : decode cX9_find 7 = .ok (.invokevirtual 160, 3) := by decide +kernel
theorem dX9_find_10 : decode cX9_find 10 = .ok (.ifCond .eq 10, 3) := by decide +kernel
theorem dX9_find_13 : decode cX9_find 13 = .ok (.iload_n 2, 1) := by decide +kernel
theorem dX9_find_14 : decode cX9_find 14 = .ok (.invokestatic 140, 3) := by decide +kernel
theorem dX9_find_17 : decode cX9_find 17 = .ok (.ifCond .ne 7, 3) := by decide +kernel
theorem dX9_find_20 : decode cX9_find 20 = .ok (.iconst (-1), 1) := by decide +kernel
theorem dX9_find_21 : decode cX9_find 21 = .ok (.goto 12, 3) := by decide +kernel
theorem dX9_find_24 : decode cX9_find 24 = .ok (.aload_n 0, 1) := by decide +kernel
theorem dX9_find_25 : decode cX9_find 25 = .ok (.iload_n 1, 1) := by decide +kernel
theorem dX9_find_26 : decode cX9_find 26 = .ok (.iload_n 2, 1) := by decide +kernel
theorem dX9_find_27 : decode cX9_find 27 = .ok (.invokevirtual 204, 3) := by decide +kernel
theorem dX9_find_30 : decode cX9_find 30 = .ok (.invokestatic 208, 3) := by decide +kernel
theorem dX9_find_33 : decode cX9_find 33 = .ok (.ireturn, 1) := by decide +kernel
theorem dX9_define_0 : decode cX9_define 0 = .ok (.aload_n 0, 1) := by decide +kernel
theorem dX9_define_1 : decode cX9_define 1 = .ok (.iconst 0, 1) := by decide +kernel
theorem dX9_define_2 : decode cX9_define 2 = .ok (.putfield 128, 3) := by decide +kernel
theorem dX9_define_5 : decode cX9_define 5 = .ok (.aload_n 0, 1) := by decide +kernel
theorem dX9_define_6 : decode cX9_define 6 = .ok (.iload_n 1, 1) := by decide +kernel
theorem dX9_define_7 : decode cX9_define 7 = .ok (.invokevirtual 160, 3) := by decide +kernel
theorem dX9_define_10 : decode cX9_define 10 = .ok (.ifCond .eq 10, 3) := by decide +kernel
theorem dX9_define_13 : decode cX9_define 13 = .ok (.iload_n 2, 1) := by decide +kernel
theorem dX9_define_14 : decode cX9_define 14 = .ok (.invokestatic 140, 3) := by decide +kernel
theorem dX9_define_17 : decode cX9_define 17 = .ok (.ifCond .ne 5, 3) := by decide +kernel
theorem dX9_define_20 : decode cX9_define 20 = .ok (.iconst (-1), 1) := by decide +kernel
theorem dX9_define_21 : decode cX9_define 21 = .ok (.ireturn, 1) := by decide +kernel
theorem dX9_define_22 : decode cX9_define 22 = .ok (.aload_n 0, 1) := by decide +kernel
theorem dX9_define_23 : decode cX9_define 23 = .ok (.getfield 54, 3) := by decide +kernel
theorem dX9_define_26 : decode cX9_define 26 = .ok (.bipush 30, 2) := by decide +kernel
theorem dX9_define_28 : decode cX9_define 28 = .ok (.iload_n 1, 1) := by decide +kernel
theorem dX9_define_29 : decode cX9_define 29 = .ok (.imul, 1) := by decide +kernel
theorem dX9_define_30 : decode cX9_define 30 = .ok (.iload_n 2, 1) := by decide +kernel
theorem dX9_define_31 : decode cX9_define 31 = .ok (.iadd, 1) := by decide +kernel
theorem dX9_define_32 : decode cX9_define 32 = .ok (.baload, 1) := by decide +kernel
theorem dX9_define_33 : decode cX9_define 33 = .ok (.ifCond .eq 8, 3) := by decide +kernel
theorem dX9_define_36 : decode cX9_define 36 = .ok (.bipush (-23), 2) := by decide +kernel
theorem dX9_define_38 : decode cX9_define 38 = .ok (.goto 13, 3) := by decide +kernel
theorem dX9_define_41 : decode cX9_define 41 = .ok (.aload_n 0, 1) := by decide +kernel
theorem dX9_define_42 : decode cX9_define 42 = .ok (.iload_n 1, 1) := by decide +kernel
theorem dX9_define_43 : decode cX9_define 43 = .ok (.iload_n 2, 1) := by decide +kernel
theorem dX9_define_44 : decode cX9_define 44 = .ok (.iconst 2, 1) := by decide +kernel
theorem dX9_define_45 : decode cX9_define 45 = .ok (.invokevirtual 200, 3) := by decide +kernel
theorem dX9_define_48 : decode cX9_define 48 = .ok (.invokestatic 208, 3) := by decide +kernel
theorem dX9_define_51 : decode cX9_define 51 = .ok (.ireturn, 1) := by decide +kernel
theorem dX9_letGo_0 : decode cX9_letGo 0 = .ok (.iconst 0, 1) := by decide +kernel
theorem dX9_letGo_1 : decode cX9_letGo 1 = .ok (.istore_n 2, 1) := by decide +kernel
theorem dX9_letGo_2 : decode cX9_letGo 2 = .ok (.iconst 0, 1) := by decide +kernel
theorem dX9_letGo_3 : decode cX9_letGo 3 = .ok (.istore_n 3, 1) := by decide +kernel
theorem dX9_letGo_4 : decode cX9_letGo 4 = .ok (.iconst 0, 1) := by decide +kernel
theorem dX9_letGo_5 : decode cX9_letGo 5 = .ok (.istore 4, 2) := by decide +kernel
theorem dX9_letGo_7 : decode cX9_letGo 7 = .ok (.iload 4, 2) := by decide +kernel
theorem dX9_letGo_9 : decode cX9_letGo 9 = .ok (.bipush 30, 2) := by decide +kernel
theorem dX9_letGo_11 : decode cX9_letGo 11 = .ok (.aload_n 0, 1) := by decide +kernel
theorem dX9_letGo_12 : decode cX9_letGo 12 = .ok (.getfield 44, 3) := by decide +kernel
theorem dX9_letGo_15 : decode cX9_letGo 15 = .ok (.imul, 1) := by decide +kernel
theorem dX9_letGo_16 : decode cX9_letGo 16 = .ok (.if_icmp .ge 77, 3) := by decide +kernel
theorem dX9_letGo_19 : decode cX9_letGo 19 = .ok (.aload_n 0, 1) := by decide +kernel
theorem dX9_letGo_20 : decode cX9_letGo 20 = .ok (.getfield 54, 3) := by decide +kernel
theorem dX9_letGo_23 : decode cX9_letGo 23 = .ok (.iload 4, 2) := by decide +kernel
theorem dX9_letGo_25 : decode cX9_letGo 25 = .ok (.baload, 1) := by decide +kernel
theorem dX9_letGo_26 : decode cX9_letGo 26 = .ok (.ifCond .eq 20, 3) := by decide +kernel
theorem dX9_letGo_29 : decode cX9_letGo 29 = .ok (.aload_n 0, 1) := by decide +kernel
theorem dX9_letGo_30 : decode cX9_letGo 30 = .ok (.iload 4, 2) := by decide +kernel
theorem dX9_letGo_32 : decode cX9_letGo 32 = .ok (.bipush 30, 2) := by decide +kernel
theorem dX9_letGo_34 : decode cX9_letGo 34 = .ok (.idiv, 1) := by decide +kernel
theorem dX9_letGo_35 : decode cX9_letGo 35 = .ok (.iload_n 1, 1) := by decide +kernel
theorem dX9_letGo_36 : decode cX9_letGo 36 = .ok (.invokevirtual 211, 3) := by decide +kernel
theorem dX9_letGo_39 : decode cX9_letGo 39 = .ok (.ifCond .eq 7, 3) := by decide +kernel
theorem dX9_letGo_42 : decode cX9_letGo 42 = .ok (.iconst 1, 1) := by decide +kernel
theorem dX9_letGo_43 : decode cX9_letGo 43 = .ok (.goto 4, 3) := by decide +kernel
theorem dX9_letGo_46 : decode cX9_letGo 46 = .ok (.iconst 0, 1) := by decide +kernel
theorem dX9_letGo_47 : decode cX9_letGo 47 = .ok (.istore 5, 2) := by decide +kernel
theorem dX9_letGo_49 : decode cX9_letGo 49 = .ok (.iload_n 3, 1) := by decide +kernel
theorem dX9_letGo_50 : decode cX9_letGo 50 = .ok (.ifCond .ne 18, 3) := by decide +kernel
theorem dX9_letGo_53 : decode cX9_letGo 53 = .ok (.iload 5, 2) := by decide +kernel
theorem dX9_letGo_55 : decode cX9_letGo 55 = .ok (.ifCond .eq 17, 3) := by decide +kernel
theorem dX9_letGo_58 : decode cX9_letGo 58 = .ok (.aload_n 0, 1) := by decide +kernel
theorem dX9_letGo_59 : decode cX9_letGo 59 = .ok (.getfield 66, 3) := by decide +kernel
theorem dX9_letGo_62 : decode cX9_letGo 62 = .ok (.iload 4, 2) := by decide +kernel
theorem dX9_letGo_64 : decode cX9_letGo 64 = .ok (.iaload, 1) := by decide +kernel
theorem dX9_letGo_65 : decode cX9_letGo 65 = .ok (.ifCond .le 7, 3) := by decide +kernel
theorem dX9_letGo_68 : decode cX9_letGo 68 = .ok (.iconst 1, 1) := by decide +kernel
theorem dX9_letGo_69 : decode cX9_letGo 69 = .ok (.goto 4, 3) := by decide +kernel
theorem dX9_letGo_72 : decode cX9_letGo 72 = .ok (.iconst 0, 1) := by decide +kernel
theorem dX9_letGo_73 : decode cX9_letGo 73 = .ok (.istore_n 3, 1) := by decide +kernel
theorem dX9_letGo_74 : decode cX9_letGo 74 = .ok (.iload_n 2, 1) := by decide +kernel
theorem dX9_letGo_75 : decode cX9_letGo 75 = .ok (.iload 5, 2) := by decide +kernel
theorem dX9_letGo_77 : decode cX9_letGo 77 = .ok (.ifCond .eq 7, 3) := by decide +kernel
theorem dX9_letGo_80 : decode cX9_letGo 80 = .ok (.iconst 1, 1) := by decide +kernel
theorem dX9_letGo_81 : decode cX9_letGo 81 = .ok (.goto 4, 3) := by decide +kernel
theorem dX9_letGo_84 : decode cX9_letGo 84 = .ok (.iconst 0, 1) := by decide +kernel
theorem dX9_letGo_85 : decode cX9_letGo 85 = .ok (.iadd, 1) := by decide +kernel
theorem dX9_letGo_86 : decode cX9_letGo 86 = .ok (.istore_n 2, 1) := by decide +kernel
theorem dX9_letGo_87 : decode cX9_letGo 87 = .ok (.iinc 4 1, 3) := by decide +kernel
theorem dX9_letGo_90 : decode cX9_letGo 90 = .ok (.goto (-83), 3) := by decide +kernel
theorem dX9_letGo_93 : decode cX9_letGo 93 = .ok (.iconst 0, 1) := by decide +kernel
theorem dX9_letGo_94 : decode cX9_letGo 94 = .ok (.istore 4, 2) := by decide +kernel
theorem dX9_letGo_96 : decode cX9_letGo 96 = .ok (.iload 4, 2) := by decide +kernel
theorem dX9_letGo_98 : decode cX9_letGo 98 = .ok (.bipush 30, 2) := by decide +kernel
theorem dX9_letGo_100 : decode cX9_letGo 100 = .ok (.aload_n 0, 1) := by decide +kernel
theorem dX9_letGo_101 : decode cX9_letGo 101 = .ok (.getfield 44, 3) := by decide +kernel
theorem dX9_letGo_104 : decode cX9_letGo 104 = .ok (.imul, 1) := by decide +kernel
theorem dX9_letGo_105 : decode cX9_letGo 105 = .ok (.if_icmp .ge 48, 3) := by decide +kernel
theorem dX9_letGo_108 : decode cX9_letGo 108 = .ok (.iload_n 3, 1) := by decide +kernel
theorem dX9_letGo_109 : decode cX9_letGo 109 = .ok (.ifCond .ne 44, 3) := by decide +kernel
theorem dX9_letGo_112 : decode cX9_letGo 112 = .ok (.aload_n 0, 1) := by decide +kernel
theorem dX9_letGo_113 : decode cX9_letGo 113 = .ok (.getfield 54, 3) := by decide +kernel
theorem dX9_letGo_116 : decode cX9_letGo 116 = .ok (.iload 4, 2) := by decide +kernel
theorem dX9_letGo_118 : decode cX9_letGo 118 = .ok (.aload_n 0, 1) := by decide +kernel
theorem dX9_letGo_119 : decode cX9_letGo 119 = .ok (.getfield 54, 3) := by decide +kernel
theorem dX9_letGo_122 : decode cX9_letGo 122 = .ok (.iload 4, 2) := by decide +kernel
theorem dX9_letGo_124 : decode cX9_letGo 124 = .ok (.baload, 1) := by decide +kernel
theorem dX9_letGo_125 : decode cX9_letGo 125 = .ok (.ifCond .eq 20, 3) := by decide +kernel
theorem dX9_letGo_128 : decode cX9_letGo 128 = .ok (.aload_n 0, 1) := by decide +kernel
theorem dX9_letGo_129 : decode cX9_letGo 129 = .ok (.iload 4, 2) := by decide +kernel
theorem dX9_letGo_131 : decode cX9_letGo 131 = .ok (.bipush 30, 2) := by decide +kernel
theorem dX9_letGo_133 : decode cX9_letGo 133 = .ok (.idiv, 1) := by decide +kernel
theorem dX9_letGo_134 : decode cX9_letGo 134 = .ok (.iload_n 1, 1) := by decide +kernel
theorem dX9_letGo_135 : decode cX9_letGo 135 = .ok (.invokevirtual 211, 3) := by decide +kernel
theorem dX9_letGo_138 : decode cX9_letGo 138 = .ok (.ifCond .ne 7, 3) := by decide +kernel
theorem dX9_letGo_141 : decode cX9_letGo 141 = .ok (.iconst 1, 1) := by decide +kernel
theorem dX9_letGo_142 : decode cX9_letGo 142 = .ok (.goto 4, 3) := by decide +kernel
theorem dX9_letGo_145 : decode cX9_letGo 145 = .ok (.iconst 0, 1) := by decide +kernel
theorem dX9_letGo_146 : decode cX9_letGo 146 = .ok (.bastore, 1) := by decide +kernel
theorem dX9_letGo_147 : decode cX9_letGo 147 = .ok (.iinc 4 1, 3) := by decide +kernel
theorem dX9_letGo_150 : decode cX9_letGo 150 = .ok (.goto (-54), 3) := by decide +kernel
theorem dX9_letGo_153 : decode cX9_letGo 153 = .ok (.iload_n 3, 1) := by decide +kernel
theorem dX9_letGo_154 : decode cX9_letGo 154 = .ok (.ifCond .eq 8, 3) := by decide +kernel
theorem dX9_letGo_157 : decode cX9_letGo 157 = .ok (.bipush (-15), 2) := by decide +kernel
theorem dX9_letGo_159 : decode cX9_letGo 159 = .ok (.goto 4, 3) := by decide +kernel
theorem dX9_letGo_162 : decode cX9_letGo 162 = .ok (.iload_n 2, 1) := by decide +kernel
theorem dX9_letGo_163 : decode cX9_letGo 163 = .ok (.ireturn, 1) := by decide +kernel
theorem dX9_release_0 : decode cX9_release 0 = .ok (.aload_n 0, 1) := by decide +kernel
theorem dX9_release_1 : decode cX9_release 1 = .ok (.iconst 0, 1) := by decide +kernel
theorem dX9_release_2 : decode cX9_release 2 = .ok (.putfield 128, 3) := by decide +kernel
theorem dX9_release_5 : decode cX9_release 5 = .ok (.aload_n 0, 1) := by decide +kernel
theorem dX9_release_6 : decode cX9_release 6 = .ok (.iload_n 1, 1) := by decide +kernel
theorem dX9_release_7 : decode cX9_release 7 = .ok (.invokevirtual 160, 3) := by decide +kernel
theorem dX9_release_10 : decode cX9_release 10 = .ok (.ifCond .eq 11, 3) := by decide +kernel
theorem dX9_release_13 : decode cX9_release 13 = .ok (.aload_n 0, 1) := by decide +kernel
theorem dX9_release_14 : decode cX9_release 14 = .ok (.iload_n 1, 1) := by decide +kernel
theorem dX9_release_15 : decode cX9_release 15 = .ok (.invokevirtual 215, 3) := by decide +kernel
theorem dX9_release_18 : decode cX9_release 18 = .ok (.goto 4, 3) := by decide +kernel
theorem dX9_release_21 : decode cX9_release 21 = .ok (.iconst (-1), 1) := by decide +kernel
theorem dX9_release_22 : decode cX9_release 22 = .ok (.ireturn, 1) := by decide +kernel
theorem dX9_isBelow_0 : decode cX9_isBelow 0 = .ok (.iconst 0, 1) := by decide +kernel
theorem dX9_isBelow_1 : decode cX9_isBelow 1 = .ok (.istore_n 3, 1) := by decide +kernel
theorem dX9_isBelow_2 : decode cX9_isBelow 2 = .ok (.iload_n 3, 1) := by decide +kernel
theorem dX9_isBelow_3 : decode cX9_isBelow 3 = .ok (.sipush 240, 3) := by decide +kernel
theorem dX9_isBelow_6 : decode cX9_isBelow 6 = .ok (.if_icmp .ge 16, 3) := by decide +kernel
theorem dX9_isBelow_9 : decode cX9_isBelow 9 = .ok (.aload_n 0, 1) := by decide +kernel
theorem dX9_isBelow_10 : decode cX9_isBelow 10 = .ok (.getfield 78, 3) := by decide +kernel
theorem dX9_isBelow_13 : decode cX9_isBelow 13 = .ok (.iload_n 3, 1) := by decide +kernel
theorem dX9_isBelow_14 : decode cX9_isBelow 14 = .ok (.iconst 0, 1) := by decide +kernel
theorem dX9_isBelow_15 : decode cX9_isBelow 15 = .ok (.bastore, 1) := by decide +kernel
theorem dX9_isBelow_16 : decode cX9_isBelow 16 = .ok (.iinc 3 1, 3) := by decide +kernel
theorem dX9_isBelow_19 : decode cX9_isBelow 19 = .ok (.goto (-17), 3) := by decide +kernel
theorem dX9_isBelow_22 : decode cX9_isBelow 22 = .ok (.iconst 1, 1) := by decide +kernel
theorem dX9_isBelow_23 : decode cX9_isBelow 23 = .ok (.istore_n 3, 1) := by decide +kernel
theorem dX9_isBelow_24 : decode cX9_isBelow 24 = .ok (.aload_n 0, 1) := by decide +kernel
theorem dX9_isBelow_25 : decode cX9_isBelow 25 = .ok (.getfield 75, 3) := by decide +kernel
theorem dX9_isBelow_28 : decode cX9_isBelow 28 = .ok (.iconst 0, 1) := by decide +kernel
theorem dX9_isBelow_29 : decode cX9_isBelow 29 = .ok (.iload_n 1, 1) := by decide +kernel
theorem dX9_isBelow_30 : decode cX9_isBelow 30 = .ok (.iastore, 1) := by decide +kernel
theorem dX9_isBelow_31 : decode cX9_isBelow 31 = .ok (.aload_n 0, 1) := by decide +kernel
theorem dX9_isBelow_32 : decode cX9_isBelow 32 = .ok (.getfield 78, 3) := by decide +kernel
theorem dX9_isBelow_35 : decode cX9_isBelow 35 = .ok (.iload_n 1, 1) := by decide +kernel
theorem dX9_isBelow_36 : decode cX9_isBelow 36 = .ok (.iconst 1, 1) := by decide +kernel
theorem dX9_isBelow_37 : decode cX9_isBelow 37 = .ok (.bastore, 1) := by decide +kernel
theorem dX9_isBelow_38 : decode cX9_isBelow 38 = .ok (.iconst 0, 1) := by decide +kernel
theorem dX9_isBelow_39 : decode cX9_isBelow 39 = .ok (.istore 4, 2) := by decide +kernel
theorem dX9_isBelow_41 : decode cX9_isBelow 41 = .ok (.iload 4, 2) := by decide +kernel
theorem dX9_isBelow_43 : decode cX9_isBelow 43 = .ok (.iload_n 3, 1) := by decide +kernel
theorem dX9_isBelow_44 : decode cX9_isBelow 44 = .ok (.if_icmp .ge 107, 3) := by decide +kernel
theorem dX9_isBelow_47 : decode cX9_isBelow 47 = .ok (.aload_n 0, 1) := by decide +kernel
theorem dX9_isBelow_48 : decode cX9_isBelow 48 = .ok (.getfield 75, 3) := by decide +kernel
theorem dX9_isBelow_51 : decode cX9_isBelow 51 = .ok (.iload 4, 2) := by decide +kernel
theorem dX9_isBelow_53 : decode cX9_isBelow 53 = .ok (.iaload, 1) := by decide +kernel
theorem dX9_isBelow_54 : decode cX9_isBelow 54 = .ok (.istore 5, 2) := by decide +kernel
theorem dX9_isBelow_56 : decode cX9_isBelow 56 = .ok (.iconst (-1), 1) := by decide +kernel
theorem dX9_isBelow_57 : decode cX9_isBelow 57 = .ok (.istore 6, 2) := by decide +kernel
theorem dX9_isBelow_59 : decode cX9_isBelow 59 = .ok (.iload 6, 2) := by decide +kernel
theorem dX9_isBelow_61 : decode cX9_isBelow 61 = .ok (.aload_n 0, 1) := by decide +kernel
theorem dX9_isBelow_62 : decode cX9_isBelow 62 = .ok (.getfield 26, 3) := by decide +kernel
theorem dX9_isBelow_65 : decode cX9_isBelow 65 = .ok (.aload_n 0, 1) := by decide +kernel
theorem dX9_isBelow_66 : decode cX9_isBelow 66 = .ok (.getfield 51, 3) := by decide +kernel
theorem dX9_isBelow_69 : decode cX9_isBelow 69 = .ok (.iload 5, 2) := by decide +kernel
theorem dX9_isBelow_71 : decode cX9_isBelow 71 = .ok (.iaload, 1) := by decide +kernel
theorem dX9_isBelow_72 : decode cX9_isBelow 72 = .ok (.iaload, 1) := by decide +kernel
theorem dX9_isBelow_73 : decode cX9_isBelow 73 = .ok (.if_icmp .ge 72, 3) := by decide +kernel
theorem dX9_isBelow_76 : decode cX9_isBelow 76 = .ok (.iload 6, 2) := by decide +kernel
theorem dX9_isBelow_78 : decode cX9_isBelow 78 = .ok (.ifCond .ge 13, 3) := by decide +kernel
theorem dX9_isBelow_81 : decode cX9_isBelow 81 = .ok (.aload_n 0, 1) := by decide +kernel
theorem dX9_isBelow_82 : decode cX9_isBelow 82 = .ok (.getfield 60, 3) := by decide +kernel
theorem dX9_isBelow_85 : decode cX9_isBelow 85 = .ok (.iload 5, 2) := by decide +kernel
theorem dX9_isBelow_87 : decode cX9_isBelow 87 = .ok (.iaload, 1) := by decide +kernel
theorem dX9_isBelow_88 : decode cX9_isBelow 88 = .ok (.goto 15, 3) := by decide +kernel
theorem dX9_isBelow_91 : decode cX9_isBelow 91 = .ok (.aload_n 0, 1) := by decide +kernel
theorem dX9_isBelow_92 : decode cX9_isBelow 92 = .ok (.getfield 63, 3) := by decide +kernel
theorem dX9_isBelow_95 : decode cX9_isBelow 95 = .ok (.iconst 2, 1) := by decide +kernel
theorem dX9_isBelow_96 : decode cX9_isBelow 96 = .ok (.iload 5, 2) := by decide +kernel
theorem dX9_isBelow_98 : decode cX9_isBelow 98 = .ok (.imul, 1) := by decide +kernel
theorem dX9_isBelow_99 : decode cX9_isBelow 99 = .ok (.iload 6, 2) := by decide +kernel
theorem dX9_isBelow_101 : decode cX9_isBelow 101 = .ok (.iadd, 1) := by decide +kernel
theorem dX9_isBelow_102 : decode cX9_isBelow 102 = .ok (.iaload, 1) := by decide +kernel
theorem dX9_isBelow_103 : decode cX9_isBelow 103 = .ok (.istore 7, 2) := by decide +kernel
theorem dX9_isBelow_105 : decode cX9_isBelow 105 = .ok (.iload 7, 2) := by decide +kernel
theorem dX9_isBelow_107 : decode cX9_isBelow 107 = .ok (.ifCond .lt 32, 3) := by decide +kernel
theorem dX9_isBelow_110 : decode cX9_isBelow 110 = .ok (.aload_n 0, 1) := by decide +kernel
theorem dX9_isBelow_111 : decode cX9_isBelow 111 = .ok (.getfield 78, 3) := by decide +kernel
theorem dX9_isBelow_114 : decode cX9_isBelow 114 = .ok (.iload 7, 2) := by decide +kernel
theorem dX9_isBelow_116 : decode cX9_isBelow 116 = .ok (.baload, 1) := by decide +kernel
theorem dX9_isBelow_117 : decode cX9_isBelow 117 = .ok (.ifCond .ne 22, 3) := by decide +kernel
theorem dX9_isBelow_120 : decode cX9_isBelow 120 = .ok (.aload_n 0, 1) := by decide +kernel
theorem dX9_isBelow_121 : decode cX9_isBelow 121 = .ok (.getfield 78, 3) := by decide +kernel
theorem dX9_isBelow_124 : decode cX9_isBelow 124 = .ok (.iload 7, 2) := by decide +kernel
theorem dX9_isBelow_126 : decode cX9_isBelow 126 = .ok (.iconst 1, 1) := by decide +kernel
theorem dX9_isBelow_127 : decode cX9_isBelow 127 = .ok (.bastore, 1) := by decide +kernel
theorem dX9_isBelow_128 : decode cX9_isBelow 128 = .ok (.aload_n 0, 1) := by decide +kernel
theorem dX9_isBelow_129 : decode cX9_isBelow 129 = .ok (.getfield 75, 3) := by decide +kernel
theorem dX9_isBelow_132 : decode cX9_isBelow 132 = .ok (.iload_n 3, 1) := by decide +kernel
theorem dX9_isBelow_133 : decode cX9_isBelow 133 = .ok (.iload 7, 2) := by decide +kernel
theorem dX9_isBelow_135 : decode cX9_isBelow 135 = .ok (.iastore, 1) := by decide +kernel
theorem dX9_isBelow_136 : decode cX9_isBelow 136 = .ok (.iinc 3 1, 3) := by decide +kernel
theorem dX9_isBelow_139 : decode cX9_isBelow 139 = .ok (.iinc 6 1, 3) := by decide +kernel
theorem dX9_isBelow_142 : decode cX9_isBelow 142 = .ok (.goto (-83), 3) := by decide +kernel
theorem dX9_isBelow_145 : decode cX9_isBelow 145 = .ok (.iinc 4 1, 3) := by decide +kernel
theorem dX9_isBelow_148 : decode cX9_isBelow 148 = .ok (.goto (-107), 3) := by decide +kernel
theorem dX9_isBelow_151 : decode cX9_isBelow 151 = .ok (.aload_n 0, 1) := by decide +kernel
theorem dX9_isBelow_152 : decode cX9_isBelow 152 = .ok (.getfield 78, 3) := by decide +kernel
theorem dX9_isBelow_155 : decode cX9_isBelow 155 = .ok (.iload_n 2, 1) := by decide +kernel
theorem dX9_isBelow_156 : decode cX9_isBelow 156 = .ok (.baload, 1) := by decide +kernel
theorem dX9_isBelow_157 : decode cX9_isBelow 157 = .ok (.ireturn, 1) := by decide +kernel
theorem dX9_below_0 : decode cX9_below 0 = .ok (.aload_n 0, 1) := by decide +kernel
theorem dX9_below_1 : decode cX9_below 1 = .ok (.iconst 0, 1) := by decide +kernel
theorem dX9_below_2 : decode cX9_below 2 = .ok (.putfield 128, 3) := by decide +kernel
theorem dX9_below_5 : decode cX9_below 5 = .ok (.aload_n 0, 1) := by decide +kernel
theorem dX9_below_6 : decode cX9_below 6 = .ok (.iload_n 1, 1) := by decide +kernel
theorem dX9_below_7 : decode cX9_below 7 = .ok (.invokevirtual 160, 3) := by decide +kernel
theorem dX9_below_10 : decode cX9_below 10 = .ok (.ifCond .eq 26, 3) := by decide +kernel
theorem dX9_below_13 : decode cX9_below 13 = .ok (.iload_n 2, 1) := by decide +kernel
theorem dX9_below_14 : decode cX9_below 14 = .ok (.invokestatic 140, 3) := by decide +kernel
theorem dX9_below_17 : decode cX9_below 17 = .ok (.ifCond .eq 19, 3) := by decide +kernel
theorem dX9_below_20 : decode cX9_below 20 = .ok (.aload_n 0, 1) := by decide +kernel
theorem dX9_below_21 : decode cX9_below 21 = .ok (.iload_n 3, 1) := by decide +kernel
theorem dX9_below_22 : decode cX9_below 22 = .ok (.invokevirtual 160, 3) := by decide +kernel
theorem dX9_below_25 : decode cX9_below 25 = .ok (.ifCond .eq 11, 3) := by decide +kernel
theorem dX9_below_28 : decode cX9_below 28 = .ok (.iload 4, 2) := by decide +kernel
theorem dX9_below_30 : decode cX9_below 30 = .ok (.invokestatic 140, 3) := by decide +kernel
theorem dX9_below_33 : decode cX9_below 33 = .ok (.ifCond .ne 5, 3) := by decide +kernel
theorem dX9_below_36 : decode cX9_below 36 = .ok (.iconst (-1), 1) := by decide +kernel
theorem dX9_below_37 : decode cX9_below 37 = .ok (.ireturn, 1) := by decide +kernel
theorem dX9_below_38 : decode cX9_below 38 = .ok (.aload_n 0, 1) := by decide +kernel
theorem dX9_below_39 : decode cX9_below 39 = .ok (.iload_n 1, 1) := by decide +kernel
theorem dX9_below_40 : decode cX9_below 40 = .ok (.iload_n 2, 1) := by decide +kernel
theorem dX9_below_41 : decode cX9_below 41 = .ok (.invokevirtual 204, 3) := by decide +kernel
theorem dX9_below_44 : decode cX9_below 44 = .ok (.istore 5, 2) := by decide +kernel
theorem dX9_below_46 : decode cX9_below 46 = .ok (.iload 5, 2) := by decide +kernel
theorem dX9_below_48 : decode cX9_below 48 = .ok (.ifCond .ge 9, 3) := by decide +kernel
theorem dX9_below_51 : decode cX9_below 51 = .ok (.iload 5, 2) := by decide +kernel
theorem dX9_below_53 : decode cX9_below 53 = .ok (.invokestatic 208, 3) := by decide +kernel
theorem dX9_below_56 : decode cX9_below 56 = .ok (.ireturn, 1) := by decide +kernel
theorem dX9_below_57 : decode cX9_below 57 = .ok (.aload_n 0, 1) := by decide +kernel
theorem dX9_below_58 : decode cX9_below 58 = .ok (.iload_n 3, 1) := by decide +kernel
theorem dX9_below_59 : decode cX9_below 59 = .ok (.iload 4, 2) := by decide +kernel
theorem dX9_below_61 : decode cX9_below 61 = .ok (.invokevirtual 204, 3) := by decide +kernel
theorem dX9_below_64 : decode cX9_below 64 = .ok (.istore 6, 2) := by decide +kernel
theorem dX9_below_66 : decode cX9_below 66 = .ok (.iload 6, 2) := by decide +kernel
theorem dX9_below_68 : decode cX9_below 68 = .ok (.ifCond .ge 11, 3) := by decide +kernel
theorem dX9_below_71 : decode cX9_below 71 = .ok (.iload 6, 2) := by decide +kernel
theorem dX9_below_73 : decode cX9_below 73 = .ok (.invokestatic 208, 3) := by decide +kernel
theorem dX9_below_76 : decode cX9_below 76 = .ok (.goto 19, 3) := by decide +kernel
theorem dX9_below_79 : decode cX9_below 79 = .ok (.aload_n 0, 1) := by decide +kernel
theorem dX9_below_80 : decode cX9_below 80 = .ok (.iload 5, 2) := by decide +kernel
theorem dX9_below_82 : decode cX9_below 82 = .ok (.iload 6, 2) := by decide +kernel
theorem dX9_below_84 : decode cX9_below 84 = .ok (.invokevirtual 218, 3) := by decide +kernel
theorem dX9_below_87 : decode cX9_below 87 = .ok (.ifCond .eq 7, 3) := by decide +kernel
theorem dX9_below_90 : decode cX9_below 90 = .ok (.iconst 1, 1) := by decide +kernel
theorem dX9_below_91 : decode cX9_below 91 = .ok (.goto 4, 3) := by decide +kernel
theorem dX9_below_94 : decode cX9_below 94 = .ok (.iconst 0, 1) := by decide +kernel
theorem dX9_below_95 : decode cX9_below 95 = .ok (.ireturn, 1) := by decide +kernel
theorem dX9_isContract_0 : decode cX9_isContract 0 = .ok (.iload_n 1, 1) := by decide +kernel
theorem dX9_isContract_1 : decode cX9_isContract 1 = .ok (.i2l, 1) := by decide +kernel
theorem dX9_isContract_2 : decode cX9_isContract 2 = .ok (.lconst 0, 1) := by decide +kernel
theorem dX9_isContract_3 : decode cX9_isContract 3 = .ok (.aload_n 0, 1) := by decide +kernel
theorem dX9_isContract_4 : decode cX9_isContract 4 = .ok (.getfield 221, 3) := by decide +kernel
theorem dX9_isContract_7 : decode cX9_isContract 7 = .ok (.iconst 1, 1) := by decide +kernel
theorem dX9_isContract_8 : decode cX9_isContract 8 = .ok (.isub, 1) := by decide +kernel
theorem dX9_isContract_9 : decode cX9_isContract 9 = .ok (.i2l, 1) := by decide +kernel
theorem dX9_isContract_10 : decode cX9_isContract 10 = .ok (.invokestatic 133, 3) := by decide +kernel
theorem dX9_isContract_13 : decode cX9_isContract 13 = .ok (.ireturn, 1) := by decide +kernel
theorem dX9_plain_0 : decode cX9_plain 0 = .ok (.aload_n 0, 1) := by decide +kernel
theorem dX9_plain_1 : decode cX9_plain 1 = .ok (.iload_n 1, 1) := by decide +kernel
theorem dX9_plain_2 : decode cX9_plain 2 = .ok (.iload_n 2, 1) := by decide +kernel
theorem dX9_plain_3 : decode cX9_plain 3 = .ok (.invokevirtual 204, 3) := by decide +kernel
theorem dX9_plain_6 : decode cX9_plain 6 = .ok (.istore_n 3, 1) := by decide +kernel
theorem dX9_plain_7 : decode cX9_plain 7 = .ok (.iload_n 3, 1) := by decide +kernel
theorem dX9_plain_8 : decode cX9_plain 8 = .ok (.ifCond .lt 22, 3) := by decide +kernel
theorem dX9_plain_11 : decode cX9_plain 11 = .ok (.aload_n 0, 1) := by decide +kernel
theorem dX9_plain_12 : decode cX9_plain 12 = .ok (.getfield 16, 3) := by decide +kernel
theorem dX9_plain_15 : decode cX9_plain 15 = .ok (.aload_n 0, 1) := by decide +kernel
theorem dX9_plain_16 : decode cX9_plain 16 = .ok (.getfield 51, 3) := by decide +kernel
theorem dX9_plain_19 : decode cX9_plain 19 = .ok (.iload_n 3, 1) := by decide +kernel
theorem dX9_plain_20 : decode cX9_plain 20 = .ok (.iaload, 1) := by decide +kernel
theorem dX9_plain_21 : decode cX9_plain 21 = .ok (.baload, 1) := by decide +kernel
theorem dX9_plain_22 : decode cX9_plain 22 = .ok (.ifCond .eq 8, 3) := by decide +kernel
theorem dX9_plain_25 : decode cX9_plain 25 = .ok (.bipush (-6), 2) := by decide +kernel
theorem dX9_plain_27 : decode cX9_plain 27 = .ok (.goto 4, 3) := by decide +kernel
theorem dX9_plain_30 : decode cX9_plain 30 = .ok (.iload_n 3, 1) := by decide +kernel
theorem dX9_plain_31 : decode cX9_plain 31 = .ok (.ireturn, 1) := by decide +kernel
theorem dX9_deploy_0 : decode cX9_deploy 0 = .ok (.aload_n 0, 1) := by decide +kernel
theorem dX9_deploy_1 : decode cX9_deploy 1 = .ok (.iconst 0, 1) := by decide +kernel
theorem dX9_deploy_2 : decode cX9_deploy 2 = .ok (.putfield 128, 3) := by decide +kernel
theorem dX9_deploy_5 : decode cX9_deploy 5 = .ok (.aload_n 0, 1) := by decide +kernel
theorem dX9_deploy_6 : decode cX9_deploy 6 = .ok (.iload_n 1, 1) := by decide +kernel
theorem dX9_deploy_7 : decode cX9_deploy 7 = .ok (.invokevirtual 160, 3) := by decide +kernel
theorem dX9_deploy_10 : decode cX9_deploy 10 = .ok (.ifCond .eq 10, 3) := by decide +kernel
theorem dX9_deploy_13 : decode cX9_deploy 13 = .ok (.iload_n 2, 1) := by decide +kernel
theorem dX9_deploy_14 : decode cX9_deploy 14 = .ok (.invokestatic 140, 3) := by decide +kernel
theorem dX9_deploy_17 : decode cX9_deploy 17 = .ok (.ifCond .ne 5, 3) := by decide +kernel
theorem dX9_deploy_20 : decode cX9_deploy 20 = .ok (.iconst (-1), 1) := by decide +kernel
theorem dX9_deploy_21 : decode cX9_deploy 21 = .ok (.ireturn, 1) := by decide +kernel
theorem dX9_deploy_22 : decode cX9_deploy 22 = .ok (.aload_n 0, 1) := by decide +kernel
theorem dX9_deploy_23 : decode cX9_deploy 23 = .ok (.getfield 221, 3) := by decide +kernel
theorem dX9_deploy_26 : decode cX9_deploy 26 = .ok (.bipush 10, 2) := by decide +kernel
theorem dX9_deploy_28 : decode cX9_deploy 28 = .ok (.if_icmp .ne 6, 3) := by decide +kernel
theorem dX9_deploy_31 : decode cX9_deploy 31 = .ok (.bipush (-2), 2) := by decide +kernel
theorem dX9_deploy_33 : decode cX9_deploy 33 = .ok (.ireturn, 1) := by decide +kernel
theorem dX9_deploy_34 : decode cX9_deploy 34 = .ok (.aload_n 0, 1) := by decide +kernel
theorem dX9_deploy_35 : decode cX9_deploy 35 = .ok (.iload_n 1, 1) := by decide +kernel
theorem dX9_deploy_36 : decode cX9_deploy 36 = .ok (.iload_n 2, 1) := by decide +kernel
theorem dX9_deploy_37 : decode cX9_deploy 37 = .ok (.invokevirtual 224, 3) := by decide +kernel
theorem dX9_deploy_40 : decode cX9_deploy 40 = .ok (.istore_n 3, 1) := by decide +kernel
theorem dX9_deploy_41 : decode cX9_deploy 41 = .ok (.iload_n 3, 1) := by decide +kernel
theorem dX9_deploy_42 : decode cX9_deploy 42 = .ok (.ifCond .ge 8, 3) := by decide +kernel
theorem dX9_deploy_45 : decode cX9_deploy 45 = .ok (.iload_n 3, 1) := by decide +kernel
theorem dX9_deploy_46 : decode cX9_deploy 46 = .ok (.invokestatic 208, 3) := by decide +kernel
theorem dX9_deploy_49 : decode cX9_deploy 49 = .ok (.ireturn, 1) := by decide +kernel
theorem dX9_deploy_50 : decode cX9_deploy 50 = .ok (.aload_n 0, 1) := by decide +kernel
theorem dX9_deploy_51 : decode cX9_deploy 51 = .ok (.getfield 81, 3) := by decide +kernel
theorem dX9_deploy_54 : decode cX9_deploy 54 = .ok (.aload_n 0, 1) := by decide +kernel
theorem dX9_deploy_55 : decode cX9_deploy 55 = .ok (.getfield 221, 3) := by decide +kernel
theorem dX9_deploy_58 : decode cX9_deploy 58 = .ok (.iload_n 1, 1) := by decide +kernel
theorem dX9_deploy_59 : decode cX9_deploy 59 = .ok (.iastore, 1) := by decide +kernel
theorem dX9_deploy_60 : decode cX9_deploy 60 = .ok (.aload_n 0, 1) := by decide +kernel
theorem dX9_deploy_61 : decode cX9_deploy 61 = .ok (.getfield 84, 3) := by decide +kernel
theorem dX9_deploy_64 : decode cX9_deploy 64 = .ok (.aload_n 0, 1) := by decide +kernel
theorem dX9_deploy_65 : decode cX9_deploy 65 = .ok (.getfield 221, 3) := by decide +kernel
theorem dX9_deploy_68 : decode cX9_deploy 68 = .ok (.iload_n 2, 1) := by decide +kernel
theorem dX9_deploy_69 : decode cX9_deploy 69 = .ok (.iastore, 1) := by decide +kernel
theorem dX9_deploy_70 : decode cX9_deploy 70 = .ok (.aload_n 0, 1) := by decide +kernel
theorem dX9_deploy_71 : decode cX9_deploy 71 = .ok (.getfield 87, 3) := by decide +kernel
theorem dX9_deploy_74 : decode cX9_deploy 74 = .ok (.aload_n 0, 1) := by decide +kernel
theorem dX9_deploy_75 : decode cX9_deploy 75 = .ok (.getfield 221, 3) := by decide +kernel
theorem dX9_deploy_78 : decode cX9_deploy 78 = .ok (.aload_n 0, 1) := by decide +kernel
theorem dX9_deploy_79 : decode cX9_deploy 79 = .ok (.getfield 23, 3) := by decide +kernel
theorem dX9_deploy_82 : decode cX9_deploy 82 = .ok (.aload_n 0, 1) := by decide +kernel
theorem dX9_deploy_83 : decode cX9_deploy 83 = .ok (.getfield 51, 3) := by decide +kernel
theorem dX9_deploy_86 : decode cX9_deploy 86 = .ok (.iload_n 3, 1) := by decide +kernel
theorem dX9_deploy_87 : decode cX9_deploy 87 = .ok (.iaload, 1) := by decide +kernel
theorem dX9_deploy_88 : decode cX9_deploy 88 = .ok (.iaload, 1) := by decide +kernel
theorem dX9_deploy_89 : decode cX9_deploy 89 = .ok (.iastore, 1) := by decide +kernel
theorem dX9_deploy_90 : decode cX9_deploy 90 = .ok (.aload_n 0, 1) := by decide +kernel
theorem dX9_deploy_91 : decode cX9_deploy 91 = .ok (.dup, 1) := by decide +kernel
theorem dX9_deploy_92 : decode cX9_deploy 92 = .ok (.getfield 221, 3) := by decide +kernel
theorem dX9_deploy_95 : decode cX9_deploy 95 = .ok (.iconst 1, 1) := by decide +kernel
theorem dX9_deploy_96 : decode cX9_deploy 96 = .ok (.iadd, 1) := by decide +kernel
theorem dX9_deploy_97 : decode cX9_deploy 97 = .ok (.putfield 221, 3) := by decide +kernel
theorem dX9_deploy_100 : decode cX9_deploy 100 = .ok (.aload_n 0, 1) := by decide +kernel
theorem dX9_deploy_101 : decode cX9_deploy 101 = .ok (.getfield 221, 3) := by decide +kernel
theorem dX9_deploy_104 : decode cX9_deploy 104 = .ok (.iconst 1, 1) := by decide +kernel
theorem dX9_deploy_105 : decode cX9_deploy 105 = .ok (.isub, 1) := by decide +kernel
theorem dX9_deploy_106 : decode cX9_deploy 106 = .ok (.ireturn, 1) := by decide +kernel
theorem dX9_upgrade_0 : decode cX9_upgrade 0 = .ok (.aload_n 0, 1) := by decide +kernel
theorem dX9_upgrade_1 : decode cX9_upgrade 1 = .ok (.iconst 0, 1) := by decide +kernel
theorem dX9_upgrade_2 : decode cX9_upgrade 2 = .ok (.putfield 128, 3) := by decide +kernel
theorem dX9_upgrade_5 : decode cX9_upgrade 5 = .ok (.aload_n 0, 1) := by decide +kernel
theorem dX9_upgrade_6 : decode cX9_upgrade 6 = .ok (.iload_n 1, 1) := by decide +kernel
theorem dX9_upgrade_7 : decode cX9_upgrade 7 = .ok (.invokevirtual 227, 3) := by decide +kernel
theorem dX9_upgrade_10 : decode cX9_upgrade 10 = .ok (.ifCond .eq 18, 3) := by decide +kernel
theorem dX9_upgrade_13 : decode cX9_upgrade 13 = .ok (.aload_n 0, 1) := by decide +kernel
theorem dX9_upgrade_14 : decode cX9_upgrade 14 = .ok (.iload_n 2, 1) := by decide +kernel
theorem dX9_upgrade_15 : decode cX9_upgrade 15 = .ok (.invokevirtual 160, 3) := by decide +kernel
theorem dX9_upgrade_18 : decode cX9_upgrade 18 = .ok (.ifCond .eq 10, 3) := by decide +kernel
theorem dX9_upgrade_21 : decode cX9_upgrade 21 = .ok (.iload_n 3, 1) := by decide +kernel
theorem dX9_upgrade_22 : decode cX9_upgrade 22 = .ok (.invokestatic 140, 3) := by decide +kernel
theorem dX9_upgrade_25 : decode cX9_upgrade 25 = .ok (.ifCond .ne 5, 3) := by decide +kernel
theorem dX9_upgrade_28 : decode cX9_upgrade 28 = .ok (.iconst (-1), 1) := by decide +kernel
theorem dX9_upgrade_29 : decode cX9_upgrade 29 = .ok (.ireturn, 1) := by decide +kernel
theorem dX9_upgrade_30 : decode cX9_upgrade 30 = .ok (.aload_n 0, 1) := by decide +kernel
theorem dX9_upgrade_31 : decode cX9_upgrade 31 = .ok (.iload_n 2, 1) := by decide +kernel
theorem dX9_upgrade_32 : decode cX9_upgrade 32 = .ok (.iload_n 3, 1) := by decide +kernel
theorem dX9_upgrade_33 : decode cX9_upgrade 33 = .ok (.invokevirtual 224, 3) := by decide +kernel
theorem dX9_upgrade_36 : decode cX9_upgrade 36 = .ok (.istore 4, 2) := by decide +kernel
theorem dX9_upgrade_38 : decode cX9_upgrade 38 = .ok (.iload 4, 2) := by decide +kernel
theorem dX9_upgrade_40 : decode cX9_upgrade 40 = .ok (.ifCond .ge 9, 3) := by decide +kernel
theorem dX9_upgrade_43 : decode cX9_upgrade 43 = .ok (.iload 4, 2) := by decide +kernel
theorem dX9_upgrade_45 : decode cX9_upgrade 45 = .ok (.invokestatic 208, 3) := by decide +kernel
theorem dX9_upgrade_48 : decode cX9_upgrade 48 = .ok (.ireturn, 1) := by decide +kernel
theorem dX9_upgrade_49 : decode cX9_upgrade 49 = .ok (.aload_n 0, 1) := by decide +kernel
theorem dX9_upgrade_50 : decode cX9_upgrade 50 = .ok (.getfield 81, 3) := by decide +kernel
theorem dX9_upgrade_53 : decode cX9_upgrade 53 = .ok (.iload_n 1, 1) := by decide +kernel
theorem dX9_upgrade_54 : decode cX9_upgrade 54 = .ok (.iload_n 2, 1) := by decide +kernel
theorem dX9_upgrade_55 : decode cX9_upgrade 55 = .ok (.iastore, 1) := by decide +kernel
theorem dX9_upgrade_56 : decode cX9_upgrade 56 = .ok (.aload_n 0, 1) := by decide +kernel
theorem dX9_upgrade_57 : decode cX9_upgrade 57 = .ok (.getfield 84, 3) := by decide +kernel
theorem dX9_upgrade_60 : decode cX9_upgrade 60 = .ok (.iload_n 1, 1) := by decide +kernel
theorem dX9_upgrade_61 : decode cX9_upgrade 61 = .ok (.iload_n 3, 1) := by decide +kernel
theorem dX9_upgrade_62 : decode cX9_upgrade 62 = .ok (.iastore, 1) := by decide +kernel
theorem dX9_upgrade_63 : decode cX9_upgrade 63 = .ok (.iconst 1, 1) := by decide +kernel
theorem dX9_upgrade_64 : decode cX9_upgrade 64 = .ok (.ireturn, 1) := by decide +kernel
theorem dX9_move_0 : decode cX9_move 0 = .ok (.aload_n 0, 1) := by decide +kernel
theorem dX9_move_1 : decode cX9_move 1 = .ok (.iconst 0, 1) := by decide +kernel
theorem dX9_move_2 : decode cX9_move 2 = .ok (.putfield 128, 3) := by decide +kernel
theorem dX9_move_5 : decode cX9_move 5 = .ok (.aload_n 0, 1) := by decide +kernel
theorem dX9_move_6 : decode cX9_move 6 = .ok (.iload_n 1, 1) := by decide +kernel
theorem dX9_move_7 : decode cX9_move 7 = .ok (.invokevirtual 227, 3) := by decide +kernel
theorem dX9_move_10 : decode cX9_move 10 = .ok (.ifCond .eq 21, 3) := by decide +kernel
theorem dX9_move_13 : decode cX9_move 13 = .ok (.iload_n 2, 1) := by decide +kernel
theorem dX9_move_14 : decode cX9_move 14 = .ok (.i2l, 1) := by decide +kernel
theorem dX9_move_15 : decode cX9_move 15 = .ok (.lconst 0, 1) := by decide +kernel
theorem dX9_move_16 : decode cX9_move 16 = .ok (.ldc2_w 144, 3) := by decide +kernel
theorem dX9_move_19 : decode cX9_move 19 = .ok (.invokestatic 133, 3) := by decide +kernel
theorem dX9_move_22 : decode cX9_move 22 = .ok (.ifCond .eq 9, 3) := by decide +kernel
theorem dX9_move_25 : decode cX9_move 25 = .ok (.iload 4, 2) := by decide +kernel
theorem dX9_move_27 : decode cX9_move 27 = .ok (.iconst 4, 1) := by decide +kernel
theorem dX9_move_28 : decode cX9_move 28 = .ok (.if_icmp .le 5, 3) := by decide +kernel
theorem dX9_move_31 : decode cX9_move 31 = .ok (.iconst (-1), 1) := by decide +kernel
theorem dX9_move_32 : decode cX9_move 32 = .ok (.ireturn, 1) := by decide +kernel
theorem dX9_move_33 : decode cX9_move 33 = .ok (.iload_n 2, 1) := by decide +kernel
theorem dX9_move_34 : decode cX9_move 34 = .ok (.aload_n 0, 1) := by decide +kernel
theorem dX9_move_35 : decode cX9_move 35 = .ok (.getfield 87, 3) := by decide +kernel
theorem dX9_move_38 : decode cX9_move 38 = .ok (.iload_n 1, 1) := by decide +kernel
theorem dX9_move_39 : decode cX9_move 39 = .ok (.iaload, 1) := by decide +kernel
theorem dX9_move_40 : decode cX9_move 40 = .ok (.if_icmp .eq 6, 3) := by decide +kernel
theorem dX9_move_43 : decode cX9_move 43 = .ok (.bipush (-29), 2) := by decide +kernel
theorem dX9_move_45 : decode cX9_move 45 = .ok (.ireturn, 1) := by decide +kernel
theorem dX9_move_46 : decode cX9_move 46 = .ok (.iload_n 3, 1) := by decide +kernel
theorem dX9_move_47 : decode cX9_move 47 = .ok (.ifCond .lt 21, 3) := by decide +kernel
theorem dX9_move_50 : decode cX9_move 50 = .ok (.iload 4, 2) := by decide +kernel
theorem dX9_move_52 : decode cX9_move 52 = .ok (.ifCond .lt 16, 3) := by decide +kernel
theorem dX9_move_55 : decode cX9_move 55 = .ok (.iload_n 3, 1) := by decide +kernel
theorem dX9_move_56 : decode cX9_move 56 = .ok (.i2l, 1) := by decide +kernel
theorem dX9_move_57 : decode cX9_move 57 = .ok (.iload 4, 2) := by decide +kernel
theorem dX9_move_59 : decode cX9_move 59 = .ok (.i2l, 1) := by decide +kernel
theorem dX9_move_60 : decode cX9_move 60 = .ok (.ladd, 1) := by decide +kernel
theorem dX9_move_61 : decode cX9_move 61 = .ok (.ldc2_w 230, 3) := by decide +kernel
theorem dX9_move_64 : decode cX9_move 64 = .ok (.lcmp, 1) := by decide +kernel
theorem dX9_move_65 : decode cX9_move 65 = .ok (.ifCond .le 6, 3) := by decide +kernel
theorem dX9_move_68 : decode cX9_move 68 = .ok (.bipush (-30), 2) := by decide +kernel
theorem dX9_move_70 : decode cX9_move 70 = .ok (.ireturn, 1) := by decide +kernel
theorem dX9_move_71 : decode cX9_move 71 = .ok (.iconst 0, 1) := by decide +kernel
theorem dX9_move_72 : decode cX9_move 72 = .ok (.istore 5, 2) := by decide +kernel
theorem dX9_move_74 : decode cX9_move 74 = .ok (.iload 5, 2) := by decide +kernel
theorem dX9_move_76 : decode cX9_move 76 = .ok (.iconst 4, 1) := by decide +kernel
theorem dX9_move_77 : decode cX9_move 77 = .ok (.if_icmp .ge 44, 3) := by decide +kernel
theorem dX9_move_80 : decode cX9_move 80 = .ok (.aload_n 0, 1) := by decide +kernel
theorem dX9_move_81 : decode cX9_move 81 = .ok (.getfield 90, 3) := by decide +kernel
theorem dX9_move_84 : decode cX9_move 84 = .ok (.iconst 4, 1) := by decide +kernel
theorem dX9_move_85 : decode cX9_move 85 = .ok (.iload_n 1, 1) := by decide +kernel
theorem dX9_move_86 : decode cX9_move 86 = .ok (.imul, 1) := by decide +kernel
theorem dX9_move_87 : decode cX9_move 87 = .ok (.iload 5, 2) := by decide +kernel
theorem dX9_move_89 : decode cX9_move 89 = .ok (.iadd, 1) := by decide +kernel
theorem dX9_move_90 : decode cX9_move 90 = .ok (.iload 5, 2) := by decide +kernel
theorem dX9_move_92 : decode cX9_move 92 = .ok (.iload 4, 2) := by decide +kernel
theorem dX9_move_94 : decode cX9_move 94 = .ok (.if_icmp .ge 19, 3) := by decide +kernel
theorem dX9_move_97 : decode cX9_move 97 = .ok (.aload_n 0, 1) := by decide +kernel
theorem dX9_move_98 : decode cX9_move 98 = .ok (.getfield 90, 3) := by decide +kernel
theorem dX9_move_101 : decode cX9_move 101 = .ok (.iconst 4, 1) := by decide +kernel
theorem dX9_move_102 : decode cX9_move 102 = .ok (.iload_n 1, 1) := by decide +kernel
theorem dX9_move_103 : decode cX9_move 103 = .ok (.imul, 1) := by decide +kernel
theorem dX9_move_104 : decode cX9_move 104 = .ok (.iload_n 3, 1) := by decide +kernel
theorem dX9_move_105 : decode cX9_move 105 = .ok (.iadd, 1) := by decide +kernel
theorem dX9_move_106 : decode cX9_move 106 = .ok (.iload 5, 2) := by decide +kernel
theorem dX9_move_108 : decode cX9_move 108 = .ok (.iadd, 1) := by decide +kernel
theorem dX9_move_109 : decode cX9_move 109 = .ok (.laload, 1) := by decide +kernel
theorem dX9_move_110 : decode cX9_move 110 = .ok (.goto 4, 3) := by decide +kernel
theorem dX9_move_113 : decode cX9_move 113 = .ok (.lconst 0, 1) := by decide +kernel
theorem dX9_move_114 : decode cX9_move 114 = .ok (.lastore, 1) := by decide +kernel
theorem dX9_move_115 : decode cX9_move 115 = .ok (.iinc 5 1, 3) := by decide +kernel
theorem dX9_move_118 : decode cX9_move 118 = .ok (.goto (-44), 3) := by decide +kernel
theorem dX9_move_121 : decode cX9_move 121 = .ok (.iconst 1, 1) := by decide +kernel
theorem dX9_move_122 : decode cX9_move 122 = .ok (.ireturn, 1) := by decide +kernel
theorem dX9_having_0 : decode cX9_having 0 = .ok (.iload_n 1, 1) := by decide +kernel
theorem dX9_having_1 : decode cX9_having 1 = .ok (.istore_n 3, 1) := by decide +kernel
theorem dX9_having_2 : decode cX9_having 2 = .ok (.iload_n 3, 1) := by decide +kernel
theorem dX9_having_3 : decode cX9_having 3 = .ok (.ifCond .lt 31, 3) := by decide +kernel
theorem dX9_having_6 : decode cX9_having 6 = .ok (.aload_n 0, 1) := by decide +kernel
theorem dX9_having_7 : decode cX9_having 7 = .ok (.getfield 32, 3) := by decide +kernel
theorem dX9_having_10 : decode cX9_having 10 = .ok (.iconst 3, 1) := by decide +kernel
theorem dX9_having_11 : decode cX9_having 11 = .ok (.aload_n 0, 1) := by decide +kernel
theorem dX9_having_12 : decode cX9_having 12 = .ok (.getfield 51, 3) := by decide +kernel
theorem dX9_having_15 : decode cX9_having 15 = .ok (.iload_n 3, 1) := by decide +kernel
theorem dX9_having_16 : decode cX9_having 16 = .ok (.iaload, 1) := by decide +kernel
theorem dX9_having_17 : decode cX9_having 17 = .ok (.imul, 1) := by decide +kernel
theorem dX9_having_18 : decode cX9_having 18 = .ok (.iload_n 2, 1) := by decide +kernel
theorem dX9_having_19 : decode cX9_having 19 = .ok (.iadd, 1) := by decide +kernel
theorem dX9_having_20 : decode cX9_having 20 = .ok (.iaload, 1) := by decide +kernel
theorem dX9_having_21 : decode cX9_having 21 = .ok (.ifCond .ne 13, 3) := by decide +kernel
theorem dX9_having_24 : decode cX9_having 24 = .ok (.aload_n 0, 1) := by decide +kernel
theorem dX9_having_25 : decode cX9_having 25 = .ok (.getfield 60, 3) := by decide +kernel
theorem dX9_having_28 : decode cX9_having 28 = .ok (.iload_n 3, 1) := by decide +kernel
theorem dX9_having_29 : decode cX9_having 29 = .ok (.iaload, 1) := by decide +kernel
theorem dX9_having_30 : decode cX9_having 30 = .ok (.istore_n 3, 1) := by decide +kernel
theorem dX9_having_31 : decode cX9_having 31 = .ok (.goto (-29), 3) := by decide +kernel
theorem dX9_having_34 : decode cX9_having 34 = .ok (.iload_n 3, 1) := by decide +kernel
theorem dX9_having_35 : decode cX9_having 35 = .ok (.ireturn, 1) := by decide +kernel
theorem dX9_push_0 : decode cX9_push 0 = .ok (.aload_n 0, 1) := by decide +kernel
theorem dX9_push_1 : decode cX9_push 1 = .ok (.getfield 94, 3) := by decide +kernel
theorem dX9_push_4 : decode cX9_push 4 = .ok (.aload_n 0, 1) := by decide +kernel
theorem dX9_push_5 : decode cX9_push 5 = .ok (.getfield 232, 3) := by decide +kernel
theorem dX9_push_8 : decode cX9_push 8 = .ok (.iload_n 1, 1) := by decide +kernel
theorem dX9_push_9 : decode cX9_push 9 = .ok (.iastore, 1) := by decide +kernel
theorem dX9_push_10 : decode cX9_push 10 = .ok (.aload_n 0, 1) := by decide +kernel
theorem dX9_push_11 : decode cX9_push 11 = .ok (.getfield 97, 3) := by decide +kernel
theorem dX9_push_14 : decode cX9_push 14 = .ok (.aload_n 0, 1) := by decide +kernel
theorem dX9_push_15 : decode cX9_push 15 = .ok (.getfield 232, 3) := by decide +kernel
theorem dX9_push_18 : decode cX9_push 18 = .ok (.iload_n 2, 1) := by decide +kernel
theorem dX9_push_19 : decode cX9_push 19 = .ok (.iastore, 1) := by decide +kernel
theorem dX9_push_20 : decode cX9_push 20 = .ok (.aload_n 0, 1) := by decide +kernel
theorem dX9_push_21 : decode cX9_push 21 = .ok (.getfield 100, 3) := by decide +kernel
theorem dX9_push_24 : decode cX9_push 24 = .ok (.aload_n 0, 1) := by decide +kernel
theorem dX9_push_25 : decode cX9_push 25 = .ok (.getfield 232, 3) := by decide +kernel
theorem dX9_push_28 : decode cX9_push 28 = .ok (.iload_n 3, 1) := by decide +kernel
theorem dX9_push_29 : decode cX9_push 29 = .ok (.bastore, 1) := by decide +kernel
theorem dX9_push_30 : decode cX9_push 30 = .ok (.aload_n 0, 1) := by decide +kernel
theorem dX9_push_31 : decode cX9_push 31 = .ok (.getfield 103, 3) := by decide +kernel
theorem dX9_push_34 : decode cX9_push 34 = .ok (.aload_n 0, 1) := by decide +kernel
theorem dX9_push_35 : decode cX9_push 35 = .ok (.getfield 232, 3) := by decide +kernel
theorem dX9_push_38 : decode cX9_push 38 = .ok (.iload 4, 2) := by decide +kernel
theorem dX9_push_40 : decode cX9_push 40 = .ok (.iastore, 1) := by decide +kernel
theorem dX9_push_41 : decode cX9_push 41 = .ok (.aload_n 0, 1) := by decide +kernel
theorem dX9_push_42 : decode cX9_push 42 = .ok (.getfield 106, 3) := by decide +kernel
theorem dX9_push_45 : decode cX9_push 45 = .ok (.aload_n 0, 1) := by decide +kernel
theorem dX9_push_46 : decode cX9_push 46 = .ok (.getfield 232, 3) := by decide +kernel
theorem dX9_push_49 : decode cX9_push 49 = .ok (.iload 5, 2) := by decide +kernel
theorem dX9_push_51 : decode cX9_push 51 = .ok (.iastore, 1) := by decide +kernel
theorem dX9_push_52 : decode cX9_push 52 = .ok (.aload_n 0, 1) := by decide +kernel
theorem dX9_push_53 : decode cX9_push 53 = .ok (.getfield 109, 3) := by decide +kernel
theorem dX9_push_56 : decode cX9_push 56 = .ok (.aload_n 0, 1) := by decide +kernel
theorem dX9_push_57 : decode cX9_push 57 = .ok (.getfield 232, 3) := by decide +kernel
theorem dX9_push_60 : decode cX9_push 60 = .ok (.iconst 0, 1) := by decide +kernel
theorem dX9_push_61 : decode cX9_push 61 = .ok (.iastore, 1) := by decide +kernel
theorem dX9_push_62 : decode cX9_push 62 = .ok (.aload_n 0, 1) := by decide +kernel
theorem dX9_push_63 : decode cX9_push 63 = .ok (.getfield 112, 3) := by decide +kernel
theorem dX9_push_66 : decode cX9_push 66 = .ok (.aload_n 0, 1) := by decide +kernel
theorem dX9_push_67 : decode cX9_push 67 = .ok (.getfield 232, 3) := by decide +kernel
theorem dX9_push_70 : decode cX9_push 70 = .ok (.iconst 0, 1) := by decide +kernel
theorem dX9_push_71 : decode cX9_push 71 = .ok (.bastore, 1) := by decide +kernel
theorem dX9_push_72 : decode cX9_push 72 = .ok (.aload_n 0, 1) := by decide +kernel
theorem dX9_push_73 : decode cX9_push 73 = .ok (.getfield 115, 3) := by decide +kernel
theorem dX9_push_76 : decode cX9_push 76 = .ok (.aload_n 0, 1) := by decide +kernel
theorem dX9_push_77 : decode cX9_push 77 = .ok (.getfield 232, 3) := by decide +kernel
theorem dX9_push_80 : decode cX9_push 80 = .ok (.iconst 0, 1) := by decide +kernel
theorem dX9_push_81 : decode cX9_push 81 = .ok (.bastore, 1) := by decide +kernel
theorem dX9_push_82 : decode cX9_push 82 = .ok (.aload_n 0, 1) := by decide +kernel
theorem dX9_push_83 : decode cX9_push 83 = .ok (.getfield 118, 3) := by decide +kernel
theorem dX9_push_86 : decode cX9_push 86 = .ok (.aload_n 0, 1) := by decide +kernel
theorem dX9_push_87 : decode cX9_push 87 = .ok (.getfield 232, 3) := by decide +kernel
theorem dX9_push_90 : decode cX9_push 90 = .ok (.lload 6, 2) := by decide +kernel
theorem dX9_push_92 : decode cX9_push 92 = .ok (.lastore, 1) := by decide +kernel
theorem dX9_push_93 : decode cX9_push 93 = .ok (.aload_n 0, 1) := by decide +kernel
theorem dX9_push_94 : decode cX9_push 94 = .ok (.dup, 1) := by decide +kernel
theorem dX9_push_95 : decode cX9_push 95 = .ok (.getfield 232, 3) := by decide +kernel
theorem dX9_push_98 : decode cX9_push 98 = .ok (.iconst 1, 1) := by decide +kernel
theorem dX9_push_99 : decode cX9_push 99 = .ok (.iadd, 1) := by decide +kernel
theorem dX9_push_100 : decode cX9_push 100 = .ok (.putfield 232, 3) := by decide +kernel
theorem dX9_push_103 : decode cX9_push 103 = .ok (.return_, 1) := by decide +kernel
theorem dX9_enter_0 : decode cX9_enter 0 = .ok (.aload_n 0, 1) := by decide +kernel
theorem dX9_enter_1 : decode cX9_enter 1 = .ok (.getfield 235, 3) := by decide +kernel
theorem dX9_enter_4 : decode cX9_enter 4 = .ok (.bipush 8, 2) := by decide +kernel
theorem dX9_enter_6 : decode cX9_enter 6 = .ok (.if_icmp .ne 6, 3) := by decide +kernel
theorem dX9_enter_9 : decode cX9_enter 9 = .ok (.bipush 13, 2) := by decide +kernel
theorem dX9_enter_11 : decode cX9_enter 11 = .ok (.ireturn, 1) := by decide +kernel
theorem dX9_enter_12 : decode cX9_enter 12 = .ok (.aload_n 0, 1) := by decide +kernel
theorem dX9_enter_13 : decode cX9_enter 13 = .ok (.dup, 1) := by decide +kernel
theorem dX9_enter_14 : decode cX9_enter 14 = .ok (.getfield 238, 3) := by decide +kernel
theorem dX9_enter_17 : decode cX9_enter 17 = .ok (.iconst 1, 1) := by decide +kernel
theorem dX9_enter_18 : decode cX9_enter 18 = .ok (.iadd, 1) := by decide +kernel
theorem dX9_enter_19 : decode cX9_enter 19 = .ok (.putfield 238, 3) := by decide +kernel
theorem dX9_enter_22 : decode cX9_enter 22 = .ok (.aload_n 0, 1) := by decide +kernel
theorem dX9_enter_23 : decode cX9_enter 23 = .ok (.aload_n 0, 1) := by decide +kernel
theorem dX9_enter_24 : decode cX9_enter 24 = .ok (.getfield 235, 3) := by decide +kernel
theorem dX9_enter_27 : decode cX9_enter 27 = .ok (.iconst 1, 1) := by decide +kernel
theorem dX9_enter_28 : decode cX9_enter 28 = .ok (.iadd, 1) := by decide +kernel
theorem dX9_enter_29 : decode cX9_enter 29 = .ok (.aload_n 0, 1) := by decide +kernel
theorem dX9_enter_30 : decode cX9_enter 30 = .ok (.getfield 241, 3) := by decide +kernel
theorem dX9_enter_33 : decode cX9_enter 33 = .ok (.if_icmp .le 12, 3) := by decide +kernel
theorem dX9_enter_36 : decode cX9_enter 36 = .ok (.aload_n 0, 1) := by decide +kernel
theorem dX9_enter_37 : decode cX9_enter 37 = .ok (.getfield 235, 3) := by decide +kernel
theorem dX9_enter_40 : decode cX9_enter 40 = .ok (.iconst 1, 1) := by decide +kernel
theorem dX9_enter_41 : decode cX9_enter 41 = .ok (.iadd, 1) := by decide +kernel
theorem dX9_enter_42 : decode cX9_enter 42 = .ok (.goto 7, 3) := by decide +kernel
theorem dX9_enter_45 : decode cX9_enter 45 = .ok (.aload_n 0, 1) := by decide +kernel
theorem dX9_enter_46 : decode cX9_enter 46 = .ok (.getfield 241, 3) := by decide +kernel
theorem dX9_enter_49 : decode cX9_enter 49 = .ok (.putfield 241, 3) := by decide +kernel
theorem dX9_enter_52 : decode cX9_enter 52 = .ok (.aload_n 0, 1) := by decide +kernel
theorem dX9_enter_53 : decode cX9_enter 53 = .ok (.aload_n 0, 1) := by decide +kernel
theorem dX9_enter_54 : decode cX9_enter 54 = .ok (.getfield 81, 3) := by decide +kernel
theorem dX9_enter_57 : decode cX9_enter 57 = .ok (.iload_n 1, 1) := by decide +kernel
theorem dX9_enter_58 : decode cX9_enter 58 = .ok (.iaload, 1) := by decide +kernel
theorem dX9_enter_59 : decode cX9_enter 59 = .ok (.aload_n 0, 1) := by decide +kernel
theorem dX9_enter_60 : decode cX9_enter 60 = .ok (.getfield 84, 3) := by decide +kernel
theorem dX9_enter_63 : decode cX9_enter 63 = .ok (.iload_n 1, 1) := by decide +kernel
theorem dX9_enter_64 : decode cX9_enter 64 = .ok (.iaload, 1) := by decide +kernel
theorem dX9_enter_65 : decode cX9_enter 65 = .ok (.invokevirtual 204, 3) := by decide +kernel
theorem dX9_enter_68 : decode cX9_enter 68 = .ok (.istore 5, 2) := by decide +kernel
theorem dX9_enter_70 : decode cX9_enter 70 = .ok (.iload 5, 2) := by decide +kernel
theorem dX9_enter_72 : decode cX9_enter 72 = .ok (.ifCond .ge 7, 3) := by decide +kernel
theorem dX9_enter_75 : decode cX9_enter 75 = .ok (.iload 5, 2) := by decide +kernel
theorem dX9_enter_77 : decode cX9_enter 77 = .ok (.ineg, 1) := by decide +kernel
theorem dX9_enter_78 : decode cX9_enter 78 = .ok (.ireturn, 1) := by decide +kernel
theorem dX9_enter_79 : decode cX9_enter 79 = .ok (.aload_n 0, 1) := by decide +kernel
theorem dX9_enter_80 : decode cX9_enter 80 = .ok (.iload 5, 2) := by decide +kernel
theorem dX9_enter_82 : decode cX9_enter 82 = .ok (.iload_n 2, 1) := by decide +kernel
theorem dX9_enter_83 : decode cX9_enter 83 = .ok (.invokevirtual 244, 3) := by decide +kernel
theorem dX9_enter_86 : decode cX9_enter 86 = .ok (.istore 6, 2) := by decide +kernel
theorem dX9_enter_88 : decode cX9_enter 88 = .ok (.iload 6, 2) := by decide +kernel
theorem dX9_enter_90 : decode cX9_enter 90 = .ok (.ifCond .ge 6, 3) := by decide +kernel
theorem dX9_enter_93 : decode cX9_enter 93 = .ok (.bipush 14, 2) := by decide +kernel
theorem dX9_enter_95 : decode cX9_enter 95 = .ok (.ireturn, 1) := by decide +kernel
theorem dX9_enter_96 : decode cX9_enter 96 = .ok (.aload_n 0, 1) := by decide +kernel
theorem dX9_enter_97 : decode cX9_enter 97 = .ok (.dup, 1) := by decide +kernel
theorem dX9_enter_98 : decode cX9_enter 98 = .ok (.getfield 235, 3) := by decide +kernel
theorem dX9_enter_101 : decode cX9_enter 101 = .ok (.iconst 1, 1) := by decide +kernel
theorem dX9_enter_102 : decode cX9_enter 102 = .ok (.iadd, 1) := by decide +kernel
theorem dX9_enter_103 : decode cX9_enter 103 = .ok (.putfield 235, 3) := by decide +kernel
theorem dX9_enter_106 : decode cX9_enter 106 = .ok (.aload_n 0, 1) := by decide +kernel
theorem dX9_enter_107 : decode cX9_enter 107 = .ok (.getfield 66, 3) := by decide +kernel
theorem dX9_enter_110 : decode cX9_enter 110 = .ok (.iload 5, 2) := by decide +kernel
theorem dX9_enter_112 : decode cX9_enter 112 = .ok (.dup2, 1) := by decide +kernel
theorem dX9_enter_113 : decode cX9_enter 113 = .ok (.iaload, 1) := by decide +kernel
theorem dX9_enter_114 : decode cX9_enter 114 = .ok (.iconst 1, 1) := by decide +kernel
theorem dX9_enter_115 : decode cX9_enter 115 = .ok (.iadd, 1) := by decide +kernel
theorem dX9_enter_116 : decode cX9_enter 116 = .ok (.iastore, 1) := by decide +kernel
theorem dX9_enter_117 : decode cX9_enter 117 = .ok (.aload_n 0, 1) := by decide +kernel
theorem dX9_enter_118 : decode cX9_enter 118 = .ok (.iload_n 1, 1) := by decide +kernel
theorem dX9_enter_119 : decode cX9_enter 119 = .ok (.iload 5, 2) := by decide +kernel
theorem dX9_enter_121 : decode cX9_enter 121 = .ok (.iconst 1, 1) := by decide +kernel
theorem dX9_enter_122 : decode cX9_enter 122 = .ok (.iload_n 2, 1) := by decide +kernel
theorem dX9_enter_123 : decode cX9_enter 123 = .ok (.iload 6, 2) := by decide +kernel
theorem dX9_enter_125 : decode cX9_enter 125 = .ok (.lload_n 3, 1) := by decide +kernel
theorem dX9_enter_126 : decode cX9_enter 126 = .ok (.invokevirtual 247, 3) := by decide +kernel
theorem dX9_enter_129 : decode cX9_enter 129 = .ok (.iconst 0, 1) := by decide +kernel
theorem dX9_enter_130 : decode cX9_enter 130 = .ok (.ireturn, 1) := by decide +kernel
theorem dX9_leave_0 : decode cX9_leave 0 = .ok (.aload_n 0, 1) := by decide +kernel
theorem dX9_leave_1 : decode cX9_leave 1 = .ok (.dup, 1) := by decide +kernel
theorem dX9_leave_2 : decode cX9_leave 2 = .ok (.getfield 232, 3) := by decide +kernel
theorem dX9_leave_5 : decode cX9_leave 5 = .ok (.iconst 1, 1) := by decide +kernel
theorem dX9_leave_6 : decode cX9_leave 6 = .ok (.isub, 1) := by decide +kernel
theorem dX9_leave_7 : decode cX9_leave 7 = .ok (.putfield 232, 3) := by decide +kernel
theorem dX9_leave_10 : decode cX9_leave 10 = .ok (.aload_n 0, 1) := by decide +kernel
theorem dX9_leave_11 : decode cX9_leave 11 = .ok (.getfield 100, 3) := by decide +kernel
theorem dX9_leave_14 : decode cX9_leave 14 = .ok (.aload_n 0, 1) := by decide +kernel
theorem dX9_leave_15 : decode cX9_leave 15 = .ok (.getfield 232, 3) := by decide +kernel
theorem dX9_leave_18 : decode cX9_leave 18 = .ok (.baload, 1) := by decide +kernel
theorem dX9_leave_19 : decode cX9_leave 19 = .ok (.ifCond .eq 31, 3) := by decide +kernel
theorem dX9_leave_22 : decode cX9_leave 22 = .ok (.aload_n 0, 1) := by decide +kernel
theorem dX9_leave_23 : decode cX9_leave 23 = .ok (.dup, 1) := by decide +kernel
theorem dX9_leave_24 : decode cX9_leave 24 = .ok (.getfield 235, 3) := by decide +kernel
theorem dX9_leave_27 : decode cX9_leave 27 = .ok (.iconst 1, 1) := by decide +kernel
theorem dX9_leave_28 : decode cX9_leave 28 = .ok (.isub, 1) := by decide +kernel
theorem dX9_leave_29 : decode cX9_leave 29 = .ok (.putfield 235, 3) := by decide +kernel
theorem dX9_leave_32 : decode cX9_leave 32 = .ok (.aload_n 0, 1) := by decide +kernel
theorem dX9_leave_33 : decode cX9_leave 33 = .ok (.getfield 66, 3) := by decide +kernel
theorem dX9_leave_36 : decode cX9_leave 36 = .ok (.aload_n 0, 1) := by decide +kernel
theorem dX9_leave_37 : decode cX9_leave 37 = .ok (.getfield 97, 3) := by decide +kernel
theorem dX9_leave_40 : decode cX9_leave 40 = .ok (.aload_n 0, 1) := by decide +kernel
theorem dX9_leave_41 : decode cX9_leave 41 = .ok (.getfield 232, 3) := by decide +kernel
theorem dX9_leave_44 : decode cX9_leave 44 = .ok (.iaload, 1) := by decide +kernel
theorem dX9_leave_45 : decode cX9_leave 45 = .ok (.dup2, 1) := by decide +kernel
theorem dX9_leave_46 : decode cX9_leave 46 = .ok (.iaload, 1) := by decide +kernel
theorem dX9_leave_47 : decode cX9_leave 47 = .ok (.iconst 1, 1) := by decide +kernel
theorem dX9_leave_48 : decode cX9_leave 48 = .ok (.isub, 1) := by decide +kernel
theorem dX9_leave_49 : decode cX9_leave 49 = .ok (.iastore, 1) := by decide +kernel
theorem dX9_leave_50 : decode cX9_leave 50 = .ok (.return_, 1) := by decide +kernel
theorem dX9_unwind_0 : decode cX9_unwind 0 = .ok (.aload_n 0, 1) := by decide +kernel
theorem dX9_unwind_1 : decode cX9_unwind 1 = .ok (.getfield 232, 3) := by decide +kernel
theorem dX9_unwind_4 : decode cX9_unwind 4 = .ok (.ifCond .le 116, 3) := by decide +kernel
theorem dX9_unwind_7 : decode cX9_unwind 7 = .ok (.aload_n 0, 1) := by decide +kernel
theorem dX9_unwind_8 : decode cX9_unwind 8 = .ok (.getfield 251, 3) := by decide +kernel
theorem dX9_unwind_11 : decode cX9_unwind 11 = .ok (.ifCond .le 109, 3) := by decide +kernel
theorem dX9_unwind_14 : decode cX9_unwind 14 = .ok (.aload_n 0, 1) := by decide +kernel
theorem dX9_unwind_15 : decode cX9_unwind 15 = .ok (.getfield 232, 3) := by decide +kernel
theorem dX9_unwind_18 : decode cX9_unwind 18 = .ok (.iconst 1, 1) := by decide +kernel
theorem dX9_unwind_19 : decode cX9_unwind 19 = .ok (.isub, 1) := by decide +kernel
theorem dX9_unwind_20 : decode cX9_unwind 20 = .ok (.istore_n 1, 1) := by decide +kernel
theorem dX9_unwind_21 : decode cX9_unwind 21 = .ok (.aload_n 0, 1) := by decide +kernel
theorem dX9_unwind_22 : decode cX9_unwind 22 = .ok (.getfield 251, 3) := by decide +kernel
theorem dX9_unwind_25 : decode cX9_unwind 25 = .ok (.bipush 16, 2) := by decide +kernel
theorem dX9_unwind_27 : decode cX9_unwind 27 = .ok (.if_icmp .eq 86, 3) := by decide +kernel
theorem dX9_unwind_30 : decode cX9_unwind 30 = .ok (.aload_n 0, 1) := by decide +kernel
theorem dX9_unwind_31 : decode cX9_unwind 31 = .ok (.getfield 115, 3) := by decide +kernel
theorem dX9_unwind_34 : decode cX9_unwind 34 = .ok (.iload_n 1, 1) := by decide +kernel
theorem dX9_unwind_35 : decode cX9_unwind 35 = .ok (.baload, 1) := by decide +kernel
theorem dX9_unwind_36 : decode cX9_unwind 36 = .ok (.ifCond .eq 77, 3) := by decide +kernel
theorem dX9_unwind_39 : decode cX9_unwind 39 = .ok (.iconst 0, 1) := by decide +kernel
theorem dX9_unwind_40 : decode cX9_unwind 40 = .ok (.istore_n 2, 1) := by decide +kernel
theorem dX9_unwind_41 : decode cX9_unwind 41 = .ok (.iload_n 2, 1) := by decide +kernel
theorem dX9_unwind_42 : decode cX9_unwind 42 = .ok (.bipush 40, 2) := by decide +kernel
theorem dX9_unwind_44 : decode cX9_unwind 44 = .ok (.if_icmp .ge 26, 3) := by decide +kernel
theorem dX9_unwind_47 : decode cX9_unwind 47 = .ok (.aload_n 0, 1) := by decide +kernel
theorem dX9_unwind_48 : decode cX9_unwind 48 = .ok (.getfield 90, 3) := by decide +kernel
theorem dX9_unwind_51 : decode cX9_unwind 51 = .ok (.iload_n 2, 1) := by decide +kernel
theorem dX9_unwind_52 : decode cX9_unwind 52 = .ok (.aload_n 0, 1) := by decide +kernel
theorem dX9_unwind_53 : decode cX9_unwind 53 = .ok (.getfield 122, 3) := by decide +kernel
theorem dX9_unwind_56 : decode cX9_unwind 56 = .ok (.bipush 40, 2) := by decide +kernel
theorem dX9_unwind_58 : decode cX9_unwind 58 = .ok (.iload_n 1, 1) := by decide +kernel
theorem dX9_unwind_59 : decode cX9_unwind 59 = .ok (.imul, 1) := by decide +kernel
theorem dX9_unwind_60 : decode cX9_unwind 60 = .ok (.iload_n 2, 1) := by decide +kernel
theorem dX9_unwind_61 : decode cX9_unwind 61 = .ok (.iadd, 1) := by decide +kernel
theorem dX9_unwind_62 : decode cX9_unwind 62 = .ok (.laload, 1) := by decide +kernel
theorem dX9_unwind_63 : decode cX9_unwind 63 = .ok (.lastore, 1) := by decide +kernel
theorem dX9_unwind_64 : decode cX9_unwind 64 = .ok (.iinc 2 1, 3) := by decide +kernel
theorem dX9_unwind_67 : decode cX9_unwind 67 = .ok (.goto (-26), 3) := by decide +kernel
theorem dX9_unwind_70 : decode cX9_unwind 70 = .ok (.aload_n 0, 1) := by decide +kernel
theorem dX9_unwind_71 : decode cX9_unwind 71 = .ok (.getfield 118, 3) := by decide +kernel
theorem dX9_unwind_74 : decode cX9_unwind 74 = .ok (.iload_n 1, 1) := by decide +kernel
theorem dX9_unwind_75 : decode cX9_unwind 75 = .ok (.aload_n 0, 1) := by decide +kernel
theorem dX9_unwind_76 : decode cX9_unwind 76 = .ok (.getfield 251, 3) := by decide +kernel
theorem dX9_unwind_79 : decode cX9_unwind 79 = .ok (.i2l, 1) := by decide +kernel
theorem dX9_unwind_80 : decode cX9_unwind 80 = .ok (.lastore, 1) := by decide +kernel
theorem dX9_unwind_81 : decode cX9_unwind 81 = .ok (.aload_n 0, 1) := by decide +kernel
theorem dX9_unwind_82 : decode cX9_unwind 82 = .ok (.iconst 0, 1) := by decide +kernel
theorem dX9_unwind_83 : decode cX9_unwind 83 = .ok (.putfield 251, 3) := by decide +kernel
theorem dX9_unwind_86 : decode cX9_unwind 86 = .ok (.aload_n 0, 1) := by decide +kernel
theorem dX9_unwind_87 : decode cX9_unwind 87 = .ok (.getfield 115, 3) := by decide +kernel
theorem dX9_unwind_90 : decode cX9_unwind 90 = .ok (.iload_n 1, 1) := by decide +kernel
theorem dX9_unwind_91 : decode cX9_unwind 91 = .ok (.iconst 0, 1) := by decide +kernel
theorem dX9_unwind_92 : decode cX9_unwind 92 = .ok (.bastore, 1) := by decide +kernel
theorem dX9_unwind_93 : decode cX9_unwind 93 = .ok (.aload_n 0, 1) := by decide +kernel
theorem dX9_unwind_94 : decode cX9_unwind 94 = .ok (.getfield 112, 3) := by decide +kernel
theorem dX9_unwind_97 : decode cX9_unwind 97 = .ok (.iload_n 1, 1) := by decide +kernel
theorem dX9_unwind_98 : decode cX9_unwind 98 = .ok (.iconst 0, 1) := by decide +kernel
theorem dX9_unwind_99 : decode cX9_unwind 99 = .ok (.bastore, 1) := by decide +kernel
theorem dX9_unwind_100 : decode cX9_unwind 100 = .ok (.aload_n 0, 1) := by decide +kernel
theorem dX9_unwind_101 : decode cX9_unwind 101 = .ok (.getfield 109, 3) := by decide +kernel
theorem dX9_unwind_104 : decode cX9_unwind 104 = .ok (.iload_n 1, 1) := by decide +kernel
theorem dX9_unwind_105 : decode cX9_unwind 105 = .ok (.dup2, 1) := by decide +kernel
theorem dX9_unwind_106 : decode cX9_unwind 106 = .ok (.iaload, 1) := by decide +kernel
theorem dX9_unwind_107 : decode cX9_unwind 107 = .ok (.iconst 1, 1) := by decide +kernel
theorem dX9_unwind_108 : decode cX9_unwind 108 = .ok (.iadd, 1) := by decide +kernel
theorem dX9_unwind_109 : decode cX9_unwind 109 = .ok (.iastore, 1) := by decide +kernel
theorem dX9_unwind_110 : decode cX9_unwind 110 = .ok (.goto 7, 3) := by decide +kernel
theorem dX9_unwind_113 : decode cX9_unwind 113 = .ok (.aload_n 0, 1) := by decide +kernel
theorem dX9_unwind_114 : decode cX9_unwind 114 = .ok (.invokevirtual 254, 3) := by decide +kernel
theorem dX9_unwind_117 : decode cX9_unwind 117 = .ok (.goto (-117), 3) := by decide +kernel
theorem dX9_unwind_120 : decode cX9_unwind 120 = .ok (.return_, 1) := by decide +kernel
theorem dX9_run_0 : decode cX9_run 0 = .ok (.aload_n 0, 1) := by decide +kernel
theorem dX9_run_1 : decode cX9_run 1 = .ok (.getfield 232, 3) := by decide +kernel
theorem dX9_run_4 : decode cX9_run 4 = .ok (.ifCond .le 192, 3) := by decide +kernel
theorem dX9_run_7 : decode cX9_run 7 = .ok (.aload_n 0, 1) := by decide +kernel
theorem dX9_run_8 : decode cX9_run 8 = .ok (.getfield 251, 3) := by decide +kernel
theorem dX9_run_11 : decode cX9_run 11 = .ok (.ifCond .ne 185, 3) := by decide +kernel
theorem dX9_run_14 : decode cX9_run 14 = .ok (.aload_n 0, 1) := by decide +kernel
theorem dX9_run_15 : decode cX9_run 15 = .ok (.getfield 232, 3) := by decide +kernel
theorem dX9_run_18 : decode cX9_run 18 = .ok (.iconst 1, 1) := by decide +kernel
theorem dX9_run_19 : decode cX9_run 19 = .ok (.isub, 1) := by decide +kernel
theorem dX9_run_20 : decode cX9_run 20 = .ok (.istore_n 1, 1) := by decide +kernel
theorem dX9_run_21 : decode cX9_run 21 = .ok (.iconst 3, 1) := by decide +kernel
theorem dX9_run_22 : decode cX9_run 22 = .ok (.aload_n 0, 1) := by decide +kernel
theorem dX9_run_23 : decode cX9_run 23 = .ok (.getfield 51, 3) := by decide +kernel
theorem dX9_run_26 : decode cX9_run 26 = .ok (.aload_n 0, 1) := by decide +kernel
theorem dX9_run_27 : decode cX9_run 27 = .ok (.getfield 106, 3) := by decide +kernel
theorem dX9_run_30 : decode cX9_run 30 = .ok (.iload_n 1, 1) := by decide +kernel
theorem dX9_run_31 : decode cX9_run 31 = .ok (.iaload, 1) := by decide +kernel
theorem dX9_run_32 : decode cX9_run 32 = .ok (.iaload, 1) := by decide +kernel
theorem dX9_run_33 : decode cX9_run 33 = .ok (.imul, 1) := by decide +kernel
theorem dX9_run_34 : decode cX9_run 34 = .ok (.aload_n 0, 1) := by decide +kernel
theorem dX9_run_35 : decode cX9_run 35 = .ok (.getfield 103, 3) := by decide +kernel
theorem dX9_run_38 : decode cX9_run 38 = .ok (.iload_n 1, 1) := by decide +kernel
theorem dX9_run_39 : decode cX9_run 39 = .ok (.iaload, 1) := by decide +kernel
theorem dX9_run_40 : decode cX9_run 40 = .ok (.iadd, 1) := by decide +kernel
theorem dX9_run_41 : decode cX9_run 41 = .ok (.istore_n 2, 1) := by decide +kernel
theorem dX9_run_42 : decode cX9_run 42 = .ok (.aload_n 0, 1) := by decide +kernel
theorem dX9_run_43 : decode cX9_run 43 = .ok (.getfield 109, 3) := by decide +kernel
theorem dX9_run_46 : decode cX9_run 46 = .ok (.iload_n 1, 1) := by decide +kernel
theorem dX9_run_47 : decode cX9_run 47 = .ok (.iaload, 1) := by decide +kernel
theorem dX9_run_48 : decode cX9_run 48 = .ok (.aload_n 0, 1) := by decide +kernel
theorem dX9_run_49 : decode cX9_run 49 = .ok (.getfield 32, 3) := by decide +kernel
theorem dX9_run_52 : decode cX9_run 52 = .ok (.iload_n 2, 1) := by decide +kernel
theorem dX9_run_53 : decode cX9_run 53 = .ok (.iaload, 1) := by decide +kernel
theorem dX9_run_54 : decode cX9_run 54 = .ok (.if_icmp .ne 80, 3) := by decide +kernel
theorem dX9_run_57 : decode cX9_run 57 = .ok (.aload_n 0, 1) := by decide +kernel
theorem dX9_run_58 : decode cX9_run 58 = .ok (.getfield 118, 3) := by decide +kernel
theorem dX9_run_61 : decode cX9_run 61 = .ok (.iload_n 1, 1) := by decide +kernel
theorem dX9_run_62 : decode cX9_run 62 = .ok (.laload, 1) := by decide +kernel
theorem dX9_run_63 : decode cX9_run 63 = .ok (.lstore_n 3, 1) := by decide +kernel
theorem dX9_run_64 : decode cX9_run 64 = .ok (.aload_n 0, 1) := by decide +kernel
theorem dX9_run_65 : decode cX9_run 65 = .ok (.invokevirtual 254, 3) := by decide +kernel
theorem dX9_run_68 : decode cX9_run 68 = .ok (.aload_n 0, 1) := by decide +kernel
theorem dX9_run_69 : decode cX9_run 69 = .ok (.lload_n 3, 1) := by decide +kernel
theorem dX9_run_70 : decode cX9_run 70 = .ok (.putfield 257, 3) := by decide +kernel
theorem dX9_run_73 : decode cX9_run 73 = .ok (.aload_n 0, 1) := by decide +kernel
theorem dX9_run_74 : decode cX9_run 74 = .ok (.getfield 232, 3) := by decide +kernel
theorem dX9_run_77 : decode cX9_run 77 = .ok (.ifCond .le 54, 3) := by decide +kernel
theorem dX9_run_80 : decode cX9_run 80 = .ok (.aload_n 0, 1) := by decide +kernel
theorem dX9_run_81 : decode cX9_run 81 = .ok (.getfield 118, 3) := by decide +kernel
theorem dX9_run_84 : decode cX9_run 84 = .ok (.aload_n 0, 1) := by decide +kernel
theorem dX9_run_85 : decode cX9_run 85 = .ok (.getfield 232, 3) := by decide +kernel
theorem dX9_run_88 : decode cX9_run 88 = .ok (.iconst 1, 1) := by decide +kernel
theorem dX9_run_89 : decode cX9_run 89 = .ok (.isub, 1) := by decide +kernel
theorem dX9_run_90 : decode cX9_run 90 = .ok (.lload_n 3, 1) := by decide +kernel
theorem dX9_run_91 : decode cX9_run 91 = .ok (.lastore, 1) := by decide +kernel
theorem dX9_run_92 : decode cX9_run 92 = .ok (.aload_n 0, 1) := by decide +kernel
theorem dX9_run_93 : decode cX9_run 93 = .ok (.getfield 112, 3) := by decide +kernel
theorem dX9_run_96 : decode cX9_run 96 = .ok (.aload_n 0, 1) := by decide +kernel
theorem dX9_run_97 : decode cX9_run 97 = .ok (.getfield 232, 3) := by decide +kernel
theorem dX9_run_100 : decode cX9_run 100 = .ok (.iconst 1, 1) := by decide +kernel
theorem dX9_run_101 : decode cX9_run 101 = .ok (.isub, 1) := by decide +kernel
theorem dX9_run_102 : decode cX9_run 102 = .ok (.iconst 0, 1) := by decide +kernel
theorem dX9_run_103 : decode cX9_run 103 = .ok (.bastore, 1) := by decide +kernel
theorem dX9_run_104 : decode cX9_run 104 = .ok (.aload_n 0, 1) := by decide +kernel
theorem dX9_run_105 : decode cX9_run 105 = .ok (.getfield 115, 3) := by decide +kernel
theorem dX9_run_108 : decode cX9_run 108 = .ok (.aload_n 0, 1) := by decide +kernel
theorem dX9_run_109 : decode cX9_run 109 = .ok (.getfield 232, 3) := by decide +kernel
theorem dX9_run_112 : decode cX9_run 112 = .ok (.iconst 1, 1) := by decide +kernel
theorem dX9_run_113 : decode cX9_run 113 = .ok (.isub, 1) := by decide +kernel
theorem dX9_run_114 : decode cX9_run 114 = .ok (.iconst 0, 1) := by decide +kernel
theorem dX9_run_115 : decode cX9_run 115 = .ok (.bastore, 1) := by decide +kernel
theorem dX9_run_116 : decode cX9_run 116 = .ok (.aload_n 0, 1) := by decide +kernel
theorem dX9_run_117 : decode cX9_run 117 = .ok (.getfield 109, 3) := by decide +kernel
theorem dX9_run_120 : decode cX9_run 120 = .ok (.aload_n 0, 1) := by decide +kernel
theorem dX9_run_121 : decode cX9_run 121 = .ok (.getfield 232, 3) := by decide +kernel
theorem dX9_run_124 : decode cX9_run 124 = .ok (.iconst 1, 1) := by decide +kernel
theorem dX9_run_125 : decode cX9_run 125 = .ok (.isub, 1) := by decide +kernel
theorem dX9_run_126 : decode cX9_run 126 = .ok (.dup2, 1) := by decide +kernel
theorem dX9_run_127 : decode cX9_run 127 = .ok (.iaload, 1) := by decide +kernel
theorem dX9_run_128 : decode cX9_run 128 = .ok (.iconst 1, 1) := by decide +kernel
theorem dX9_run_129 : decode cX9_run 129 = .ok (.iadd, 1) := by decide +kernel
theorem dX9_run_130 : decode cX9_run 130 = .ok (.iastore, 1) := by decide +kernel
theorem dX9_run_131 : decode cX9_run 131 = .ok (.goto 62, 3) := by decide +kernel
theorem dX9_run_134 : decode cX9_run 134 = .ok (.aload_n 0, 1) := by decide +kernel
theorem dX9_run_135 : decode cX9_run 135 = .ok (.getfield 261, 3) := by decide +kernel
theorem dX9_run_138 : decode cX9_run 138 = .ok (.sipush 5000, 3) := by decide +kernel
theorem dX9_run_141 : decode cX9_run 141 = .ok (.if_icmp .ne 23, 3) := by decide +kernel
theorem dX9_run_144 : decode cX9_run 144 = .ok (.aload_n 0, 1) := by decide +kernel
theorem dX9_run_145 : decode cX9_run 145 = .ok (.getfield 115, 3) := by decide +kernel
theorem dX9_run_148 : decode cX9_run 148 = .ok (.iload_n 1, 1) := by decide +kernel
theorem dX9_run_149 : decode cX9_run 149 = .ok (.iconst 0, 1) := by decide +kernel
theorem dX9_run_150 : decode cX9_run 150 = .ok (.bastore, 1) := by decide +kernel
theorem dX9_run_151 : decode cX9_run 151 = .ok (.aload_n 0, 1) := by decide +kernel
theorem dX9_run_152 : decode cX9_run 152 = .ok (.bipush 16, 2) := by decide +kernel
theorem dX9_run_154 : decode cX9_run 154 = .ok (.putfield 251, 3) := by decide +kernel
theorem dX9_run_157 : decode cX9_run 157 = .ok (.aload_n 0, 1) := by decide +kernel
theorem dX9_run_158 : decode cX9_run 158 = .ok (.invokevirtual 264, 3) := by decide +kernel
theorem dX9_run_161 : decode cX9_run 161 = .ok (.goto 32, 3) := by decide +kernel
theorem dX9_run_164 : decode cX9_run 164 = .ok (.aload_n 0, 1) := by decide +kernel
theorem dX9_run_165 : decode cX9_run 165 = .ok (.dup, 1) := by decide +kernel
theorem dX9_run_166 : decode cX9_run 166 = .ok (.getfield 261, 3) := by decide +kernel
theorem dX9_run_169 : decode cX9_run 169 = .ok (.iconst 1, 1) := by decide +kernel
theorem dX9_run_170 : decode cX9_run 170 = .ok (.iadd, 1) := by decide +kernel
theorem dX9_run_171 : decode cX9_run 171 = .ok (.putfield 261, 3) := by decide +kernel
theorem dX9_run_174 : decode cX9_run 174 = .ok (.aload_n 0, 1) := by decide +kernel
theorem dX9_run_175 : decode cX9_run 175 = .ok (.iload_n 1, 1) := by decide +kernel
theorem dX9_run_176 : decode cX9_run 176 = .ok (.iconst 5, 1) := by decide +kernel
theorem dX9_run_177 : decode cX9_run 177 = .ok (.iload_n 2, 1) := by decide +kernel
theorem dX9_run_178 : decode cX9_run 178 = .ok (.imul, 1) := by decide +kernel
theorem dX9_run_179 : decode cX9_run 179 = .ok (.aload_n 0, 1) := by decide +kernel
theorem dX9_run_180 : decode cX9_run 180 = .ok (.getfield 109, 3) := by decide +kernel
theorem dX9_run_183 : decode cX9_run 183 = .ok (.iload_n 1, 1) := by decide +kernel
theorem dX9_run_184 : decode cX9_run 184 = .ok (.iaload, 1) := by decide +kernel
theorem dX9_run_185 : decode cX9_run 185 = .ok (.iadd, 1) := by decide +kernel
theorem dX9_run_186 : decode cX9_run 186 = .ok (.invokevirtual 267, 3) := by decide +kernel
theorem dX9_run_189 : decode cX9_run 189 = .ok (.aload_n 0, 1) := by decide +kernel
theorem dX9_run_190 : decode cX9_run 190 = .ok (.invokevirtual 264, 3) := by decide +kernel
theorem dX9_run_193 : decode cX9_run 193 = .ok (.goto (-193), 3) := by decide +kernel
theorem dX9_run_196 : decode cX9_run 196 = .ok (.return_, 1) := by decide +kernel
theorem dX9_doNext_0 : decode cX9_doNext 0 = .ok (.aload_n 0, 1) := by decide +kernel
theorem dX9_doNext_1 : decode cX9_doNext 1 = .ok (.getfield 115, 3) := by decide +kernel
theorem dX9_doNext_4 : decode cX9_doNext 4 = .ok (.iload_n 1, 1) := by decide +kernel
theorem dX9_doNext_5 : decode cX9_doNext 5 = .ok (.aload_n 0, 1) := by decide +kernel
theorem dX9_doNext_6 : decode cX9_doNext 6 = .ok (.getfield 109, 3) := by decide +kernel
theorem dX9_doNext_9 : decode cX9_doNext 9 = .ok (.iload_n 1, 1) := by decide +kernel
theorem dX9_doNext_10 : decode cX9_doNext 10 = .ok (.iaload, 1) := by decide +kernel
theorem dX9_doNext_11 : decode cX9_doNext 11 = .ok (.ifCond .le 20, 3) := by decide +kernel
theorem dX9_doNext_14 : decode cX9_doNext 14 = .ok (.aload_n 0, 1) := by decide +kernel
theorem dX9_doNext_15 : decode cX9_doNext 15 = .ok (.getfield 35, 3) := by decide +kernel
theorem dX9_doNext_18 : decode cX9_doNext 18 = .ok (.iload_n 2, 1) := by decide +kernel
theorem dX9_doNext_19 : decode cX9_doNext 19 = .ok (.iconst 1, 1) := by decide +kernel
theorem dX9_doNext_20 : decode cX9_doNext 20 = .ok (.isub, 1) := by decide +kernel
theorem dX9_doNext_21 : decode cX9_doNext 21 = .ok (.iaload, 1) := by decide +kernel
theorem dX9_doNext_22 : decode cX9_doNext 22 = .ok (.bipush 11, 2) := by decide +kernel
theorem dX9_doNext_24 : decode cX9_doNext 24 = .ok (.if_icmp .ne 7, 3) := by decide +kernel
theorem dX9_doNext_27 : decode cX9_doNext 27 = .ok (.iconst 1, 1) := by decide +kernel
theorem dX9_doNext_28 : decode cX9_doNext 28 = .ok (.goto 4, 3) := by decide +kernel
theorem dX9_doNext_31 : decode cX9_doNext 31 = .ok (.iconst 0, 1) := by decide +kernel
theorem dX9_doNext_32 : decode cX9_doNext 32 = .ok (.bastore, 1) := by decide +kernel
theorem dX9_doNext_33 : decode cX9_doNext 33 = .ok (.iconst 0, 1) := by decide +kernel
theorem dX9_doNext_34 : decode cX9_doNext 34 = .ok (.istore_n 3, 1) := by decide +kernel
theorem dX9_doNext_35 : decode cX9_doNext 35 = .ok (.iload_n 3, 1) := by decide +kernel
theorem dX9_doNext_36 : decode cX9_doNext 36 = .ok (.bipush 40, 2) := by decide +kernel
theorem dX9_doNext_38 : decode cX9_doNext 38 = .ok (.if_icmp .ge 35, 3) := by decide +kernel
theorem dX9_doNext_41 : decode cX9_doNext 41 = .ok (.aload_n 0, 1) := by decide +kernel
theorem dX9_doNext_42 : decode cX9_doNext 42 = .ok (.getfield 115, 3) := by decide +kernel
theorem dX9_doNext_45 : decode cX9_doNext 45 = .ok (.iload_n 1, 1) := by decide +kernel
theorem dX9_doNext_46 : decode cX9_doNext 46 = .ok (.baload, 1) := by decide +kernel
theorem dX9_doNext_47 : decode cX9_doNext 47 = .ok (.ifCond .eq 26, 3) := by decide +kernel
theorem dX9_doNext_50 : decode cX9_doNext 50 = .ok (.aload_n 0, 1) := by decide +kernel
theorem dX9_doNext_51 : decode cX9_doNext 51 = .ok (.getfield 122, 3) := by decide +kernel
theorem dX9_doNext_54 : decode cX9_doNext 54 = .ok (.bipush 40, 2) := by decide +kernel
theorem dX9_doNext_56 : decode cX9_doNext 56 = .ok (.iload_n 1, 1) := by decide +kernel
theorem dX9_doNext_57 : decode cX9_doNext 57 = .ok (.imul, 1) := by decide +kernel
theorem dX9_doNext_58 : decode cX9_doNext 58 = .ok (.iload_n 3, 1) := by decide +kernel
theorem dX9_doNext_59 : decode cX9_doNext 59 = .ok (.iadd, 1) := by decide +kernel
theorem dX9_doNext_60 : decode cX9_doNext 60 = .ok (.aload_n 0, 1) := by decide +kernel
theorem dX9_doNext_61 : decode cX9_doNext 61 = .ok (.getfield 90, 3) := by decide +kernel
theorem dX9_doNext_64 : decode cX9_doNext 64 = .ok (.iload_n 3, 1) := by decide +kernel
theorem dX9_doNext_65 : decode cX9_doNext 65 = .ok (.laload, 1) := by decide +kernel
theorem dX9_doNext_66 : decode cX9_doNext 66 = .ok (.lastore, 1) := by decide +kernel
theorem dX9_doNext_67 : decode cX9_doNext 67 = .ok (.iinc 3 1, 3) := by decide +kernel
theorem dX9_doNext_70 : decode cX9_doNext 70 = .ok (.goto (-35), 3) := by decide +kernel
theorem dX9_doNext_73 : decode cX9_doNext 73 = .ok (.aload_n 0, 1) := by decide +kernel
theorem dX9_doNext_74 : decode cX9_doNext 74 = .ok (.aload_n 0, 1) := by decide +kernel
theorem dX9_doNext_75 : decode cX9_doNext 75 = .ok (.getfield 35, 3) := by decide +kernel
theorem dX9_doNext_78 : decode cX9_doNext 78 = .ok (.iload_n 2, 1) := by decide +kernel
theorem dX9_doNext_79 : decode cX9_doNext 79 = .ok (.iaload, 1) := by decide +kernel
theorem dX9_doNext_80 : decode cX9_doNext 80 = .ok (.iconst 4, 1) := by decide +kernel
theorem dX9_doNext_81 : decode cX9_doNext 81 = .ok (.if_icmp .ge 12, 3) := by decide +kernel
theorem dX9_doNext_84 : decode cX9_doNext 84 = .ok (.aload_n 0, 1) := by decide +kernel
theorem dX9_doNext_85 : decode cX9_doNext 85 = .ok (.iload_n 1, 1) := by decide +kernel
theorem dX9_doNext_86 : decode cX9_doNext 86 = .ok (.iload_n 2, 1) := by decide +kernel
theorem dX9_doNext_87 : decode cX9_doNext 87 = .ok (.invokevirtual 270, 3) := by decide +kernel
theorem dX9_doNext_90 : decode cX9_doNext 90 = .ok (.goto 9, 3) := by decide +kernel
theorem dX9_doNext_93 : decode cX9_doNext 93 = .ok (.aload_n 0, 1) := by decide +kernel
theorem dX9_doNext_94 : decode cX9_doNext 94 = .ok (.iload_n 1, 1) := by decide +kernel
theorem dX9_doNext_95 : decode cX9_doNext 95 = .ok (.iload_n 2, 1) := by decide +kernel
theorem dX9_doNext_96 : decode cX9_doNext 96 = .ok (.invokevirtual 273, 3) := by decide +kernel
theorem dX9_doNext_99 : decode cX9_doNext 99 = .ok (.putfield 251, 3) := by decide +kernel
theorem dX9_doNext_102 : decode cX9_doNext 102 = .ok (.aload_n 0, 1) := by decide +kernel
theorem dX9_doNext_103 : decode cX9_doNext 103 = .ok (.getfield 251, 3) := by decide +kernel
theorem dX9_doNext_106 : decode cX9_doNext 106 = .ok (.ifCond .ne 29, 3) := by decide +kernel
theorem dX9_doNext_109 : decode cX9_doNext 109 = .ok (.aload_n 0, 1) := by decide +kernel
theorem dX9_doNext_110 : decode cX9_doNext 110 = .ok (.getfield 112, 3) := by decide +kernel
theorem dX9_doNext_113 : decode cX9_doNext 113 = .ok (.iload_n 1, 1) := by decide +kernel
theorem dX9_doNext_114 : decode cX9_doNext 114 = .ok (.baload, 1) := by decide +kernel
theorem dX9_doNext_115 : decode cX9_doNext 115 = .ok (.ifCond .ne 20, 3) := by decide +kernel
theorem dX9_doNext_118 : decode cX9_doNext 118 = .ok (.aload_n 0, 1) := by decide +kernel
theorem dX9_doNext_119 : decode cX9_doNext 119 = .ok (.getfield 109, 3) := by decide +kernel
theorem dX9_doNext_122 : decode cX9_doNext 122 = .ok (.iload_n 1, 1) := by decide +kernel
theorem dX9_doNext_123 : decode cX9_doNext 123 = .ok (.dup2, 1) := by decide +kernel
theorem dX9_doNext_124 : decode cX9_doNext 124 = .ok (.iaload, 1) := by decide +kernel
theorem dX9_doNext_125 : decode cX9_doNext 125 = .ok (.iconst 1, 1) := by decide +kernel
theorem dX9_doNext_126 : decode cX9_doNext 126 = .ok (.iadd, 1) := by decide +kernel
theorem dX9_doNext_127 : decode cX9_doNext 127 = .ok (.iastore, 1) := by decide +kernel
theorem dX9_doNext_128 : decode cX9_doNext 128 = .ok (.aload_n 0, 1) := by decide +kernel
theorem dX9_doNext_129 : decode cX9_doNext 129 = .ok (.getfield 115, 3) := by decide +kernel
theorem dX9_doNext_132 : decode cX9_doNext 132 = .ok (.iload_n 1, 1) := by decide +kernel
theorem dX9_doNext_133 : decode cX9_doNext 133 = .ok (.iconst 0, 1) := by decide +kernel
theorem dX9_doNext_134 : decode cX9_doNext 134 = .ok (.bastore, 1) := by decide +kernel
theorem dX9_doNext_135 : decode cX9_doNext 135 = .ok (.return_, 1) := by decide +kernel
theorem dX9_lowered_0 : decode cX9_lowered 0 = .ok (.iload_n 0, 1) := by decide +kernel
theorem dX9_lowered_1 : decode cX9_lowered 1 = .ok (.ifCond .ne 10, 3) := by decide +kernel
theorem dX9_lowered_4 : decode cX9_lowered 4 = .ok (.lload_n 1, 1) := by decide +kernel
theorem dX9_lowered_5 : decode cX9_lowered 5 = .ok (.l2i, 1) := by decide +kernel
theorem dX9_lowered_6 : decode cX9_lowered 6 = .ok (.i2b, 1) := by decide +kernel
theorem dX9_lowered_7 : decode cX9_lowered 7 = .ok (.i2l, 1) := by decide +kernel
theorem dX9_lowered_8 : decode cX9_lowered 8 = .ok (.goto 15, 3) := by decide +kernel
theorem dX9_lowered_11 : decode cX9_lowered 11 = .ok (.iload_n 0, 1) := by decide +kernel
theorem dX9_lowered_12 : decode cX9_lowered 12 = .ok (.iconst 1, 1) := by decide +kernel
theorem dX9_lowered_13 : decode cX9_lowered 13 = .ok (.if_icmp .ne 9, 3) := by decide +kernel
theorem dX9_lowered_16 : decode cX9_lowered 16 = .ok (.lload_n 1, 1) := by decide +kernel
theorem dX9_lowered_17 : decode cX9_lowered 17 = .ok (.l2i, 1) := by decide +kernel
theorem dX9_lowered_18 : decode cX9_lowered 18 = .ok (.i2l, 1) := by decide +kernel
theorem dX9_lowered_19 : decode cX9_lowered 19 = .ok (.goto 4, 3) := by decide +kernel
theorem dX9_lowered_22 : decode cX9_lowered 22 = .ok (.lload_n 1, 1) := by decide +kernel
theorem dX9_lowered_23 : decode cX9_lowered 23 = .ok (.lreturn, 1) := by decide +kernel
theorem dX9_ofRow_0 : decode cX9_ofRow 0 = .ok (.aload_n 0, 1) := by decide +kernel
theorem dX9_ofRow_1 : decode cX9_ofRow 1 = .ok (.getfield 23, 3) := by decide +kernel
theorem dX9_ofRow_4 : decode cX9_ofRow 4 = .ok (.aload_n 0, 1) := by decide +kernel
theorem dX9_ofRow_5 : decode cX9_ofRow 5 = .ok (.getfield 51, 3) := by decide +kernel
theorem dX9_ofRow_8 : decode cX9_ofRow 8 = .ok (.aload_n 0, 1) := by decide +kernel
theorem dX9_ofRow_9 : decode cX9_ofRow 9 = .ok (.getfield 106, 3) := by decide +kernel
theorem dX9_ofRow_12 : decode cX9_ofRow 12 = .ok (.iload_n 1, 1) := by decide +kernel
theorem dX9_ofRow_13 : decode cX9_ofRow 13 = .ok (.iaload, 1) := by decide +kernel
theorem dX9_ofRow_14 : decode cX9_ofRow 14 = .ok (.iaload, 1) := by decide +kernel
theorem dX9_ofRow_15 : decode cX9_ofRow 15 = .ok (.iaload, 1) := by decide +kernel
theorem dX9_ofRow_16 : decode cX9_ofRow 16 = .ok (.istore_n 3, 1) := by decide +kernel
theorem dX9_ofRow_17 : decode cX9_ofRow 17 = .ok (.aload_n 0, 1) := by decide +kernel
theorem dX9_ofRow_18 : decode cX9_ofRow 18 = .ok (.getfield 38, 3) := by decide +kernel
theorem dX9_ofRow_21 : decode cX9_ofRow 21 = .ok (.iload_n 2, 1) := by decide +kernel
theorem dX9_ofRow_22 : decode cX9_ofRow 22 = .ok (.iaload, 1) := by decide +kernel
theorem dX9_ofRow_23 : decode cX9_ofRow 23 = .ok (.istore 4, 2) := by decide +kernel
theorem dX9_ofRow_25 : decode cX9_ofRow 25 = .ok (.aload_n 0, 1) := by decide +kernel
theorem dX9_ofRow_26 : decode cX9_ofRow 26 = .ok (.getfield 87, 3) := by decide +kernel
theorem dX9_ofRow_29 : decode cX9_ofRow 29 = .ok (.aload_n 0, 1) := by decide +kernel
theorem dX9_ofRow_30 : decode cX9_ofRow 30 = .ok (.getfield 94, 3) := by decide +kernel
theorem dX9_ofRow_33 : decode cX9_ofRow 33 = .ok (.iload_n 1, 1) := by decide +kernel
theorem dX9_ofRow_34 : decode cX9_ofRow 34 = .ok (.iaload, 1) := by decide +kernel
theorem dX9_ofRow_35 : decode cX9_ofRow 35 = .ok (.iaload, 1) := by decide +kernel
theorem dX9_ofRow_36 : decode cX9_ofRow 36 = .ok (.iload_n 3, 1) := by decide +kernel
theorem dX9_ofRow_37 : decode cX9_ofRow 37 = .ok (.if_icmp .eq 6, 3) := by decide +kernel
theorem dX9_ofRow_40 : decode cX9_ofRow 40 = .ok (.bipush 8, 2) := by decide +kernel
theorem dX9_ofRow_42 : decode cX9_ofRow 42 = .ok (.ireturn, 1) := by decide +kernel
theorem dX9_ofRow_43 : decode cX9_ofRow 43 = .ok (.iload 4, 2) := by decide +kernel
theorem dX9_ofRow_45 : decode cX9_ofRow 45 = .ok (.i2l, 1) := by decide +kernel
theorem dX9_ofRow_46 : decode cX9_ofRow 46 = .ok (.lconst 0, 1) := by decide +kernel
theorem dX9_ofRow_47 : decode cX9_ofRow 47 = .ok (.ldc2_w 144, 3) := by decide +kernel
theorem dX9_ofRow_50 : decode cX9_ofRow 50 = .ok (.invokestatic 133, 3) := by decide +kernel
theorem dX9_ofRow_53 : decode cX9_ofRow 53 = .ok (.ifCond .ne 6, 3) := by decide +kernel
theorem dX9_ofRow_56 : decode cX9_ofRow 56 = .ok (.bipush 10, 2) := by decide +kernel
theorem dX9_ofRow_58 : decode cX9_ofRow 58 = .ok (.ireturn, 1) := by decide +kernel
theorem dX9_ofRow_59 : decode cX9_ofRow 59 = .ok (.iconst 4, 1) := by decide +kernel
theorem dX9_ofRow_60 : decode cX9_ofRow 60 = .ok (.aload_n 0, 1) := by decide +kernel
theorem dX9_ofRow_61 : decode cX9_ofRow 61 = .ok (.getfield 94, 3) := by decide +kernel
theorem dX9_ofRow_64 : decode cX9_ofRow 64 = .ok (.iload_n 1, 1) := by decide +kernel
theorem dX9_ofRow_65 : decode cX9_ofRow 65 = .ok (.iaload, 1) := by decide +kernel
theorem dX9_ofRow_66 : decode cX9_ofRow 66 = .ok (.imul, 1) := by decide +kernel
theorem dX9_ofRow_67 : decode cX9_ofRow 67 = .ok (.iload 4, 2) := by decide +kernel
theorem dX9_ofRow_69 : decode cX9_ofRow 69 = .ok (.iadd, 1) := by decide +kernel
theorem dX9_ofRow_70 : decode cX9_ofRow 70 = .ok (.istore 5, 2) := by decide +kernel
theorem dX9_ofRow_72 : decode cX9_ofRow 72 = .ok (.iload_n 3, 1) := by decide +kernel
theorem dX9_ofRow_73 : decode cX9_ofRow 73 = .ok (.iconst 3, 1) := by decide +kernel
theorem dX9_ofRow_74 : decode cX9_ofRow 74 = .ok (.if_icmp .ne 16, 3) := by decide +kernel
theorem dX9_ofRow_77 : decode cX9_ofRow 77 = .ok (.aload_n 0, 1) := by decide +kernel
theorem dX9_ofRow_78 : decode cX9_ofRow 78 = .ok (.getfield 90, 3) := by decide +kernel
theorem dX9_ofRow_81 : decode cX9_ofRow 81 = .ok (.iload 5, 2) := by decide +kernel
theorem dX9_ofRow_83 : decode cX9_ofRow 83 = .ok (.laload, 1) := by decide +kernel
theorem dX9_ofRow_84 : decode cX9_ofRow 84 = .ok (.invokestatic 276, 3) := by decide +kernel
theorem dX9_ofRow_87 : decode cX9_ofRow 87 = .ok (.goto 4, 3) := by decide +kernel
theorem dX9_ofRow_90 : decode cX9_ofRow 90 = .ok (.dconst 0, 1) := by decide +kernel
theorem dX9_ofRow_91 : decode cX9_ofRow 91 = .ok (.dstore 6, 2) := by decide +kernel
theorem dX9_ofRow_93 : decode cX9_ofRow 93 = .ok (.aload_n 0, 1) := by decide +kernel
theorem dX9_ofRow_94 : decode cX9_ofRow 94 = .ok (.getfield 118, 3) := by decide +kernel
theorem dX9_ofRow_97 : decode cX9_ofRow 97 = .ok (.iload_n 1, 1) := by decide +kernel
theorem dX9_ofRow_98 : decode cX9_ofRow 98 = .ok (.laload, 1) := by decide +kernel
theorem dX9_ofRow_99 : decode cX9_ofRow 99 = .ok (.lstore 8, 2) := by decide +kernel
theorem dX9_ofRow_101 : decode cX9_ofRow 101 = .ok (.iload_n 3, 1) := by decide +kernel
theorem dX9_ofRow_102 : decode cX9_ofRow 102 = .ok (.iconst 3, 1) := by decide +kernel
theorem dX9_ofRow_103 : decode cX9_ofRow 103 = .ok (.if_icmp .ne 7, 3) := by decide +kernel
theorem dX9_ofRow_106 : decode cX9_ofRow 106 = .ok (.iconst 1, 1) := by decide +kernel
theorem dX9_ofRow_107 : decode cX9_ofRow 107 = .ok (.goto 4, 3) := by decide +kernel
theorem dX9_ofRow_110 : decode cX9_ofRow 110 = .ok (.iconst 0, 1) := by decide +kernel
theorem dX9_ofRow_111 : decode cX9_ofRow 111 = .ok (.istore 10, 2) := by decide +kernel
theorem dX9_ofRow_113 : decode cX9_ofRow 113 = .ok (.aload_n 0, 1) := by decide +kernel
theorem dX9_ofRow_114 : decode cX9_ofRow 114 = .ok (.getfield 35, 3) := by decide +kernel
theorem dX9_ofRow_117 : decode cX9_ofRow 117 = .ok (.iload_n 2, 1) := by decide +kernel
theorem dX9_ofRow_118 : decode cX9_ofRow 118 = .ok (.iaload, 1) := by decide +kernel
theorem dX9_ofRow_119 : decode cX9_ofRow 119 = .ok (.tableswitch 132 0 2 #[25, 75, 102], 25) := by decide +kernel
theorem dX9_ofRow_144 : decode cX9_ofRow 144 = .ok (.aload_n 0, 1) := by decide +kernel
theorem dX9_ofRow_145 : decode cX9_ofRow 145 = .ok (.getfield 90, 3) := by decide +kernel
theorem dX9_ofRow_148 : decode cX9_ofRow 148 = .ok (.iload 5, 2) := by decide +kernel
theorem dX9_ofRow_150 : decode cX9_ofRow 150 = .ok (.iload 10, 2) := by decide +kernel
theorem dX9_ofRow_152 : decode cX9_ofRow 152 = .ok (.ifCond .eq 19, 3) := by decide +kernel
theorem dX9_ofRow_155 : decode cX9_ofRow 155 = .ok (.dload 6, 2) := by decide +kernel
theorem dX9_ofRow_157 : decode cX9_ofRow 157 = .ok (.aload_n 0, 1) := by decide +kernel
theorem dX9_ofRow_158 : decode cX9_ofRow 158 = .ok (.getfield 41, 3) := by decide +kernel
theorem dX9_ofRow_161 : decode cX9_ofRow 161 = .ok (.iload_n 2, 1) := by decide +kernel
theorem dX9_ofRow_162 : decode cX9_ofRow 162 = .ok (.iaload, 1) := by decide +kernel
theorem dX9_ofRow_163 : decode cX9_ofRow 163 = .ok (.i2d, 1) := by decide +kernel
theorem dX9_ofRow_164 : decode cX9_ofRow 164 = .ok (.dadd, 1) := by decide +kernel
theorem dX9_ofRow_165 : decode cX9_ofRow 165 = .ok (.invokestatic 282, 3) := by decide +kernel
theorem dX9_ofRow_168 : decode cX9_ofRow 168 = .ok (.goto 22, 3) := by decide +kernel
theorem dX9_ofRow_171 : decode cX9_ofRow 171 = .ok (.iload_n 3, 1) := by decide +kernel
theorem dX9_ofRow_172 : decode cX9_ofRow 172 = .ok (.aload_n 0, 1) := by decide +kernel
theorem dX9_ofRow_173 : decode cX9_ofRow 173 = .ok (.getfield 90, 3) := by decide +kernel
theorem dX9_ofRow_176 : decode cX9_ofRow 176 = .ok (.iload 5, 2) := by decide +kernel
theorem dX9_ofRow_178 : decode cX9_ofRow 178 = .ok (.laload, 1) := by decide +kernel
theorem dX9_ofRow_179 : decode cX9_ofRow 179 = .ok (.aload_n 0, 1) := by decide +kernel
theorem dX9_ofRow_180 : decode cX9_ofRow 180 = .ok (.getfield 41, 3) := by decide +kernel
theorem dX9_ofRow_183 : decode cX9_ofRow 183 = .ok (.iload_n 2, 1) := by decide +kernel
theorem dX9_ofRow_184 : decode cX9_ofRow 184 = .ok (.iaload, 1) := by decide +kernel
theorem dX9_ofRow_185 : decode cX9_ofRow 185 = .ok (.i2l, 1) := by decide +kernel
theorem dX9_ofRow_186 : decode cX9_ofRow 186 = .ok (.ladd, 1) := by decide +kernel
theorem dX9_ofRow_187 : decode cX9_ofRow 187 = .ok (.invokestatic 286, 3) := by decide +kernel
theorem dX9_ofRow_190 : decode cX9_ofRow 190 = .ok (.lastore, 1) := by decide +kernel
theorem dX9_ofRow_191 : decode cX9_ofRow 191 = .ok (.goto 146, 3) := by decide +kernel
theorem dX9_ofRow_194 : decode cX9_ofRow 194 = .ok (.aload_n 0, 1) := by decide +kernel
theorem dX9_ofRow_195 : decode cX9_ofRow 195 = .ok (.getfield 118, 3) := by decide +kernel
theorem dX9_ofRow_198 : decode cX9_ofRow 198 = .ok (.iload_n 1, 1) := by decide +kernel
theorem dX9_ofRow_199 : decode cX9_ofRow 199 = .ok (.iload 10, 2) := by decide +kernel
theorem dX9_ofRow_201 : decode cX9_ofRow 201 = .ok (.ifCond .eq 9, 3) := by decide +kernel
theorem dX9_ofRow_204 : decode cX9_ofRow 204 = .ok (.dload 6, 2) := by decide +kernel
theorem dX9_ofRow_206 : decode cX9_ofRow 206 = .ok (.d2l, 1) := by decide +kernel
theorem dX9_ofRow_207 : decode cX9_ofRow 207 = .ok (.goto 10, 3) := by decide +kernel
theorem dX9_ofRow_210 : decode cX9_ofRow 210 = .ok (.aload_n 0, 1) := by decide +kernel
theorem dX9_ofRow_211 : decode cX9_ofRow 211 = .ok (.getfield 90, 3) := by decide +kernel
theorem dX9_ofRow_214 : decode cX9_ofRow 214 = .ok (.iload 5, 2) := by decide +kernel
theorem dX9_ofRow_216 : decode cX9_ofRow 216 = .ok (.laload, 1) := by decide +kernel
theorem dX9_ofRow_217 : decode cX9_ofRow 217 = .ok (.lastore, 1) := by decide +kernel
theorem dX9_ofRow_218 : decode cX9_ofRow 218 = .ok (.goto 119, 3) := by decide +kernel
theorem dX9_ofRow_221 : decode cX9_ofRow 221 = .ok (.aload_n 0, 1) := by decide +kernel
theorem dX9_ofRow_222 : decode cX9_ofRow 222 = .ok (.getfield 90, 3) := by decide +kernel
theorem dX9_ofRow_225 : decode cX9_ofRow 225 = .ok (.iload 5, 2) := by decide +kernel
theorem dX9_ofRow_227 : decode cX9_ofRow 227 = .ok (.iload 10, 2) := by decide +kernel
theorem dX9_ofRow_229 : decode cX9_ofRow 229 = .ok (.ifCond .eq 12, 3) := by decide +kernel
theorem dX9_ofRow_232 : decode cX9_ofRow 232 = .ok (.lload 8, 2) := by decide +kernel
theorem dX9_ofRow_234 : decode cX9_ofRow 234 = .ok (.l2d, 1) := by decide +kernel
theorem dX9_ofRow_235 : decode cX9_ofRow 235 = .ok (.invokestatic 282, 3) := by decide +kernel
theorem dX9_ofRow_238 : decode cX9_ofRow 238 = .ok (.goto 9, 3) := by decide +kernel
theorem dX9_ofRow_241 : decode cX9_ofRow 241 = .ok (.iload_n 3, 1) := by decide +kernel
theorem dX9_ofRow_242 : decode cX9_ofRow 242 = .ok (.lload 8, 2) := by decide +kernel
theorem dX9_ofRow_244 : decode cX9_ofRow 244 = .ok (.invokestatic 286, 3) := by decide +kernel
theorem dX9_ofRow_247 : decode cX9_ofRow 247 = .ok (.lastore, 1) := by decide +kernel
theorem dX9_ofRow_248 : decode cX9_ofRow 248 = .ok (.goto 89, 3) := by decide +kernel
theorem dX9_ofRow_251 : decode cX9_ofRow 251 = .ok (.iload 10, 2) := by decide +kernel
theorem dX9_ofRow_253 : decode cX9_ofRow 253 = .ok (.ifCond .ne 18, 3) := by decide +kernel
theorem dX9_ofRow_256 : decode cX9_ofRow 256 = .ok (.aload_n 0, 1) := by decide +kernel
theorem dX9_ofRow_257 : decode cX9_ofRow 257 = .ok (.getfield 90, 3) := by decide +kernel
theorem dX9_ofRow_260 : decode cX9_ofRow 260 = .ok (.iload 5, 2) := by decide +kernel
theorem dX9_ofRow_262 : decode cX9_ofRow 262 = .ok (.laload, 1) := by decide +kernel
theorem dX9_ofRow_263 : decode cX9_ofRow 263 = .ok (.lconst 0, 1) := by decide +kernel
theorem dX9_ofRow_264 : decode cX9_ofRow 264 = .ok (.lcmp, 1) := by decide +kernel
theorem dX9_ofRow_265 : decode cX9_ofRow 265 = .ok (.ifCond .ne 6, 3) := by decide +kernel
theorem dX9_ofRow_268 : decode cX9_ofRow 268 = .ok (.bipush 12, 2) := by decide +kernel
theorem dX9_ofRow_270 : decode cX9_ofRow 270 = .ok (.ireturn, 1) := by decide +kernel
theorem dX9_ofRow_271 : decode cX9_ofRow 271 = .ok (.iload 10, 2) := by decide +kernel
theorem dX9_ofRow_273 : decode cX9_ofRow 273 = .ok (.ifCond .eq 21, 3) := by decide +kernel
theorem dX9_ofRow_276 : decode cX9_ofRow 276 = .ok (.dload 6, 2) := by decide +kernel
theorem dX9_ofRow_278 : decode cX9_ofRow 278 = .ok (.dconst 0, 1) := by decide +kernel
theorem dX9_ofRow_279 : decode cX9_ofRow 279 = .ok (.dcmp .l, 1) := by decide +kernel
theorem dX9_ofRow_280 : decode cX9_ofRow 280 = .ok (.ifCond .ne 14, 3) := by decide +kernel
theorem dX9_ofRow_283 : decode cX9_ofRow 283 = .ok (.lload 8, 2) := by decide +kernel
theorem dX9_ofRow_285 : decode cX9_ofRow 285 = .ok (.lconst 0, 1) := by decide +kernel
theorem dX9_ofRow_286 : decode cX9_ofRow 286 = .ok (.lcmp, 1) := by decide +kernel
theorem dX9_ofRow_287 : decode cX9_ofRow 287 = .ok (.ifCond .ne 7, 3) := by decide +kernel
theorem dX9_ofRow_290 : decode cX9_ofRow 290 = .ok (.iconst 1, 1) := by decide +kernel
theorem dX9_ofRow_291 : decode cX9_ofRow 291 = .ok (.goto 4, 3) := by decide +kernel
theorem dX9_ofRow_294 : decode cX9_ofRow 294 = .ok (.iconst 0, 1) := by decide +kernel
theorem dX9_ofRow_295 : decode cX9_ofRow 295 = .ok (.istore 11, 2) := by decide +kernel
theorem dX9_ofRow_297 : decode cX9_ofRow 297 = .ok (.aload_n 0, 1) := by decide +kernel
theorem dX9_ofRow_298 : decode cX9_ofRow 298 = .ok (.getfield 118, 3) := by decide +kernel
theorem dX9_ofRow_301 : decode cX9_ofRow 301 = .ok (.iload_n 1, 1) := by decide +kernel
theorem dX9_ofRow_302 : decode cX9_ofRow 302 = .ok (.iload 11, 2) := by decide +kernel
theorem dX9_ofRow_304 : decode cX9_ofRow 304 = .ok (.ifCond .eq 7, 3) := by decide +kernel
theorem dX9_ofRow_307 : decode cX9_ofRow 307 = .ok (.lconst 0, 1) := by decide +kernel
theorem dX9_ofRow_308 : decode cX9_ofRow 308 = .ok (.goto 28, 3) := by decide +kernel
theorem dX9_ofRow_311 : decode cX9_ofRow 311 = .ok (.iload 10, 2) := by decide +kernel
theorem dX9_ofRow_313 : decode cX9_ofRow 313 = .ok (.ifCond .eq 13, 3) := by decide +kernel
theorem dX9_ofRow_316 : decode cX9_ofRow 316 = .ok (.lload 8, 2) := by decide +kernel
theorem dX9_ofRow_318 : decode cX9_ofRow 318 = .ok (.l2d, 1) := by decide +kernel
theorem dX9_ofRow_319 : decode cX9_ofRow 319 = .ok (.dload 6, 2) := by decide +kernel
theorem dX9_ofRow_321 : decode cX9_ofRow 321 = .ok (.ddiv, 1) := by decide +kernel
theorem dX9_ofRow_322 : decode cX9_ofRow 322 = .ok (.d2l, 1) := by decide +kernel
theorem dX9_ofRow_323 : decode cX9_ofRow 323 = .ok (.goto 13, 3) := by decide +kernel
theorem dX9_ofRow_326 : decode cX9_ofRow 326 = .ok (.lload 8, 2) := by decide +kernel
theorem dX9_ofRow_328 : decode cX9_ofRow 328 = .ok (.aload_n 0, 1) := by decide +kernel
theorem dX9_ofRow_329 : decode cX9_ofRow 329 = .ok (.getfield 90, 3) := by decide +kernel
theorem dX9_ofRow_332 : decode cX9_ofRow 332 = .ok (.iload 5, 2) := by decide +kernel
theorem dX9_ofRow_334 : decode cX9_ofRow 334 = .ok (.laload, 1) := by decide +kernel
theorem dX9_ofRow_335 : decode cX9_ofRow 335 = .ok (.ldiv, 1) := by decide +kernel
theorem dX9_ofRow_336 : decode cX9_ofRow 336 = .ok (.lastore, 1) := by decide +kernel
theorem dX9_ofRow_337 : decode cX9_ofRow 337 = .ok (.iconst 0, 1) := by decide +kernel
theorem dX9_ofRow_338 : decode cX9_ofRow 338 = .ok (.ireturn, 1) := by decide +kernel
theorem dX9_of_0 : decode cX9_of 0 = .ok (.aload_n 0, 1) := by decide +kernel
theorem dX9_of_1 : decode cX9_of 1 = .ok (.getfield 38, 3) := by decide +kernel
theorem dX9_of_4 : decode cX9_of 4 = .ok (.iload_n 2, 1) := by decide +kernel
theorem dX9_of_5 : decode cX9_of 5 = .ok (.iaload, 1) := by decide +kernel
theorem dX9_of_6 : decode cX9_of 6 = .ok (.istore_n 3, 1) := by decide +kernel
theorem dX9_of_7 : decode cX9_of 7 = .ok (.aload_n 0, 1) := by decide +kernel
theorem dX9_of_8 : decode cX9_of 8 = .ok (.getfield 106, 3) := by decide +kernel
theorem dX9_of_11 : decode cX9_of 11 = .ok (.iload_n 1, 1) := by decide +kernel
theorem dX9_of_12 : decode cX9_of 12 = .ok (.iaload, 1) := by decide +kernel
theorem dX9_of_13 : decode cX9_of 13 = .ok (.bipush 30, 2) := by decide +kernel
theorem dX9_of_15 : decode cX9_of 15 = .ok (.idiv, 1) := by decide +kernel
theorem dX9_of_16 : decode cX9_of 16 = .ok (.istore 4, 2) := by decide +kernel
theorem dX9_of_18 : decode cX9_of 18 = .ok (.aload_n 0, 1) := by decide +kernel
theorem dX9_of_19 : decode cX9_of 19 = .ok (.getfield 35, 3) := by decide +kernel
theorem dX9_of_22 : decode cX9_of 22 = .ok (.iload_n 2, 1) := by decide +kernel
theorem dX9_of_23 : decode cX9_of 23 = .ok (.iaload, 1) := by decide +kernel
theorem dX9_of_24 : decode cX9_of 24 = .ok (.tableswitch 274 4 10 #[44, 62, 75, 123, 165, 170, 241], 44) := by decide +kernel
theorem dX9_of_68 : decode cX9_of 68 = .ok (.aload_n 0, 1) := by decide +kernel
theorem dX9_of_69 : decode cX9_of 69 = .ok (.getfield 118, 3) := by decide +kernel
theorem dX9_of_72 : decode cX9_of 72 = .ok (.iload_n 1, 1) := by decide +kernel
theorem dX9_of_73 : decode cX9_of 73 = .ok (.dup2, 1) := by decide +kernel
theorem dX9_of_74 : decode cX9_of 74 = .ok (.laload, 1) := by decide +kernel
theorem dX9_of_75 : decode cX9_of 75 = .ok (.aload_n 0, 1) := by decide +kernel
theorem dX9_of_76 : decode cX9_of 76 = .ok (.getfield 41, 3) := by decide +kernel
theorem dX9_of_79 : decode cX9_of 79 = .ok (.iload_n 2, 1) := by decide +kernel
theorem dX9_of_80 : decode cX9_of 80 = .ok (.iaload, 1) := by decide +kernel
theorem dX9_of_81 : decode cX9_of 81 = .ok (.i2l, 1) := by decide +kernel
theorem dX9_of_82 : decode cX9_of 82 = .ok (.ladd, 1) := by decide +kernel
theorem dX9_of_83 : decode cX9_of 83 = .ok (.lastore, 1) := by decide +kernel
theorem dX9_of_84 : decode cX9_of 84 = .ok (.iconst 0, 1) := by decide +kernel
theorem dX9_of_85 : decode cX9_of 85 = .ok (.ireturn, 1) := by decide +kernel
theorem dX9_of_86 : decode cX9_of 86 = .ok (.aload_n 0, 1) := by decide +kernel
theorem dX9_of_87 : decode cX9_of 87 = .ok (.iload_n 1, 1) := by decide +kernel
theorem dX9_of_88 : decode cX9_of 88 = .ok (.iload_n 3, 1) := by decide +kernel
theorem dX9_of_89 : decode cX9_of 89 = .ok (.aload_n 0, 1) := by decide +kernel
theorem dX9_of_90 : decode cX9_of 90 = .ok (.getfield 41, 3) := by decide +kernel
theorem dX9_of_93 : decode cX9_of 93 = .ok (.iload_n 2, 1) := by decide +kernel
theorem dX9_of_94 : decode cX9_of 94 = .ok (.iaload, 1) := by decide +kernel
theorem dX9_of_95 : decode cX9_of 95 = .ok (.invokevirtual 290, 3) := by decide +kernel
theorem dX9_of_98 : decode cX9_of 98 = .ok (.ireturn, 1) := by decide +kernel
theorem dX9_of_99 : decode cX9_of 99 = .ok (.aload_n 0, 1) := by decide +kernel
theorem dX9_of_100 : decode cX9_of 100 = .ok (.iload 4, 2) := by decide +kernel
theorem dX9_of_102 : decode cX9_of 102 = .ok (.iload_n 3, 1) := by decide +kernel
theorem dX9_of_103 : decode cX9_of 103 = .ok (.invokevirtual 204, 3) := by decide +kernel
theorem dX9_of_106 : decode cX9_of 106 = .ok (.istore 5, 2) := by decide +kernel
theorem dX9_of_108 : decode cX9_of 108 = .ok (.aload_n 0, 1) := by decide +kernel
theorem dX9_of_109 : decode cX9_of 109 = .ok (.getfield 118, 3) := by decide +kernel
theorem dX9_of_112 : decode cX9_of 112 = .ok (.iload_n 1, 1) := by decide +kernel
theorem dX9_of_113 : decode cX9_of 113 = .ok (.iload 5, 2) := by decide +kernel
theorem dX9_of_115 : decode cX9_of 115 = .ok (.ifCond .ge 12, 3) := by decide +kernel
theorem dX9_of_118 : decode cX9_of 118 = .ok (.aload_n 0, 1) := by decide +kernel
theorem dX9_of_119 : decode cX9_of 119 = .ok (.getfield 118, 3) := by decide +kernel
theorem dX9_of_122 : decode cX9_of 122 = .ok (.iload_n 1, 1) := by decide +kernel
theorem dX9_of_123 : decode cX9_of 123 = .ok (.laload, 1) := by decide +kernel
theorem dX9_of_124 : decode cX9_of 124 = .ok (.goto 9, 3) := by decide +kernel
theorem dX9_of_127 : decode cX9_of 127 = .ok (.iload 5, 2) := by decide +kernel
theorem dX9_of_129 : decode cX9_of 129 = .ok (.invokestatic 208, 3) := by decide +kernel
theorem dX9_of_132 : decode cX9_of 132 = .ok (.i2l, 1) := by decide +kernel
theorem dX9_of_133 : decode cX9_of 133 = .ok (.lastore, 1) := by decide +kernel
theorem dX9_of_134 : decode cX9_of 134 = .ok (.iload 5, 2) := by decide +kernel
theorem dX9_of_136 : decode cX9_of 136 = .ok (.ifCond .ge 9, 3) := by decide +kernel
theorem dX9_of_139 : decode cX9_of 139 = .ok (.iload 5, 2) := by decide +kernel
theorem dX9_of_141 : decode cX9_of 141 = .ok (.ineg, 1) := by decide +kernel
theorem dX9_of_142 : decode cX9_of 142 = .ok (.goto 4, 3) := by decide +kernel
theorem dX9_of_145 : decode cX9_of 145 = .ok (.iconst 0, 1) := by decide +kernel
theorem dX9_of_146 : decode cX9_of 146 = .ok (.ireturn, 1) := by decide +kernel
theorem dX9_of_147 : decode cX9_of 147 = .ok (.aload_n 0, 1) := by decide +kernel
theorem dX9_of_148 : decode cX9_of 148 = .ok (.iload 4, 2) := by decide +kernel
theorem dX9_of_150 : decode cX9_of 150 = .ok (.iload_n 3, 1) := by decide +kernel
theorem dX9_of_151 : decode cX9_of 151 = .ok (.invokevirtual 204, 3) := by decide +kernel
theorem dX9_of_154 : decode cX9_of 154 = .ok (.istore 5, 2) := by decide +kernel
theorem dX9_of_156 : decode cX9_of 156 = .ok (.iload 5, 2) := by decide +kernel
theorem dX9_of_158 : decode cX9_of 158 = .ok (.ifCond .ge 9, 3) := by decide +kernel
theorem dX9_of_161 : decode cX9_of 161 = .ok (.iload 5, 2) := by decide +kernel
theorem dX9_of_163 : decode cX9_of 163 = .ok (.ineg, 1) := by decide +kernel
theorem dX9_of_164 : decode cX9_of 164 = .ok (.goto 24, 3) := by decide +kernel
theorem dX9_of_167 : decode cX9_of 167 = .ok (.aload_n 0, 1) := by decide +kernel
theorem dX9_of_168 : decode cX9_of 168 = .ok (.aload_n 0, 1) := by decide +kernel
theorem dX9_of_169 : decode cX9_of 169 = .ok (.getfield 97, 3) := by decide +kernel
theorem dX9_of_172 : decode cX9_of 172 = .ok (.iload_n 1, 1) := by decide +kernel
theorem dX9_of_173 : decode cX9_of 173 = .ok (.iaload, 1) := by decide +kernel
theorem dX9_of_174 : decode cX9_of 174 = .ok (.iload 5, 2) := by decide +kernel
theorem dX9_of_176 : decode cX9_of 176 = .ok (.invokevirtual 218, 3) := by decide +kernel
theorem dX9_of_179 : decode cX9_of 179 = .ok (.ifCond .eq 7, 3) := by decide +kernel
theorem dX9_of_182 : decode cX9_of 182 = .ok (.iconst 0, 1) := by decide +kernel
theorem dX9_of_183 : decode cX9_of 183 = .ok (.goto 5, 3) := by decide +kernel
theorem dX9_of_186 : decode cX9_of 186 = .ok (.bipush 8, 2) := by decide +kernel
theorem dX9_of_188 : decode cX9_of 188 = .ok (.ireturn, 1) := by decide +kernel
theorem dX9_of_189 : decode cX9_of 189 = .ok (.bipush 20, 2) := by decide +kernel
theorem dX9_of_191 : decode cX9_of 191 = .ok (.iload_n 3, 1) := by decide +kernel
theorem dX9_of_192 : decode cX9_of 192 = .ok (.iadd, 1) := by decide +kernel
theorem dX9_of_193 : decode cX9_of 193 = .ok (.ireturn, 1) := by decide +kernel
theorem dX9_of_194 : decode cX9_of 194 = .ok (.aload_n 0, 1) := by decide +kernel
theorem dX9_of_195 : decode cX9_of 195 = .ok (.aload_n 0, 1) := by decide +kernel
theorem dX9_of_196 : decode cX9_of 196 = .ok (.getfield 60, 3) := by decide +kernel
theorem dX9_of_199 : decode cX9_of 199 = .ok (.aload_n 0, 1) := by decide +kernel
theorem dX9_of_200 : decode cX9_of 200 = .ok (.getfield 106, 3) := by decide +kernel
theorem dX9_of_203 : decode cX9_of 203 = .ok (.iload_n 1, 1) := by decide +kernel
theorem dX9_of_204 : decode cX9_of 204 = .ok (.iaload, 1) := by decide +kernel
theorem dX9_of_205 : decode cX9_of 205 = .ok (.iaload, 1) := by decide +kernel
theorem dX9_of_206 : decode cX9_of 206 = .ok (.aload_n 0, 1) := by decide +kernel
theorem dX9_of_207 : decode cX9_of 207 = .ok (.getfield 103, 3) := by decide +kernel
theorem dX9_of_210 : decode cX9_of 210 = .ok (.iload_n 1, 1) := by decide +kernel
theorem dX9_of_211 : decode cX9_of 211 = .ok (.iaload, 1) := by decide +kernel
theorem dX9_of_212 : decode cX9_of 212 = .ok (.invokevirtual 244, 3) := by decide +kernel
theorem dX9_of_215 : decode cX9_of 215 = .ok (.istore 5, 2) := by decide +kernel
theorem dX9_of_217 : decode cX9_of 217 = .ok (.iload 5, 2) := by decide +kernel
theorem dX9_of_219 : decode cX9_of 219 = .ok (.ifCond .ge 6, 3) := by decide +kernel
theorem dX9_of_222 : decode cX9_of 222 = .ok (.bipush 14, 2) := by decide +kernel
theorem dX9_of_224 : decode cX9_of 224 = .ok (.ireturn, 1) := by decide +kernel
theorem dX9_of_225 : decode cX9_of 225 = .ok (.aload_n 0, 1) := by decide +kernel
theorem dX9_of_226 : decode cX9_of 226 = .ok (.getfield 112, 3) := by decide +kernel
theorem dX9_of_229 : decode cX9_of 229 = .ok (.iload_n 1, 1) := by decide +kernel
theorem dX9_of_230 : decode cX9_of 230 = .ok (.iconst 1, 1) := by decide +kernel
theorem dX9_of_231 : decode cX9_of 231 = .ok (.bastore, 1) := by decide +kernel
theorem dX9_of_232 : decode cX9_of 232 = .ok (.aload_n 0, 1) := by decide +kernel
theorem dX9_of_233 : decode cX9_of 233 = .ok (.aload_n 0, 1) := by decide +kernel
theorem dX9_of_234 : decode cX9_of 234 = .ok (.getfield 94, 3) := by decide +kernel
theorem dX9_of_237 : decode cX9_of 237 = .ok (.iload_n 1, 1) := by decide +kernel
theorem dX9_of_238 : decode cX9_of 238 = .ok (.iaload, 1) := by decide +kernel
theorem dX9_of_239 : decode cX9_of 239 = .ok (.aload_n 0, 1) := by decide +kernel
theorem dX9_of_240 : decode cX9_of 240 = .ok (.getfield 97, 3) := by decide +kernel
theorem dX9_of_243 : decode cX9_of 243 = .ok (.iload_n 1, 1) := by decide +kernel
theorem dX9_of_244 : decode cX9_of 244 = .ok (.iaload, 1) := by decide +kernel
theorem dX9_of_245 : decode cX9_of 245 = .ok (.iconst 0, 1) := by decide +kernel
theorem dX9_of_246 : decode cX9_of 246 = .ok (.aload_n 0, 1) := by decide +kernel
theorem dX9_of_247 : decode cX9_of 247 = .ok (.getfield 103, 3) := by decide +kernel
theorem dX9_of_250 : decode cX9_of 250 = .ok (.iload_n 1, 1) := by decide +kernel
theorem dX9_of_251 : decode cX9_of 251 = .ok (.iaload, 1) := by decide +kernel
theorem dX9_of_252 : decode cX9_of 252 = .ok (.iload 5, 2) := by decide +kernel
theorem dX9_of_254 : decode cX9_of 254 = .ok (.aload_n 0, 1) := by decide +kernel
theorem dX9_of_255 : decode cX9_of 255 = .ok (.getfield 118, 3) := by decide +kernel
theorem dX9_of_258 : decode cX9_of 258 = .ok (.iload_n 1, 1) := by decide +kernel
theorem dX9_of_259 : decode cX9_of 259 = .ok (.laload, 1) := by decide +kernel
theorem dX9_of_260 : decode cX9_of 260 = .ok (.invokevirtual 247, 3) := by decide +kernel
theorem dX9_of_263 : decode cX9_of 263 = .ok (.iconst 0, 1) := by decide +kernel
theorem dX9_of_264 : decode cX9_of 264 = .ok (.ireturn, 1) := by decide +kernel
theorem dX9_of_265 : decode cX9_of 265 = .ok (.aload_n 0, 1) := by decide +kernel
theorem dX9_of_266 : decode cX9_of 266 = .ok (.iload_n 3, 1) := by decide +kernel
theorem dX9_of_267 : decode cX9_of 267 = .ok (.invokevirtual 160, 3) := by decide +kernel
theorem dX9_of_270 : decode cX9_of 270 = .ok (.ifCond .eq 11, 3) := by decide +kernel
theorem dX9_of_273 : decode cX9_of 273 = .ok (.aload_n 0, 1) := by decide +kernel
theorem dX9_of_274 : decode cX9_of 274 = .ok (.iload_n 3, 1) := by decide +kernel
theorem dX9_of_275 : decode cX9_of 275 = .ok (.invokevirtual 215, 3) := by decide +kernel
theorem dX9_of_278 : decode cX9_of 278 = .ok (.goto 5, 3) := by decide +kernel
theorem dX9_of_281 : decode cX9_of 281 = .ok (.bipush (-11), 2) := by decide +kernel
theorem dX9_of_283 : decode cX9_of 283 = .ok (.istore 5, 2) := by decide +kernel
theorem dX9_of_285 : decode cX9_of 285 = .ok (.iload 5, 2) := by decide +kernel
theorem dX9_of_287 : decode cX9_of 287 = .ok (.ifCond .ge 9, 3) := by decide +kernel
theorem dX9_of_290 : decode cX9_of 290 = .ok (.iload 5, 2) := by decide +kernel
theorem dX9_of_292 : decode cX9_of 292 = .ok (.ineg, 1) := by decide +kernel
theorem dX9_of_293 : decode cX9_of 293 = .ok (.goto 4, 3) := by decide +kernel
theorem dX9_of_296 : decode cX9_of 296 = .ok (.iconst 0, 1) := by decide +kernel
theorem dX9_of_297 : decode cX9_of 297 = .ok (.ireturn, 1) := by decide +kernel
theorem dX9_of_298 : decode cX9_of 298 = .ok (.iconst 0, 1) := by decide +kernel
theorem dX9_of_299 : decode cX9_of 299 = .ok (.ireturn, 1) := by decide +kernel
theorem dX9_callsOther_0 : decode cX9_callsOther 0 = .ok (.aload_n 0, 1) := by decide +kernel
theorem dX9_callsOther_1 : decode cX9_callsOther 1 = .ok (.iload_n 2, 1) := by decide +kernel
theorem dX9_callsOther_2 : decode cX9_callsOther 2 = .ok (.invokevirtual 227, 3) := by decide +kernel
theorem dX9_callsOther_5 : decode cX9_callsOther 5 = .ok (.ifCond .ne 6, 3) := by decide +kernel
theorem dX9_callsOther_8 : decode cX9_callsOther 8 = .ok (.bipush 11, 2) := by decide +kernel
theorem dX9_callsOther_10 : decode cX9_callsOther 10 = .ok (.ireturn, 1) := by decide +kernel
theorem dX9_callsOther_11 : decode cX9_callsOther 11 = .ok (.aload_n 0, 1) := by decide +kernel
theorem dX9_callsOther_12 : decode cX9_callsOther 12 = .ok (.aload_n 0, 1) := by decide +kernel
theorem dX9_callsOther_13 : decode cX9_callsOther 13 = .ok (.getfield 106, 3) := by decide +kernel
theorem dX9_callsOther_16 : decode cX9_callsOther 16 = .ok (.iload_n 1, 1) := by decide +kernel
theorem dX9_callsOther_17 : decode cX9_callsOther 17 = .ok (.iaload, 1) := by decide +kernel
theorem dX9_callsOther_18 : decode cX9_callsOther 18 = .ok (.bipush 30, 2) := by decide +kernel
theorem dX9_callsOther_20 : decode cX9_callsOther 20 = .ok (.idiv, 1) := by decide +kernel
theorem dX9_callsOther_21 : decode cX9_callsOther 21 = .ok (.iload_n 3, 1) := by decide +kernel
theorem dX9_callsOther_22 : decode cX9_callsOther 22 = .ok (.iconst 3, 1) := by decide +kernel
theorem dX9_callsOther_23 : decode cX9_callsOther 23 = .ok (.idiv, 1) := by decide +kernel
theorem dX9_callsOther_24 : decode cX9_callsOther 24 = .ok (.invokevirtual 204, 3) := by decide +kernel
theorem dX9_callsOther_27 : decode cX9_callsOther 27 = .ok (.istore 4, 2) := by decide +kernel
theorem dX9_callsOther_29 : decode cX9_callsOther 29 = .ok (.iload 4, 2) := by decide +kernel
theorem dX9_callsOther_31 : decode cX9_callsOther 31 = .ok (.ifCond .ge 7, 3) := by decide +kernel
theorem dX9_callsOther_34 : decode cX9_callsOther 34 = .ok (.iload 4, 2) := by decide +kernel
theorem dX9_callsOther_36 : decode cX9_callsOther 36 = .ok (.ineg, 1) := by decide +kernel
theorem dX9_callsOther_37 : decode cX9_callsOther 37 = .ok (.ireturn, 1) := by decide +kernel
theorem dX9_callsOther_38 : decode cX9_callsOther 38 = .ok (.aload_n 0, 1) := by decide +kernel
theorem dX9_callsOther_39 : decode cX9_callsOther 39 = .ok (.getfield 16, 3) := by decide +kernel
theorem dX9_callsOther_42 : decode cX9_callsOther 42 = .ok (.aload_n 0, 1) := by decide +kernel
theorem dX9_callsOther_43 : decode cX9_callsOther 43 = .ok (.getfield 51, 3) := by decide +kernel
theorem dX9_callsOther_46 : decode cX9_callsOther 46 = .ok (.iload 4, 2) := by decide +kernel
theorem dX9_callsOther_48 : decode cX9_callsOther 48 = .ok (.iaload, 1) := by decide +kernel
theorem dX9_callsOther_49 : decode cX9_callsOther 49 = .ok (.baload, 1) := by decide +kernel
theorem dX9_callsOther_50 : decode cX9_callsOther 50 = .ok (.ifCond .ne 6, 3) := by decide +kernel
theorem dX9_callsOther_53 : decode cX9_callsOther 53 = .ok (.bipush 6, 2) := by decide +kernel
theorem dX9_callsOther_55 : decode cX9_callsOther 55 = .ok (.ireturn, 1) := by decide +kernel
theorem dX9_callsOther_56 : decode cX9_callsOther 56 = .ok (.aload_n 0, 1) := by decide +kernel
theorem dX9_callsOther_57 : decode cX9_callsOther 57 = .ok (.aload_n 0, 1) := by decide +kernel
theorem dX9_callsOther_58 : decode cX9_callsOther 58 = .ok (.getfield 81, 3) := by decide +kernel
theorem dX9_callsOther_61 : decode cX9_callsOther 61 = .ok (.iload_n 2, 1) := by decide +kernel
theorem dX9_callsOther_62 : decode cX9_callsOther 62 = .ok (.iaload, 1) := by decide +kernel
theorem dX9_callsOther_63 : decode cX9_callsOther 63 = .ok (.aload_n 0, 1) := by decide +kernel
theorem dX9_callsOther_64 : decode cX9_callsOther 64 = .ok (.getfield 84, 3) := by decide +kernel
theorem dX9_callsOther_67 : decode cX9_callsOther 67 = .ok (.iload_n 2, 1) := by decide +kernel
theorem dX9_callsOther_68 : decode cX9_callsOther 68 = .ok (.iaload, 1) := by decide +kernel
theorem dX9_callsOther_69 : decode cX9_callsOther 69 = .ok (.invokevirtual 204, 3) := by decide +kernel
theorem dX9_callsOther_72 : decode cX9_callsOther 72 = .ok (.istore 5, 2) := by decide +kernel
theorem dX9_callsOther_74 : decode cX9_callsOther 74 = .ok (.iload 5, 2) := by decide +kernel
theorem dX9_callsOther_76 : decode cX9_callsOther 76 = .ok (.ifCond .ge 7, 3) := by decide +kernel
theorem dX9_callsOther_79 : decode cX9_callsOther 79 = .ok (.iload 5, 2) := by decide +kernel
theorem dX9_callsOther_81 : decode cX9_callsOther 81 = .ok (.ineg, 1) := by decide +kernel
theorem dX9_callsOther_82 : decode cX9_callsOther 82 = .ok (.ireturn, 1) := by decide +kernel
theorem dX9_callsOther_83 : decode cX9_callsOther 83 = .ok (.aload_n 0, 1) := by decide +kernel
theorem dX9_callsOther_84 : decode cX9_callsOther 84 = .ok (.iload 5, 2) := by decide +kernel
theorem dX9_callsOther_86 : decode cX9_callsOther 86 = .ok (.iload 4, 2) := by decide +kernel
theorem dX9_callsOther_88 : decode cX9_callsOther 88 = .ok (.invokevirtual 218, 3) := by decide +kernel
theorem dX9_callsOther_91 : decode cX9_callsOther 91 = .ok (.ifCond .ne 6, 3) := by decide +kernel
theorem dX9_callsOther_94 : decode cX9_callsOther 94 = .ok (.bipush 8, 2) := by decide +kernel
theorem dX9_callsOther_96 : decode cX9_callsOther 96 = .ok (.ireturn, 1) := by decide +kernel
theorem dX9_callsOther_97 : decode cX9_callsOther 97 = .ok (.aload_n 0, 1) := by decide +kernel
theorem dX9_callsOther_98 : decode cX9_callsOther 98 = .ok (.iload_n 2, 1) := by decide +kernel
theorem dX9_callsOther_99 : decode cX9_callsOther 99 = .ok (.iload_n 3, 1) := by decide +kernel
theorem dX9_callsOther_100 : decode cX9_callsOther 100 = .ok (.iconst 3, 1) := by decide +kernel
theorem dX9_callsOther_101 : decode cX9_callsOther 101 = .ok (.irem, 1) := by decide +kernel
theorem dX9_callsOther_102 : decode cX9_callsOther 102 = .ok (.aload_n 0, 1) := by decide +kernel
theorem dX9_callsOther_103 : decode cX9_callsOther 103 = .ok (.getfield 118, 3) := by decide +kernel
theorem dX9_callsOther_106 : decode cX9_callsOther 106 = .ok (.iload_n 1, 1) := by decide +kernel
theorem dX9_callsOther_107 : decode cX9_callsOther 107 = .ok (.laload, 1) := by decide +kernel
theorem dX9_callsOther_108 : decode cX9_callsOther 108 = .ok (.invokevirtual 293, 3) := by decide +kernel
theorem dX9_callsOther_111 : decode cX9_callsOther 111 = .ok (.istore 6, 2) := by decide +kernel
theorem dX9_callsOther_113 : decode cX9_callsOther 113 = .ok (.aload_n 0, 1) := by decide +kernel
theorem dX9_callsOther_114 : decode cX9_callsOther 114 = .ok (.getfield 112, 3) := by decide +kernel
theorem dX9_callsOther_117 : decode cX9_callsOther 117 = .ok (.iload_n 1, 1) := by decide +kernel
theorem dX9_callsOther_118 : decode cX9_callsOther 118 = .ok (.iload 6, 2) := by decide +kernel
theorem dX9_callsOther_120 : decode cX9_callsOther 120 = .ok (.ifCond .ne 7, 3) := by decide +kernel
theorem dX9_callsOther_123 : decode cX9_callsOther 123 = .ok (.iconst 1, 1) := by decide +kernel
theorem dX9_callsOther_124 : decode cX9_callsOther 124 = .ok (.goto 4, 3) := by decide +kernel
theorem dX9_callsOther_127 : decode cX9_callsOther 127 = .ok (.iconst 0, 1) := by decide +kernel
theorem dX9_callsOther_128 : decode cX9_callsOther 128 = .ok (.bastore, 1) := by decide +kernel
theorem dX9_callsOther_129 : decode cX9_callsOther 129 = .ok (.iload 6, 2) := by decide +kernel
theorem dX9_callsOther_131 : decode cX9_callsOther 131 = .ok (.ireturn, 1) := by decide +kernel
theorem dX9_call_0 : decode cX9_call 0 = .ok (.aload_n 0, 1) := by decide +kernel
theorem dX9_call_1 : decode cX9_call 1 = .ok (.iconst 0, 1) := by decide +kernel
theorem dX9_call_2 : decode cX9_call 2 = .ok (.putfield 128, 3) := by decide +kernel
theorem dX9_call_5 : decode cX9_call 5 = .ok (.aload_n 0, 1) := by decide +kernel
theorem dX9_call_6 : decode cX9_call 6 = .ok (.iload_n 1, 1) := by decide +kernel
theorem dX9_call_7 : decode cX9_call 7 = .ok (.invokevirtual 227, 3) := by decide +kernel
theorem dX9_call_10 : decode cX9_call 10 = .ok (.ifCond .eq 15, 3) := by decide +kernel
theorem dX9_call_13 : decode cX9_call 13 = .ok (.iload_n 2, 1) := by decide +kernel
theorem dX9_call_14 : decode cX9_call 14 = .ok (.i2l, 1) := by decide +kernel
theorem dX9_call_15 : decode cX9_call 15 = .ok (.lconst 0, 1) := by decide +kernel
theorem dX9_call_16 : decode cX9_call 16 = .ok (.ldc2_w 152, 3) := by decide +kernel
theorem dX9_call_19 : decode cX9_call 19 = .ok (.invokestatic 133, 3) := by decide +kernel
theorem dX9_call_22 : decode cX9_call 22 = .ok (.ifCond .ne 5, 3) := by decide +kernel
theorem dX9_call_25 : decode cX9_call 25 = .ok (.iconst (-1), 1) := by decide +kernel
theorem dX9_call_26 : decode cX9_call 26 = .ok (.ireturn, 1) := by decide +kernel
theorem dX9_call_27 : decode cX9_call 27 = .ok (.iconst 0, 1) := by decide +kernel
theorem dX9_call_28 : decode cX9_call 28 = .ok (.istore 5, 2) := by decide +kernel
theorem dX9_call_30 : decode cX9_call 30 = .ok (.iload 5, 2) := by decide +kernel
theorem dX9_call_32 : decode cX9_call 32 = .ok (.bipush 40, 2) := by decide +kernel
theorem dX9_call_34 : decode cX9_call 34 = .ok (.if_icmp .ge 23, 3) := by decide +kernel
theorem dX9_call_37 : decode cX9_call 37 = .ok (.aload_n 0, 1) := by decide +kernel
theorem dX9_call_38 : decode cX9_call 38 = .ok (.getfield 125, 3) := by decide +kernel
theorem dX9_call_41 : decode cX9_call 41 = .ok (.iload 5, 2) := by decide +kernel
theorem dX9_call_43 : decode cX9_call 43 = .ok (.aload_n 0, 1) := by decide +kernel
theorem dX9_call_44 : decode cX9_call 44 = .ok (.getfield 90, 3) := by decide +kernel
theorem dX9_call_47 : decode cX9_call 47 = .ok (.iload 5, 2) := by decide +kernel
theorem dX9_call_49 : decode cX9_call 49 = .ok (.laload, 1) := by decide +kernel
theorem dX9_call_50 : decode cX9_call 50 = .ok (.lastore, 1) := by decide +kernel
theorem dX9_call_51 : decode cX9_call 51 = .ok (.iinc 5 1, 3) := by decide +kernel
theorem dX9_call_54 : decode cX9_call 54 = .ok (.goto (-24), 3) := by decide +kernel
theorem dX9_call_57 : decode cX9_call 57 = .ok (.aload_n 0, 1) := by decide +kernel
theorem dX9_call_58 : decode cX9_call 58 = .ok (.iconst 0, 1) := by decide +kernel
theorem dX9_call_59 : decode cX9_call 59 = .ok (.putfield 232, 3) := by decide +kernel
theorem dX9_call_62 : decode cX9_call 62 = .ok (.aload_n 0, 1) := by decide +kernel
theorem dX9_call_63 : decode cX9_call 63 = .ok (.aload_n 0, 1) := by decide +kernel
theorem dX9_call_64 : decode cX9_call 64 = .ok (.iload_n 1, 1) := by decide +kernel
theorem dX9_call_65 : decode cX9_call 65 = .ok (.iload_n 2, 1) := by decide +kernel
theorem dX9_call_66 : decode cX9_call 66 = .ok (.lload_n 3, 1) := by decide +kernel
theorem dX9_call_67 : decode cX9_call 67 = .ok (.invokevirtual 293, 3) := by decide +kernel
theorem dX9_call_70 : decode cX9_call 70 = .ok (.putfield 251, 3) := by decide +kernel
theorem dX9_call_73 : decode cX9_call 73 = .ok (.aload_n 0, 1) := by decide +kernel
theorem dX9_call_74 : decode cX9_call 74 = .ok (.invokevirtual 297, 3) := by decide +kernel
theorem dX9_call_77 : decode cX9_call 77 = .ok (.aload_n 0, 1) := by decide +kernel
theorem dX9_call_78 : decode cX9_call 78 = .ok (.getfield 251, 3) := by decide +kernel
theorem dX9_call_81 : decode cX9_call 81 = .ok (.ifCond .le 41, 3) := by decide +kernel
theorem dX9_call_84 : decode cX9_call 84 = .ok (.iconst 0, 1) := by decide +kernel
theorem dX9_call_85 : decode cX9_call 85 = .ok (.istore 5, 2) := by decide +kernel
theorem dX9_call_87 : decode cX9_call 87 = .ok (.iload 5, 2) := by decide +kernel
theorem dX9_call_89 : decode cX9_call 89 = .ok (.bipush 40, 2) := by decide +kernel
theorem dX9_call_91 : decode cX9_call 91 = .ok (.if_icmp .ge 23, 3) := by decide +kernel
theorem dX9_call_94 : decode cX9_call 94 = .ok (.aload_n 0, 1) := by decide +kernel
theorem dX9_call_95 : decode cX9_call 95 = .ok (.getfield 90, 3) := by decide +kernel
theorem dX9_call_98 : decode cX9_call 98 = .ok (.iload 5, 2) := by decide +kernel
theorem dX9_call_100 : decode cX9_call 100 = .ok (.aload_n 0, 1) := by decide +kernel
theorem dX9_call_101 : decode cX9_call 101 = .ok (.getfield 125, 3) := by decide +kernel
theorem dX9_call_104 : decode cX9_call 104 = .ok (.iload 5, 2) := by decide +kernel
theorem dX9_call_106 : decode cX9_call 106 = .ok (.laload, 1) := by decide +kernel
theorem dX9_call_107 : decode cX9_call 107 = .ok (.lastore, 1) := by decide +kernel
theorem dX9_call_108 : decode cX9_call 108 = .ok (.iinc 5 1, 3) := by decide +kernel
theorem dX9_call_111 : decode cX9_call 111 = .ok (.goto (-24), 3) := by decide +kernel
theorem dX9_call_114 : decode cX9_call 114 = .ok (.bipush (-20), 2) := by decide +kernel
theorem dX9_call_116 : decode cX9_call 116 = .ok (.aload_n 0, 1) := by decide +kernel
theorem dX9_call_117 : decode cX9_call 117 = .ok (.getfield 251, 3) := by decide +kernel
theorem dX9_call_120 : decode cX9_call 120 = .ok (.isub, 1) := by decide +kernel
theorem dX9_call_121 : decode cX9_call 121 = .ok (.ireturn, 1) := by decide +kernel
theorem dX9_call_122 : decode cX9_call 122 = .ok (.aload_n 0, 1) := by decide +kernel
theorem dX9_call_123 : decode cX9_call 123 = .ok (.aload_n 0, 1) := by decide +kernel
theorem dX9_call_124 : decode cX9_call 124 = .ok (.getfield 257, 3) := by decide +kernel
theorem dX9_call_127 : decode cX9_call 127 = .ok (.putfield 300, 3) := by decide +kernel
theorem dX9_call_130 : decode cX9_call 130 = .ok (.iconst 1, 1) := by decide +kernel
theorem dX9_call_131 : decode cX9_call 131 = .ok (.ireturn, 1) := by decide +kernel
theorem dX9_value_0 : decode cX9_value 0 = .ok (.aload_n 0, 1) := by decide +kernel
theorem dX9_value_1 : decode cX9_value 1 = .ok (.iconst 0, 1) := by decide +kernel
theorem dX9_value_2 : decode cX9_value 2 = .ok (.putfield 128, 3) := by decide +kernel
theorem dX9_value_5 : decode cX9_value 5 = .ok (.aload_n 0, 1) := by decide +kernel
theorem dX9_value_6 : decode cX9_value 6 = .ok (.getfield 300, 3) := by decide +kernel
theorem dX9_value_9 : decode cX9_value 9 = .ok (.lreturn, 1) := by decide +kernel
theorem dX9_place_0 : decode cX9_place 0 = .ok (.aload_n 0, 1) := by decide +kernel
theorem dX9_place_1 : decode cX9_place 1 = .ok (.aload_n 0, 1) := by decide +kernel
theorem dX9_place_2 : decode cX9_place 2 = .ok (.iload_n 1, 1) := by decide +kernel
theorem dX9_place_3 : decode cX9_place 3 = .ok (.invokevirtual 227, 3) := by decide +kernel
theorem dX9_place_6 : decode cX9_place 6 = .ok (.ifCond .eq 19, 3) := by decide +kernel
theorem dX9_place_9 : decode cX9_place 9 = .ok (.iload_n 2, 1) := by decide +kernel
theorem dX9_place_10 : decode cX9_place 10 = .ok (.i2l, 1) := by decide +kernel
theorem dX9_place_11 : decode cX9_place 11 = .ok (.lconst 0, 1) := by decide +kernel
theorem dX9_place_12 : decode cX9_place 12 = .ok (.ldc2_w 144, 3) := by decide +kernel
theorem dX9_place_15 : decode cX9_place 15 = .ok (.invokestatic 133, 3) := by decide +kernel
theorem dX9_place_18 : decode cX9_place 18 = .ok (.ifCond .eq 7, 3) := by decide +kernel
theorem dX9_place_21 : decode cX9_place 21 = .ok (.iconst 0, 1) := by decide +kernel
theorem dX9_place_22 : decode cX9_place 22 = .ok (.goto 4, 3) := by decide +kernel
theorem dX9_place_25 : decode cX9_place 25 = .ok (.iconst 1, 1) := by decide +kernel
theorem dX9_place_26 : decode cX9_place 26 = .ok (.putfield 128, 3) := by decide +kernel
theorem dX9_place_29 : decode cX9_place 29 = .ok (.aload_n 0, 1) := by decide +kernel
theorem dX9_place_30 : decode cX9_place 30 = .ok (.getfield 128, 3) := by decide +kernel
theorem dX9_place_33 : decode cX9_place 33 = .ok (.ifCond .ne 16, 3) := by decide +kernel
theorem dX9_place_36 : decode cX9_place 36 = .ok (.aload_n 0, 1) := by decide +kernel
theorem dX9_place_37 : decode cX9_place 37 = .ok (.getfield 90, 3) := by decide +kernel
theorem dX9_place_40 : decode cX9_place 40 = .ok (.iconst 4, 1) := by decide +kernel
theorem dX9_place_41 : decode cX9_place 41 = .ok (.iload_n 1, 1) := by decide +kernel
theorem dX9_place_42 : decode cX9_place 42 = .ok (.imul, 1) := by decide +kernel
theorem dX9_place_43 : decode cX9_place 43 = .ok (.iload_n 2, 1) := by decide +kernel
theorem dX9_place_44 : decode cX9_place 44 = .ok (.iadd, 1) := by decide +kernel
theorem dX9_place_45 : decode cX9_place 45 = .ok (.laload, 1) := by decide +kernel
theorem dX9_place_46 : decode cX9_place 46 = .ok (.goto 4, 3) := by decide +kernel
theorem dX9_place_49 : decode cX9_place 49 = .ok (.lconst 0, 1) := by decide +kernel
theorem dX9_place_50 : decode cX9_place 50 = .ok (.lreturn, 1) := by decide +kernel
theorem dX9_there_0 : decode cX9_there 0 = .ok (.iconst 0, 1) := by decide +kernel
theorem dX9_there_1 : decode cX9_there 1 = .ok (.istore_n 2, 1) := by decide +kernel
theorem dX9_there_2 : decode cX9_there 2 = .ok (.iconst 0, 1) := by decide +kernel
theorem dX9_there_3 : decode cX9_there 3 = .ok (.istore_n 3, 1) := by decide +kernel
theorem dX9_there_4 : decode cX9_there 4 = .ok (.iload_n 3, 1) := by decide +kernel
theorem dX9_there_5 : decode cX9_there 5 = .ok (.sipush 240, 3) := by decide +kernel
theorem dX9_there_8 : decode cX9_there 8 = .ok (.if_icmp .ge 38, 3) := by decide +kernel
theorem dX9_there_11 : decode cX9_there 11 = .ok (.iload_n 2, 1) := by decide +kernel
theorem dX9_there_12 : decode cX9_there 12 = .ok (.aload_n 0, 1) := by decide +kernel
theorem dX9_there_13 : decode cX9_there 13 = .ok (.getfield 54, 3) := by decide +kernel
theorem dX9_there_16 : decode cX9_there 16 = .ok (.iload_n 3, 1) := by decide +kernel
theorem dX9_there_17 : decode cX9_there 17 = .ok (.baload, 1) := by decide +kernel
theorem dX9_there_18 : decode cX9_there 18 = .ok (.ifCond .eq 19, 3) := by decide +kernel
theorem dX9_there_21 : decode cX9_there 21 = .ok (.iload_n 1, 1) := by decide +kernel
theorem dX9_there_22 : decode cX9_there 22 = .ok (.ifCond .lt 11, 3) := by decide +kernel
theorem dX9_there_25 : decode cX9_there 25 = .ok (.iload_n 3, 1) := by decide +kernel
theorem dX9_there_26 : decode cX9_there 26 = .ok (.bipush 30, 2) := by decide +kernel
theorem dX9_there_28 : decode cX9_there 28 = .ok (.idiv, 1) := by decide +kernel
theorem dX9_there_29 : decode cX9_there 29 = .ok (.iload_n 1, 1) := by decide +kernel
theorem dX9_there_30 : decode cX9_there 30 = .ok (.if_icmp .ne 7, 3) := by decide +kernel
theorem dX9_there_33 : decode cX9_there 33 = .ok (.iconst 1, 1) := by decide +kernel
theorem dX9_there_34 : decode cX9_there 34 = .ok (.goto 4, 3) := by decide +kernel
theorem dX9_there_37 : decode cX9_there 37 = .ok (.iconst 0, 1) := by decide +kernel
theorem dX9_there_38 : decode cX9_there 38 = .ok (.iadd, 1) := by decide +kernel
theorem dX9_there_39 : decode cX9_there 39 = .ok (.istore_n 2, 1) := by decide +kernel
theorem dX9_there_40 : decode cX9_there 40 = .ok (.iinc 3 1, 3) := by decide +kernel
theorem dX9_there_43 : decode cX9_there 43 = .ok (.goto (-39), 3) := by decide +kernel
theorem dX9_there_46 : decode cX9_there 46 = .ok (.iload_n 2, 1) := by decide +kernel
theorem dX9_there_47 : decode cX9_there 47 = .ok (.ireturn, 1) := by decide +kernel
theorem dX9_told__0 : decode cX9_told_ 0 = .ok (.aload_n 0, 1) := by decide +kernel
theorem dX9_told__1 : decode cX9_told_ 1 = .ok (.iconst 0, 1) := by decide +kernel
theorem dX9_told__2 : decode cX9_told_ 2 = .ok (.putfield 128, 3) := by decide +kernel
theorem dX9_told__5 : decode cX9_told_ 5 = .ok (.iload_n 2, 1) := by decide +kernel
theorem dX9_told__6 : decode cX9_told_ 6 = .ok (.i2l, 1) := by decide +kernel
theorem dX9_told__7 : decode cX9_told_ 7 = .ok (.lconst 0, 1) := by decide +kernel
theorem dX9_told__8 : decode cX9_told_ 8 = .ok (.ldc2_w 152, 3) := by decide +kernel
theorem dX9_told__11 : decode cX9_told_ 11 = .ok (.invokestatic 133, 3) := by decide +kernel
theorem dX9_told__14 : decode cX9_told_ 14 = .ok (.ifCond .eq 45, 3) := by decide +kernel
theorem dX9_told__17 : decode cX9_told_ 17 = .ok (.aload_n 0, 1) := by decide +kernel
theorem dX9_told__18 : decode cX9_told_ 18 = .ok (.iload_n 1, 1) := by decide +kernel
theorem dX9_told__19 : decode cX9_told_ 19 = .ok (.invokevirtual 227, 3) := by decide +kernel
theorem dX9_told__22 : decode cX9_told_ 22 = .ok (.ifCond .eq 37, 3) := by decide +kernel
theorem dX9_told__25 : decode cX9_told_ 25 = .ok (.iload_n 2, 1) := by decide +kernel
theorem dX9_told__26 : decode cX9_told_ 26 = .ok (.ifCond .ne 12, 3) := by decide +kernel
theorem dX9_told__29 : decode cX9_told_ 29 = .ok (.aload_n 0, 1) := by decide +kernel
theorem dX9_told__30 : decode cX9_told_ 30 = .ok (.getfield 81, 3) := by decide +kernel
theorem dX9_told__33 : decode cX9_told_ 33 = .ok (.iload_n 1, 1) := by decide +kernel
theorem dX9_told__34 : decode cX9_told_ 34 = .ok (.iaload, 1) := by decide +kernel
theorem dX9_told__35 : decode cX9_told_ 35 = .ok (.goto 23, 3) := by decide +kernel
theorem dX9_told__38 : decode cX9_told_ 38 = .ok (.iload_n 2, 1) := by decide +kernel
theorem dX9_told__39 : decode cX9_told_ 39 = .ok (.iconst 1, 1) := by decide +kernel
theorem dX9_told__40 : decode cX9_told_ 40 = .ok (.if_icmp .ne 12, 3) := by decide +kernel
theorem dX9_told__43 : decode cX9_told_ 43 = .ok (.aload_n 0, 1) := by decide +kernel
theorem dX9_told__44 : decode cX9_told_ 44 = .ok (.getfield 84, 3) := by decide +kernel
theorem dX9_told__47 : decode cX9_told_ 47 = .ok (.iload_n 1, 1) := by decide +kernel
theorem dX9_told__48 : decode cX9_told_ 48 = .ok (.iaload, 1) := by decide +kernel
theorem dX9_told__49 : decode cX9_told_ 49 = .ok (.goto 9, 3) := by decide +kernel
theorem dX9_told__52 : decode cX9_told_ 52 = .ok (.aload_n 0, 1) := by decide +kernel
theorem dX9_told__53 : decode cX9_told_ 53 = .ok (.getfield 87, 3) := by decide +kernel
theorem dX9_told__56 : decode cX9_told_ 56 = .ok (.iload_n 1, 1) := by decide +kernel
theorem dX9_told__57 : decode cX9_told_ 57 = .ok (.iaload, 1) := by decide +kernel
theorem dX9_told__58 : decode cX9_told_ 58 = .ok (.ireturn, 1) := by decide +kernel
theorem dX9_told__59 : decode cX9_told_ 59 = .ok (.iload_n 2, 1) := by decide +kernel
theorem dX9_told__60 : decode cX9_told_ 60 = .ok (.i2l, 1) := by decide +kernel
theorem dX9_told__61 : decode cX9_told_ 61 = .ok (.ldc2_w 144, 3) := by decide +kernel
theorem dX9_told__64 : decode cX9_told_ 64 = .ok (.ldc2_w 303, 3) := by decide +kernel
theorem dX9_told__67 : decode cX9_told_ 67 = .ok (.invokestatic 133, 3) := by decide +kernel
theorem dX9_told__70 : decode cX9_told_ 70 = .ok (.ifCond .eq 11, 3) := by decide +kernel
theorem dX9_told__73 : decode cX9_told_ 73 = .ok (.aload_n 0, 1) := by decide +kernel
theorem dX9_told__74 : decode cX9_told_ 74 = .ok (.iload_n 1, 1) := by decide +kernel
theorem dX9_told__75 : decode cX9_told_ 75 = .ok (.invokevirtual 160, 3) := by decide +kernel
theorem dX9_told__78 : decode cX9_told_ 78 = .ok (.ifCond .ne 5, 3) := by decide +kernel
theorem dX9_told__81 : decode cX9_told_ 81 = .ok (.iconst (-1), 1) := by decide +kernel
theorem dX9_told__82 : decode cX9_told_ 82 = .ok (.ireturn, 1) := by decide +kernel
theorem dX9_told__83 : decode cX9_told_ 83 = .ok (.iload_n 2, 1) := by decide +kernel
theorem dX9_told__84 : decode cX9_told_ 84 = .ok (.iconst 3, 1) := by decide +kernel
theorem dX9_told__85 : decode cX9_told_ 85 = .ok (.if_icmp .ne 19, 3) := by decide +kernel
theorem dX9_told__88 : decode cX9_told_ 88 = .ok (.iload_n 1, 1) := by decide +kernel
theorem dX9_told__89 : decode cX9_told_ 89 = .ok (.ifCond .ne 8, 3) := by decide +kernel
theorem dX9_told__92 : decode cX9_told_ 92 = .ok (.bipush (-3), 2) := by decide +kernel
theorem dX9_told__94 : decode cX9_told_ 94 = .ok (.goto 9, 3) := by decide +kernel
theorem dX9_told__97 : decode cX9_told_ 97 = .ok (.aload_n 0, 1) := by decide +kernel
theorem dX9_told__98 : decode cX9_told_ 98 = .ok (.getfield 48, 3) := by decide +kernel
theorem dX9_told__101 : decode cX9_told_ 101 = .ok (.iload_n 1, 1) := by decide +kernel
theorem dX9_told__102 : decode cX9_told_ 102 = .ok (.iaload, 1) := by decide +kernel
theorem dX9_told__103 : decode cX9_told_ 103 = .ok (.ireturn, 1) := by decide +kernel
theorem dX9_told__104 : decode cX9_told_ 104 = .ok (.iload_n 2, 1) := by decide +kernel
theorem dX9_told__105 : decode cX9_told_ 105 = .ok (.iconst 4, 1) := by decide +kernel
theorem dX9_told__106 : decode cX9_told_ 106 = .ok (.if_icmp .ne 9, 3) := by decide +kernel
theorem dX9_told__109 : decode cX9_told_ 109 = .ok (.aload_n 0, 1) := by decide +kernel
theorem dX9_told__110 : decode cX9_told_ 110 = .ok (.iload_n 1, 1) := by decide +kernel
theorem dX9_told__111 : decode cX9_told_ 111 = .ok (.invokevirtual 305, 3) := by decide +kernel
theorem dX9_told__114 : decode cX9_told_ 114 = .ok (.ireturn, 1) := by decide +kernel
theorem dX9_told__115 : decode cX9_told_ 115 = .ok (.iconst 0, 1) := by decide +kernel
theorem dX9_told__116 : decode cX9_told_ 116 = .ok (.istore_n 3, 1) := by decide +kernel
theorem dX9_told__117 : decode cX9_told_ 117 = .ok (.iconst 0, 1) := by decide +kernel
theorem dX9_told__118 : decode cX9_told_ 118 = .ok (.istore 4, 2) := by decide +kernel
theorem dX9_told__120 : decode cX9_told_ 120 = .ok (.iload 4, 2) := by decide +kernel
theorem dX9_told__122 : decode cX9_told_ 122 = .ok (.bipush 30, 2) := by decide +kernel
theorem dX9_told__124 : decode cX9_told_ 124 = .ok (.if_icmp .ge 32, 3) := by decide +kernel
theorem dX9_told__127 : decode cX9_told_ 127 = .ok (.iload_n 3, 1) := by decide +kernel
theorem dX9_told__128 : decode cX9_told_ 128 = .ok (.aload_n 0, 1) := by decide +kernel
theorem dX9_told__129 : decode cX9_told_ 129 = .ok (.getfield 51, 3) := by decide +kernel
theorem dX9_told__132 : decode cX9_told_ 132 = .ok (.bipush 30, 2) := by decide +kernel
theorem dX9_told__134 : decode cX9_told_ 134 = .ok (.iload_n 1, 1) := by decide +kernel
theorem dX9_told__135 : decode cX9_told_ 135 = .ok (.imul, 1) := by decide +kernel
theorem dX9_told__136 : decode cX9_told_ 136 = .ok (.iload 4, 2) := by decide +kernel
theorem dX9_told__138 : decode cX9_told_ 138 = .ok (.iadd, 1) := by decide +kernel
theorem dX9_told__139 : decode cX9_told_ 139 = .ok (.iaload, 1) := by decide +kernel
theorem dX9_told__140 : decode cX9_told_ 140 = .ok (.ifCond .lt 7, 3) := by decide +kernel
theorem dX9_told__143 : decode cX9_told_ 143 = .ok (.iconst 1, 1) := by decide +kernel
theorem dX9_told__144 : decode cX9_told_ 144 = .ok (.goto 4, 3) := by decide +kernel
theorem dX9_told__147 : decode cX9_told_ 147 = .ok (.iconst 0, 1) := by decide +kernel
theorem dX9_told__148 : decode cX9_told_ 148 = .ok (.iadd, 1) := by decide +kernel
theorem dX9_told__149 : decode cX9_told_ 149 = .ok (.istore_n 3, 1) := by decide +kernel
theorem dX9_told__150 : decode cX9_told_ 150 = .ok (.iinc 4 1, 3) := by decide +kernel
theorem dX9_told__153 : decode cX9_told_ 153 = .ok (.goto (-33), 3) := by decide +kernel
theorem dX9_told__156 : decode cX9_told_ 156 = .ok (.iload_n 3, 1) := by decide +kernel
theorem dX9_told__157 : decode cX9_told_ 157 = .ok (.ireturn, 1) := by decide +kernel
theorem dX9_count_0 : decode cX9_count 0 = .ok (.aload_n 0, 1) := by decide +kernel
theorem dX9_count_1 : decode cX9_count 1 = .ok (.iconst 0, 1) := by decide +kernel
theorem dX9_count_2 : decode cX9_count 2 = .ok (.putfield 128, 3) := by decide +kernel
theorem dX9_count_5 : decode cX9_count 5 = .ok (.iload_n 1, 1) := by decide +kernel
theorem dX9_count_6 : decode cX9_count 6 = .ok (.tableswitch 87 0 7 #[46, 51, 56, 61, 67, 72, 77, 82], 46) := by decide +kernel
theorem dX9_count_52 : decode cX9_count 52 = .ok (.aload_n 0, 1) := by decide +kernel
theorem dX9_count_53 : decode cX9_count 53 = .ok (.getfield 137, 3) := by decide +kernel
theorem dX9_count_56 : decode cX9_count 56 = .ok (.ireturn, 1) := by decide +kernel
theorem dX9_count_57 : decode cX9_count 57 = .ok (.aload_n 0, 1) := by decide +kernel
theorem dX9_count_58 : decode cX9_count 58 = .ok (.getfield 44, 3) := by decide +kernel
theorem dX9_count_61 : decode cX9_count 61 = .ok (.ireturn, 1) := by decide +kernel
theorem dX9_count_62 : decode cX9_count 62 = .ok (.aload_n 0, 1) := by decide +kernel
theorem dX9_count_63 : decode cX9_count 63 = .ok (.getfield 221, 3) := by decide +kernel
theorem dX9_count_66 : decode cX9_count 66 = .ok (.ireturn, 1) := by decide +kernel
theorem dX9_count_67 : decode cX9_count 67 = .ok (.aload_n 0, 1) := by decide +kernel
theorem dX9_count_68 : decode cX9_count 68 = .ok (.iconst (-1), 1) := by decide +kernel
theorem dX9_count_69 : decode cX9_count 69 = .ok (.invokevirtual 305, 3) := by decide +kernel
theorem dX9_count_72 : decode cX9_count 72 = .ok (.ireturn, 1) := by decide +kernel
theorem dX9_count_73 : decode cX9_count 73 = .ok (.aload_n 0, 1) := by decide +kernel
theorem dX9_count_74 : decode cX9_count 74 = .ok (.getfield 197, 3) := by decide +kernel
theorem dX9_count_77 : decode cX9_count 77 = .ok (.ireturn, 1) := by decide +kernel
theorem dX9_count_78 : decode cX9_count 78 = .ok (.aload_n 0, 1) := by decide +kernel
theorem dX9_count_79 : decode cX9_count 79 = .ok (.getfield 261, 3) := by decide +kernel
theorem dX9_count_82 : decode cX9_count 82 = .ok (.ireturn, 1) := by decide +kernel
theorem dX9_count_83 : decode cX9_count 83 = .ok (.aload_n 0, 1) := by decide +kernel
theorem dX9_count_84 : decode cX9_count 84 = .ok (.getfield 238, 3) := by decide +kernel
theorem dX9_count_87 : decode cX9_count 87 = .ok (.ireturn, 1) := by decide +kernel
theorem dX9_count_88 : decode cX9_count 88 = .ok (.aload_n 0, 1) := by decide +kernel
theorem dX9_count_89 : decode cX9_count 89 = .ok (.getfield 241, 3) := by decide +kernel
theorem dX9_count_92 : decode cX9_count 92 = .ok (.ireturn, 1) := by decide +kernel
theorem dX9_count_93 : decode cX9_count 93 = .ok (.iconst (-1), 1) := by decide +kernel
theorem dX9_count_94 : decode cX9_count 94 = .ok (.ireturn, 1) := by decide +kernel
theorem dJxe99ae_isNaN_b9ae7_0 : decode cJxe99ae_isNaN_b9ae7 0 = .ok (.dload_n 0, 1) := by decide +kernel
theorem dJxe99ae_isNaN_b9ae7_1 : decode cJxe99ae_isNaN_b9ae7 1 = .ok (.dload_n 0, 1) := by decide +kernel
theorem dJxe99ae_isNaN_b9ae7_2 : decode cJxe99ae_isNaN_b9ae7 2 = .ok (.dcmp .l, 1) := by decide +kernel
theorem dJxe99ae_isNaN_b9ae7_3 : decode cJxe99ae_isNaN_b9ae7 3 = .ok (.ifCond .eq 7, 3) := by decide +kernel
theorem dJxe99ae_isNaN_b9ae7_6 : decode cJxe99ae_isNaN_b9ae7 6 = .ok (.iconst 1, 1) := by decide +kernel
theorem dJxe99ae_isNaN_b9ae7_7 : decode cJxe99ae_isNaN_b9ae7 7 = .ok (.goto 4, 3) := by decide +kernel
theorem dJxe99ae_isNaN_b9ae7_10 : decode cJxe99ae_isNaN_b9ae7 10 = .ok (.iconst 0, 1) := by decide +kernel
theorem dJxe99ae_isNaN_b9ae7_11 : decode cJxe99ae_isNaN_b9ae7 11 = .ok (.ireturn, 1) := by decide +kernel
theorem dJxe99ae_doubleToLongBits_ccdee_0 : decode cJxe99ae_doubleToLongBits_ccdee 0 = .ok (.dload_n 0, 1) := by decide +kernel
theorem dJxe99ae_doubleToLongBits_ccdee_1 : decode cJxe99ae_doubleToLongBits_ccdee 1 = .ok (.invokestatic 122, 3) := by decide +kernel
theorem dJxe99ae_doubleToLongBits_ccdee_4 : decode cJxe99ae_doubleToLongBits_ccdee 4 = .ok (.ifCond .ne 8, 3) := by decide +kernel
theorem dJxe99ae_doubleToLongBits_ccdee_7 : decode cJxe99ae_doubleToLongBits_ccdee 7 = .ok (.dload_n 0, 1) := by decide +kernel
theorem dJxe99ae_doubleToLongBits_ccdee_8 : decode cJxe99ae_doubleToLongBits_ccdee 8 = .ok (.invokestatic 134, 3) := by decide +kernel
theorem dJxe99ae_doubleToLongBits_ccdee_11 : decode cJxe99ae_doubleToLongBits_ccdee 11 = .ok (.lreturn, 1) := by decide +kernel
theorem dJxe99ae_doubleToLongBits_ccdee_12 : decode cJxe99ae_doubleToLongBits_ccdee 12 = .ok (.ldc2_w 137, 3) := by decide +kernel
theorem dJxe99ae_doubleToLongBits_ccdee_15 : decode cJxe99ae_doubleToLongBits_ccdee 15 = .ok (.lreturn, 1) := by decide +kernel
theorem dJ9_max_7cf53_0 : decode cJ9_max_7cf53 0 = .ok (.iload_n 0, 1) := by decide +kernel
theorem dJ9_max_7cf53_1 : decode cJ9_max_7cf53 1 = .ok (.iload_n 1, 1) := by decide +kernel
theorem dJ9_max_7cf53_2 : decode cJ9_max_7cf53 2 = .ok (.if_icmp .lt 7, 3) := by decide +kernel
theorem dJ9_max_7cf53_5 : decode cJ9_max_7cf53 5 = .ok (.iload_n 0, 1) := by decide +kernel
theorem dJ9_max_7cf53_6 : decode cJ9_max_7cf53 6 = .ok (.goto 4, 3) := by decide +kernel
theorem dJ9_max_7cf53_9 : decode cJ9_max_7cf53 9 = .ok (.iload_n 1, 1) := by decide +kernel
theorem dJ9_max_7cf53_10 : decode cJ9_max_7cf53 10 = .ok (.ireturn, 1) := by decide +kernel
theorem dL_place_0 : decode cL_place 0 = .ok (.aload_n 3, 1) := by decide +kernel
theorem dL_place_1 : decode cL_place 1 = .ok (.iconst 0, 1) := by decide +kernel
theorem dL_place_2 : decode cL_place 2 = .ok (.aload_n 0, 1) := by decide +kernel
theorem dL_place_3 : decode cL_place 3 = .ok (.iload_n 1, 1) := by decide +kernel
theorem dL_place_4 : decode cL_place 4 = .ok (.iload_n 2, 1) := by decide +kernel
theorem dL_place_5 : decode cL_place 5 = .ok (.invokevirtual 7, 3) := by decide +kernel
theorem dL_place_8 : decode cL_place 8 = .ok (.lastore, 1) := by decide +kernel
theorem dL_place_9 : decode cL_place 9 = .ok (.goto 7, 3) := by decide +kernel
theorem dL_place_12 : decode cL_place 12 = .ok (.astore 4, 2) := by decide +kernel
theorem dL_place_14 : decode cL_place 14 = .ok (.iconst 1, 1) := by decide +kernel
theorem dL_place_15 : decode cL_place 15 = .ok (.ireturn, 1) := by decide +kernel
theorem dL_place_16 : decode cL_place 16 = .ok (.iconst 0, 1) := by decide +kernel
theorem dL_place_17 : decode cL_place 17 = .ok (.ireturn, 1) := by decide +kernel
theorem dL_law_0 : decode cL_law 0 = .ok (.new 8, 3) := by decide +kernel
theorem dL_law_3 : decode cL_law 3 = .ok (.dup, 1) := by decide +kernel
theorem dL_law_4 : decode cL_law 4 = .ok (.invokespecial 15, 3) := by decide +kernel
theorem dL_law_7 : decode cL_law 7 = .ok (.astore_n 1, 1) := by decide +kernel
theorem dL_law_8 : decode cL_law 8 = .ok (.new 16, 3) := by decide +kernel
theorem dL_law_11 : decode cL_law 11 = .ok (.dup, 1) := by decide +kernel
theorem dL_law_12 : decode cL_law 12 = .ok (.invokespecial 18, 3) := by decide +kernel
theorem dL_law_15 : decode cL_law 15 = .ok (.astore_n 2, 1) := by decide +kernel
theorem dL_law_16 : decode cL_law 16 = .ok (.iconst 1, 1) := by decide +kernel
theorem dL_law_17 : decode cL_law 17 = .ok (.newarray .long, 2) := by decide +kernel
theorem dL_law_19 : decode cL_law 19 = .ok (.astore_n 3, 1) := by decide +kernel
theorem dL_law_20 : decode cL_law 20 = .ok (.iconst 0, 1) := by decide +kernel
theorem dL_law_21 : decode cL_law 21 = .ok (.istore 4, 2) := by decide +kernel
theorem dL_law_23 : decode cL_law 23 = .ok (.iload 4, 2) := by decide +kernel
theorem dL_law_25 : decode cL_law 25 = .ok (.aload_n 0, 1) := by decide +kernel
theorem dL_law_26 : decode cL_law 26 = .ok (.arraylength, 1) := by decide +kernel
theorem dL_law_27 : decode cL_law 27 = .ok (.bipush 6, 2) := by decide +kernel
theorem dL_law_29 : decode cL_law 29 = .ok (.isub, 1) := by decide +kernel
theorem dL_law_30 : decode cL_law 30 = .ok (.if_icmp .gt 920, 3) := by decide +kernel
theorem dL_law_33 : decode cL_law 33 = .ok (.aload_n 0, 1) := by decide +kernel
theorem dL_law_34 : decode cL_law 34 = .ok (.iload 4, 2) := by decide +kernel
theorem dL_law_36 : decode cL_law 36 = .ok (.iaload, 1) := by decide +kernel
theorem dL_law_37 : decode cL_law 37 = .ok (.bipush 31, 2) := by decide +kernel
theorem dL_law_39 : decode cL_law 39 = .ok (.iand, 1) := by decide +kernel
theorem dL_law_40 : decode cL_law 40 = .ok (.tableswitch 904 0 16 #[84, 189, 226, 299, 324, 373, 410, 447, 472, 533, 570, 619, 680, 761, 775, 842, 879], 84) := by decide +kernel
theorem dL_law_124 : decode cL_law 124 = .ok (.aload_n 1, 1) := by decide +kernel
theorem dL_law_125 : decode cL_law 125 = .ok (.aload_n 0, 1) := by decide +kernel
theorem dL_law_126 : decode cL_law 126 = .ok (.iload 4, 2) := by decide +kernel
theorem dL_law_128 : decode cL_law 128 = .ok (.iconst 1, 1) := by decide +kernel
theorem dL_law_129 : decode cL_law 129 = .ok (.iadd, 1) := by decide +kernel
theorem dL_law_130 : decode cL_law 130 = .ok (.iaload, 1) := by decide +kernel
theorem dL_law_131 : decode cL_law 131 = .ok (.aload_n 0, 1) := by decide +kernel
theorem dL_law_132 : decode cL_law 132 = .ok (.iload 4, 2) := by decide +kernel
theorem dL_law_134 : decode cL_law 134 = .ok (.iconst 2, 1) := by decide +kernel
theorem dL_law_135 : decode cL_law 135 = .ok (.iadd, 1) := by decide +kernel
theorem dL_law_136 : decode cL_law 136 = .ok (.iaload, 1) := by decide +kernel
theorem dL_law_137 : decode cL_law 137 = .ok (.aload_n 0, 1) := by decide +kernel
theorem dL_law_138 : decode cL_law 138 = .ok (.iload 4, 2) := by decide +kernel
theorem dL_law_140 : decode cL_law 140 = .ok (.iconst 3, 1) := by decide +kernel
theorem dL_law_141 : decode cL_law 141 = .ok (.iadd, 1) := by decide +kernel
theorem dL_law_142 : decode cL_law 142 = .ok (.iaload, 1) := by decide +kernel
theorem dL_law_143 : decode cL_law 143 = .ok (.ifCond .eq 7, 3) := by decide +kernel
theorem dL_law_146 : decode cL_law 146 = .ok (.iconst 1, 1) := by decide +kernel
theorem dL_law_147 : decode cL_law 147 = .ok (.goto 4, 3) := by decide +kernel
theorem dL_law_150 : decode cL_law 150 = .ok (.iconst 0, 1) := by decide +kernel
theorem dL_law_151 : decode cL_law 151 = .ok (.aload_n 0, 1) := by decide +kernel
theorem dL_law_152 : decode cL_law 152 = .ok (.iload 4, 2) := by decide +kernel
theorem dL_law_154 : decode cL_law 154 = .ok (.iconst 4, 1) := by decide +kernel
theorem dL_law_155 : decode cL_law 155 = .ok (.iadd, 1) := by decide +kernel
theorem dL_law_156 : decode cL_law 156 = .ok (.iaload, 1) := by decide +kernel
theorem dL_law_157 : decode cL_law 157 = .ok (.ifCond .eq 7, 3) := by decide +kernel
theorem dL_law_160 : decode cL_law 160 = .ok (.iconst 1, 1) := by decide +kernel
theorem dL_law_161 : decode cL_law 161 = .ok (.goto 4, 3) := by decide +kernel
theorem dL_law_164 : decode cL_law 164 = .ok (.iconst 0, 1) := by decide +kernel
theorem dL_law_165 : decode cL_law 165 = .ok (.aload_n 0, 1) := by decide +kernel
theorem dL_law_166 : decode cL_law 166 = .ok (.iload 4, 2) := by decide +kernel
theorem dL_law_168 : decode cL_law 168 = .ok (.iconst 5, 1) := by decide +kernel
theorem dL_law_169 : decode cL_law 169 = .ok (.iadd, 1) := by decide +kernel
theorem dL_law_170 : decode cL_law 170 = .ok (.iaload, 1) := by decide +kernel
theorem dL_law_171 : decode cL_law 171 = .ok (.invokevirtual 19, 3) := by decide +kernel
theorem dL_law_174 : decode cL_law 174 = .ok (.aload_n 2, 1) := by decide +kernel
theorem dL_law_175 : decode cL_law 175 = .ok (.aload_n 0, 1) := by decide +kernel
theorem dL_law_176 : decode cL_law 176 = .ok (.iload 4, 2) := by decide +kernel
theorem dL_law_178 : decode cL_law 178 = .ok (.iconst 1, 1) := by decide +kernel
theorem dL_law_179 : decode cL_law 179 = .ok (.iadd, 1) := by decide +kernel
theorem dL_law_180 : decode cL_law 180 = .ok (.iaload, 1) := by decide +kernel
theorem dL_law_181 : decode cL_law 181 = .ok (.aload_n 0, 1) := by decide +kernel
theorem dL_law_182 : decode cL_law 182 = .ok (.iload 4, 2) := by decide +kernel
theorem dL_law_184 : decode cL_law 184 = .ok (.iconst 2, 1) := by decide +kernel
theorem dL_law_185 : decode cL_law 185 = .ok (.iadd, 1) := by decide +kernel
theorem dL_law_186 : decode cL_law 186 = .ok (.iaload, 1) := by decide +kernel
theorem dL_law_187 : decode cL_law 187 = .ok (.aload_n 0, 1) := by decide +kernel
theorem dL_law_188 : decode cL_law 188 = .ok (.iload 4, 2) := by decide +kernel
theorem dL_law_190 : decode cL_law 190 = .ok (.iconst 3, 1) := by decide +kernel
theorem dL_law_191 : decode cL_law 191 = .ok (.iadd, 1) := by decide +kernel
theorem dL_law_192 : decode cL_law 192 = .ok (.iaload, 1) := by decide +kernel
theorem dL_law_193 : decode cL_law 193 = .ok (.ifCond .eq 7, 3) := by decide +kernel
theorem dL_law_196 : decode cL_law 196 = .ok (.iconst 1, 1) := by decide +kernel
theorem dL_law_197 : decode cL_law 197 = .ok (.goto 4, 3) := by decide +kernel
theorem dL_law_200 : decode cL_law 200 = .ok (.iconst 0, 1) := by decide +kernel
theorem dL_law_201 : decode cL_law 201 = .ok (.aload_n 0, 1) := by decide +kernel
theorem dL_law_202 : decode cL_law 202 = .ok (.iload 4, 2) := by decide +kernel
theorem dL_law_204 : decode cL_law 204 = .ok (.iconst 4, 1) := by decide +kernel
theorem dL_law_205 : decode cL_law 205 = .ok (.iadd, 1) := by decide +kernel
theorem dL_law_206 : decode cL_law 206 = .ok (.iaload, 1) := by decide +kernel
theorem dL_law_207 : decode cL_law 207 = .ok (.ifCond .eq 7, 3) := by decide +kernel
theorem dL_law_210 : decode cL_law 210 = .ok (.iconst 1, 1) := by decide +kernel
theorem dL_law_211 : decode cL_law 211 = .ok (.goto 4, 3) := by decide +kernel
theorem dL_law_214 : decode cL_law 214 = .ok (.iconst 0, 1) := by decide +kernel
theorem dL_law_215 : decode cL_law 215 = .ok (.aload_n 0, 1) := by decide +kernel
theorem dL_law_216 : decode cL_law 216 = .ok (.iload 4, 2) := by decide +kernel
theorem dL_law_218 : decode cL_law 218 = .ok (.iconst 5, 1) := by decide +kernel
theorem dL_law_219 : decode cL_law 219 = .ok (.iadd, 1) := by decide +kernel
theorem dL_law_220 : decode cL_law 220 = .ok (.iaload, 1) := by decide +kernel
theorem dL_law_221 : decode cL_law 221 = .ok (.invokevirtual 23, 3) := by decide +kernel
theorem dL_law_224 : decode cL_law 224 = .ok (.if_icmp .eq 720, 3) := by decide +kernel
theorem dL_law_227 : decode cL_law 227 = .ok (.iconst 0, 1) := by decide +kernel
theorem dL_law_228 : decode cL_law 228 = .ok (.ireturn, 1) := by decide +kernel
theorem dL_law_229 : decode cL_law 229 = .ok (.aload_n 1, 1) := by decide +kernel
theorem dL_law_230 : decode cL_law 230 = .ok (.aload_n 0, 1) := by decide +kernel
theorem dL_law_231 : decode cL_law 231 = .ok (.iload 4, 2) := by decide +kernel
theorem dL_law_233 : decode cL_law 233 = .ok (.iconst 1, 1) := by decide +kernel
theorem dL_law_234 : decode cL_law 234 = .ok (.iadd, 1) := by decide +kernel
theorem dL_law_235 : decode cL_law 235 = .ok (.iaload, 1) := by decide +kernel
theorem dL_law_236 : decode cL_law 236 = .ok (.aload_n 0, 1) := by decide +kernel
theorem dL_law_237 : decode cL_law 237 = .ok (.iload 4, 2) := by decide +kernel
theorem dL_law_239 : decode cL_law 239 = .ok (.iconst 2, 1) := by decide +kernel
theorem dL_law_240 : decode cL_law 240 = .ok (.iadd, 1) := by decide +kernel
theorem dL_law_241 : decode cL_law 241 = .ok (.iaload, 1) := by decide +kernel
theorem dL_law_242 : decode cL_law 242 = .ok (.invokevirtual 24, 3) := by decide +kernel
theorem dL_law_245 : decode cL_law 245 = .ok (.aload_n 2, 1) := by decide +kernel
theorem dL_law_246 : decode cL_law 246 = .ok (.aload_n 0, 1) := by decide +kernel
theorem dL_law_247 : decode cL_law 247 = .ok (.iload 4, 2) := by decide +kernel
theorem dL_law_249 : decode cL_law 249 = .ok (.iconst 1, 1) := by decide +kernel
theorem dL_law_250 : decode cL_law 250 = .ok (.iadd, 1) := by decide +kernel
theorem dL_law_251 : decode cL_law 251 = .ok (.iaload, 1) := by decide +kernel
theorem dL_law_252 : decode cL_law 252 = .ok (.aload_n 0, 1) := by decide +kernel
theorem dL_law_253 : decode cL_law 253 = .ok (.iload 4, 2) := by decide +kernel
theorem dL_law_255 : decode cL_law 255 = .ok (.iconst 2, 1) := by decide +kernel
theorem dL_law_256 : decode cL_law 256 = .ok (.iadd, 1) := by decide +kernel
theorem dL_law_257 : decode cL_law 257 = .ok (.iaload, 1) := by decide +kernel
theorem dL_law_258 : decode cL_law 258 = .ok (.invokevirtual 28, 3) := by decide +kernel
theorem dL_law_261 : decode cL_law 261 = .ok (.if_icmp .eq 683, 3) := by decide +kernel
theorem dL_law_264 : decode cL_law 264 = .ok (.iconst 0, 1) := by decide +kernel
theorem dL_law_265 : decode cL_law 265 = .ok (.ireturn, 1) := by decide +kernel
theorem dL_law_266 : decode cL_law 266 = .ok (.aload_n 1, 1) := by decide +kernel
theorem dL_law_267 : decode cL_law 267 = .ok (.aload_n 0, 1) := by decide +kernel
theorem dL_law_268 : decode cL_law 268 = .ok (.iload 4, 2) := by decide +kernel
theorem dL_law_270 : decode cL_law 270 = .ok (.iconst 1, 1) := by decide +kernel
theorem dL_law_271 : decode cL_law 271 = .ok (.iadd, 1) := by decide +kernel
theorem dL_law_272 : decode cL_law 272 = .ok (.iaload, 1) := by decide +kernel
theorem dL_law_273 : decode cL_law 273 = .ok (.aload_n 0, 1) := by decide +kernel
theorem dL_law_274 : decode cL_law 274 = .ok (.iload 4, 2) := by decide +kernel
theorem dL_law_276 : decode cL_law 276 = .ok (.iconst 2, 1) := by decide +kernel
theorem dL_law_277 : decode cL_law 277 = .ok (.iadd, 1) := by decide +kernel
theorem dL_law_278 : decode cL_law 278 = .ok (.iaload, 1) := by decide +kernel
theorem dL_law_279 : decode cL_law 279 = .ok (.aload_n 0, 1) := by decide +kernel
theorem dL_law_280 : decode cL_law 280 = .ok (.iload 4, 2) := by decide +kernel
theorem dL_law_282 : decode cL_law 282 = .ok (.iconst 3, 1) := by decide +kernel
theorem dL_law_283 : decode cL_law 283 = .ok (.iadd, 1) := by decide +kernel
theorem dL_law_284 : decode cL_law 284 = .ok (.iaload, 1) := by decide +kernel
theorem dL_law_285 : decode cL_law 285 = .ok (.aload_n 0, 1) := by decide +kernel
theorem dL_law_286 : decode cL_law 286 = .ok (.iload 4, 2) := by decide +kernel
theorem dL_law_288 : decode cL_law 288 = .ok (.iconst 4, 1) := by decide +kernel
theorem dL_law_289 : decode cL_law 289 = .ok (.iadd, 1) := by decide +kernel
theorem dL_law_290 : decode cL_law 290 = .ok (.iaload, 1) := by decide +kernel
theorem dL_law_291 : decode cL_law 291 = .ok (.aload_n 0, 1) := by decide +kernel
theorem dL_law_292 : decode cL_law 292 = .ok (.iload 4, 2) := by decide +kernel
theorem dL_law_294 : decode cL_law 294 = .ok (.iconst 5, 1) := by decide +kernel
theorem dL_law_295 : decode cL_law 295 = .ok (.iadd, 1) := by decide +kernel
theorem dL_law_296 : decode cL_law 296 = .ok (.iaload, 1) := by decide +kernel
theorem dL_law_297 : decode cL_law 297 = .ok (.invokevirtual 29, 3) := by decide +kernel
theorem dL_law_300 : decode cL_law 300 = .ok (.aload_n 2, 1) := by decide +kernel
theorem dL_law_301 : decode cL_law 301 = .ok (.aload_n 0, 1) := by decide +kernel
theorem dL_law_302 : decode cL_law 302 = .ok (.iload 4, 2) := by decide +kernel
theorem dL_law_304 : decode cL_law 304 = .ok (.iconst 1, 1) := by decide +kernel
theorem dL_law_305 : decode cL_law 305 = .ok (.iadd, 1) := by decide +kernel
theorem dL_law_306 : decode cL_law 306 = .ok (.iaload, 1) := by decide +kernel
theorem dL_law_307 : decode cL_law 307 = .ok (.aload_n 0, 1) := by decide +kernel
theorem dL_law_308 : decode cL_law 308 = .ok (.iload 4, 2) := by decide +kernel
theorem dL_law_310 : decode cL_law 310 = .ok (.iconst 2, 1) := by decide +kernel
theorem dL_law_311 : decode cL_law 311 = .ok (.iadd, 1) := by decide +kernel
theorem dL_law_312 : decode cL_law 312 = .ok (.iaload, 1) := by decide +kernel
theorem dL_law_313 : decode cL_law 313 = .ok (.aload_n 0, 1) := by decide +kernel
theorem dL_law_314 : decode cL_law 314 = .ok (.iload 4, 2) := by decide +kernel
theorem dL_law_316 : decode cL_law 316 = .ok (.iconst 3, 1) := by decide +kernel
theorem dL_law_317 : decode cL_law 317 = .ok (.iadd, 1) := by decide +kernel
theorem dL_law_318 : decode cL_law 318 = .ok (.iaload, 1) := by decide +kernel
theorem dL_law_319 : decode cL_law 319 = .ok (.aload_n 0, 1) := by decide +kernel
theorem dL_law_320 : decode cL_law 320 = .ok (.iload 4, 2) := by decide +kernel
theorem dL_law_322 : decode cL_law 322 = .ok (.iconst 4, 1) := by decide +kernel
theorem dL_law_323 : decode cL_law 323 = .ok (.iadd, 1) := by decide +kernel
theorem dL_law_324 : decode cL_law 324 = .ok (.iaload, 1) := by decide +kernel
theorem dL_law_325 : decode cL_law 325 = .ok (.aload_n 0, 1) := by decide +kernel
theorem dL_law_326 : decode cL_law 326 = .ok (.iload 4, 2) := by decide +kernel
theorem dL_law_328 : decode cL_law 328 = .ok (.iconst 5, 1) := by decide +kernel
theorem dL_law_329 : decode cL_law 329 = .ok (.iadd, 1) := by decide +kernel
theorem dL_law_330 : decode cL_law 330 = .ok (.iaload, 1) := by decide +kernel
theorem dL_law_331 : decode cL_law 331 = .ok (.invokevirtual 33, 3) := by decide +kernel
theorem dL_law_334 : decode cL_law 334 = .ok (.if_icmp .eq 610, 3) := by decide +kernel
theorem dL_law_337 : decode cL_law 337 = .ok (.iconst 0, 1) := by decide +kernel
theorem dL_law_338 : decode cL_law 338 = .ok (.ireturn, 1) := by decide +kernel
theorem dL_law_339 : decode cL_law 339 = .ok (.aload_n 1, 1) := by decide +kernel
theorem dL_law_340 : decode cL_law 340 = .ok (.aload_n 0, 1) := by decide +kernel
theorem dL_law_341 : decode cL_law 341 = .ok (.iload 4, 2) := by decide +kernel
theorem dL_law_343 : decode cL_law 343 = .ok (.iconst 1, 1) := by decide +kernel
theorem dL_law_344 : decode cL_law 344 = .ok (.iadd, 1) := by decide +kernel
theorem dL_law_345 : decode cL_law 345 = .ok (.iaload, 1) := by decide +kernel
theorem dL_law_346 : decode cL_law 346 = .ok (.invokevirtual 34, 3) := by decide +kernel
theorem dL_law_349 : decode cL_law 349 = .ok (.aload_n 2, 1) := by decide +kernel
theorem dL_law_350 : decode cL_law 350 = .ok (.aload_n 0, 1) := by decide +kernel
theorem dL_law_351 : decode cL_law 351 = .ok (.iload 4, 2) := by decide +kernel
theorem dL_law_353 : decode cL_law 353 = .ok (.iconst 1, 1) := by decide +kernel
theorem dL_law_354 : decode cL_law 354 = .ok (.iadd, 1) := by decide +kernel
theorem dL_law_355 : decode cL_law 355 = .ok (.iaload, 1) := by decide +kernel
theorem dL_law_356 : decode cL_law 356 = .ok (.invokevirtual 38, 3) := by decide +kernel
theorem dL_law_359 : decode cL_law 359 = .ok (.if_icmp .eq 585, 3) := by decide +kernel
theorem dL_law_362 : decode cL_law 362 = .ok (.iconst 0, 1) := by decide +kernel
theorem dL_law_363 : decode cL_law 363 = .ok (.ireturn, 1) := by decide +kernel
theorem dL_law_364 : decode cL_law 364 = .ok (.aload_n 1, 1) := by decide +kernel
theorem dL_law_365 : decode cL_law 365 = .ok (.aload_n 0, 1) := by decide +kernel
theorem dL_law_366 : decode cL_law 366 = .ok (.iload 4, 2) := by decide +kernel
theorem dL_law_368 : decode cL_law 368 = .ok (.iconst 1, 1) := by decide +kernel
theorem dL_law_369 : decode cL_law 369 = .ok (.iadd, 1) := by decide +kernel
theorem dL_law_370 : decode cL_law 370 = .ok (.iaload, 1) := by decide +kernel
theorem dL_law_371 : decode cL_law 371 = .ok (.aload_n 0, 1) := by decide +kernel
theorem dL_law_372 : decode cL_law 372 = .ok (.iload 4, 2) := by decide +kernel
theorem dL_law_374 : decode cL_law 374 = .ok (.iconst 2, 1) := by decide +kernel
theorem dL_law_375 : decode cL_law 375 = .ok (.iadd, 1) := by decide +kernel
theorem dL_law_376 : decode cL_law 376 = .ok (.iaload, 1) := by decide +kernel
theorem dL_law_377 : decode cL_law 377 = .ok (.aload_n 0, 1) := by decide +kernel
theorem dL_law_378 : decode cL_law 378 = .ok (.iload 4, 2) := by decide +kernel
theorem dL_law_380 : decode cL_law 380 = .ok (.iconst 3, 1) := by decide +kernel
theorem dL_law_381 : decode cL_law 381 = .ok (.iadd, 1) := by decide +kernel
theorem dL_law_382 : decode cL_law 382 = .ok (.iaload, 1) := by decide +kernel
theorem dL_law_383 : decode cL_law 383 = .ok (.invokevirtual 39, 3) := by decide +kernel
theorem dL_law_386 : decode cL_law 386 = .ok (.aload_n 2, 1) := by decide +kernel
theorem dL_law_387 : decode cL_law 387 = .ok (.aload_n 0, 1) := by decide +kernel
theorem dL_law_388 : decode cL_law 388 = .ok (.iload 4, 2) := by decide +kernel
theorem dL_law_390 : decode cL_law 390 = .ok (.iconst 1, 1) := by decide +kernel
theorem dL_law_391 : decode cL_law 391 = .ok (.iadd, 1) := by decide +kernel
theorem dL_law_392 : decode cL_law 392 = .ok (.iaload, 1) := by decide +kernel
theorem dL_law_393 : decode cL_law 393 = .ok (.aload_n 0, 1) := by decide +kernel
theorem dL_law_394 : decode cL_law 394 = .ok (.iload 4, 2) := by decide +kernel
theorem dL_law_396 : decode cL_law 396 = .ok (.iconst 2, 1) := by decide +kernel
theorem dL_law_397 : decode cL_law 397 = .ok (.iadd, 1) := by decide +kernel
theorem dL_law_398 : decode cL_law 398 = .ok (.iaload, 1) := by decide +kernel
theorem dL_law_399 : decode cL_law 399 = .ok (.aload_n 0, 1) := by decide +kernel
theorem dL_law_400 : decode cL_law 400 = .ok (.iload 4, 2) := by decide +kernel
theorem dL_law_402 : decode cL_law 402 = .ok (.iconst 3, 1) := by decide +kernel
theorem dL_law_403 : decode cL_law 403 = .ok (.iadd, 1) := by decide +kernel
theorem dL_law_404 : decode cL_law 404 = .ok (.iaload, 1) := by decide +kernel
theorem dL_law_405 : decode cL_law 405 = .ok (.invokevirtual 43, 3) := by decide +kernel
theorem dL_law_408 : decode cL_law 408 = .ok (.if_icmp .eq 536, 3) := by decide +kernel
theorem dL_law_411 : decode cL_law 411 = .ok (.iconst 0, 1) := by decide +kernel
theorem dL_law_412 : decode cL_law 412 = .ok (.ireturn, 1) := by decide +kernel
theorem dL_law_413 : decode cL_law 413 = .ok (.aload_n 1, 1) := by decide +kernel
theorem dL_law_414 : decode cL_law 414 = .ok (.aload_n 0, 1) := by decide +kernel
theorem dL_law_415 : decode cL_law 415 = .ok (.iload 4, 2) := by decide +kernel
theorem dL_law_417 : decode cL_law 417 = .ok (.iconst 1, 1) := by decide +kernel
theorem dL_law_418 : decode cL_law 418 = .ok (.iadd, 1) := by decide +kernel
theorem dL_law_419 : decode cL_law 419 = .ok (.iaload, 1) := by decide +kernel
theorem dL_law_420 : decode cL_law 420 = .ok (.aload_n 0, 1) := by decide +kernel
theorem dL_law_421 : decode cL_law 421 = .ok (.iload 4, 2) := by decide +kernel
theorem dL_law_423 : decode cL_law 423 = .ok (.iconst 2, 1) := by decide +kernel
theorem dL_law_424 : decode cL_law 424 = .ok (.iadd, 1) := by decide +kernel
theorem dL_law_425 : decode cL_law 425 = .ok (.iaload, 1) := by decide +kernel
theorem dL_law_426 : decode cL_law 426 = .ok (.invokevirtual 44, 3) := by decide +kernel
theorem dL_law_429 : decode cL_law 429 = .ok (.aload_n 2, 1) := by decide +kernel
theorem dL_law_430 : decode cL_law 430 = .ok (.aload_n 0, 1) := by decide +kernel
theorem dL_law_431 : decode cL_law 431 = .ok (.iload 4, 2) := by decide +kernel
theorem dL_law_433 : decode cL_law 433 = .ok (.iconst 1, 1) := by decide +kernel
theorem dL_law_434 : decode cL_law 434 = .ok (.iadd, 1) := by decide +kernel
theorem dL_law_435 : decode cL_law 435 = .ok (.iaload, 1) := by decide +kernel
theorem dL_law_436 : decode cL_law 436 = .ok (.aload_n 0, 1) := by decide +kernel
theorem dL_law_437 : decode cL_law 437 = .ok (.iload 4, 2) := by decide +kernel
theorem dL_law_439 : decode cL_law 439 = .ok (.iconst 2, 1) := by decide +kernel
theorem dL_law_440 : decode cL_law 440 = .ok (.iadd, 1) := by decide +kernel
theorem dL_law_441 : decode cL_law 441 = .ok (.iaload, 1) := by decide +kernel
theorem dL_law_442 : decode cL_law 442 = .ok (.invokevirtual 47, 3) := by decide +kernel
theorem dL_law_445 : decode cL_law 445 = .ok (.if_icmp .eq 499, 3) := by decide +kernel
theorem dL_law_448 : decode cL_law 448 = .ok (.iconst 0, 1) := by decide +kernel
theorem dL_law_449 : decode cL_law 449 = .ok (.ireturn, 1) := by decide +kernel
theorem dL_law_450 : decode cL_law 450 = .ok (.aload_n 1, 1) := by decide +kernel
theorem dL_law_451 : decode cL_law 451 = .ok (.aload_n 0, 1) := by decide +kernel
theorem dL_law_452 : decode cL_law 452 = .ok (.iload 4, 2) := by decide +kernel
theorem dL_law_454 : decode cL_law 454 = .ok (.iconst 1, 1) := by decide +kernel
theorem dL_law_455 : decode cL_law 455 = .ok (.iadd, 1) := by decide +kernel
theorem dL_law_456 : decode cL_law 456 = .ok (.iaload, 1) := by decide +kernel
theorem dL_law_457 : decode cL_law 457 = .ok (.aload_n 0, 1) := by decide +kernel
theorem dL_law_458 : decode cL_law 458 = .ok (.iload 4, 2) := by decide +kernel
theorem dL_law_460 : decode cL_law 460 = .ok (.iconst 2, 1) := by decide +kernel
theorem dL_law_461 : decode cL_law 461 = .ok (.iadd, 1) := by decide +kernel
theorem dL_law_462 : decode cL_law 462 = .ok (.iaload, 1) := by decide +kernel
theorem dL_law_463 : decode cL_law 463 = .ok (.invokevirtual 48, 3) := by decide +kernel
theorem dL_law_466 : decode cL_law 466 = .ok (.aload_n 2, 1) := by decide +kernel
theorem dL_law_467 : decode cL_law 467 = .ok (.aload_n 0, 1) := by decide +kernel
theorem dL_law_468 : decode cL_law 468 = .ok (.iload 4, 2) := by decide +kernel
theorem dL_law_470 : decode cL_law 470 = .ok (.iconst 1, 1) := by decide +kernel
theorem dL_law_471 : decode cL_law 471 = .ok (.iadd, 1) := by decide +kernel
theorem dL_law_472 : decode cL_law 472 = .ok (.iaload, 1) := by decide +kernel
theorem dL_law_473 : decode cL_law 473 = .ok (.aload_n 0, 1) := by decide +kernel
theorem dL_law_474 : decode cL_law 474 = .ok (.iload 4, 2) := by decide +kernel
theorem dL_law_476 : decode cL_law 476 = .ok (.iconst 2, 1) := by decide +kernel
theorem dL_law_477 : decode cL_law 477 = .ok (.iadd, 1) := by decide +kernel
theorem dL_law_478 : decode cL_law 478 = .ok (.iaload, 1) := by decide +kernel
theorem dL_law_479 : decode cL_law 479 = .ok (.invokevirtual 51, 3) := by decide +kernel
theorem dL_law_482 : decode cL_law 482 = .ok (.if_icmp .eq 462, 3) := by decide +kernel
theorem dL_law_485 : decode cL_law 485 = .ok (.iconst 0, 1) := by decide +kernel
theorem dL_law_486 : decode cL_law 486 = .ok (.ireturn, 1) := by decide +kernel
theorem dL_law_487 : decode cL_law 487 = .ok (.aload_n 1, 1) := by decide +kernel
theorem dL_law_488 : decode cL_law 488 = .ok (.aload_n 0, 1) := by decide +kernel
theorem dL_law_489 : decode cL_law 489 = .ok (.iload 4, 2) := by decide +kernel
theorem dL_law_491 : decode cL_law 491 = .ok (.iconst 1, 1) := by decide +kernel
theorem dL_law_492 : decode cL_law 492 = .ok (.iadd, 1) := by decide +kernel
theorem dL_law_493 : decode cL_law 493 = .ok (.iaload, 1) := by decide +kernel
theorem dL_law_494 : decode cL_law 494 = .ok (.invokevirtual 52, 3) := by decide +kernel
theorem dL_law_497 : decode cL_law 497 = .ok (.aload_n 2, 1) := by decide +kernel
theorem dL_law_498 : decode cL_law 498 = .ok (.aload_n 0, 1) := by decide +kernel
theorem dL_law_499 : decode cL_law 499 = .ok (.iload 4, 2) := by decide +kernel
theorem dL_law_501 : decode cL_law 501 = .ok (.iconst 1, 1) := by decide +kernel
theorem dL_law_502 : decode cL_law 502 = .ok (.iadd, 1) := by decide +kernel
theorem dL_law_503 : decode cL_law 503 = .ok (.iaload, 1) := by decide +kernel
theorem dL_law_504 : decode cL_law 504 = .ok (.invokevirtual 55, 3) := by decide +kernel
theorem dL_law_507 : decode cL_law 507 = .ok (.if_icmp .eq 437, 3) := by decide +kernel
theorem dL_law_510 : decode cL_law 510 = .ok (.iconst 0, 1) := by decide +kernel
theorem dL_law_511 : decode cL_law 511 = .ok (.ireturn, 1) := by decide +kernel
theorem dL_law_512 : decode cL_law 512 = .ok (.aload_n 1, 1) := by decide +kernel
theorem dL_law_513 : decode cL_law 513 = .ok (.aload_n 0, 1) := by decide +kernel
theorem dL_law_514 : decode cL_law 514 = .ok (.iload 4, 2) := by decide +kernel
theorem dL_law_516 : decode cL_law 516 = .ok (.iconst 1, 1) := by decide +kernel
theorem dL_law_517 : decode cL_law 517 = .ok (.iadd, 1) := by decide +kernel
theorem dL_law_518 : decode cL_law 518 = .ok (.iaload, 1) := by decide +kernel
theorem dL_law_519 : decode cL_law 519 = .ok (.aload_n 0, 1) := by decide +kernel
theorem dL_law_520 : decode cL_law 520 = .ok (.iload 4, 2) := by decide +kernel
theorem dL_law_522 : decode cL_law 522 = .ok (.iconst 2, 1) := by decide +kernel
theorem dL_law_523 : decode cL_law 523 = .ok (.iadd, 1) := by decide +kernel
theorem dL_law_524 : decode cL_law 524 = .ok (.iaload, 1) := by decide +kernel
theorem dL_law_525 : decode cL_law 525 = .ok (.aload_n 0, 1) := by decide +kernel
theorem dL_law_526 : decode cL_law 526 = .ok (.iload 4, 2) := by decide +kernel
theorem dL_law_528 : decode cL_law 528 = .ok (.iconst 3, 1) := by decide +kernel
theorem dL_law_529 : decode cL_law 529 = .ok (.iadd, 1) := by decide +kernel
theorem dL_law_530 : decode cL_law 530 = .ok (.iaload, 1) := by decide +kernel
theorem dL_law_531 : decode cL_law 531 = .ok (.aload_n 0, 1) := by decide +kernel
theorem dL_law_532 : decode cL_law 532 = .ok (.iload 4, 2) := by decide +kernel
theorem dL_law_534 : decode cL_law 534 = .ok (.iconst 4, 1) := by decide +kernel
theorem dL_law_535 : decode cL_law 535 = .ok (.iadd, 1) := by decide +kernel
theorem dL_law_536 : decode cL_law 536 = .ok (.iaload, 1) := by decide +kernel
theorem dL_law_537 : decode cL_law 537 = .ok (.invokevirtual 56, 3) := by decide +kernel
theorem dL_law_540 : decode cL_law 540 = .ok (.aload_n 2, 1) := by decide +kernel
theorem dL_law_541 : decode cL_law 541 = .ok (.aload_n 0, 1) := by decide +kernel
theorem dL_law_542 : decode cL_law 542 = .ok (.iload 4, 2) := by decide +kernel
theorem dL_law_544 : decode cL_law 544 = .ok (.iconst 1, 1) := by decide +kernel
theorem dL_law_545 : decode cL_law 545 = .ok (.iadd, 1) := by decide +kernel
theorem dL_law_546 : decode cL_law 546 = .ok (.iaload, 1) := by decide +kernel
theorem dL_law_547 : decode cL_law 547 = .ok (.aload_n 0, 1) := by decide +kernel
theorem dL_law_548 : decode cL_law 548 = .ok (.iload 4, 2) := by decide +kernel
theorem dL_law_550 : decode cL_law 550 = .ok (.iconst 2, 1) := by decide +kernel
theorem dL_law_551 : decode cL_law 551 = .ok (.iadd, 1) := by decide +kernel
theorem dL_law_552 : decode cL_law 552 = .ok (.iaload, 1) := by decide +kernel
theorem dL_law_553 : decode cL_law 553 = .ok (.aload_n 0, 1) := by decide +kernel
theorem dL_law_554 : decode cL_law 554 = .ok (.iload 4, 2) := by decide +kernel
theorem dL_law_556 : decode cL_law 556 = .ok (.iconst 3, 1) := by decide +kernel
theorem dL_law_557 : decode cL_law 557 = .ok (.iadd, 1) := by decide +kernel
theorem dL_law_558 : decode cL_law 558 = .ok (.iaload, 1) := by decide +kernel
theorem dL_law_559 : decode cL_law 559 = .ok (.aload_n 0, 1) := by decide +kernel
theorem dL_law_560 : decode cL_law 560 = .ok (.iload 4, 2) := by decide +kernel
theorem dL_law_562 : decode cL_law 562 = .ok (.iconst 4, 1) := by decide +kernel
theorem dL_law_563 : decode cL_law 563 = .ok (.iadd, 1) := by decide +kernel
theorem dL_law_564 : decode cL_law 564 = .ok (.iaload, 1) := by decide +kernel
theorem dL_law_565 : decode cL_law 565 = .ok (.invokevirtual 60, 3) := by decide +kernel
theorem dL_law_568 : decode cL_law 568 = .ok (.if_icmp .eq 376, 3) := by decide +kernel
theorem dL_law_571 : decode cL_law 571 = .ok (.iconst 0, 1) := by decide +kernel
theorem dL_law_572 : decode cL_law 572 = .ok (.ireturn, 1) := by decide +kernel
theorem dL_law_573 : decode cL_law 573 = .ok (.aload_n 1, 1) := by decide +kernel
theorem dL_law_574 : decode cL_law 574 = .ok (.aload_n 0, 1) := by decide +kernel
theorem dL_law_575 : decode cL_law 575 = .ok (.iload 4, 2) := by decide +kernel
theorem dL_law_577 : decode cL_law 577 = .ok (.iconst 1, 1) := by decide +kernel
theorem dL_law_578 : decode cL_law 578 = .ok (.iadd, 1) := by decide +kernel
theorem dL_law_579 : decode cL_law 579 = .ok (.iaload, 1) := by decide +kernel
theorem dL_law_580 : decode cL_law 580 = .ok (.aload_n 0, 1) := by decide +kernel
theorem dL_law_581 : decode cL_law 581 = .ok (.iload 4, 2) := by decide +kernel
theorem dL_law_583 : decode cL_law 583 = .ok (.iconst 2, 1) := by decide +kernel
theorem dL_law_584 : decode cL_law 584 = .ok (.iadd, 1) := by decide +kernel
theorem dL_law_585 : decode cL_law 585 = .ok (.iaload, 1) := by decide +kernel
theorem dL_law_586 : decode cL_law 586 = .ok (.invokevirtual 61, 3) := by decide +kernel
theorem dL_law_589 : decode cL_law 589 = .ok (.aload_n 2, 1) := by decide +kernel
theorem dL_law_590 : decode cL_law 590 = .ok (.aload_n 0, 1) := by decide +kernel
theorem dL_law_591 : decode cL_law 591 = .ok (.iload 4, 2) := by decide +kernel
theorem dL_law_593 : decode cL_law 593 = .ok (.iconst 1, 1) := by decide +kernel
theorem dL_law_594 : decode cL_law 594 = .ok (.iadd, 1) := by decide +kernel
theorem dL_law_595 : decode cL_law 595 = .ok (.iaload, 1) := by decide +kernel
theorem dL_law_596 : decode cL_law 596 = .ok (.aload_n 0, 1) := by decide +kernel
theorem dL_law_597 : decode cL_law 597 = .ok (.iload 4, 2) := by decide +kernel
theorem dL_law_599 : decode cL_law 599 = .ok (.iconst 2, 1) := by decide +kernel
theorem dL_law_600 : decode cL_law 600 = .ok (.iadd, 1) := by decide +kernel
theorem dL_law_601 : decode cL_law 601 = .ok (.iaload, 1) := by decide +kernel
theorem dL_law_602 : decode cL_law 602 = .ok (.invokevirtual 64, 3) := by decide +kernel
theorem dL_law_605 : decode cL_law 605 = .ok (.if_icmp .eq 339, 3) := by decide +kernel
theorem dL_law_608 : decode cL_law 608 = .ok (.iconst 0, 1) := by decide +kernel
theorem dL_law_609 : decode cL_law 609 = .ok (.ireturn, 1) := by decide +kernel
theorem dL_law_610 : decode cL_law 610 = .ok (.aload_n 1, 1) := by decide +kernel
theorem dL_law_611 : decode cL_law 611 = .ok (.aload_n 0, 1) := by decide +kernel
theorem dL_law_612 : decode cL_law 612 = .ok (.iload 4, 2) := by decide +kernel
theorem dL_law_614 : decode cL_law 614 = .ok (.iconst 1, 1) := by decide +kernel
theorem dL_law_615 : decode cL_law 615 = .ok (.iadd, 1) := by decide +kernel
theorem dL_law_616 : decode cL_law 616 = .ok (.iaload, 1) := by decide +kernel
theorem dL_law_617 : decode cL_law 617 = .ok (.aload_n 0, 1) := by decide +kernel
theorem dL_law_618 : decode cL_law 618 = .ok (.iload 4, 2) := by decide +kernel
theorem dL_law_620 : decode cL_law 620 = .ok (.iconst 2, 1) := by decide +kernel
theorem dL_law_621 : decode cL_law 621 = .ok (.iadd, 1) := by decide +kernel
theorem dL_law_622 : decode cL_law 622 = .ok (.iaload, 1) := by decide +kernel
theorem dL_law_623 : decode cL_law 623 = .ok (.aload_n 0, 1) := by decide +kernel
theorem dL_law_624 : decode cL_law 624 = .ok (.iload 4, 2) := by decide +kernel
theorem dL_law_626 : decode cL_law 626 = .ok (.iconst 3, 1) := by decide +kernel
theorem dL_law_627 : decode cL_law 627 = .ok (.iadd, 1) := by decide +kernel
theorem dL_law_628 : decode cL_law 628 = .ok (.iaload, 1) := by decide +kernel
theorem dL_law_629 : decode cL_law 629 = .ok (.invokevirtual 65, 3) := by decide +kernel
theorem dL_law_632 : decode cL_law 632 = .ok (.aload_n 2, 1) := by decide +kernel
theorem dL_law_633 : decode cL_law 633 = .ok (.aload_n 0, 1) := by decide +kernel
theorem dL_law_634 : decode cL_law 634 = .ok (.iload 4, 2) := by decide +kernel
theorem dL_law_636 : decode cL_law 636 = .ok (.iconst 1, 1) := by decide +kernel
theorem dL_law_637 : decode cL_law 637 = .ok (.iadd, 1) := by decide +kernel
theorem dL_law_638 : decode cL_law 638 = .ok (.iaload, 1) := by decide +kernel
theorem dL_law_639 : decode cL_law 639 = .ok (.aload_n 0, 1) := by decide +kernel
theorem dL_law_640 : decode cL_law 640 = .ok (.iload 4, 2) := by decide +kernel
theorem dL_law_642 : decode cL_law 642 = .ok (.iconst 2, 1) := by decide +kernel
theorem dL_law_643 : decode cL_law 643 = .ok (.iadd, 1) := by decide +kernel
theorem dL_law_644 : decode cL_law 644 = .ok (.iaload, 1) := by decide +kernel
theorem dL_law_645 : decode cL_law 645 = .ok (.aload_n 0, 1) := by decide +kernel
theorem dL_law_646 : decode cL_law 646 = .ok (.iload 4, 2) := by decide +kernel
theorem dL_law_648 : decode cL_law 648 = .ok (.iconst 3, 1) := by decide +kernel
theorem dL_law_649 : decode cL_law 649 = .ok (.iadd, 1) := by decide +kernel
theorem dL_law_650 : decode cL_law 650 = .ok (.iaload, 1) := by decide +kernel
theorem dL_law_651 : decode cL_law 651 = .ok (.invokevirtual 68, 3) := by decide +kernel
theorem dL_law_654 : decode cL_law 654 = .ok (.if_icmp .eq 290, 3) := by decide +kernel
theorem dL_law_657 : decode cL_law 657 = .ok (.iconst 0, 1) := by decide +kernel
theorem dL_law_658 : decode cL_law 658 = .ok (.ireturn, 1) := by decide +kernel
theorem dL_law_659 : decode cL_law 659 = .ok (.aload_n 1, 1) := by decide +kernel
theorem dL_law_660 : decode cL_law 660 = .ok (.aload_n 0, 1) := by decide +kernel
theorem dL_law_661 : decode cL_law 661 = .ok (.iload 4, 2) := by decide +kernel
theorem dL_law_663 : decode cL_law 663 = .ok (.iconst 1, 1) := by decide +kernel
theorem dL_law_664 : decode cL_law 664 = .ok (.iadd, 1) := by decide +kernel
theorem dL_law_665 : decode cL_law 665 = .ok (.iaload, 1) := by decide +kernel
theorem dL_law_666 : decode cL_law 666 = .ok (.aload_n 0, 1) := by decide +kernel
theorem dL_law_667 : decode cL_law 667 = .ok (.iload 4, 2) := by decide +kernel
theorem dL_law_669 : decode cL_law 669 = .ok (.iconst 2, 1) := by decide +kernel
theorem dL_law_670 : decode cL_law 670 = .ok (.iadd, 1) := by decide +kernel
theorem dL_law_671 : decode cL_law 671 = .ok (.iaload, 1) := by decide +kernel
theorem dL_law_672 : decode cL_law 672 = .ok (.aload_n 0, 1) := by decide +kernel
theorem dL_law_673 : decode cL_law 673 = .ok (.iload 4, 2) := by decide +kernel
theorem dL_law_675 : decode cL_law 675 = .ok (.iconst 3, 1) := by decide +kernel
theorem dL_law_676 : decode cL_law 676 = .ok (.iadd, 1) := by decide +kernel
theorem dL_law_677 : decode cL_law 677 = .ok (.iaload, 1) := by decide +kernel
theorem dL_law_678 : decode cL_law 678 = .ok (.aload_n 0, 1) := by decide +kernel
theorem dL_law_679 : decode cL_law 679 = .ok (.iload 4, 2) := by decide +kernel
theorem dL_law_681 : decode cL_law 681 = .ok (.iconst 4, 1) := by decide +kernel
theorem dL_law_682 : decode cL_law 682 = .ok (.iadd, 1) := by decide +kernel
theorem dL_law_683 : decode cL_law 683 = .ok (.iaload, 1) := by decide +kernel
theorem dL_law_684 : decode cL_law 684 = .ok (.invokevirtual 69, 3) := by decide +kernel
theorem dL_law_687 : decode cL_law 687 = .ok (.aload_n 2, 1) := by decide +kernel
theorem dL_law_688 : decode cL_law 688 = .ok (.aload_n 0, 1) := by decide +kernel
theorem dL_law_689 : decode cL_law 689 = .ok (.iload 4, 2) := by decide +kernel
theorem dL_law_691 : decode cL_law 691 = .ok (.iconst 1, 1) := by decide +kernel
theorem dL_law_692 : decode cL_law 692 = .ok (.iadd, 1) := by decide +kernel
theorem dL_law_693 : decode cL_law 693 = .ok (.iaload, 1) := by decide +kernel
theorem dL_law_694 : decode cL_law 694 = .ok (.aload_n 0, 1) := by decide +kernel
theorem dL_law_695 : decode cL_law 695 = .ok (.iload 4, 2) := by decide +kernel
theorem dL_law_697 : decode cL_law 697 = .ok (.iconst 2, 1) := by decide +kernel
theorem dL_law_698 : decode cL_law 698 = .ok (.iadd, 1) := by decide +kernel
theorem dL_law_699 : decode cL_law 699 = .ok (.iaload, 1) := by decide +kernel
theorem dL_law_700 : decode cL_law 700 = .ok (.aload_n 0, 1) := by decide +kernel
theorem dL_law_701 : decode cL_law 701 = .ok (.iload 4, 2) := by decide +kernel
theorem dL_law_703 : decode cL_law 703 = .ok (.iconst 3, 1) := by decide +kernel
theorem dL_law_704 : decode cL_law 704 = .ok (.iadd, 1) := by decide +kernel
theorem dL_law_705 : decode cL_law 705 = .ok (.iaload, 1) := by decide +kernel
theorem dL_law_706 : decode cL_law 706 = .ok (.aload_n 0, 1) := by decide +kernel
theorem dL_law_707 : decode cL_law 707 = .ok (.iload 4, 2) := by decide +kernel
theorem dL_law_709 : decode cL_law 709 = .ok (.iconst 4, 1) := by decide +kernel
theorem dL_law_710 : decode cL_law 710 = .ok (.iadd, 1) := by decide +kernel
theorem dL_law_711 : decode cL_law 711 = .ok (.iaload, 1) := by decide +kernel
theorem dL_law_712 : decode cL_law 712 = .ok (.invokevirtual 72, 3) := by decide +kernel
theorem dL_law_715 : decode cL_law 715 = .ok (.if_icmp .eq 229, 3) := by decide +kernel
theorem dL_law_718 : decode cL_law 718 = .ok (.iconst 0, 1) := by decide +kernel
theorem dL_law_719 : decode cL_law 719 = .ok (.ireturn, 1) := by decide +kernel
theorem dL_law_720 : decode cL_law 720 = .ok (.aload_n 1, 1) := by decide +kernel
theorem dL_law_721 : decode cL_law 721 = .ok (.aload_n 0, 1) := by decide +kernel
theorem dL_law_722 : decode cL_law 722 = .ok (.iload 4, 2) := by decide +kernel
theorem dL_law_724 : decode cL_law 724 = .ok (.iconst 1, 1) := by decide +kernel
theorem dL_law_725 : decode cL_law 725 = .ok (.iadd, 1) := by decide +kernel
theorem dL_law_726 : decode cL_law 726 = .ok (.iaload, 1) := by decide +kernel
theorem dL_law_727 : decode cL_law 727 = .ok (.aload_n 0, 1) := by decide +kernel
theorem dL_law_728 : decode cL_law 728 = .ok (.iload 4, 2) := by decide +kernel
theorem dL_law_730 : decode cL_law 730 = .ok (.iconst 2, 1) := by decide +kernel
theorem dL_law_731 : decode cL_law 731 = .ok (.iadd, 1) := by decide +kernel
theorem dL_law_732 : decode cL_law 732 = .ok (.iaload, 1) := by decide +kernel
theorem dL_law_733 : decode cL_law 733 = .ok (.aload_n 0, 1) := by decide +kernel
theorem dL_law_734 : decode cL_law 734 = .ok (.iload 4, 2) := by decide +kernel
theorem dL_law_736 : decode cL_law 736 = .ok (.iconst 3, 1) := by decide +kernel
theorem dL_law_737 : decode cL_law 737 = .ok (.iadd, 1) := by decide +kernel
theorem dL_law_738 : decode cL_law 738 = .ok (.iaload, 1) := by decide +kernel
theorem dL_law_739 : decode cL_law 739 = .ok (.i2l, 1) := by decide +kernel
theorem dL_law_740 : decode cL_law 740 = .ok (.bipush 32, 2) := by decide +kernel
theorem dL_law_742 : decode cL_law 742 = .ok (.lshl, 1) := by decide +kernel
theorem dL_law_743 : decode cL_law 743 = .ok (.aload_n 0, 1) := by decide +kernel
theorem dL_law_744 : decode cL_law 744 = .ok (.iload 4, 2) := by decide +kernel
theorem dL_law_746 : decode cL_law 746 = .ok (.iconst 4, 1) := by decide +kernel
theorem dL_law_747 : decode cL_law 747 = .ok (.iadd, 1) := by decide +kernel
theorem dL_law_748 : decode cL_law 748 = .ok (.iaload, 1) := by decide +kernel
theorem dL_law_749 : decode cL_law 749 = .ok (.i2l, 1) := by decide +kernel
theorem dL_law_750 : decode cL_law 750 = .ok (.ldc2_w 73, 3) := by decide +kernel
theorem dL_law_753 : decode cL_law 753 = .ok (.land, 1) := by decide +kernel
theorem dL_law_754 : decode cL_law 754 = .ok (.lor, 1) := by decide +kernel
theorem dL_law_755 : decode cL_law 755 = .ok (.invokevirtual 75, 3) := by decide +kernel
theorem dL_law_758 : decode cL_law 758 = .ok (.aload_n 2, 1) := by decide +kernel
theorem dL_law_759 : decode cL_law 759 = .ok (.aload_n 0, 1) := by decide +kernel
theorem dL_law_760 : decode cL_law 760 = .ok (.iload 4, 2) := by decide +kernel
theorem dL_law_762 : decode cL_law 762 = .ok (.iconst 1, 1) := by decide +kernel
theorem dL_law_763 : decode cL_law 763 = .ok (.iadd, 1) := by decide +kernel
theorem dL_law_764 : decode cL_law 764 = .ok (.iaload, 1) := by decide +kernel
theorem dL_law_765 : decode cL_law 765 = .ok (.aload_n 0, 1) := by decide +kernel
theorem dL_law_766 : decode cL_law 766 = .ok (.iload 4, 2) := by decide +kernel
theorem dL_law_768 : decode cL_law 768 = .ok (.iconst 2, 1) := by decide +kernel
theorem dL_law_769 : decode cL_law 769 = .ok (.iadd, 1) := by decide +kernel
theorem dL_law_770 : decode cL_law 770 = .ok (.iaload, 1) := by decide +kernel
theorem dL_law_771 : decode cL_law 771 = .ok (.aload_n 0, 1) := by decide +kernel
theorem dL_law_772 : decode cL_law 772 = .ok (.iload 4, 2) := by decide +kernel
theorem dL_law_774 : decode cL_law 774 = .ok (.iconst 3, 1) := by decide +kernel
theorem dL_law_775 : decode cL_law 775 = .ok (.iadd, 1) := by decide +kernel
theorem dL_law_776 : decode cL_law 776 = .ok (.iaload, 1) := by decide +kernel
theorem dL_law_777 : decode cL_law 777 = .ok (.i2l, 1) := by decide +kernel
theorem dL_law_778 : decode cL_law 778 = .ok (.bipush 32, 2) := by decide +kernel
theorem dL_law_780 : decode cL_law 780 = .ok (.lshl, 1) := by decide +kernel
theorem dL_law_781 : decode cL_law 781 = .ok (.aload_n 0, 1) := by decide +kernel
theorem dL_law_782 : decode cL_law 782 = .ok (.iload 4, 2) := by decide +kernel
theorem dL_law_784 : decode cL_law 784 = .ok (.iconst 4, 1) := by decide +kernel
theorem dL_law_785 : decode cL_law 785 = .ok (.iadd, 1) := by decide +kernel
theorem dL_law_786 : decode cL_law 786 = .ok (.iaload, 1) := by decide +kernel
theorem dL_law_787 : decode cL_law 787 = .ok (.i2l, 1) := by decide +kernel
theorem dL_law_788 : decode cL_law 788 = .ok (.ldc2_w 73, 3) := by decide +kernel
theorem dL_law_791 : decode cL_law 791 = .ok (.land, 1) := by decide +kernel
theorem dL_law_792 : decode cL_law 792 = .ok (.lor, 1) := by decide +kernel
theorem dL_law_793 : decode cL_law 793 = .ok (.invokevirtual 79, 3) := by decide +kernel
theorem dL_law_796 : decode cL_law 796 = .ok (.if_icmp .eq 148, 3) := by decide +kernel
theorem dL_law_799 : decode cL_law 799 = .ok (.iconst 0, 1) := by decide +kernel
theorem dL_law_800 : decode cL_law 800 = .ok (.ireturn, 1) := by decide +kernel
theorem dL_law_801 : decode cL_law 801 = .ok (.aload_n 1, 1) := by decide +kernel
theorem dL_law_802 : decode cL_law 802 = .ok (.invokevirtual 80, 3) := by decide +kernel
theorem dL_law_805 : decode cL_law 805 = .ok (.aload_n 2, 1) := by decide +kernel
theorem dL_law_806 : decode cL_law 806 = .ok (.invokevirtual 84, 3) := by decide +kernel
theorem dL_law_809 : decode cL_law 809 = .ok (.lcmp, 1) := by decide +kernel
theorem dL_law_810 : decode cL_law 810 = .ok (.ifCond .eq 134, 3) := by decide +kernel
theorem dL_law_813 : decode cL_law 813 = .ok (.iconst 0, 1) := by decide +kernel
theorem dL_law_814 : decode cL_law 814 = .ok (.ireturn, 1) := by decide +kernel
theorem dL_law_815 : decode cL_law 815 = .ok (.aload_n 1, 1) := by decide +kernel
theorem dL_law_816 : decode cL_law 816 = .ok (.aload_n 0, 1) := by decide +kernel
theorem dL_law_817 : decode cL_law 817 = .ok (.iload 4, 2) := by decide +kernel
theorem dL_law_819 : decode cL_law 819 = .ok (.iconst 1, 1) := by decide +kernel
theorem dL_law_820 : decode cL_law 820 = .ok (.iadd, 1) := by decide +kernel
theorem dL_law_821 : decode cL_law 821 = .ok (.iaload, 1) := by decide +kernel
theorem dL_law_822 : decode cL_law 822 = .ok (.aload_n 0, 1) := by decide +kernel
theorem dL_law_823 : decode cL_law 823 = .ok (.iload 4, 2) := by decide +kernel
theorem dL_law_825 : decode cL_law 825 = .ok (.iconst 2, 1) := by decide +kernel
theorem dL_law_826 : decode cL_law 826 = .ok (.iadd, 1) := by decide +kernel
theorem dL_law_827 : decode cL_law 827 = .ok (.iaload, 1) := by decide +kernel
theorem dL_law_828 : decode cL_law 828 = .ok (.aload_n 3, 1) := by decide +kernel
theorem dL_law_829 : decode cL_law 829 = .ok (.invokestatic 85, 3) := by decide +kernel
theorem dL_law_832 : decode cL_law 832 = .ok (.istore 5, 2) := by decide +kernel
theorem dL_law_834 : decode cL_law 834 = .ok (.aload_n 2, 1) := by decide +kernel
theorem dL_law_835 : decode cL_law 835 = .ok (.aload_n 0, 1) := by decide +kernel
theorem dL_law_836 : decode cL_law 836 = .ok (.iload 4, 2) := by decide +kernel
theorem dL_law_838 : decode cL_law 838 = .ok (.iconst 1, 1) := by decide +kernel
theorem dL_law_839 : decode cL_law 839 = .ok (.iadd, 1) := by decide +kernel
theorem dL_law_840 : decode cL_law 840 = .ok (.iaload, 1) := by decide +kernel
theorem dL_law_841 : decode cL_law 841 = .ok (.aload_n 0, 1) := by decide +kernel
theorem dL_law_842 : decode cL_law 842 = .ok (.iload 4, 2) := by decide +kernel
theorem dL_law_844 : decode cL_law 844 = .ok (.iconst 2, 1) := by decide +kernel
theorem dL_law_845 : decode cL_law 845 = .ok (.iadd, 1) := by decide +kernel
theorem dL_law_846 : decode cL_law 846 = .ok (.iaload, 1) := by decide +kernel
theorem dL_law_847 : decode cL_law 847 = .ok (.invokevirtual 90, 3) := by decide +kernel
theorem dL_law_850 : decode cL_law 850 = .ok (.lstore 6, 2) := by decide +kernel
theorem dL_law_852 : decode cL_law 852 = .ok (.aload_n 2, 1) := by decide +kernel
theorem dL_law_853 : decode cL_law 853 = .ok (.invokevirtual 91, 3) := by decide +kernel
theorem dL_law_856 : decode cL_law 856 = .ok (.iload 5, 2) := by decide +kernel
theorem dL_law_858 : decode cL_law 858 = .ok (.if_icmp .eq 5, 3) := by decide +kernel
theorem dL_law_861 : decode cL_law 861 = .ok (.iconst 0, 1) := by decide +kernel
theorem dL_law_862 : decode cL_law 862 = .ok (.ireturn, 1) := by decide +kernel
theorem dL_law_863 : decode cL_law 863 = .ok (.iload 5, 2) := by decide +kernel
theorem dL_law_865 : decode cL_law 865 = .ok (.ifCond .ne 14, 3) := by decide +kernel
theorem dL_law_868 : decode cL_law 868 = .ok (.aload_n 3, 1) := by decide +kernel
theorem dL_law_869 : decode cL_law 869 = .ok (.iconst 0, 1) := by decide +kernel
theorem dL_law_870 : decode cL_law 870 = .ok (.laload, 1) := by decide +kernel
theorem dL_law_871 : decode cL_law 871 = .ok (.lload 6, 2) := by decide +kernel
theorem dL_law_873 : decode cL_law 873 = .ok (.lcmp, 1) := by decide +kernel
theorem dL_law_874 : decode cL_law 874 = .ok (.ifCond .eq 5, 3) := by decide +kernel
theorem dL_law_877 : decode cL_law 877 = .ok (.iconst 0, 1) := by decide +kernel
theorem dL_law_878 : decode cL_law 878 = .ok (.ireturn, 1) := by decide +kernel
theorem dL_law_879 : decode cL_law 879 = .ok (.goto 65, 3) := by decide +kernel
theorem dL_law_882 : decode cL_law 882 = .ok (.aload_n 1, 1) := by decide +kernel
theorem dL_law_883 : decode cL_law 883 = .ok (.aload_n 0, 1) := by decide +kernel
theorem dL_law_884 : decode cL_law 884 = .ok (.iload 4, 2) := by decide +kernel
theorem dL_law_886 : decode cL_law 886 = .ok (.iconst 1, 1) := by decide +kernel
theorem dL_law_887 : decode cL_law 887 = .ok (.iadd, 1) := by decide +kernel
theorem dL_law_888 : decode cL_law 888 = .ok (.iaload, 1) := by decide +kernel
theorem dL_law_889 : decode cL_law 889 = .ok (.aload_n 0, 1) := by decide +kernel
theorem dL_law_890 : decode cL_law 890 = .ok (.iload 4, 2) := by decide +kernel
theorem dL_law_892 : decode cL_law 892 = .ok (.iconst 2, 1) := by decide +kernel
theorem dL_law_893 : decode cL_law 893 = .ok (.iadd, 1) := by decide +kernel
theorem dL_law_894 : decode cL_law 894 = .ok (.iaload, 1) := by decide +kernel
theorem dL_law_895 : decode cL_law 895 = .ok (.invokevirtual 95, 3) := by decide +kernel
theorem dL_law_898 : decode cL_law 898 = .ok (.aload_n 2, 1) := by decide +kernel
theorem dL_law_899 : decode cL_law 899 = .ok (.aload_n 0, 1) := by decide +kernel
theorem dL_law_900 : decode cL_law 900 = .ok (.iload 4, 2) := by decide +kernel
theorem dL_law_902 : decode cL_law 902 = .ok (.iconst 1, 1) := by decide +kernel
theorem dL_law_903 : decode cL_law 903 = .ok (.iadd, 1) := by decide +kernel
theorem dL_law_904 : decode cL_law 904 = .ok (.iaload, 1) := by decide +kernel
theorem dL_law_905 : decode cL_law 905 = .ok (.aload_n 0, 1) := by decide +kernel
theorem dL_law_906 : decode cL_law 906 = .ok (.iload 4, 2) := by decide +kernel
theorem dL_law_908 : decode cL_law 908 = .ok (.iconst 2, 1) := by decide +kernel
theorem dL_law_909 : decode cL_law 909 = .ok (.iadd, 1) := by decide +kernel
theorem dL_law_910 : decode cL_law 910 = .ok (.iaload, 1) := by decide +kernel
theorem dL_law_911 : decode cL_law 911 = .ok (.invokevirtual 98, 3) := by decide +kernel
theorem dL_law_914 : decode cL_law 914 = .ok (.if_icmp .eq 30, 3) := by decide +kernel
theorem dL_law_917 : decode cL_law 917 = .ok (.iconst 0, 1) := by decide +kernel
theorem dL_law_918 : decode cL_law 918 = .ok (.ireturn, 1) := by decide +kernel
theorem dL_law_919 : decode cL_law 919 = .ok (.aload_n 1, 1) := by decide +kernel
theorem dL_law_920 : decode cL_law 920 = .ok (.aload_n 0, 1) := by decide +kernel
theorem dL_law_921 : decode cL_law 921 = .ok (.iload 4, 2) := by decide +kernel
theorem dL_law_923 : decode cL_law 923 = .ok (.iconst 1, 1) := by decide +kernel
theorem dL_law_924 : decode cL_law 924 = .ok (.iadd, 1) := by decide +kernel
theorem dL_law_925 : decode cL_law 925 = .ok (.iaload, 1) := by decide +kernel
theorem dL_law_926 : decode cL_law 926 = .ok (.invokevirtual 99, 3) := by decide +kernel
theorem dL_law_929 : decode cL_law 929 = .ok (.aload_n 2, 1) := by decide +kernel
theorem dL_law_930 : decode cL_law 930 = .ok (.aload_n 0, 1) := by decide +kernel
theorem dL_law_931 : decode cL_law 931 = .ok (.iload 4, 2) := by decide +kernel
theorem dL_law_933 : decode cL_law 933 = .ok (.iconst 1, 1) := by decide +kernel
theorem dL_law_934 : decode cL_law 934 = .ok (.iadd, 1) := by decide +kernel
theorem dL_law_935 : decode cL_law 935 = .ok (.iaload, 1) := by decide +kernel
theorem dL_law_936 : decode cL_law 936 = .ok (.invokevirtual 102, 3) := by decide +kernel
theorem dL_law_939 : decode cL_law 939 = .ok (.if_icmp .eq 5, 3) := by decide +kernel
theorem dL_law_942 : decode cL_law 942 = .ok (.iconst 0, 1) := by decide +kernel
theorem dL_law_943 : decode cL_law 943 = .ok (.ireturn, 1) := by decide +kernel
theorem dL_law_944 : decode cL_law 944 = .ok (.iinc 4 6, 3) := by decide +kernel
theorem dL_law_947 : decode cL_law 947 = .ok (.goto (-924), 3) := by decide +kernel
theorem dL_law_950 : decode cL_law 950 = .ok (.iconst 1, 1) := by decide +kernel
theorem dL_law_951 : decode cL_law 951 = .ok (.ireturn, 1) := by decide +kernel
