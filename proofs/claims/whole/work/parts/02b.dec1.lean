theorem dX0_init_0 : decode cX0_init 0 = .ok (.aload_n 0, 1) := by decide +kernel
theorem dX0_init_1 : decode cX0_init 1 = .ok (.invokespecial 3, 3) := by decide +kernel
theorem dX0_init_4 : decode cX0_init 4 = .ok (.return_, 1) := by decide +kernel
theorem dX0_weighs_0 : decode cX0_weighs 0 = .ok (.aload_n 0, 1) := by decide +kernel
theorem dX0_weighs_1 : decode cX0_weighs 1 = .ok (.getfield 9, 3) := by decide +kernel
theorem dX0_weighs_4 : decode cX0_weighs 4 = .ok (.lookupswitch 56 #[(2, 28), (5, 40)], 28) := by decide +kernel
theorem dX0_weighs_32 : decode cX0_weighs 32 = .ok (.aload_n 0, 1) := by decide +kernel
theorem dX0_weighs_33 : decode cX0_weighs 33 = .ok (.getfield 15, 3) := by decide +kernel
theorem dX0_weighs_36 : decode cX0_weighs 36 = .ok (.aload_n 0, 1) := by decide +kernel
theorem dX0_weighs_37 : decode cX0_weighs 37 = .ok (.getfield 18, 3) := by decide +kernel
theorem dX0_weighs_40 : decode cX0_weighs 40 = .ok (.iload_n 1, 1) := by decide +kernel
theorem dX0_weighs_41 : decode cX0_weighs 41 = .ok (.imul, 1) := by decide +kernel
theorem dX0_weighs_42 : decode cX0_weighs 42 = .ok (.iadd, 1) := by decide +kernel
theorem dX0_weighs_43 : decode cX0_weighs 43 = .ok (.ireturn, 1) := by decide +kernel
theorem dX0_weighs_44 : decode cX0_weighs 44 = .ok (.iconst 1, 1) := by decide +kernel
theorem dX0_weighs_45 : decode cX0_weighs 45 = .ok (.aload_n 0, 1) := by decide +kernel
theorem dX0_weighs_46 : decode cX0_weighs 46 = .ok (.getfield 15, 3) := by decide +kernel
theorem dX0_weighs_49 : decode cX0_weighs 49 = .ok (.aload_n 0, 1) := by decide +kernel
theorem dX0_weighs_50 : decode cX0_weighs 50 = .ok (.getfield 18, 3) := by decide +kernel
theorem dX0_weighs_53 : decode cX0_weighs 53 = .ok (.iload_n 1, 1) := by decide +kernel
theorem dX0_weighs_54 : decode cX0_weighs 54 = .ok (.imul, 1) := by decide +kernel
theorem dX0_weighs_55 : decode cX0_weighs 55 = .ok (.isub, 1) := by decide +kernel
theorem dX0_weighs_56 : decode cX0_weighs 56 = .ok (.invokestatic 21, 3) := by decide +kernel
theorem dX0_weighs_59 : decode cX0_weighs 59 = .ok (.ireturn, 1) := by decide +kernel
theorem dX0_weighs_60 : decode cX0_weighs 60 = .ok (.aload_n 0, 1) := by decide +kernel
theorem dX0_weighs_61 : decode cX0_weighs 61 = .ok (.getfield 15, 3) := by decide +kernel
theorem dX0_weighs_64 : decode cX0_weighs 64 = .ok (.ireturn, 1) := by decide +kernel
theorem dX0_worth_0 : decode cX0_worth 0 = .ok (.aload_n 0, 1) := by decide +kernel
theorem dX0_worth_1 : decode cX0_worth 1 = .ok (.getfield 9, 3) := by decide +kernel
theorem dX0_worth_4 : decode cX0_worth 4 = .ok (.tableswitch 69 1 4 #[32, 69, 38, 55], 32) := by decide +kernel
theorem dX0_worth_36 : decode cX0_worth 36 = .ok (.aload_n 0, 1) := by decide +kernel
theorem dX0_worth_37 : decode cX0_worth 37 = .ok (.iload_n 1, 1) := by decide +kernel
theorem dX0_worth_38 : decode cX0_worth 38 = .ok (.invokevirtual 27, 3) := by decide +kernel
theorem dX0_worth_41 : decode cX0_worth 41 = .ok (.ireturn, 1) := by decide +kernel
theorem dX0_worth_42 : decode cX0_worth 42 = .ok (.iload_n 1, 1) := by decide +kernel
theorem dX0_worth_43 : decode cX0_worth 43 = .ok (.iconst 3, 1) := by decide +kernel
theorem dX0_worth_44 : decode cX0_worth 44 = .ok (.if_icmp .le 7, 3) := by decide +kernel
theorem dX0_worth_47 : decode cX0_worth 47 = .ok (.iconst 0, 1) := by decide +kernel
theorem dX0_worth_48 : decode cX0_worth 48 = .ok (.goto 10, 3) := by decide +kernel
theorem dX0_worth_51 : decode cX0_worth 51 = .ok (.iconst 2, 1) := by decide +kernel
theorem dX0_worth_52 : decode cX0_worth 52 = .ok (.aload_n 0, 1) := by decide +kernel
theorem dX0_worth_53 : decode cX0_worth 53 = .ok (.iload_n 1, 1) := by decide +kernel
theorem dX0_worth_54 : decode cX0_worth 54 = .ok (.invokevirtual 27, 3) := by decide +kernel
theorem dX0_worth_57 : decode cX0_worth 57 = .ok (.imul, 1) := by decide +kernel
theorem dX0_worth_58 : decode cX0_worth 58 = .ok (.ireturn, 1) := by decide +kernel
theorem dX0_worth_59 : decode cX0_worth 59 = .ok (.iconst 0, 1) := by decide +kernel
theorem dX0_worth_60 : decode cX0_worth 60 = .ok (.aload_n 0, 1) := by decide +kernel
theorem dX0_worth_61 : decode cX0_worth 61 = .ok (.getfield 31, 3) := by decide +kernel
theorem dX0_worth_64 : decode cX0_worth 64 = .ok (.aload_n 0, 1) := by decide +kernel
theorem dX0_worth_65 : decode cX0_worth 65 = .ok (.getfield 18, 3) := by decide +kernel
theorem dX0_worth_68 : decode cX0_worth 68 = .ok (.isub, 1) := by decide +kernel
theorem dX0_worth_69 : decode cX0_worth 69 = .ok (.invokestatic 21, 3) := by decide +kernel
theorem dX0_worth_72 : decode cX0_worth 72 = .ok (.ireturn, 1) := by decide +kernel
theorem dX0_worth_73 : decode cX0_worth 73 = .ok (.aload_n 0, 1) := by decide +kernel
theorem dX0_worth_74 : decode cX0_worth 74 = .ok (.getfield 31, 3) := by decide +kernel
theorem dX0_worth_77 : decode cX0_worth 77 = .ok (.ireturn, 1) := by decide +kernel
theorem dX0_spoiled_0 : decode cX0_spoiled 0 = .ok (.iconst 0, 1) := by decide +kernel
theorem dX0_spoiled_1 : decode cX0_spoiled 1 = .ok (.aload_n 0, 1) := by decide +kernel
theorem dX0_spoiled_2 : decode cX0_spoiled 2 = .ok (.getfield 31, 3) := by decide +kernel
theorem dX0_spoiled_5 : decode cX0_spoiled 5 = .ok (.aload_n 0, 1) := by decide +kernel
theorem dX0_spoiled_6 : decode cX0_spoiled 6 = .ok (.getfield 18, 3) := by decide +kernel
theorem dX0_spoiled_9 : decode cX0_spoiled 9 = .ok (.iload_n 1, 1) := by decide +kernel
theorem dX0_spoiled_10 : decode cX0_spoiled 10 = .ok (.imul, 1) := by decide +kernel
theorem dX0_spoiled_11 : decode cX0_spoiled 11 = .ok (.isub, 1) := by decide +kernel
theorem dX0_spoiled_12 : decode cX0_spoiled 12 = .ok (.invokestatic 21, 3) := by decide +kernel
theorem dX0_spoiled_15 : decode cX0_spoiled 15 = .ok (.ireturn, 1) := by decide +kernel
theorem dX0_mayTurn_0 : decode cX0_mayTurn 0 = .ok (.aload_n 0, 1) := by decide +kernel
theorem dX0_mayTurn_1 : decode cX0_mayTurn 1 = .ok (.getfield 9, 3) := by decide +kernel
theorem dX0_mayTurn_4 : decode cX0_mayTurn 4 = .ok (.iconst 4, 1) := by decide +kernel
theorem dX0_mayTurn_5 : decode cX0_mayTurn 5 = .ok (.if_icmp .ne 7, 3) := by decide +kernel
theorem dX0_mayTurn_8 : decode cX0_mayTurn 8 = .ok (.iconst 1, 1) := by decide +kernel
theorem dX0_mayTurn_9 : decode cX0_mayTurn 9 = .ok (.goto 4, 3) := by decide +kernel
theorem dX0_mayTurn_12 : decode cX0_mayTurn 12 = .ok (.iconst 0, 1) := by decide +kernel
theorem dX0_mayTurn_13 : decode cX0_mayTurn 13 = .ok (.ireturn, 1) := by decide +kernel
theorem dX0_isA_0 : decode cX0_isA 0 = .ok (.iload_n 1, 1) := by decide +kernel
theorem dX0_isA_1 : decode cX0_isA 1 = .ok (.aload_n 0, 1) := by decide +kernel
theorem dX0_isA_2 : decode cX0_isA 2 = .ok (.getfield 9, 3) := by decide +kernel
theorem dX0_isA_5 : decode cX0_isA 5 = .ok (.if_icmp .eq 33, 3) := by decide +kernel
theorem dX0_isA_8 : decode cX0_isA 8 = .ok (.iload_n 1, 1) := by decide +kernel
theorem dX0_isA_9 : decode cX0_isA 9 = .ok (.ifCond .eq 29, 3) := by decide +kernel
theorem dX0_isA_12 : decode cX0_isA 12 = .ok (.iload_n 1, 1) := by decide +kernel
theorem dX0_isA_13 : decode cX0_isA 13 = .ok (.iconst 1, 1) := by decide +kernel
theorem dX0_isA_14 : decode cX0_isA 14 = .ok (.if_icmp .ne 11, 3) := by decide +kernel
theorem dX0_isA_17 : decode cX0_isA 17 = .ok (.aload_n 0, 1) := by decide +kernel
theorem dX0_isA_18 : decode cX0_isA 18 = .ok (.getfield 9, 3) := by decide +kernel
theorem dX0_isA_21 : decode cX0_isA 21 = .ok (.iconst 3, 1) := by decide +kernel
theorem dX0_isA_22 : decode cX0_isA 22 = .ok (.if_icmp .eq 16, 3) := by decide +kernel
theorem dX0_isA_25 : decode cX0_isA 25 = .ok (.iload_n 1, 1) := by decide +kernel
theorem dX0_isA_26 : decode cX0_isA 26 = .ok (.iconst 2, 1) := by decide +kernel
theorem dX0_isA_27 : decode cX0_isA 27 = .ok (.if_icmp .ne 15, 3) := by decide +kernel
theorem dX0_isA_30 : decode cX0_isA 30 = .ok (.aload_n 0, 1) := by decide +kernel
theorem dX0_isA_31 : decode cX0_isA 31 = .ok (.getfield 9, 3) := by decide +kernel
theorem dX0_isA_34 : decode cX0_isA 34 = .ok (.iconst 5, 1) := by decide +kernel
theorem dX0_isA_35 : decode cX0_isA 35 = .ok (.if_icmp .ne 7, 3) := by decide +kernel
theorem dX0_isA_38 : decode cX0_isA 38 = .ok (.iconst 1, 1) := by decide +kernel
theorem dX0_isA_39 : decode cX0_isA 39 = .ok (.goto 4, 3) := by decide +kernel
theorem dX0_isA_42 : decode cX0_isA 42 = .ok (.iconst 0, 1) := by decide +kernel
theorem dX0_isA_43 : decode cX0_isA 43 = .ok (.ireturn, 1) := by decide +kernel
theorem dX1_init_0 : decode cX1_init 0 = .ok (.aload_n 0, 1) := by decide +kernel
theorem dX1_init_1 : decode cX1_init 1 = .ok (.invokespecial 3, 3) := by decide +kernel
theorem dX1_init_4 : decode cX1_init 4 = .ok (.aload_n 0, 1) := by decide +kernel
theorem dX1_init_5 : decode cX1_init 5 = .ok (.bipush 10, 2) := by decide +kernel
theorem dX1_init_7 : decode cX1_init 7 = .ok (.newarray .int, 2) := by decide +kernel
theorem dX1_init_9 : decode cX1_init 9 = .ok (.putfield 9, 3) := by decide +kernel
theorem dX1_init_12 : decode cX1_init 12 = .ok (.aload_n 0, 1) := by decide +kernel
theorem dX1_init_13 : decode cX1_init 13 = .ok (.bipush 10, 2) := by decide +kernel
theorem dX1_init_15 : decode cX1_init 15 = .ok (.newarray .int, 2) := by decide +kernel
theorem dX1_init_17 : decode cX1_init 17 = .ok (.putfield 15, 3) := by decide +kernel
theorem dX1_init_20 : decode cX1_init 20 = .ok (.aload_n 0, 1) := by decide +kernel
theorem dX1_init_21 : decode cX1_init 21 = .ok (.bipush 10, 2) := by decide +kernel
theorem dX1_init_23 : decode cX1_init 23 = .ok (.newarray .int, 2) := by decide +kernel
theorem dX1_init_25 : decode cX1_init 25 = .ok (.putfield 18, 3) := by decide +kernel
theorem dX1_init_28 : decode cX1_init 28 = .ok (.aload_n 0, 1) := by decide +kernel
theorem dX1_init_29 : decode cX1_init 29 = .ok (.aload_n 1, 1) := by decide +kernel
theorem dX1_init_30 : decode cX1_init 30 = .ok (.putfield 21, 3) := by decide +kernel
theorem dX1_init_33 : decode cX1_init 33 = .ok (.aload_n 0, 1) := by decide +kernel
theorem dX1_init_34 : decode cX1_init 34 = .ok (.aload_n 2, 1) := by decide +kernel
theorem dX1_init_35 : decode cX1_init 35 = .ok (.putfield 25, 3) := by decide +kernel
theorem dX1_init_38 : decode cX1_init 38 = .ok (.return_, 1) := by decide +kernel
theorem dX1_takeComes_0 : decode cX1_takeComes 0 = .ok (.aload_n 0, 1) := by decide +kernel
theorem dX1_takeComes_1 : decode cX1_takeComes 1 = .ok (.getfield 25, 3) := by decide +kernel
theorem dX1_takeComes_4 : decode cX1_takeComes 4 = .ok (.getfield 29, 3) := by decide +kernel
theorem dX1_takeComes_7 : decode cX1_takeComes 7 = .ok (.iconst 0, 1) := by decide +kernel
theorem dX1_takeComes_8 : decode cX1_takeComes 8 = .ok (.aload_n 0, 1) := by decide +kernel
theorem dX1_takeComes_9 : decode cX1_takeComes 9 = .ok (.getfield 9, 3) := by decide +kernel
theorem dX1_takeComes_12 : decode cX1_takeComes 12 = .ok (.iconst 0, 1) := by decide +kernel
theorem dX1_takeComes_13 : decode cX1_takeComes 13 = .ok (.bipush 10, 2) := by decide +kernel
theorem dX1_takeComes_15 : decode cX1_takeComes 15 = .ok (.invokestatic 32, 3) := by decide +kernel
theorem dX1_takeComes_18 : decode cX1_takeComes 18 = .ok (.return_, 1) := by decide +kernel
theorem dX1_drawComes_0 : decode cX1_drawComes 0 = .ok (.iload_n 1, 1) := by decide +kernel
theorem dX1_drawComes_1 : decode cX1_drawComes 1 = .ok (.i2l, 1) := by decide +kernel
theorem dX1_drawComes_2 : decode cX1_drawComes 2 = .ok (.lconst 1, 1) := by decide +kernel
theorem dX1_drawComes_3 : decode cX1_drawComes 3 = .ok (.ladd, 1) := by decide +kernel
theorem dX1_drawComes_4 : decode cX1_drawComes 4 = .ok (.lstore_n 2, 1) := by decide +kernel
theorem dX1_drawComes_5 : decode cX1_drawComes 5 = .ok (.iconst 0, 1) := by decide +kernel
theorem dX1_drawComes_6 : decode cX1_drawComes 6 = .ok (.istore 4, 2) := by decide +kernel
theorem dX1_drawComes_8 : decode cX1_drawComes 8 = .ok (.iload 4, 2) := by decide +kernel
theorem dX1_drawComes_10 : decode cX1_drawComes 10 = .ok (.aload_n 0, 1) := by decide +kernel
theorem dX1_drawComes_11 : decode cX1_drawComes 11 = .ok (.getfield 25, 3) := by decide +kernel
theorem dX1_drawComes_14 : decode cX1_drawComes 14 = .ok (.getfield 38, 3) := by decide +kernel
theorem dX1_drawComes_17 : decode cX1_drawComes 17 = .ok (.if_icmp .ge 32, 3) := by decide +kernel
theorem dX1_drawComes_20 : decode cX1_drawComes 20 = .ok (.lload_n 2, 1) := by decide +kernel
theorem dX1_drawComes_21 : decode cX1_drawComes 21 = .ok (.ldc2_w 42, 3) := by decide +kernel
theorem dX1_drawComes_24 : decode cX1_drawComes 24 = .ok (.lmul, 1) := by decide +kernel
theorem dX1_drawComes_25 : decode cX1_drawComes 25 = .ok (.ldc2_w 44, 3) := by decide +kernel
theorem dX1_drawComes_28 : decode cX1_drawComes 28 = .ok (.lrem, 1) := by decide +kernel
theorem dX1_drawComes_29 : decode cX1_drawComes 29 = .ok (.lstore_n 2, 1) := by decide +kernel
theorem dX1_drawComes_30 : decode cX1_drawComes 30 = .ok (.aload_n 0, 1) := by decide +kernel
theorem dX1_drawComes_31 : decode cX1_drawComes 31 = .ok (.getfield 9, 3) := by decide +kernel
theorem dX1_drawComes_34 : decode cX1_drawComes 34 = .ok (.iload 4, 2) := by decide +kernel
theorem dX1_drawComes_36 : decode cX1_drawComes 36 = .ok (.lload_n 2, 1) := by decide +kernel
theorem dX1_drawComes_37 : decode cX1_drawComes 37 = .ok (.ldc2_w 46, 3) := by decide +kernel
theorem dX1_drawComes_40 : decode cX1_drawComes 40 = .ok (.lrem, 1) := by decide +kernel
theorem dX1_drawComes_41 : decode cX1_drawComes 41 = .ok (.l2i, 1) := by decide +kernel
theorem dX1_drawComes_42 : decode cX1_drawComes 42 = .ok (.iastore, 1) := by decide +kernel
theorem dX1_drawComes_43 : decode cX1_drawComes 43 = .ok (.iinc 4 1, 3) := by decide +kernel
theorem dX1_drawComes_46 : decode cX1_drawComes 46 = .ok (.goto (-38), 3) := by decide +kernel
theorem dX1_drawComes_49 : decode cX1_drawComes 49 = .ok (.return_, 1) := by decide +kernel
theorem dX1_run_0 : decode cX1_run 0 = .ok (.aload_n 0, 1) := by decide +kernel
theorem dX1_run_1 : decode cX1_run 1 = .ok (.iconst 0, 1) := by decide +kernel
theorem dX1_run_2 : decode cX1_run 2 = .ok (.putfield 48, 3) := by decide +kernel
theorem dX1_run_5 : decode cX1_run 5 = .ok (.aload_n 0, 1) := by decide +kernel
theorem dX1_run_6 : decode cX1_run 6 = .ok (.iconst 0, 1) := by decide +kernel
theorem dX1_run_7 : decode cX1_run 7 = .ok (.putfield 51, 3) := by decide +kernel
theorem dX1_run_10 : decode cX1_run 10 = .ok (.aload_n 0, 1) := by decide +kernel
theorem dX1_run_11 : decode cX1_run 11 = .ok (.iconst 0, 1) := by decide +kernel
theorem dX1_run_12 : decode cX1_run 12 = .ok (.putfield 54, 3) := by decide +kernel
theorem dX1_run_15 : decode cX1_run 15 = .ok (.aload_n 0, 1) := by decide +kernel
theorem dX1_run_16 : decode cX1_run 16 = .ok (.iconst 0, 1) := by decide +kernel
theorem dX1_run_17 : decode cX1_run 17 = .ok (.putfield 57, 3) := by decide +kernel
theorem dX1_run_20 : decode cX1_run 20 = .ok (.aload_n 0, 1) := by decide +kernel
theorem dX1_run_21 : decode cX1_run 21 = .ok (.iconst 0, 1) := by decide +kernel
theorem dX1_run_22 : decode cX1_run 22 = .ok (.putfield 60, 3) := by decide +kernel
theorem dX1_run_25 : decode cX1_run 25 = .ok (.iconst 0, 1) := by decide +kernel
theorem dX1_run_26 : decode cX1_run 26 = .ok (.istore 5, 2) := by decide +kernel
theorem dX1_run_28 : decode cX1_run 28 = .ok (.iload 5, 2) := by decide +kernel
theorem dX1_run_30 : decode cX1_run 30 = .ok (.iload_n 1, 1) := by decide +kernel
theorem dX1_run_31 : decode cX1_run 31 = .ok (.if_icmp .ge 58, 3) := by decide +kernel
theorem dX1_run_34 : decode cX1_run 34 = .ok (.iload 5, 2) := by decide +kernel
theorem dX1_run_36 : decode cX1_run 36 = .ok (.bipush 10, 2) := by decide +kernel
theorem dX1_run_38 : decode cX1_run 38 = .ok (.if_icmp .ge 51, 3) := by decide +kernel
theorem dX1_run_41 : decode cX1_run 41 = .ok (.iload 5, 2) := by decide +kernel
theorem dX1_run_43 : decode cX1_run 43 = .ok (.iload_n 2, 1) := by decide +kernel
theorem dX1_run_44 : decode cX1_run 44 = .ok (.if_icmp .eq 39, 3) := by decide +kernel
theorem dX1_run_47 : decode cX1_run 47 = .ok (.aload_n 0, 1) := by decide +kernel
theorem dX1_run_48 : decode cX1_run 48 = .ok (.getfield 21, 3) := by decide +kernel
theorem dX1_run_51 : decode cX1_run 51 = .ok (.iload 5, 2) := by decide +kernel
theorem dX1_run_53 : decode cX1_run 53 = .ok (.aload_n 0, 1) := by decide +kernel
theorem dX1_run_54 : decode cX1_run 54 = .ok (.getfield 9, 3) := by decide +kernel
theorem dX1_run_57 : decode cX1_run 57 = .ok (.invokevirtual 63, 3) := by decide +kernel
theorem dX1_run_60 : decode cX1_run 60 = .ok (.aload_n 0, 1) := by decide +kernel
theorem dX1_run_61 : decode cX1_run 61 = .ok (.getfield 21, 3) := by decide +kernel
theorem dX1_run_64 : decode cX1_run 64 = .ok (.iload_n 3, 1) := by decide +kernel
theorem dX1_run_65 : decode cX1_run 65 = .ok (.aload_n 0, 1) := by decide +kernel
theorem dX1_run_66 : decode cX1_run 66 = .ok (.getfield 54, 3) := by decide +kernel
theorem dX1_run_69 : decode cX1_run 69 = .ok (.iconst (-1), 1) := by decide +kernel
theorem dX1_run_70 : decode cX1_run 70 = .ok (.ixor, 1) := by decide +kernel
theorem dX1_run_71 : decode cX1_run 71 = .ok (.iand, 1) := by decide +kernel
theorem dX1_run_72 : decode cX1_run 72 = .ok (.aload 4, 2) := by decide +kernel
theorem dX1_run_74 : decode cX1_run 74 = .ok (.invokevirtual 69, 3) := by decide +kernel
theorem dX1_run_77 : decode cX1_run 77 = .ok (.aload_n 0, 1) := by decide +kernel
theorem dX1_run_78 : decode cX1_run 78 = .ok (.iload 5, 2) := by decide +kernel
theorem dX1_run_80 : decode cX1_run 80 = .ok (.invokevirtual 73, 3) := by decide +kernel
theorem dX1_run_83 : decode cX1_run 83 = .ok (.iinc 5 1, 3) := by decide +kernel
theorem dX1_run_86 : decode cX1_run 86 = .ok (.goto (-58), 3) := by decide +kernel
theorem dX1_run_89 : decode cX1_run 89 = .ok (.return_, 1) := by decide +kernel
theorem dX1_noteBest_0 : decode cX1_noteBest 0 = .ok (.aload_n 0, 1) := by decide +kernel
theorem dX1_noteBest_1 : decode cX1_noteBest 1 = .ok (.getfield 21, 3) := by decide +kernel
theorem dX1_noteBest_4 : decode cX1_noteBest 4 = .ok (.getfield 77, 3) := by decide +kernel
theorem dX1_noteBest_7 : decode cX1_noteBest 7 = .ok (.istore_n 2, 1) := by decide +kernel
theorem dX1_noteBest_8 : decode cX1_noteBest 8 = .ok (.iload_n 2, 1) := by decide +kernel
theorem dX1_noteBest_9 : decode cX1_noteBest 9 = .ok (.ifCond .eq 12, 3) := by decide +kernel
theorem dX1_noteBest_12 : decode cX1_noteBest 12 = .ok (.aload_n 0, 1) := by decide +kernel
theorem dX1_noteBest_13 : decode cX1_noteBest 13 = .ok (.getfield 48, 3) := by decide +kernel
theorem dX1_noteBest_16 : decode cX1_noteBest 16 = .ok (.bipush 10, 2) := by decide +kernel
theorem dX1_noteBest_18 : decode cX1_noteBest 18 = .ok (.if_icmp .lt 4, 3) := by decide +kernel
theorem dX1_noteBest_21 : decode cX1_noteBest 21 = .ok (.return_, 1) := by decide +kernel
theorem dX1_noteBest_22 : decode cX1_noteBest 22 = .ok (.aload_n 0, 1) := by decide +kernel
theorem dX1_noteBest_23 : decode cX1_noteBest 23 = .ok (.getfield 21, 3) := by decide +kernel
theorem dX1_noteBest_26 : decode cX1_noteBest 26 = .ok (.iload_n 2, 1) := by decide +kernel
theorem dX1_noteBest_27 : decode cX1_noteBest 27 = .ok (.invokevirtual 80, 3) := by decide +kernel
theorem dX1_noteBest_30 : decode cX1_noteBest 30 = .ok (.aload_n 0, 1) := by decide +kernel
theorem dX1_noteBest_31 : decode cX1_noteBest 31 = .ok (.getfield 15, 3) := by decide +kernel
theorem dX1_noteBest_34 : decode cX1_noteBest 34 = .ok (.aload_n 0, 1) := by decide +kernel
theorem dX1_noteBest_35 : decode cX1_noteBest 35 = .ok (.getfield 48, 3) := by decide +kernel
theorem dX1_noteBest_38 : decode cX1_noteBest 38 = .ok (.iload_n 1, 1) := by decide +kernel
theorem dX1_noteBest_39 : decode cX1_noteBest 39 = .ok (.iastore, 1) := by decide +kernel
theorem dX1_noteBest_40 : decode cX1_noteBest 40 = .ok (.aload_n 0, 1) := by decide +kernel
theorem dX1_noteBest_41 : decode cX1_noteBest 41 = .ok (.getfield 18, 3) := by decide +kernel
theorem dX1_noteBest_44 : decode cX1_noteBest 44 = .ok (.aload_n 0, 1) := by decide +kernel
theorem dX1_noteBest_45 : decode cX1_noteBest 45 = .ok (.getfield 48, 3) := by decide +kernel
theorem dX1_noteBest_48 : decode cX1_noteBest 48 = .ok (.iload_n 2, 1) := by decide +kernel
theorem dX1_noteBest_49 : decode cX1_noteBest 49 = .ok (.iastore, 1) := by decide +kernel
theorem dX1_noteBest_50 : decode cX1_noteBest 50 = .ok (.aload_n 0, 1) := by decide +kernel
theorem dX1_noteBest_51 : decode cX1_noteBest 51 = .ok (.dup, 1) := by decide +kernel
theorem dX1_noteBest_52 : decode cX1_noteBest 52 = .ok (.getfield 48, 3) := by decide +kernel
theorem dX1_noteBest_55 : decode cX1_noteBest 55 = .ok (.iconst 1, 1) := by decide +kernel
theorem dX1_noteBest_56 : decode cX1_noteBest 56 = .ok (.iadd, 1) := by decide +kernel
theorem dX1_noteBest_57 : decode cX1_noteBest 57 = .ok (.putfield 48, 3) := by decide +kernel
theorem dX1_noteBest_60 : decode cX1_noteBest 60 = .ok (.aload_n 0, 1) := by decide +kernel
theorem dX1_noteBest_61 : decode cX1_noteBest 61 = .ok (.dup, 1) := by decide +kernel
theorem dX1_noteBest_62 : decode cX1_noteBest 62 = .ok (.getfield 51, 3) := by decide +kernel
theorem dX1_noteBest_65 : decode cX1_noteBest 65 = .ok (.aload_n 0, 1) := by decide +kernel
theorem dX1_noteBest_66 : decode cX1_noteBest 66 = .ok (.getfield 21, 3) := by decide +kernel
theorem dX1_noteBest_69 : decode cX1_noteBest 69 = .ok (.getfield 83, 3) := by decide +kernel
theorem dX1_noteBest_72 : decode cX1_noteBest 72 = .ok (.iadd, 1) := by decide +kernel
theorem dX1_noteBest_73 : decode cX1_noteBest 73 = .ok (.putfield 51, 3) := by decide +kernel
theorem dX1_noteBest_76 : decode cX1_noteBest 76 = .ok (.aload_n 0, 1) := by decide +kernel
theorem dX1_noteBest_77 : decode cX1_noteBest 77 = .ok (.dup, 1) := by decide +kernel
theorem dX1_noteBest_78 : decode cX1_noteBest 78 = .ok (.getfield 54, 3) := by decide +kernel
theorem dX1_noteBest_81 : decode cX1_noteBest 81 = .ok (.iload_n 2, 1) := by decide +kernel
theorem dX1_noteBest_82 : decode cX1_noteBest 82 = .ok (.ior, 1) := by decide +kernel
theorem dX1_noteBest_83 : decode cX1_noteBest 83 = .ok (.putfield 54, 3) := by decide +kernel
theorem dX1_noteBest_86 : decode cX1_noteBest 86 = .ok (.aload_n 0, 1) := by decide +kernel
theorem dX1_noteBest_87 : decode cX1_noteBest 87 = .ok (.dup, 1) := by decide +kernel
theorem dX1_noteBest_88 : decode cX1_noteBest 88 = .ok (.getfield 57, 3) := by decide +kernel
theorem dX1_noteBest_91 : decode cX1_noteBest 91 = .ok (.aload_n 0, 1) := by decide +kernel
theorem dX1_noteBest_92 : decode cX1_noteBest 92 = .ok (.getfield 21, 3) := by decide +kernel
theorem dX1_noteBest_95 : decode cX1_noteBest 95 = .ok (.getfield 86, 3) := by decide +kernel
theorem dX1_noteBest_98 : decode cX1_noteBest 98 = .ok (.aload_n 0, 1) := by decide +kernel
theorem dX1_noteBest_99 : decode cX1_noteBest 99 = .ok (.getfield 21, 3) := by decide +kernel
theorem dX1_noteBest_102 : decode cX1_noteBest 102 = .ok (.getfield 89, 3) := by decide +kernel
theorem dX1_noteBest_105 : decode cX1_noteBest 105 = .ok (.isub, 1) := by decide +kernel
theorem dX1_noteBest_106 : decode cX1_noteBest 106 = .ok (.iadd, 1) := by decide +kernel
theorem dX1_noteBest_107 : decode cX1_noteBest 107 = .ok (.putfield 57, 3) := by decide +kernel
theorem dX1_noteBest_110 : decode cX1_noteBest 110 = .ok (.iconst 0, 1) := by decide +kernel
theorem dX1_noteBest_111 : decode cX1_noteBest 111 = .ok (.istore_n 3, 1) := by decide +kernel
theorem dX1_noteBest_112 : decode cX1_noteBest 112 = .ok (.iload_n 3, 1) := by decide +kernel
theorem dX1_noteBest_113 : decode cX1_noteBest 113 = .ok (.aload_n 0, 1) := by decide +kernel
theorem dX1_noteBest_114 : decode cX1_noteBest 114 = .ok (.getfield 25, 3) := by decide +kernel
theorem dX1_noteBest_117 : decode cX1_noteBest 117 = .ok (.getfield 38, 3) := by decide +kernel
theorem dX1_noteBest_120 : decode cX1_noteBest 120 = .ok (.if_icmp .ge 39, 3) := by decide +kernel
theorem dX1_noteBest_123 : decode cX1_noteBest 123 = .ok (.iload_n 2, 1) := by decide +kernel
theorem dX1_noteBest_124 : decode cX1_noteBest 124 = .ok (.iload_n 3, 1) := by decide +kernel
theorem dX1_noteBest_125 : decode cX1_noteBest 125 = .ok (.ishr, 1) := by decide +kernel
theorem dX1_noteBest_126 : decode cX1_noteBest 126 = .ok (.iconst 1, 1) := by decide +kernel
theorem dX1_noteBest_127 : decode cX1_noteBest 127 = .ok (.iand, 1) := by decide +kernel
theorem dX1_noteBest_128 : decode cX1_noteBest 128 = .ok (.iconst 1, 1) := by decide +kernel
theorem dX1_noteBest_129 : decode cX1_noteBest 129 = .ok (.if_icmp .ne 24, 3) := by decide +kernel
theorem dX1_noteBest_132 : decode cX1_noteBest 132 = .ok (.aload_n 0, 1) := by decide +kernel
theorem dX1_noteBest_133 : decode cX1_noteBest 133 = .ok (.aload_n 0, 1) := by decide +kernel
theorem dX1_noteBest_134 : decode cX1_noteBest 134 = .ok (.getfield 60, 3) := by decide +kernel
theorem dX1_noteBest_137 : decode cX1_noteBest 137 = .ok (.iload_n 1, 1) := by decide +kernel
theorem dX1_noteBest_138 : decode cX1_noteBest 138 = .ok (.aload_n 0, 1) := by decide +kernel
theorem dX1_noteBest_139 : decode cX1_noteBest 139 = .ok (.getfield 9, 3) := by decide +kernel
theorem dX1_noteBest_142 : decode cX1_noteBest 142 = .ok (.iload_n 3, 1) := by decide +kernel
theorem dX1_noteBest_143 : decode cX1_noteBest 143 = .ok (.iaload, 1) := by decide +kernel
theorem dX1_noteBest_144 : decode cX1_noteBest 144 = .ok (.invokestatic 92, 3) := by decide +kernel
theorem dX1_noteBest_147 : decode cX1_noteBest 147 = .ok (.invokestatic 96, 3) := by decide +kernel
theorem dX1_noteBest_150 : decode cX1_noteBest 150 = .ok (.putfield 60, 3) := by decide +kernel
theorem dX1_noteBest_153 : decode cX1_noteBest 153 = .ok (.iinc 3 1, 3) := by decide +kernel
theorem dX1_noteBest_156 : decode cX1_noteBest 156 = .ok (.goto (-44), 3) := by decide +kernel
theorem dX1_noteBest_159 : decode cX1_noteBest 159 = .ok (.return_, 1) := by decide +kernel
theorem dX1_longestLeft_0 : decode cX1_longestLeft 0 = .ok (.iconst 0, 1) := by decide +kernel
theorem dX1_longestLeft_1 : decode cX1_longestLeft 1 = .ok (.istore_n 2, 1) := by decide +kernel
theorem dX1_longestLeft_2 : decode cX1_longestLeft 2 = .ok (.iconst 0, 1) := by decide +kernel
theorem dX1_longestLeft_3 : decode cX1_longestLeft 3 = .ok (.istore_n 3, 1) := by decide +kernel
theorem dX1_longestLeft_4 : decode cX1_longestLeft 4 = .ok (.iload_n 3, 1) := by decide +kernel
theorem dX1_longestLeft_5 : decode cX1_longestLeft 5 = .ok (.aload_n 0, 1) := by decide +kernel
theorem dX1_longestLeft_6 : decode cX1_longestLeft 6 = .ok (.getfield 25, 3) := by decide +kernel
theorem dX1_longestLeft_9 : decode cX1_longestLeft 9 = .ok (.getfield 38, 3) := by decide +kernel
theorem dX1_longestLeft_12 : decode cX1_longestLeft 12 = .ok (.if_icmp .ge 35, 3) := by decide +kernel
theorem dX1_longestLeft_15 : decode cX1_longestLeft 15 = .ok (.aload_n 0, 1) := by decide +kernel
theorem dX1_longestLeft_16 : decode cX1_longestLeft 16 = .ok (.getfield 54, 3) := by decide +kernel
theorem dX1_longestLeft_19 : decode cX1_longestLeft 19 = .ok (.iload_n 3, 1) := by decide +kernel
theorem dX1_longestLeft_20 : decode cX1_longestLeft 20 = .ok (.ishr, 1) := by decide +kernel
theorem dX1_longestLeft_21 : decode cX1_longestLeft 21 = .ok (.iconst 1, 1) := by decide +kernel
theorem dX1_longestLeft_22 : decode cX1_longestLeft 22 = .ok (.iand, 1) := by decide +kernel
theorem dX1_longestLeft_23 : decode cX1_longestLeft 23 = .ok (.ifCond .ne 18, 3) := by decide +kernel
theorem dX1_longestLeft_26 : decode cX1_longestLeft 26 = .ok (.iload_n 2, 1) := by decide +kernel
theorem dX1_longestLeft_27 : decode cX1_longestLeft 27 = .ok (.iload_n 1, 1) := by decide +kernel
theorem dX1_longestLeft_28 : decode cX1_longestLeft 28 = .ok (.aload_n 0, 1) := by decide +kernel
theorem dX1_longestLeft_29 : decode cX1_longestLeft 29 = .ok (.getfield 9, 3) := by decide +kernel
theorem dX1_longestLeft_32 : decode cX1_longestLeft 32 = .ok (.iload_n 3, 1) := by decide +kernel
theorem dX1_longestLeft_33 : decode cX1_longestLeft 33 = .ok (.iaload, 1) := by decide +kernel
theorem dX1_longestLeft_34 : decode cX1_longestLeft 34 = .ok (.invokestatic 92, 3) := by decide +kernel
theorem dX1_longestLeft_37 : decode cX1_longestLeft 37 = .ok (.invokestatic 96, 3) := by decide +kernel
theorem dX1_longestLeft_40 : decode cX1_longestLeft 40 = .ok (.istore_n 2, 1) := by decide +kernel
theorem dX1_longestLeft_41 : decode cX1_longestLeft 41 = .ok (.iinc 3 1, 3) := by decide +kernel
theorem dX1_longestLeft_44 : decode cX1_longestLeft 44 = .ok (.goto (-40), 3) := by decide +kernel
theorem dX1_longestLeft_47 : decode cX1_longestLeft 47 = .ok (.iload_n 2, 1) := by decide +kernel
theorem dX1_longestLeft_48 : decode cX1_longestLeft 48 = .ok (.ireturn, 1) := by decide +kernel
theorem dX1_hourOf_0 : decode cX1_hourOf 0 = .ok (.iconst 0, 1) := by decide +kernel
theorem dX1_hourOf_1 : decode cX1_hourOf 1 = .ok (.istore_n 2, 1) := by decide +kernel
theorem dX1_hourOf_2 : decode cX1_hourOf 2 = .ok (.iload_n 2, 1) := by decide +kernel
theorem dX1_hourOf_3 : decode cX1_hourOf 3 = .ok (.aload_n 0, 1) := by decide +kernel
theorem dX1_hourOf_4 : decode cX1_hourOf 4 = .ok (.getfield 48, 3) := by decide +kernel
theorem dX1_hourOf_7 : decode cX1_hourOf 7 = .ok (.if_icmp .ge 30, 3) := by decide +kernel
theorem dX1_hourOf_10 : decode cX1_hourOf 10 = .ok (.aload_n 0, 1) := by decide +kernel
theorem dX1_hourOf_11 : decode cX1_hourOf 11 = .ok (.getfield 18, 3) := by decide +kernel
theorem dX1_hourOf_14 : decode cX1_hourOf 14 = .ok (.iload_n 2, 1) := by decide +kernel
theorem dX1_hourOf_15 : decode cX1_hourOf 15 = .ok (.iaload, 1) := by decide +kernel
theorem dX1_hourOf_16 : decode cX1_hourOf 16 = .ok (.iload_n 1, 1) := by decide +kernel
theorem dX1_hourOf_17 : decode cX1_hourOf 17 = .ok (.ishr, 1) := by decide +kernel
theorem dX1_hourOf_18 : decode cX1_hourOf 18 = .ok (.iconst 1, 1) := by decide +kernel
theorem dX1_hourOf_19 : decode cX1_hourOf 19 = .ok (.iand, 1) := by decide +kernel
theorem dX1_hourOf_20 : decode cX1_hourOf 20 = .ok (.iconst 1, 1) := by decide +kernel
theorem dX1_hourOf_21 : decode cX1_hourOf 21 = .ok (.if_icmp .ne 10, 3) := by decide +kernel
theorem dX1_hourOf_24 : decode cX1_hourOf 24 = .ok (.aload_n 0, 1) := by decide +kernel
theorem dX1_hourOf_25 : decode cX1_hourOf 25 = .ok (.getfield 15, 3) := by decide +kernel
theorem dX1_hourOf_28 : decode cX1_hourOf 28 = .ok (.iload_n 2, 1) := by decide +kernel
theorem dX1_hourOf_29 : decode cX1_hourOf 29 = .ok (.iaload, 1) := by decide +kernel
theorem dX1_hourOf_30 : decode cX1_hourOf 30 = .ok (.ireturn, 1) := by decide +kernel
theorem dX1_hourOf_31 : decode cX1_hourOf 31 = .ok (.iinc 2 1, 3) := by decide +kernel
theorem dX1_hourOf_34 : decode cX1_hourOf 34 = .ok (.goto (-32), 3) := by decide +kernel
theorem dX1_hourOf_37 : decode cX1_hourOf 37 = .ok (.iconst (-1), 1) := by decide +kernel
theorem dX1_hourOf_38 : decode cX1_hourOf 38 = .ok (.ireturn, 1) := by decide +kernel
theorem dX1_setAt_0 : decode cX1_setAt 0 = .ok (.iconst 0, 1) := by decide +kernel
theorem dX1_setAt_1 : decode cX1_setAt 1 = .ok (.istore_n 2, 1) := by decide +kernel
theorem dX1_setAt_2 : decode cX1_setAt 2 = .ok (.iload_n 2, 1) := by decide +kernel
theorem dX1_setAt_3 : decode cX1_setAt 3 = .ok (.aload_n 0, 1) := by decide +kernel
theorem dX1_setAt_4 : decode cX1_setAt 4 = .ok (.getfield 48, 3) := by decide +kernel
theorem dX1_setAt_7 : decode cX1_setAt 7 = .ok (.if_icmp .ge 26, 3) := by decide +kernel
theorem dX1_setAt_10 : decode cX1_setAt 10 = .ok (.aload_n 0, 1) := by decide +kernel
theorem dX1_setAt_11 : decode cX1_setAt 11 = .ok (.getfield 15, 3) := by decide +kernel
theorem dX1_setAt_14 : decode cX1_setAt 14 = .ok (.iload_n 2, 1) := by decide +kernel
theorem dX1_setAt_15 : decode cX1_setAt 15 = .ok (.iaload, 1) := by decide +kernel
theorem dX1_setAt_16 : decode cX1_setAt 16 = .ok (.iload_n 1, 1) := by decide +kernel
theorem dX1_setAt_17 : decode cX1_setAt 17 = .ok (.if_icmp .ne 10, 3) := by decide +kernel
theorem dX1_setAt_20 : decode cX1_setAt 20 = .ok (.aload_n 0, 1) := by decide +kernel
theorem dX1_setAt_21 : decode cX1_setAt 21 = .ok (.getfield 18, 3) := by decide +kernel
theorem dX1_setAt_24 : decode cX1_setAt 24 = .ok (.iload_n 2, 1) := by decide +kernel
theorem dX1_setAt_25 : decode cX1_setAt 25 = .ok (.iaload, 1) := by decide +kernel
theorem dX1_setAt_26 : decode cX1_setAt 26 = .ok (.ireturn, 1) := by decide +kernel
theorem dX1_setAt_27 : decode cX1_setAt 27 = .ok (.iinc 2 1, 3) := by decide +kernel
theorem dX1_setAt_30 : decode cX1_setAt 30 = .ok (.goto (-28), 3) := by decide +kernel
theorem dX1_setAt_33 : decode cX1_setAt 33 = .ok (.iconst 0, 1) := by decide +kernel
theorem dX1_setAt_34 : decode cX1_setAt 34 = .ok (.ireturn, 1) := by decide +kernel
theorem dX1_isToldBy_0 : decode cX1_isToldBy 0 = .ok (.aload_n 1, 1) := by decide +kernel
theorem dX1_isToldBy_1 : decode cX1_isToldBy 1 = .ok (.getfield 101, 3) := by decide +kernel
theorem dX1_isToldBy_4 : decode cX1_isToldBy 4 = .ok (.iconst 2, 1) := by decide +kernel
theorem dX1_isToldBy_5 : decode cX1_isToldBy 5 = .ok (.aload_n 0, 1) := by decide +kernel
theorem dX1_isToldBy_6 : decode cX1_isToldBy 6 = .ok (.getfield 48, 3) := by decide +kernel
theorem dX1_isToldBy_9 : decode cX1_isToldBy 9 = .ok (.imul, 1) := by decide +kernel
theorem dX1_isToldBy_10 : decode cX1_isToldBy 10 = .ok (.if_icmp .eq 5, 3) := by decide +kernel
theorem dX1_isToldBy_13 : decode cX1_isToldBy 13 = .ok (.iconst 0, 1) := by decide +kernel
theorem dX1_isToldBy_14 : decode cX1_isToldBy 14 = .ok (.ireturn, 1) := by decide +kernel
theorem dX1_isToldBy_15 : decode cX1_isToldBy 15 = .ok (.iconst 0, 1) := by decide +kernel
theorem dX1_isToldBy_16 : decode cX1_isToldBy 16 = .ok (.istore_n 2, 1) := by decide +kernel
theorem dX1_isToldBy_17 : decode cX1_isToldBy 17 = .ok (.iload_n 2, 1) := by decide +kernel
theorem dX1_isToldBy_18 : decode cX1_isToldBy 18 = .ok (.aload_n 0, 1) := by decide +kernel
theorem dX1_isToldBy_19 : decode cX1_isToldBy 19 = .ok (.getfield 48, 3) := by decide +kernel
theorem dX1_isToldBy_22 : decode cX1_isToldBy 22 = .ok (.if_icmp .ge 47, 3) := by decide +kernel
theorem dX1_isToldBy_25 : decode cX1_isToldBy 25 = .ok (.aload_n 1, 1) := by decide +kernel
theorem dX1_isToldBy_26 : decode cX1_isToldBy 26 = .ok (.getfield 104, 3) := by decide +kernel
theorem dX1_isToldBy_29 : decode cX1_isToldBy 29 = .ok (.iconst 2, 1) := by decide +kernel
theorem dX1_isToldBy_30 : decode cX1_isToldBy 30 = .ok (.iload_n 2, 1) := by decide +kernel
theorem dX1_isToldBy_31 : decode cX1_isToldBy 31 = .ok (.imul, 1) := by decide +kernel
theorem dX1_isToldBy_32 : decode cX1_isToldBy 32 = .ok (.iaload, 1) := by decide +kernel
theorem dX1_isToldBy_33 : decode cX1_isToldBy 33 = .ok (.aload_n 0, 1) := by decide +kernel
theorem dX1_isToldBy_34 : decode cX1_isToldBy 34 = .ok (.getfield 15, 3) := by decide +kernel
theorem dX1_isToldBy_37 : decode cX1_isToldBy 37 = .ok (.iload_n 2, 1) := by decide +kernel
theorem dX1_isToldBy_38 : decode cX1_isToldBy 38 = .ok (.iaload, 1) := by decide +kernel
theorem dX1_isToldBy_39 : decode cX1_isToldBy 39 = .ok (.if_icmp .ne 22, 3) := by decide +kernel
theorem dX1_isToldBy_42 : decode cX1_isToldBy 42 = .ok (.aload_n 1, 1) := by decide +kernel
theorem dX1_isToldBy_43 : decode cX1_isToldBy 43 = .ok (.getfield 104, 3) := by decide +kernel
theorem dX1_isToldBy_46 : decode cX1_isToldBy 46 = .ok (.iconst 2, 1) := by decide +kernel
theorem dX1_isToldBy_47 : decode cX1_isToldBy 47 = .ok (.iload_n 2, 1) := by decide +kernel
theorem dX1_isToldBy_48 : decode cX1_isToldBy 48 = .ok (.imul, 1) := by decide +kernel
theorem dX1_isToldBy_49 : decode cX1_isToldBy 49 = .ok (.iconst 1, 1) := by decide +kernel
theorem dX1_isToldBy_50 : decode cX1_isToldBy 50 = .ok (.iadd, 1) := by decide +kernel
theorem dX1_isToldBy_51 : decode cX1_isToldBy 51 = .ok (.iaload, 1) := by decide +kernel
theorem dX1_isToldBy_52 : decode cX1_isToldBy 52 = .ok (.aload_n 0, 1) := by decide +kernel
theorem dX1_isToldBy_53 : decode cX1_isToldBy 53 = .ok (.getfield 18, 3) := by decide +kernel
theorem dX1_isToldBy_56 : decode cX1_isToldBy 56 = .ok (.iload_n 2, 1) := by decide +kernel
theorem dX1_isToldBy_57 : decode cX1_isToldBy 57 = .ok (.iaload, 1) := by decide +kernel
theorem dX1_isToldBy_58 : decode cX1_isToldBy 58 = .ok (.if_icmp .eq 5, 3) := by decide +kernel
theorem dX1_isToldBy_61 : decode cX1_isToldBy 61 = .ok (.iconst 0, 1) := by decide +kernel
theorem dX1_isToldBy_62 : decode cX1_isToldBy 62 = .ok (.ireturn, 1) := by decide +kernel
theorem dX1_isToldBy_63 : decode cX1_isToldBy 63 = .ok (.iinc 2 1, 3) := by decide +kernel
theorem dX1_isToldBy_66 : decode cX1_isToldBy 66 = .ok (.goto (-49), 3) := by decide +kernel
theorem dX1_isToldBy_69 : decode cX1_isToldBy 69 = .ok (.iconst 1, 1) := by decide +kernel
theorem dX1_isToldBy_70 : decode cX1_isToldBy 70 = .ok (.ireturn, 1) := by decide +kernel
theorem dX2_init_0 : decode cX2_init 0 = .ok (.aload_n 0, 1) := by decide +kernel
theorem dX2_init_1 : decode cX2_init 1 = .ok (.invokespecial 3, 3) := by decide +kernel
theorem dX2_init_4 : decode cX2_init 4 = .ok (.aload_n 0, 1) := by decide +kernel
theorem dX2_init_5 : decode cX2_init 5 = .ok (.iconst 3, 1) := by decide +kernel
theorem dX2_init_6 : decode cX2_init 6 = .ok (.newarray .int, 2) := by decide +kernel
theorem dX2_init_8 : decode cX2_init 8 = .ok (.putfield 9, 3) := by decide +kernel
theorem dX2_init_11 : decode cX2_init 11 = .ok (.aload_n 0, 1) := by decide +kernel
theorem dX2_init_12 : decode cX2_init 12 = .ok (.iconst 5, 1) := by decide +kernel
theorem dX2_init_13 : decode cX2_init 13 = .ok (.newarray .int, 2) := by decide +kernel
theorem dX2_init_15 : decode cX2_init 15 = .ok (.putfield 15, 3) := by decide +kernel
theorem dX2_init_18 : decode cX2_init 18 = .ok (.aload_n 0, 1) := by decide +kernel
theorem dX2_init_19 : decode cX2_init 19 = .ok (.bipush 10, 2) := by decide +kernel
theorem dX2_init_21 : decode cX2_init 21 = .ok (.newarray .int, 2) := by decide +kernel
theorem dX2_init_23 : decode cX2_init 23 = .ok (.putfield 18, 3) := by decide +kernel
theorem dX2_init_26 : decode cX2_init 26 = .ok (.aload_n 0, 1) := by decide +kernel
theorem dX2_init_27 : decode cX2_init 27 = .ok (.bipush 10, 2) := by decide +kernel
theorem dX2_init_29 : decode cX2_init 29 = .ok (.newarray .int, 2) := by decide +kernel
theorem dX2_init_31 : decode cX2_init 31 = .ok (.putfield 21, 3) := by decide +kernel
theorem dX2_init_34 : decode cX2_init 34 = .ok (.return_, 1) := by decide +kernel
theorem dX2_keep_0 : decode cX2_keep 0 = .ok (.aload_n 0, 1) := by decide +kernel
theorem dX2_keep_1 : decode cX2_keep 1 = .ok (.iconst 1, 1) := by decide +kernel
theorem dX2_keep_2 : decode cX2_keep 2 = .ok (.putfield 24, 3) := by decide +kernel
theorem dX2_keep_5 : decode cX2_keep 5 = .ok (.aload_n 0, 1) := by decide +kernel
theorem dX2_keep_6 : decode cX2_keep 6 = .ok (.iload_n 3, 1) := by decide +kernel
theorem dX2_keep_7 : decode cX2_keep 7 = .ok (.putfield 28, 3) := by decide +kernel
theorem dX2_keep_10 : decode cX2_keep 10 = .ok (.aload_n 1, 1) := by decide +kernel
theorem dX2_keep_11 : decode cX2_keep 11 = .ok (.getfield 32, 3) := by decide +kernel
theorem dX2_keep_14 : decode cX2_keep 14 = .ok (.iconst 0, 1) := by decide +kernel
theorem dX2_keep_15 : decode cX2_keep 15 = .ok (.aload_n 0, 1) := by decide +kernel
theorem dX2_keep_16 : decode cX2_keep 16 = .ok (.getfield 9, 3) := by decide +kernel
theorem dX2_keep_19 : decode cX2_keep 19 = .ok (.iconst 0, 1) := by decide +kernel
theorem dX2_keep_20 : decode cX2_keep 20 = .ok (.iconst 3, 1) := by decide +kernel
theorem dX2_keep_21 : decode cX2_keep 21 = .ok (.invokestatic 35, 3) := by decide +kernel
theorem dX2_keep_24 : decode cX2_keep 24 = .ok (.aload_n 1, 1) := by decide +kernel
theorem dX2_keep_25 : decode cX2_keep 25 = .ok (.getfield 41, 3) := by decide +kernel
theorem dX2_keep_28 : decode cX2_keep 28 = .ok (.iconst 0, 1) := by decide +kernel
theorem dX2_keep_29 : decode cX2_keep 29 = .ok (.aload_n 0, 1) := by decide +kernel
theorem dX2_keep_30 : decode cX2_keep 30 = .ok (.getfield 15, 3) := by decide +kernel
theorem dX2_keep_33 : decode cX2_keep 33 = .ok (.iconst 0, 1) := by decide +kernel
theorem dX2_keep_34 : decode cX2_keep 34 = .ok (.iconst 5, 1) := by decide +kernel
theorem dX2_keep_35 : decode cX2_keep 35 = .ok (.invokestatic 35, 3) := by decide +kernel
theorem dX2_keep_38 : decode cX2_keep 38 = .ok (.aload_n 0, 1) := by decide +kernel
theorem dX2_keep_39 : decode cX2_keep 39 = .ok (.aload_n 1, 1) := by decide +kernel
theorem dX2_keep_40 : decode cX2_keep 40 = .ok (.getfield 42, 3) := by decide +kernel
theorem dX2_keep_43 : decode cX2_keep 43 = .ok (.putfield 45, 3) := by decide +kernel
theorem dX2_keep_46 : decode cX2_keep 46 = .ok (.aload_n 2, 1) := by decide +kernel
theorem dX2_keep_47 : decode cX2_keep 47 = .ok (.getfield 46, 3) := by decide +kernel
theorem dX2_keep_50 : decode cX2_keep 50 = .ok (.iconst 0, 1) := by decide +kernel
theorem dX2_keep_51 : decode cX2_keep 51 = .ok (.aload_n 0, 1) := by decide +kernel
theorem dX2_keep_52 : decode cX2_keep 52 = .ok (.getfield 18, 3) := by decide +kernel
theorem dX2_keep_55 : decode cX2_keep 55 = .ok (.iconst 0, 1) := by decide +kernel
theorem dX2_keep_56 : decode cX2_keep 56 = .ok (.bipush 10, 2) := by decide +kernel
theorem dX2_keep_58 : decode cX2_keep 58 = .ok (.invokestatic 35, 3) := by decide +kernel
theorem dX2_keep_61 : decode cX2_keep 61 = .ok (.iconst 0, 1) := by decide +kernel
theorem dX2_keep_62 : decode cX2_keep 62 = .ok (.istore 4, 2) := by decide +kernel
theorem dX2_keep_64 : decode cX2_keep 64 = .ok (.iload 4, 2) := by decide +kernel
theorem dX2_keep_66 : decode cX2_keep 66 = .ok (.bipush 10, 2) := by decide +kernel
theorem dX2_keep_68 : decode cX2_keep 68 = .ok (.if_icmp .ge 26, 3) := by decide +kernel
theorem dX2_keep_71 : decode cX2_keep 71 = .ok (.aload_n 0, 1) := by decide +kernel
theorem dX2_keep_72 : decode cX2_keep 72 = .ok (.getfield 21, 3) := by decide +kernel
theorem dX2_keep_75 : decode cX2_keep 75 = .ok (.iload 4, 2) := by decide +kernel
theorem dX2_keep_77 : decode cX2_keep 77 = .ok (.aload_n 2, 1) := by decide +kernel
theorem dX2_keep_78 : decode cX2_keep 78 = .ok (.getfield 49, 3) := by decide +kernel
theorem dX2_keep_81 : decode cX2_keep 81 = .ok (.iload 4, 2) := by decide +kernel
theorem dX2_keep_83 : decode cX2_keep 83 = .ok (.aaload, 1) := by decide +kernel
theorem dX2_keep_84 : decode cX2_keep 84 = .ok (.getfield 53, 3) := by decide +kernel
theorem dX2_keep_87 : decode cX2_keep 87 = .ok (.iastore, 1) := by decide +kernel
theorem dX2_keep_88 : decode cX2_keep 88 = .ok (.iinc 4 1, 3) := by decide +kernel
theorem dX2_keep_91 : decode cX2_keep 91 = .ok (.goto (-27), 3) := by decide +kernel
theorem dX2_keep_94 : decode cX2_keep 94 = .ok (.aload_n 0, 1) := by decide +kernel
theorem dX2_keep_95 : decode cX2_keep 95 = .ok (.aload_n 2, 1) := by decide +kernel
theorem dX2_keep_96 : decode cX2_keep 96 = .ok (.getfield 57, 3) := by decide +kernel
theorem dX2_keep_99 : decode cX2_keep 99 = .ok (.putfield 60, 3) := by decide +kernel
theorem dX2_keep_102 : decode cX2_keep 102 = .ok (.return_, 1) := by decide +kernel
theorem dX2_giveBack_0 : decode cX2_giveBack 0 = .ok (.aload_n 0, 1) := by decide +kernel
theorem dX2_giveBack_1 : decode cX2_giveBack 1 = .ok (.getfield 9, 3) := by decide +kernel
theorem dX2_giveBack_4 : decode cX2_giveBack 4 = .ok (.iconst 0, 1) := by decide +kernel
theorem dX2_giveBack_5 : decode cX2_giveBack 5 = .ok (.aload_n 1, 1) := by decide +kernel
theorem dX2_giveBack_6 : decode cX2_giveBack 6 = .ok (.getfield 32, 3) := by decide +kernel
theorem dX2_giveBack_9 : decode cX2_giveBack 9 = .ok (.iconst 0, 1) := by decide +kernel
theorem dX2_giveBack_10 : decode cX2_giveBack 10 = .ok (.iconst 3, 1) := by decide +kernel
theorem dX2_giveBack_11 : decode cX2_giveBack 11 = .ok (.invokestatic 35, 3) := by decide +kernel
theorem dX2_giveBack_14 : decode cX2_giveBack 14 = .ok (.aload_n 0, 1) := by decide +kernel
theorem dX2_giveBack_15 : decode cX2_giveBack 15 = .ok (.getfield 15, 3) := by decide +kernel
theorem dX2_giveBack_18 : decode cX2_giveBack 18 = .ok (.iconst 0, 1) := by decide +kernel
theorem dX2_giveBack_19 : decode cX2_giveBack 19 = .ok (.aload_n 1, 1) := by decide +kernel
theorem dX2_giveBack_20 : decode cX2_giveBack 20 = .ok (.getfield 41, 3) := by decide +kernel
theorem dX2_giveBack_23 : decode cX2_giveBack 23 = .ok (.iconst 0, 1) := by decide +kernel
theorem dX2_giveBack_24 : decode cX2_giveBack 24 = .ok (.iconst 5, 1) := by decide +kernel
theorem dX2_giveBack_25 : decode cX2_giveBack 25 = .ok (.invokestatic 35, 3) := by decide +kernel
theorem dX2_giveBack_28 : decode cX2_giveBack 28 = .ok (.aload_n 1, 1) := by decide +kernel
theorem dX2_giveBack_29 : decode cX2_giveBack 29 = .ok (.aload_n 0, 1) := by decide +kernel
theorem dX2_giveBack_30 : decode cX2_giveBack 30 = .ok (.getfield 45, 3) := by decide +kernel
theorem dX2_giveBack_33 : decode cX2_giveBack 33 = .ok (.putfield 42, 3) := by decide +kernel
theorem dX2_giveBack_36 : decode cX2_giveBack 36 = .ok (.aload_n 1, 1) := by decide +kernel
theorem dX2_giveBack_37 : decode cX2_giveBack 37 = .ok (.invokevirtual 63, 3) := by decide +kernel
theorem dX2_giveBack_40 : decode cX2_giveBack 40 = .ok (.aload_n 0, 1) := by decide +kernel
theorem dX2_giveBack_41 : decode cX2_giveBack 41 = .ok (.getfield 18, 3) := by decide +kernel
theorem dX2_giveBack_44 : decode cX2_giveBack 44 = .ok (.iconst 0, 1) := by decide +kernel
theorem dX2_giveBack_45 : decode cX2_giveBack 45 = .ok (.aload_n 2, 1) := by decide +kernel
theorem dX2_giveBack_46 : decode cX2_giveBack 46 = .ok (.getfield 46, 3) := by decide +kernel
theorem dX2_giveBack_49 : decode cX2_giveBack 49 = .ok (.iconst 0, 1) := by decide +kernel
theorem dX2_giveBack_50 : decode cX2_giveBack 50 = .ok (.bipush 10, 2) := by decide +kernel
theorem dX2_giveBack_52 : decode cX2_giveBack 52 = .ok (.invokestatic 35, 3) := by decide +kernel
theorem dX2_giveBack_55 : decode cX2_giveBack 55 = .ok (.iconst 0, 1) := by decide +kernel
theorem dX2_giveBack_56 : decode cX2_giveBack 56 = .ok (.istore_n 3, 1) := by decide +kernel
theorem dX2_giveBack_57 : decode cX2_giveBack 57 = .ok (.iload_n 3, 1) := by decide +kernel
theorem dX2_giveBack_58 : decode cX2_giveBack 58 = .ok (.bipush 10, 2) := by decide +kernel
theorem dX2_giveBack_60 : decode cX2_giveBack 60 = .ok (.if_icmp .ge 24, 3) := by decide +kernel
theorem dX2_giveBack_63 : decode cX2_giveBack 63 = .ok (.aload_n 2, 1) := by decide +kernel
theorem dX2_giveBack_64 : decode cX2_giveBack 64 = .ok (.getfield 49, 3) := by decide +kernel
theorem dX2_giveBack_67 : decode cX2_giveBack 67 = .ok (.iload_n 3, 1) := by decide +kernel
theorem dX2_giveBack_68 : decode cX2_giveBack 68 = .ok (.aaload, 1) := by decide +kernel
theorem dX2_giveBack_69 : decode cX2_giveBack 69 = .ok (.aload_n 0, 1) := by decide +kernel
theorem dX2_giveBack_70 : decode cX2_giveBack 70 = .ok (.getfield 21, 3) := by decide +kernel
theorem dX2_giveBack_73 : decode cX2_giveBack 73 = .ok (.iload_n 3, 1) := by decide +kernel
theorem dX2_giveBack_74 : decode cX2_giveBack 74 = .ok (.iaload, 1) := by decide +kernel
theorem dX2_giveBack_75 : decode cX2_giveBack 75 = .ok (.putfield 53, 3) := by decide +kernel
theorem dX2_giveBack_78 : decode cX2_giveBack 78 = .ok (.iinc 3 1, 3) := by decide +kernel
theorem dX2_giveBack_81 : decode cX2_giveBack 81 = .ok (.goto (-24), 3) := by decide +kernel
theorem dX2_giveBack_84 : decode cX2_giveBack 84 = .ok (.aload_n 2, 1) := by decide +kernel
theorem dX2_giveBack_85 : decode cX2_giveBack 85 = .ok (.aload_n 0, 1) := by decide +kernel
theorem dX2_giveBack_86 : decode cX2_giveBack 86 = .ok (.getfield 60, 3) := by decide +kernel
theorem dX2_giveBack_89 : decode cX2_giveBack 89 = .ok (.putfield 57, 3) := by decide +kernel
theorem dX2_giveBack_92 : decode cX2_giveBack 92 = .ok (.return_, 1) := by decide +kernel
theorem dX3_init_0 : decode cX3_init 0 = .ok (.aload_n 0, 1) := by decide +kernel
theorem dX3_init_1 : decode cX3_init 1 = .ok (.invokespecial 3, 3) := by decide +kernel
theorem dX3_init_4 : decode cX3_init 4 = .ok (.aload_n 0, 1) := by decide +kernel
theorem dX3_init_5 : decode cX3_init 5 = .ok (.bipush 100, 2) := by decide +kernel
theorem dX3_init_7 : decode cX3_init 7 = .ok (.newarray .int, 2) := by decide +kernel
theorem dX3_init_9 : decode cX3_init 9 = .ok (.putfield 9, 3) := by decide +kernel
theorem dX3_init_12 : decode cX3_init 12 = .ok (.aload_n 0, 1) := by decide +kernel
theorem dX3_init_13 : decode cX3_init 13 = .ok (.bipush 10, 2) := by decide +kernel
theorem dX3_init_15 : decode cX3_init 15 = .ok (.newarray .int, 2) := by decide +kernel
theorem dX3_init_17 : decode cX3_init 17 = .ok (.putfield 15, 3) := by decide +kernel
theorem dX3_init_20 : decode cX3_init 20 = .ok (.aload_n 0, 1) := by decide +kernel
theorem dX3_init_21 : decode cX3_init 21 = .ok (.aload_n 1, 1) := by decide +kernel
theorem dX3_init_22 : decode cX3_init 22 = .ok (.putfield 18, 3) := by decide +kernel
theorem dX3_init_25 : decode cX3_init 25 = .ok (.aload_n 0, 1) := by decide +kernel
theorem dX3_init_26 : decode cX3_init 26 = .ok (.aload_n 2, 1) := by decide +kernel
theorem dX3_init_27 : decode cX3_init 27 = .ok (.putfield 22, 3) := by decide +kernel
theorem dX3_init_30 : decode cX3_init 30 = .ok (.return_, 1) := by decide +kernel
theorem dX3_prepare_0 : decode cX3_prepare 0 = .ok (.aload_n 0, 1) := by decide +kernel
theorem dX3_prepare_1 : decode cX3_prepare 1 = .ok (.getfield 18, 3) := by decide +kernel
theorem dX3_prepare_4 : decode cX3_prepare 4 = .ok (.iload_n 1, 1) := by decide +kernel
theorem dX3_prepare_5 : decode cX3_prepare 5 = .ok (.aload_n 0, 1) := by decide +kernel
theorem dX3_prepare_6 : decode cX3_prepare 6 = .ok (.getfield 22, 3) := by decide +kernel
theorem dX3_prepare_9 : decode cX3_prepare 9 = .ok (.getfield 26, 3) := by decide +kernel
theorem dX3_prepare_12 : decode cX3_prepare 12 = .ok (.invokevirtual 31, 3) := by decide +kernel
theorem dX3_prepare_15 : decode cX3_prepare 15 = .ok (.iconst 0, 1) := by decide +kernel
theorem dX3_prepare_16 : decode cX3_prepare 16 = .ok (.istore_n 3, 1) := by decide +kernel
theorem dX3_prepare_17 : decode cX3_prepare 17 = .ok (.iload_n 3, 1) := by decide +kernel
theorem dX3_prepare_18 : decode cX3_prepare 18 = .ok (.aload_n 0, 1) := by decide +kernel
theorem dX3_prepare_19 : decode cX3_prepare 19 = .ok (.getfield 22, 3) := by decide +kernel
theorem dX3_prepare_22 : decode cX3_prepare 22 = .ok (.getfield 37, 3) := by decide +kernel
theorem dX3_prepare_25 : decode cX3_prepare 25 = .ok (.if_icmp .ge 50, 3) := by decide +kernel
theorem dX3_prepare_28 : decode cX3_prepare 28 = .ok (.iconst 0, 1) := by decide +kernel
theorem dX3_prepare_29 : decode cX3_prepare 29 = .ok (.istore 4, 2) := by decide +kernel
theorem dX3_prepare_31 : decode cX3_prepare 31 = .ok (.iload 4, 2) := by decide +kernel
theorem dX3_prepare_33 : decode cX3_prepare 33 = .ok (.aload_n 0, 1) := by decide +kernel
theorem dX3_prepare_34 : decode cX3_prepare 34 = .ok (.getfield 22, 3) := by decide +kernel
theorem dX3_prepare_37 : decode cX3_prepare 37 = .ok (.getfield 37, 3) := by decide +kernel
theorem dX3_prepare_40 : decode cX3_prepare 40 = .ok (.if_icmp .ge 29, 3) := by decide +kernel
theorem dX3_prepare_43 : decode cX3_prepare 43 = .ok (.aload_n 0, 1) := by decide +kernel
theorem dX3_prepare_44 : decode cX3_prepare 44 = .ok (.getfield 9, 3) := by decide +kernel
theorem dX3_prepare_47 : decode cX3_prepare 47 = .ok (.bipush 10, 2) := by decide +kernel
theorem dX3_prepare_49 : decode cX3_prepare 49 = .ok (.iload_n 3, 1) := by decide +kernel
theorem dX3_prepare_50 : decode cX3_prepare 50 = .ok (.imul, 1) := by decide +kernel
theorem dX3_prepare_51 : decode cX3_prepare 51 = .ok (.iload 4, 2) := by decide +kernel
theorem dX3_prepare_53 : decode cX3_prepare 53 = .ok (.iadd, 1) := by decide +kernel
theorem dX3_prepare_54 : decode cX3_prepare 54 = .ok (.aload_n 0, 1) := by decide +kernel
theorem dX3_prepare_55 : decode cX3_prepare 55 = .ok (.iload_n 3, 1) := by decide +kernel
theorem dX3_prepare_56 : decode cX3_prepare 56 = .ok (.iload 4, 2) := by decide +kernel
theorem dX3_prepare_58 : decode cX3_prepare 58 = .ok (.aload_n 2, 1) := by decide +kernel
theorem dX3_prepare_59 : decode cX3_prepare 59 = .ok (.invokevirtual 41, 3) := by decide +kernel
theorem dX3_prepare_62 : decode cX3_prepare 62 = .ok (.iastore, 1) := by decide +kernel
theorem dX3_prepare_63 : decode cX3_prepare 63 = .ok (.iinc 4 1, 3) := by decide +kernel
theorem dX3_prepare_66 : decode cX3_prepare 66 = .ok (.goto (-35), 3) := by decide +kernel
theorem dX3_prepare_69 : decode cX3_prepare 69 = .ok (.iinc 3 1, 3) := by decide +kernel
theorem dX3_prepare_72 : decode cX3_prepare 72 = .ok (.goto (-55), 3) := by decide +kernel
theorem dX3_prepare_75 : decode cX3_prepare 75 = .ok (.return_, 1) := by decide +kernel
theorem dX3_payOf_0 : decode cX3_payOf 0 = .ok (.aload_n 0, 1) := by decide +kernel
theorem dX3_payOf_1 : decode cX3_payOf 1 = .ok (.getfield 18, 3) := by decide +kernel
theorem dX3_payOf_4 : decode cX3_payOf 4 = .ok (.iload_n 1, 1) := by decide +kernel
theorem dX3_payOf_5 : decode cX3_payOf 5 = .ok (.invokevirtual 45, 3) := by decide +kernel
theorem dX3_payOf_8 : decode cX3_payOf 8 = .ok (.ifCond .eq 14, 3) := by decide +kernel
theorem dX3_payOf_11 : decode cX3_payOf 11 = .ok (.aload_n 0, 1) := by decide +kernel
theorem dX3_payOf_12 : decode cX3_payOf 12 = .ok (.getfield 18, 3) := by decide +kernel
theorem dX3_payOf_15 : decode cX3_payOf 15 = .ok (.iload_n 2, 1) := by decide +kernel
theorem dX3_payOf_16 : decode cX3_payOf 16 = .ok (.invokevirtual 45, 3) := by decide +kernel
theorem dX3_payOf_19 : decode cX3_payOf 19 = .ok (.ifCond .eq 7, 3) := by decide +kernel
theorem dX3_payOf_22 : decode cX3_payOf 22 = .ok (.sipush (-1000), 3) := by decide +kernel
theorem dX3_payOf_25 : decode cX3_payOf 25 = .ok (.ireturn, 1) := by decide +kernel
theorem dX3_payOf_26 : decode cX3_payOf 26 = .ok (.aload_n 0, 1) := by decide +kernel
theorem dX3_payOf_27 : decode cX3_payOf 27 = .ok (.getfield 18, 3) := by decide +kernel
theorem dX3_payOf_30 : decode cX3_payOf 30 = .ok (.iconst 1, 1) := by decide +kernel
theorem dX3_payOf_31 : decode cX3_payOf 31 = .ok (.iload_n 1, 1) := by decide +kernel
theorem dX3_payOf_32 : decode cX3_payOf 32 = .ok (.ishl, 1) := by decide +kernel
theorem dX3_payOf_33 : decode cX3_payOf 33 = .ok (.iconst 1, 1) := by decide +kernel
theorem dX3_payOf_34 : decode cX3_payOf 34 = .ok (.iload_n 2, 1) := by decide +kernel
theorem dX3_payOf_35 : decode cX3_payOf 35 = .ok (.ishl, 1) := by decide +kernel
theorem dX3_payOf_36 : decode cX3_payOf 36 = .ok (.ior, 1) := by decide +kernel
theorem dX3_payOf_37 : decode cX3_payOf 37 = .ok (.invokevirtual 49, 3) := by decide +kernel
theorem dX3_payOf_40 : decode cX3_payOf 40 = .ok (.aload_n 0, 1) := by decide +kernel
theorem dX3_payOf_41 : decode cX3_payOf 41 = .ok (.getfield 18, 3) := by decide +kernel
theorem dX3_payOf_44 : decode cX3_payOf 44 = .ok (.aload_n 3, 1) := by decide +kernel
theorem dX3_payOf_45 : decode cX3_payOf 45 = .ok (.invokevirtual 53, 3) := by decide +kernel
theorem dX3_payOf_48 : decode cX3_payOf 48 = .ok (.ifCond .eq 14, 3) := by decide +kernel
theorem dX3_payOf_51 : decode cX3_payOf 51 = .ok (.aload_n 0, 1) := by decide +kernel
theorem dX3_payOf_52 : decode cX3_payOf 52 = .ok (.getfield 18, 3) := by decide +kernel
theorem dX3_payOf_55 : decode cX3_payOf 55 = .ok (.aload_n 3, 1) := by decide +kernel
theorem dX3_payOf_56 : decode cX3_payOf 56 = .ok (.invokevirtual 57, 3) := by decide +kernel
theorem dX3_payOf_59 : decode cX3_payOf 59 = .ok (.goto 6, 3) := by decide +kernel
theorem dX3_payOf_62 : decode cX3_payOf 62 = .ok (.sipush (-1000), 3) := by decide +kernel
theorem dX3_payOf_65 : decode cX3_payOf 65 = .ok (.ireturn, 1) := by decide +kernel
theorem dX3_fits_0 : decode cX3_fits 0 = .ok (.iload_n 3, 1) := by decide +kernel
theorem dX3_fits_1 : decode cX3_fits 1 = .ok (.iload_n 2, 1) := by decide +kernel
theorem dX3_fits_2 : decode cX3_fits 2 = .ok (.ishr, 1) := by decide +kernel
theorem dX3_fits_3 : decode cX3_fits 3 = .ok (.iconst 1, 1) := by decide +kernel
theorem dX3_fits_4 : decode cX3_fits 4 = .ok (.iand, 1) := by decide +kernel
theorem dX3_fits_5 : decode cX3_fits 5 = .ok (.ifCond .ne 24, 3) := by decide +kernel
theorem dX3_fits_8 : decode cX3_fits 8 = .ok (.aload_n 0, 1) := by decide +kernel
theorem dX3_fits_9 : decode cX3_fits 9 = .ok (.getfield 9, 3) := by decide +kernel
theorem dX3_fits_12 : decode cX3_fits 12 = .ok (.bipush 10, 2) := by decide +kernel
theorem dX3_fits_14 : decode cX3_fits 14 = .ok (.iload_n 1, 1) := by decide +kernel
theorem dX3_fits_15 : decode cX3_fits 15 = .ok (.imul, 1) := by decide +kernel
theorem dX3_fits_16 : decode cX3_fits 16 = .ok (.iload_n 2, 1) := by decide +kernel
theorem dX3_fits_17 : decode cX3_fits 17 = .ok (.iadd, 1) := by decide +kernel
theorem dX3_fits_18 : decode cX3_fits 18 = .ok (.iaload, 1) := by decide +kernel
theorem dX3_fits_19 : decode cX3_fits 19 = .ok (.sipush (-1000), 3) := by decide +kernel
theorem dX3_fits_22 : decode cX3_fits 22 = .ok (.if_icmp .eq 7, 3) := by decide +kernel
theorem dX3_fits_25 : decode cX3_fits 25 = .ok (.iconst 1, 1) := by decide +kernel
theorem dX3_fits_26 : decode cX3_fits 26 = .ok (.goto 4, 3) := by decide +kernel
theorem dX3_fits_29 : decode cX3_fits 29 = .ok (.iconst 0, 1) := by decide +kernel
theorem dX3_fits_30 : decode cX3_fits 30 = .ok (.ireturn, 1) := by decide +kernel
theorem dX3_mostPairs_0 : decode cX3_mostPairs 0 = .ok (.aload_n 0, 1) := by decide +kernel
theorem dX3_mostPairs_1 : decode cX3_mostPairs 1 = .ok (.iconst 0, 1) := by decide +kernel
theorem dX3_mostPairs_2 : decode cX3_mostPairs 2 = .ok (.iconst 0, 1) := by decide +kernel
theorem dX3_mostPairs_3 : decode cX3_mostPairs 3 = .ok (.iconst 0, 1) := by decide +kernel
theorem dX3_mostPairs_4 : decode cX3_mostPairs 4 = .ok (.invokevirtual 61, 3) := by decide +kernel
theorem dX3_mostPairs_7 : decode cX3_mostPairs 7 = .ok (.ireturn, 1) := by decide +kernel
theorem dX3_mostBrought_0 : decode cX3_mostBrought 0 = .ok (.aload_n 0, 1) := by decide +kernel
theorem dX3_mostBrought_1 : decode cX3_mostBrought 1 = .ok (.iconst 0, 1) := by decide +kernel
theorem dX3_mostBrought_2 : decode cX3_mostBrought 2 = .ok (.iconst 0, 1) := by decide +kernel
theorem dX3_mostBrought_3 : decode cX3_mostBrought 3 = .ok (.iconst 1, 1) := by decide +kernel
theorem dX3_mostBrought_4 : decode cX3_mostBrought 4 = .ok (.invokevirtual 61, 3) := by decide +kernel
theorem dX3_mostBrought_7 : decode cX3_mostBrought 7 = .ok (.ireturn, 1) := by decide +kernel
theorem dX3_most_0 : decode cX3_most 0 = .ok (.iload_n 1, 1) := by decide +kernel
theorem dX3_most_1 : decode cX3_most 1 = .ok (.aload_n 0, 1) := by decide +kernel
theorem dX3_most_2 : decode cX3_most 2 = .ok (.getfield 22, 3) := by decide +kernel
theorem dX3_most_5 : decode cX3_most 5 = .ok (.getfield 37, 3) := by decide +kernel
theorem dX3_most_8 : decode cX3_most 8 = .ok (.if_icmp .ge 9, 3) := by decide +kernel
theorem dX3_most_11 : decode cX3_most 11 = .ok (.iload_n 1, 1) := by decide +kernel
theorem dX3_most_12 : decode cX3_most 12 = .ok (.bipush 10, 2) := by decide +kernel
theorem dX3_most_14 : decode cX3_most 14 = .ok (.if_icmp .lt 5, 3) := by decide +kernel
theorem dX3_most_17 : decode cX3_most 17 = .ok (.iconst 0, 1) := by decide +kernel
theorem dX3_most_18 : decode cX3_most 18 = .ok (.ireturn, 1) := by decide +kernel
theorem dX3_most_19 : decode cX3_most 19 = .ok (.aload_n 0, 1) := by decide +kernel
theorem dX3_most_20 : decode cX3_most 20 = .ok (.iload_n 1, 1) := by decide +kernel
theorem dX3_most_21 : decode cX3_most 21 = .ok (.iconst 1, 1) := by decide +kernel
theorem dX3_most_22 : decode cX3_most 22 = .ok (.iadd, 1) := by decide +kernel
theorem dX3_most_23 : decode cX3_most 23 = .ok (.iload_n 2, 1) := by decide +kernel
theorem dX3_most_24 : decode cX3_most 24 = .ok (.iload_n 3, 1) := by decide +kernel
theorem dX3_most_25 : decode cX3_most 25 = .ok (.invokevirtual 61, 3) := by decide +kernel
theorem dX3_most_28 : decode cX3_most 28 = .ok (.istore 4, 2) := by decide +kernel
theorem dX3_most_30 : decode cX3_most 30 = .ok (.iconst 0, 1) := by decide +kernel
theorem dX3_most_31 : decode cX3_most 31 = .ok (.istore 5, 2) := by decide +kernel
theorem dX3_most_33 : decode cX3_most 33 = .ok (.aload_n 0, 1) := by decide +kernel
theorem dX3_most_34 : decode cX3_most 34 = .ok (.getfield 18, 3) := by decide +kernel
theorem dX3_most_37 : decode cX3_most 37 = .ok (.iload_n 1, 1) := by decide +kernel
theorem dX3_most_38 : decode cX3_most 38 = .ok (.invokevirtual 45, 3) := by decide +kernel
theorem dX3_most_41 : decode cX3_most 41 = .ok (.ifCond .eq 78, 3) := by decide +kernel
theorem dX3_most_44 : decode cX3_most 44 = .ok (.iload 5, 2) := by decide +kernel
theorem dX3_most_46 : decode cX3_most 46 = .ok (.aload_n 0, 1) := by decide +kernel
theorem dX3_most_47 : decode cX3_most 47 = .ok (.getfield 22, 3) := by decide +kernel
theorem dX3_most_50 : decode cX3_most 50 = .ok (.getfield 37, 3) := by decide +kernel
theorem dX3_most_53 : decode cX3_most 53 = .ok (.if_icmp .ge 66, 3) := by decide +kernel
theorem dX3_most_56 : decode cX3_most 56 = .ok (.aload_n 0, 1) := by decide +kernel
theorem dX3_most_57 : decode cX3_most 57 = .ok (.iload_n 1, 1) := by decide +kernel
theorem dX3_most_58 : decode cX3_most 58 = .ok (.iload 5, 2) := by decide +kernel
theorem dX3_most_60 : decode cX3_most 60 = .ok (.iload_n 2, 1) := by decide +kernel
theorem dX3_most_61 : decode cX3_most 61 = .ok (.invokevirtual 65, 3) := by decide +kernel
theorem dX3_most_64 : decode cX3_most 64 = .ok (.ifCond .eq 49, 3) := by decide +kernel
theorem dX3_most_67 : decode cX3_most 67 = .ok (.iload_n 3, 1) := by decide +kernel
theorem dX3_most_68 : decode cX3_most 68 = .ok (.ifCond .eq 18, 3) := by decide +kernel
theorem dX3_most_71 : decode cX3_most 71 = .ok (.aload_n 0, 1) := by decide +kernel
theorem dX3_most_72 : decode cX3_most 72 = .ok (.getfield 9, 3) := by decide +kernel
theorem dX3_most_75 : decode cX3_most 75 = .ok (.bipush 10, 2) := by decide +kernel
theorem dX3_most_77 : decode cX3_most 77 = .ok (.iload_n 1, 1) := by decide +kernel
theorem dX3_most_78 : decode cX3_most 78 = .ok (.imul, 1) := by decide +kernel
theorem dX3_most_79 : decode cX3_most 79 = .ok (.iload 5, 2) := by decide +kernel
theorem dX3_most_81 : decode cX3_most 81 = .ok (.iadd, 1) := by decide +kernel
theorem dX3_most_82 : decode cX3_most 82 = .ok (.iaload, 1) := by decide +kernel
theorem dX3_most_83 : decode cX3_most 83 = .ok (.goto 4, 3) := by decide +kernel
theorem dX3_most_86 : decode cX3_most 86 = .ok (.iconst 1, 1) := by decide +kernel
theorem dX3_most_87 : decode cX3_most 87 = .ok (.istore 6, 2) := by decide +kernel
theorem dX3_most_89 : decode cX3_most 89 = .ok (.iload 4, 2) := by decide +kernel
theorem dX3_most_91 : decode cX3_most 91 = .ok (.iload 6, 2) := by decide +kernel
theorem dX3_most_93 : decode cX3_most 93 = .ok (.aload_n 0, 1) := by decide +kernel
theorem dX3_most_94 : decode cX3_most 94 = .ok (.iload_n 1, 1) := by decide +kernel
theorem dX3_most_95 : decode cX3_most 95 = .ok (.iconst 1, 1) := by decide +kernel
theorem dX3_most_96 : decode cX3_most 96 = .ok (.iadd, 1) := by decide +kernel
theorem dX3_most_97 : decode cX3_most 97 = .ok (.iload_n 2, 1) := by decide +kernel
theorem dX3_most_98 : decode cX3_most 98 = .ok (.iconst 1, 1) := by decide +kernel
theorem dX3_most_99 : decode cX3_most 99 = .ok (.iload 5, 2) := by decide +kernel
theorem dX3_most_101 : decode cX3_most 101 = .ok (.ishl, 1) := by decide +kernel
theorem dX3_most_102 : decode cX3_most 102 = .ok (.ior, 1) := by decide +kernel
theorem dX3_most_103 : decode cX3_most 103 = .ok (.iload_n 3, 1) := by decide +kernel
theorem dX3_most_104 : decode cX3_most 104 = .ok (.invokevirtual 61, 3) := by decide +kernel
theorem dX3_most_107 : decode cX3_most 107 = .ok (.iadd, 1) := by decide +kernel
theorem dX3_most_108 : decode cX3_most 108 = .ok (.invokestatic 69, 3) := by decide +kernel
theorem dX3_most_111 : decode cX3_most 111 = .ok (.istore 4, 2) := by decide +kernel
theorem dX3_most_113 : decode cX3_most 113 = .ok (.iinc 5 1, 3) := by decide +kernel
theorem dX3_most_116 : decode cX3_most 116 = .ok (.goto (-83), 3) := by decide +kernel
theorem dX3_most_119 : decode cX3_most 119 = .ok (.iload 4, 2) := by decide +kernel
theorem dX3_most_121 : decode cX3_most 121 = .ok (.ireturn, 1) := by decide +kernel
theorem dX3_choose_0 : decode cX3_choose 0 = .ok (.iconst 0, 1) := by decide +kernel
theorem dX3_choose_1 : decode cX3_choose 1 = .ok (.istore_n 1, 1) := by decide +kernel
theorem dX3_choose_2 : decode cX3_choose 2 = .ok (.iload_n 1, 1) := by decide +kernel
theorem dX3_choose_3 : decode cX3_choose 3 = .ok (.bipush 10, 2) := by decide +kernel
theorem dX3_choose_5 : decode cX3_choose 5 = .ok (.if_icmp .ge 16, 3) := by decide +kernel
theorem dX3_choose_8 : decode cX3_choose 8 = .ok (.aload_n 0, 1) := by decide +kernel
theorem dX3_choose_9 : decode cX3_choose 9 = .ok (.getfield 15, 3) := by decide +kernel
theorem dX3_choose_12 : decode cX3_choose 12 = .ok (.iload_n 1, 1) := by decide +kernel
theorem dX3_choose_13 : decode cX3_choose 13 = .ok (.iconst (-1), 1) := by decide +kernel
theorem dX3_choose_14 : decode cX3_choose 14 = .ok (.iastore, 1) := by decide +kernel
theorem dX3_choose_15 : decode cX3_choose 15 = .ok (.iinc 1 1, 3) := by decide +kernel
theorem dX3_choose_18 : decode cX3_choose 18 = .ok (.goto (-16), 3) := by decide +kernel
theorem dX3_choose_21 : decode cX3_choose 21 = .ok (.iconst 0, 1) := by decide +kernel
theorem dX3_choose_22 : decode cX3_choose 22 = .ok (.istore_n 1, 1) := by decide +kernel
theorem dX3_choose_23 : decode cX3_choose 23 = .ok (.iconst 0, 1) := by decide +kernel
theorem dX3_choose_24 : decode cX3_choose 24 = .ok (.istore_n 2, 1) := by decide +kernel
theorem dX3_choose_25 : decode cX3_choose 25 = .ok (.iload_n 2, 1) := by decide +kernel
theorem dX3_choose_26 : decode cX3_choose 26 = .ok (.aload_n 0, 1) := by decide +kernel
theorem dX3_choose_27 : decode cX3_choose 27 = .ok (.getfield 22, 3) := by decide +kernel
theorem dX3_choose_30 : decode cX3_choose 30 = .ok (.getfield 37, 3) := by decide +kernel
theorem dX3_choose_33 : decode cX3_choose 33 = .ok (.if_icmp .ge 56, 3) := by decide +kernel
theorem dX3_choose_36 : decode cX3_choose 36 = .ok (.aload_n 0, 1) := by decide +kernel
theorem dX3_choose_37 : decode cX3_choose 37 = .ok (.getfield 18, 3) := by decide +kernel
theorem dX3_choose_40 : decode cX3_choose 40 = .ok (.iload_n 2, 1) := by decide +kernel
theorem dX3_choose_41 : decode cX3_choose 41 = .ok (.invokevirtual 45, 3) := by decide +kernel
theorem dX3_choose_44 : decode cX3_choose 44 = .ok (.ifCond .eq 12, 3) := by decide +kernel
theorem dX3_choose_47 : decode cX3_choose 47 = .ok (.aload_n 0, 1) := by decide +kernel
theorem dX3_choose_48 : decode cX3_choose 48 = .ok (.iload_n 2, 1) := by decide +kernel
theorem dX3_choose_49 : decode cX3_choose 49 = .ok (.iload_n 1, 1) := by decide +kernel
theorem dX3_choose_50 : decode cX3_choose 50 = .ok (.invokevirtual 75, 3) := by decide +kernel
theorem dX3_choose_53 : decode cX3_choose 53 = .ok (.goto 4, 3) := by decide +kernel
theorem dX3_choose_56 : decode cX3_choose 56 = .ok (.iconst (-1), 1) := by decide +kernel
theorem dX3_choose_57 : decode cX3_choose 57 = .ok (.istore_n 3, 1) := by decide +kernel
theorem dX3_choose_58 : decode cX3_choose 58 = .ok (.iload_n 3, 1) := by decide +kernel
theorem dX3_choose_59 : decode cX3_choose 59 = .ok (.iconst (-1), 1) := by decide +kernel
theorem dX3_choose_60 : decode cX3_choose 60 = .ok (.if_icmp .eq 23, 3) := by decide +kernel
theorem dX3_choose_63 : decode cX3_choose 63 = .ok (.aload_n 0, 1) := by decide +kernel
theorem dX3_choose_64 : decode cX3_choose 64 = .ok (.getfield 15, 3) := by decide +kernel
theorem dX3_choose_67 : decode cX3_choose 67 = .ok (.iload_n 2, 1) := by decide +kernel
theorem dX3_choose_68 : decode cX3_choose 68 = .ok (.iload_n 3, 1) := by decide +kernel
theorem dX3_choose_69 : decode cX3_choose 69 = .ok (.iastore, 1) := by decide +kernel
theorem dX3_choose_70 : decode cX3_choose 70 = .ok (.aload_n 0, 1) := by decide +kernel
theorem dX3_choose_71 : decode cX3_choose 71 = .ok (.getfield 15, 3) := by decide +kernel
theorem dX3_choose_74 : decode cX3_choose 74 = .ok (.iload_n 3, 1) := by decide +kernel
theorem dX3_choose_75 : decode cX3_choose 75 = .ok (.iload_n 2, 1) := by decide +kernel
theorem dX3_choose_76 : decode cX3_choose 76 = .ok (.iastore, 1) := by decide +kernel
theorem dX3_choose_77 : decode cX3_choose 77 = .ok (.iload_n 1, 1) := by decide +kernel
theorem dX3_choose_78 : decode cX3_choose 78 = .ok (.iconst 1, 1) := by decide +kernel
theorem dX3_choose_79 : decode cX3_choose 79 = .ok (.iload_n 3, 1) := by decide +kernel
theorem dX3_choose_80 : decode cX3_choose 80 = .ok (.ishl, 1) := by decide +kernel
theorem dX3_choose_81 : decode cX3_choose 81 = .ok (.ior, 1) := by decide +kernel
theorem dX3_choose_82 : decode cX3_choose 82 = .ok (.istore_n 1, 1) := by decide +kernel
theorem dX3_choose_83 : decode cX3_choose 83 = .ok (.iinc 2 1, 3) := by decide +kernel
theorem dX3_choose_86 : decode cX3_choose 86 = .ok (.goto (-61), 3) := by decide +kernel
theorem dX3_choose_89 : decode cX3_choose 89 = .ok (.return_, 1) := by decide +kernel
theorem dX3_firstOther_0 : decode cX3_firstOther 0 = .ok (.aload_n 0, 1) := by decide +kernel
theorem dX3_firstOther_1 : decode cX3_firstOther 1 = .ok (.iload_n 1, 1) := by decide +kernel
theorem dX3_firstOther_2 : decode cX3_firstOther 2 = .ok (.iload_n 2, 1) := by decide +kernel
theorem dX3_firstOther_3 : decode cX3_firstOther 3 = .ok (.iconst 1, 1) := by decide +kernel
theorem dX3_firstOther_4 : decode cX3_firstOther 4 = .ok (.invokevirtual 61, 3) := by decide +kernel
theorem dX3_firstOther_7 : decode cX3_firstOther 7 = .ok (.istore_n 3, 1) := by decide +kernel
theorem dX3_firstOther_8 : decode cX3_firstOther 8 = .ok (.aload_n 0, 1) := by decide +kernel
theorem dX3_firstOther_9 : decode cX3_firstOther 9 = .ok (.iload_n 1, 1) := by decide +kernel
theorem dX3_firstOther_10 : decode cX3_firstOther 10 = .ok (.iconst 1, 1) := by decide +kernel
theorem dX3_firstOther_11 : decode cX3_firstOther 11 = .ok (.iadd, 1) := by decide +kernel
theorem dX3_firstOther_12 : decode cX3_firstOther 12 = .ok (.iload_n 2, 1) := by decide +kernel
theorem dX3_firstOther_13 : decode cX3_firstOther 13 = .ok (.iconst 1, 1) := by decide +kernel
theorem dX3_firstOther_14 : decode cX3_firstOther 14 = .ok (.invokevirtual 61, 3) := by decide +kernel
theorem dX3_firstOther_17 : decode cX3_firstOther 17 = .ok (.iload_n 3, 1) := by decide +kernel
theorem dX3_firstOther_18 : decode cX3_firstOther 18 = .ok (.if_icmp .ne 5, 3) := by decide +kernel
theorem dX3_firstOther_21 : decode cX3_firstOther 21 = .ok (.iconst (-1), 1) := by decide +kernel
theorem dX3_firstOther_22 : decode cX3_firstOther 22 = .ok (.ireturn, 1) := by decide +kernel
theorem dX3_firstOther_23 : decode cX3_firstOther 23 = .ok (.iconst 0, 1) := by decide +kernel
theorem dX3_firstOther_24 : decode cX3_firstOther 24 = .ok (.istore 4, 2) := by decide +kernel
theorem dX3_firstOther_26 : decode cX3_firstOther 26 = .ok (.iload 4, 2) := by decide +kernel
theorem dX3_firstOther_28 : decode cX3_firstOther 28 = .ok (.aload_n 0, 1) := by decide +kernel
theorem dX3_firstOther_29 : decode cX3_firstOther 29 = .ok (.getfield 22, 3) := by decide +kernel
theorem dX3_firstOther_32 : decode cX3_firstOther 32 = .ok (.getfield 37, 3) := by decide +kernel
theorem dX3_firstOther_35 : decode cX3_firstOther 35 = .ok (.if_icmp .ge 54, 3) := by decide +kernel
theorem dX3_firstOther_38 : decode cX3_firstOther 38 = .ok (.aload_n 0, 1) := by decide +kernel
theorem dX3_firstOther_39 : decode cX3_firstOther 39 = .ok (.iload_n 1, 1) := by decide +kernel
theorem dX3_firstOther_40 : decode cX3_firstOther 40 = .ok (.iload 4, 2) := by decide +kernel
theorem dX3_firstOther_42 : decode cX3_firstOther 42 = .ok (.iload_n 2, 1) := by decide +kernel
theorem dX3_firstOther_43 : decode cX3_firstOther 43 = .ok (.invokevirtual 65, 3) := by decide +kernel
theorem dX3_firstOther_46 : decode cX3_firstOther 46 = .ok (.ifCond .eq 37, 3) := by decide +kernel
theorem dX3_firstOther_49 : decode cX3_firstOther 49 = .ok (.aload_n 0, 1) := by decide +kernel
theorem dX3_firstOther_50 : decode cX3_firstOther 50 = .ok (.getfield 9, 3) := by decide +kernel
theorem dX3_firstOther_53 : decode cX3_firstOther 53 = .ok (.bipush 10, 2) := by decide +kernel
theorem dX3_firstOther_55 : decode cX3_firstOther 55 = .ok (.iload_n 1, 1) := by decide +kernel
theorem dX3_firstOther_56 : decode cX3_firstOther 56 = .ok (.imul, 1) := by decide +kernel
theorem dX3_firstOther_57 : decode cX3_firstOther 57 = .ok (.iload 4, 2) := by decide +kernel
theorem dX3_firstOther_59 : decode cX3_firstOther 59 = .ok (.iadd, 1) := by decide +kernel
theorem dX3_firstOther_60 : decode cX3_firstOther 60 = .ok (.iaload, 1) := by decide +kernel
theorem dX3_firstOther_61 : decode cX3_firstOther 61 = .ok (.aload_n 0, 1) := by decide +kernel
theorem dX3_firstOther_62 : decode cX3_firstOther 62 = .ok (.iload_n 1, 1) := by decide +kernel
theorem dX3_firstOther_63 : decode cX3_firstOther 63 = .ok (.iconst 1, 1) := by decide +kernel
theorem dX3_firstOther_64 : decode cX3_firstOther 64 = .ok (.iadd, 1) := by decide +kernel
theorem dX3_firstOther_65 : decode cX3_firstOther 65 = .ok (.iload_n 2, 1) := by decide +kernel
theorem dX3_firstOther_66 : decode cX3_firstOther 66 = .ok (.iconst 1, 1) := by decide +kernel
theorem dX3_firstOther_67 : decode cX3_firstOther 67 = .ok (.iload 4, 2) := by decide +kernel
theorem dX3_firstOther_69 : decode cX3_firstOther 69 = .ok (.ishl, 1) := by decide +kernel
theorem dX3_firstOther_70 : decode cX3_firstOther 70 = .ok (.ior, 1) := by decide +kernel
theorem dX3_firstOther_71 : decode cX3_firstOther 71 = .ok (.iconst 1, 1) := by decide +kernel
theorem dX3_firstOther_72 : decode cX3_firstOther 72 = .ok (.invokevirtual 61, 3) := by decide +kernel
theorem dX3_firstOther_75 : decode cX3_firstOther 75 = .ok (.iadd, 1) := by decide +kernel
theorem dX3_firstOther_76 : decode cX3_firstOther 76 = .ok (.iload_n 3, 1) := by decide +kernel
theorem dX3_firstOther_77 : decode cX3_firstOther 77 = .ok (.if_icmp .ne 6, 3) := by decide +kernel
theorem dX3_firstOther_80 : decode cX3_firstOther 80 = .ok (.iload 4, 2) := by decide +kernel
theorem dX3_firstOther_82 : decode cX3_firstOther 82 = .ok (.ireturn, 1) := by decide +kernel
theorem dX3_firstOther_83 : decode cX3_firstOther 83 = .ok (.iinc 4 1, 3) := by decide +kernel
theorem dX3_firstOther_86 : decode cX3_firstOther 86 = .ok (.goto (-60), 3) := by decide +kernel
theorem dX3_firstOther_89 : decode cX3_firstOther 89 = .ok (.iconst (-1), 1) := by decide +kernel
theorem dX3_firstOther_90 : decode cX3_firstOther 90 = .ok (.ireturn, 1) := by decide +kernel
theorem dX4_init_0 : decode cX4_init 0 = .ok (.aload_n 0, 1) := by decide +kernel
theorem dX4_init_1 : decode cX4_init 1 = .ok (.invokespecial 3, 3) := by decide +kernel
theorem dX4_init_4 : decode cX4_init 4 = .ok (.aload_n 0, 1) := by decide +kernel
theorem dX4_init_5 : decode cX4_init 5 = .ok (.sipush 160, 3) := by decide +kernel
theorem dX4_init_8 : decode cX4_init 8 = .ok (.newarray .int, 2) := by decide +kernel
theorem dX4_init_10 : decode cX4_init 10 = .ok (.putfield 9, 3) := by decide +kernel
theorem dX4_init_13 : decode cX4_init 13 = .ok (.return_, 1) := by decide +kernel
theorem dX4_put_0 : decode cX4_put 0 = .ok (.aload_n 0, 1) := by decide +kernel
theorem dX4_put_1 : decode cX4_put 1 = .ok (.getfield 15, 3) := by decide +kernel
theorem dX4_put_4 : decode cX4_put 4 = .ok (.sipush 160, 3) := by decide +kernel
theorem dX4_put_7 : decode cX4_put 7 = .ok (.if_icmp .ge 23, 3) := by decide +kernel
theorem dX4_put_10 : decode cX4_put 10 = .ok (.aload_n 0, 1) := by decide +kernel
theorem dX4_put_11 : decode cX4_put 11 = .ok (.getfield 9, 3) := by decide +kernel
theorem dX4_put_14 : decode cX4_put 14 = .ok (.aload_n 0, 1) := by decide +kernel
theorem dX4_put_15 : decode cX4_put 15 = .ok (.getfield 15, 3) := by decide +kernel
theorem dX4_put_18 : decode cX4_put 18 = .ok (.iload_n 1, 1) := by decide +kernel
theorem dX4_put_19 : decode cX4_put 19 = .ok (.iastore, 1) := by decide +kernel
theorem dX4_put_20 : decode cX4_put 20 = .ok (.aload_n 0, 1) := by decide +kernel
theorem dX4_put_21 : decode cX4_put 21 = .ok (.dup, 1) := by decide +kernel
theorem dX4_put_22 : decode cX4_put 22 = .ok (.getfield 15, 3) := by decide +kernel
theorem dX4_put_25 : decode cX4_put 25 = .ok (.iconst 1, 1) := by decide +kernel
theorem dX4_put_26 : decode cX4_put 26 = .ok (.iadd, 1) := by decide +kernel
theorem dX4_put_27 : decode cX4_put 27 = .ok (.putfield 15, 3) := by decide +kernel
theorem dX4_put_30 : decode cX4_put 30 = .ok (.return_, 1) := by decide +kernel
theorem dX4_readInto_0 : decode cX4_readInto 0 = .ok (.aload_n 0, 1) := by decide +kernel
theorem dX4_readInto_1 : decode cX4_readInto 1 = .ok (.aload_n 1, 1) := by decide +kernel
theorem dX4_readInto_2 : decode cX4_readInto 2 = .ok (.putfield 19, 3) := by decide +kernel
theorem dX4_readInto_5 : decode cX4_readInto 5 = .ok (.aload_n 0, 1) := by decide +kernel
theorem dX4_readInto_6 : decode cX4_readInto 6 = .ok (.getfield 19, 3) := by decide +kernel
theorem dX4_readInto_9 : decode cX4_readInto 9 = .ok (.invokevirtual 23, 3) := by decide +kernel
theorem dX4_readInto_12 : decode cX4_readInto 12 = .ok (.aload_n 0, 1) := by decide +kernel
theorem dX4_readInto_13 : decode cX4_readInto 13 = .ok (.iconst 0, 1) := by decide +kernel
theorem dX4_readInto_14 : decode cX4_readInto 14 = .ok (.putfield 28, 3) := by decide +kernel
theorem dX4_readInto_17 : decode cX4_readInto 17 = .ok (.aload_n 0, 1) := by decide +kernel
theorem dX4_readInto_18 : decode cX4_readInto 18 = .ok (.iconst 0, 1) := by decide +kernel
theorem dX4_readInto_19 : decode cX4_readInto 19 = .ok (.putfield 31, 3) := by decide +kernel
theorem dX4_readInto_22 : decode cX4_readInto 22 = .ok (.aload_n 0, 1) := by decide +kernel
theorem dX4_readInto_23 : decode cX4_readInto 23 = .ok (.iconst (-1), 1) := by decide +kernel
theorem dX4_readInto_24 : decode cX4_readInto 24 = .ok (.putfield 34, 3) := by decide +kernel
theorem dX4_readInto_27 : decode cX4_readInto 27 = .ok (.aload_n 0, 1) := by decide +kernel
theorem dX4_readInto_28 : decode cX4_readInto 28 = .ok (.invokevirtual 37, 3) := by decide +kernel
theorem dX4_readInto_31 : decode cX4_readInto 31 = .ok (.iconst 0, 1) := by decide +kernel
theorem dX4_readInto_32 : decode cX4_readInto 32 = .ok (.istore_n 2, 1) := by decide +kernel
theorem dX4_readInto_33 : decode cX4_readInto 33 = .ok (.iload_n 2, 1) := by decide +kernel
theorem dX4_readInto_34 : decode cX4_readInto 34 = .ok (.iconst 2, 1) := by decide +kernel
theorem dX4_readInto_35 : decode cX4_readInto 35 = .ok (.if_icmp .gt 44, 3) := by decide +kernel
theorem dX4_readInto_38 : decode cX4_readInto 38 = .ok (.aload_n 0, 1) := by decide +kernel
theorem dX4_readInto_39 : decode cX4_readInto 39 = .ok (.bipush (-19), 2) := by decide +kernel
theorem dX4_readInto_41 : decode cX4_readInto 41 = .ok (.iload_n 2, 1) := by decide +kernel
theorem dX4_readInto_42 : decode cX4_readInto 42 = .ok (.isub, 1) := by decide +kernel
theorem dX4_readInto_43 : decode cX4_readInto 43 = .ok (.invokevirtual 40, 3) := by decide +kernel
theorem dX4_readInto_46 : decode cX4_readInto 46 = .ok (.aload_n 0, 1) := by decide +kernel
theorem dX4_readInto_47 : decode cX4_readInto 47 = .ok (.iconst 0, 1) := by decide +kernel
theorem dX4_readInto_48 : decode cX4_readInto 48 = .ok (.invokevirtual 44, 3) := by decide +kernel
theorem dX4_readInto_51 : decode cX4_readInto 51 = .ok (.aload_n 0, 1) := by decide +kernel
theorem dX4_readInto_52 : decode cX4_readInto 52 = .ok (.bipush (-18), 2) := by decide +kernel
theorem dX4_readInto_54 : decode cX4_readInto 54 = .ok (.invokevirtual 40, 3) := by decide +kernel
theorem dX4_readInto_57 : decode cX4_readInto 57 = .ok (.aload_n 0, 1) := by decide +kernel
theorem dX4_readInto_58 : decode cX4_readInto 58 = .ok (.getfield 19, 3) := by decide +kernel
theorem dX4_readInto_61 : decode cX4_readInto 61 = .ok (.getfield 47, 3) := by decide +kernel
theorem dX4_readInto_64 : decode cX4_readInto 64 = .ok (.iload_n 2, 1) := by decide +kernel
theorem dX4_readInto_65 : decode cX4_readInto 65 = .ok (.aload_n 0, 1) := by decide +kernel
theorem dX4_readInto_66 : decode cX4_readInto 66 = .ok (.getfield 19, 3) := by decide +kernel
theorem dX4_readInto_69 : decode cX4_readInto 69 = .ok (.getfield 50, 3) := by decide +kernel
theorem dX4_readInto_72 : decode cX4_readInto 72 = .ok (.iastore, 1) := by decide +kernel
theorem dX4_readInto_73 : decode cX4_readInto 73 = .ok (.iinc 2 1, 3) := by decide +kernel
theorem dX4_readInto_76 : decode cX4_readInto 76 = .ok (.goto (-43), 3) := by decide +kernel
theorem dX4_readInto_79 : decode cX4_readInto 79 = .ok (.aload_n 0, 1) := by decide +kernel
theorem dX4_readInto_80 : decode cX4_readInto 80 = .ok (.getfield 51, 3) := by decide +kernel
theorem dX4_readInto_83 : decode cX4_readInto 83 = .ok (.bipush (-22), 2) := by decide +kernel
theorem dX4_readInto_85 : decode cX4_readInto 85 = .ok (.if_icmp .eq 7, 3) := by decide +kernel
theorem dX4_readInto_88 : decode cX4_readInto 88 = .ok (.aload_n 0, 1) := by decide +kernel
theorem dX4_readInto_89 : decode cX4_readInto 89 = .ok (.invokevirtual 54, 3) := by decide +kernel
theorem dX4_readInto_92 : decode cX4_readInto 92 = .ok (.aload_n 0, 1) := by decide +kernel
theorem dX4_readInto_93 : decode cX4_readInto 93 = .ok (.iconst 0, 1) := by decide +kernel
theorem dX4_readInto_94 : decode cX4_readInto 94 = .ok (.putfield 15, 3) := by decide +kernel
theorem dX4_readInto_97 : decode cX4_readInto 97 = .ok (.aload_n 0, 1) := by decide +kernel
theorem dX4_readInto_98 : decode cX4_readInto 98 = .ok (.getfield 34, 3) := by decide +kernel
theorem dX4_readInto_101 : decode cX4_readInto 101 = .ok (.ireturn, 1) := by decide +kernel
theorem dX4_fail_0 : decode cX4_fail 0 = .ok (.aload_n 0, 1) := by decide +kernel
theorem dX4_fail_1 : decode cX4_fail 1 = .ok (.getfield 34, 3) := by decide +kernel
theorem dX4_fail_4 : decode cX4_fail 4 = .ok (.iconst (-1), 1) := by decide +kernel
theorem dX4_fail_5 : decode cX4_fail 5 = .ok (.if_icmp .ne 11, 3) := by decide +kernel
theorem dX4_fail_8 : decode cX4_fail 8 = .ok (.aload_n 0, 1) := by decide +kernel
theorem dX4_fail_9 : decode cX4_fail 9 = .ok (.aload_n 0, 1) := by decide +kernel
theorem dX4_fail_10 : decode cX4_fail 10 = .ok (.getfield 57, 3) := by decide +kernel
theorem dX4_fail_13 : decode cX4_fail 13 = .ok (.putfield 34, 3) := by decide +kernel
theorem dX4_fail_16 : decode cX4_fail 16 = .ok (.aload_n 0, 1) := by decide +kernel
theorem dX4_fail_17 : decode cX4_fail 17 = .ok (.bipush (-23), 2) := by decide +kernel
theorem dX4_fail_19 : decode cX4_fail 19 = .ok (.putfield 51, 3) := by decide +kernel
theorem dX4_fail_22 : decode cX4_fail 22 = .ok (.return_, 1) := by decide +kernel
theorem dX4_expect_0 : decode cX4_expect 0 = .ok (.aload_n 0, 1) := by decide +kernel
theorem dX4_expect_1 : decode cX4_expect 1 = .ok (.getfield 51, 3) := by decide +kernel
theorem dX4_expect_4 : decode cX4_expect 4 = .ok (.iload_n 1, 1) := by decide +kernel
theorem dX4_expect_5 : decode cX4_expect 5 = .ok (.if_icmp .ne 10, 3) := by decide +kernel
theorem dX4_expect_8 : decode cX4_expect 8 = .ok (.aload_n 0, 1) := by decide +kernel
theorem dX4_expect_9 : decode cX4_expect 9 = .ok (.invokevirtual 37, 3) := by decide +kernel
theorem dX4_expect_12 : decode cX4_expect 12 = .ok (.goto 7, 3) := by decide +kernel
theorem dX4_expect_15 : decode cX4_expect 15 = .ok (.aload_n 0, 1) := by decide +kernel
theorem dX4_expect_16 : decode cX4_expect 16 = .ok (.invokevirtual 54, 3) := by decide +kernel
theorem dX4_expect_19 : decode cX4_expect 19 = .ok (.return_, 1) := by decide +kernel
theorem dX4_readLevel_0 : decode cX4_readLevel 0 = .ok (.iload_n 1, 1) := by decide +kernel
theorem dX4_readLevel_1 : decode cX4_readLevel 1 = .ok (.iconst 2, 1) := by decide +kernel
theorem dX4_readLevel_2 : decode cX4_readLevel 2 = .ok (.if_icmp .ne 20, 3) := by decide +kernel
theorem dX4_readLevel_5 : decode cX4_readLevel 5 = .ok (.aload_n 0, 1) := by decide +kernel
theorem dX4_readLevel_6 : decode cX4_readLevel 6 = .ok (.getfield 51, 3) := by decide +kernel
theorem dX4_readLevel_9 : decode cX4_readLevel 9 = .ok (.bipush (-9), 2) := by decide +kernel
theorem dX4_readLevel_11 : decode cX4_readLevel 11 = .ok (.if_icmp .ne 11, 3) := by decide +kernel
theorem dX4_readLevel_14 : decode cX4_readLevel 14 = .ok (.aload_n 0, 1) := by decide +kernel
theorem dX4_readLevel_15 : decode cX4_readLevel 15 = .ok (.iload_n 1, 1) := by decide +kernel
theorem dX4_readLevel_16 : decode cX4_readLevel 16 = .ok (.bipush (-9), 2) := by decide +kernel
theorem dX4_readLevel_18 : decode cX4_readLevel 18 = .ok (.invokevirtual 60, 3) := by decide +kernel
theorem dX4_readLevel_21 : decode cX4_readLevel 21 = .ok (.return_, 1) := by decide +kernel
theorem dX4_readLevel_22 : decode cX4_readLevel 22 = .ok (.iload_n 1, 1) := by decide +kernel
theorem dX4_readLevel_23 : decode cX4_readLevel 23 = .ok (.iconst 5, 1) := by decide +kernel
theorem dX4_readLevel_24 : decode cX4_readLevel 24 = .ok (.if_icmp .ne 20, 3) := by decide +kernel
theorem dX4_readLevel_27 : decode cX4_readLevel 27 = .ok (.aload_n 0, 1) := by decide +kernel
theorem dX4_readLevel_28 : decode cX4_readLevel 28 = .ok (.getfield 51, 3) := by decide +kernel
theorem dX4_readLevel_31 : decode cX4_readLevel 31 = .ok (.bipush (-13), 2) := by decide +kernel
theorem dX4_readLevel_33 : decode cX4_readLevel 33 = .ok (.if_icmp .ne 11, 3) := by decide +kernel
theorem dX4_readLevel_36 : decode cX4_readLevel 36 = .ok (.aload_n 0, 1) := by decide +kernel
theorem dX4_readLevel_37 : decode cX4_readLevel 37 = .ok (.iload_n 1, 1) := by decide +kernel
theorem dX4_readLevel_38 : decode cX4_readLevel 38 = .ok (.bipush (-15), 2) := by decide +kernel
theorem dX4_readLevel_40 : decode cX4_readLevel 40 = .ok (.invokevirtual 60, 3) := by decide +kernel
theorem dX4_readLevel_43 : decode cX4_readLevel 43 = .ok (.return_, 1) := by decide +kernel
theorem dX4_readLevel_44 : decode cX4_readLevel 44 = .ok (.iload_n 1, 1) := by decide +kernel
theorem dX4_readLevel_45 : decode cX4_readLevel 45 = .ok (.iconst 5, 1) := by decide +kernel
theorem dX4_readLevel_46 : decode cX4_readLevel 46 = .ok (.if_icmp .ne 8, 3) := by decide +kernel
theorem dX4_readLevel_49 : decode cX4_readLevel 49 = .ok (.aload_n 0, 1) := by decide +kernel
theorem dX4_readLevel_50 : decode cX4_readLevel 50 = .ok (.invokevirtual 64, 3) := by decide +kernel
theorem dX4_readLevel_53 : decode cX4_readLevel 53 = .ok (.return_, 1) := by decide +kernel
theorem dX4_readLevel_54 : decode cX4_readLevel 54 = .ok (.aload_n 0, 1) := by decide +kernel
theorem dX4_readLevel_55 : decode cX4_readLevel 55 = .ok (.iload_n 1, 1) := by decide +kernel
theorem dX4_readLevel_56 : decode cX4_readLevel 56 = .ok (.iconst 1, 1) := by decide +kernel
theorem dX4_readLevel_57 : decode cX4_readLevel 57 = .ok (.iadd, 1) := by decide +kernel
theorem dX4_readLevel_58 : decode cX4_readLevel 58 = .ok (.invokevirtual 44, 3) := by decide +kernel
theorem dX4_readLevel_61 : decode cX4_readLevel 61 = .ok (.iload_n 1, 1) := by decide +kernel
theorem dX4_readLevel_62 : decode cX4_readLevel 62 = .ok (.iconst 2, 1) := by decide +kernel
theorem dX4_readLevel_63 : decode cX4_readLevel 63 = .ok (.if_icmp .ne 7, 3) := by decide +kernel
theorem dX4_readLevel_66 : decode cX4_readLevel 66 = .ok (.iconst 1, 1) := by decide +kernel
theorem dX4_readLevel_67 : decode cX4_readLevel 67 = .ok (.goto 6, 3) := by decide +kernel
theorem dX4_readLevel_70 : decode cX4_readLevel 70 = .ok (.sipush 160, 3) := by decide +kernel
theorem dX4_readLevel_73 : decode cX4_readLevel 73 = .ok (.istore_n 2, 1) := by decide +kernel
theorem dX4_readLevel_74 : decode cX4_readLevel 74 = .ok (.iconst 0, 1) := by decide +kernel
theorem dX4_readLevel_75 : decode cX4_readLevel 75 = .ok (.istore_n 3, 1) := by decide +kernel
theorem dX4_readLevel_76 : decode cX4_readLevel 76 = .ok (.iload_n 3, 1) := by decide +kernel
theorem dX4_readLevel_77 : decode cX4_readLevel 77 = .ok (.iload_n 2, 1) := by decide +kernel
theorem dX4_readLevel_78 : decode cX4_readLevel 78 = .ok (.if_icmp .ge 46, 3) := by decide +kernel
theorem dX4_readLevel_81 : decode cX4_readLevel 81 = .ok (.iload_n 1, 1) := by decide +kernel
theorem dX4_readLevel_82 : decode cX4_readLevel 82 = .ok (.aload_n 0, 1) := by decide +kernel
theorem dX4_readLevel_83 : decode cX4_readLevel 83 = .ok (.getfield 51, 3) := by decide +kernel
theorem dX4_readLevel_86 : decode cX4_readLevel 86 = .ok (.invokestatic 67, 3) := by decide +kernel
theorem dX4_readLevel_89 : decode cX4_readLevel 89 = .ok (.ifCond .eq 35, 3) := by decide +kernel
theorem dX4_readLevel_92 : decode cX4_readLevel 92 = .ok (.aload_n 0, 1) := by decide +kernel
theorem dX4_readLevel_93 : decode cX4_readLevel 93 = .ok (.getfield 51, 3) := by decide +kernel
theorem dX4_readLevel_96 : decode cX4_readLevel 96 = .ok (.istore 4, 2) := by decide +kernel
theorem dX4_readLevel_98 : decode cX4_readLevel 98 = .ok (.aload_n 0, 1) := by decide +kernel
theorem dX4_readLevel_99 : decode cX4_readLevel 99 = .ok (.invokevirtual 37, 3) := by decide +kernel
theorem dX4_readLevel_102 : decode cX4_readLevel 102 = .ok (.aload_n 0, 1) := by decide +kernel
theorem dX4_readLevel_103 : decode cX4_readLevel 103 = .ok (.iload_n 1, 1) := by decide +kernel
theorem dX4_readLevel_104 : decode cX4_readLevel 104 = .ok (.iconst 1, 1) := by decide +kernel
theorem dX4_readLevel_105 : decode cX4_readLevel 105 = .ok (.iadd, 1) := by decide +kernel
theorem dX4_readLevel_106 : decode cX4_readLevel 106 = .ok (.invokevirtual 44, 3) := by decide +kernel
theorem dX4_readLevel_109 : decode cX4_readLevel 109 = .ok (.aload_n 0, 1) := by decide +kernel
theorem dX4_readLevel_110 : decode cX4_readLevel 110 = .ok (.getfield 19, 3) := by decide +kernel
theorem dX4_readLevel_113 : decode cX4_readLevel 113 = .ok (.iload 4, 2) := by decide +kernel
theorem dX4_readLevel_115 : decode cX4_readLevel 115 = .ok (.invokevirtual 71, 3) := by decide +kernel
theorem dX4_readLevel_118 : decode cX4_readLevel 118 = .ok (.iinc 3 1, 3) := by decide +kernel
theorem dX4_readLevel_121 : decode cX4_readLevel 121 = .ok (.goto (-45), 3) := by decide +kernel
theorem dX4_readLevel_124 : decode cX4_readLevel 124 = .ok (.return_, 1) := by decide +kernel
theorem dX4_joins_0 : decode cX4_joins 0 = .ok (.iload_n 0, 1) := by decide +kernel
theorem dX4_joins_1 : decode cX4_joins 1 = .ok (.tableswitch 107 0 4 #[35, 47, 59, 77, 95], 35) := by decide +kernel
theorem dX4_joins_36 : decode cX4_joins 36 = .ok (.iload_n 1, 1) := by decide +kernel
theorem dX4_joins_37 : decode cX4_joins 37 = .ok (.bipush (-7), 2) := by decide +kernel
theorem dX4_joins_39 : decode cX4_joins 39 = .ok (.if_icmp .ne 7, 3) := by decide +kernel
theorem dX4_joins_42 : decode cX4_joins 42 = .ok (.iconst 1, 1) := by decide +kernel
theorem dX4_joins_43 : decode cX4_joins 43 = .ok (.goto 4, 3) := by decide +kernel
theorem dX4_joins_46 : decode cX4_joins 46 = .ok (.iconst 0, 1) := by decide +kernel
theorem dX4_joins_47 : decode cX4_joins 47 = .ok (.ireturn, 1) := by decide +kernel
theorem dX4_joins_48 : decode cX4_joins 48 = .ok (.iload_n 1, 1) := by decide +kernel
theorem dX4_joins_49 : decode cX4_joins 49 = .ok (.bipush (-8), 2) := by decide +kernel
theorem dX4_joins_51 : decode cX4_joins 51 = .ok (.if_icmp .ne 7, 3) := by decide +kernel
theorem dX4_joins_54 : decode cX4_joins 54 = .ok (.iconst 1, 1) := by decide +kernel
theorem dX4_joins_55 : decode cX4_joins 55 = .ok (.goto 4, 3) := by decide +kernel
theorem dX4_joins_58 : decode cX4_joins 58 = .ok (.iconst 0, 1) := by decide +kernel
theorem dX4_joins_59 : decode cX4_joins 59 = .ok (.ireturn, 1) := by decide +kernel
theorem dX4_joins_60 : decode cX4_joins 60 = .ok (.iload_n 1, 1) := by decide +kernel
theorem dX4_joins_61 : decode cX4_joins 61 = .ok (.bipush (-10), 2) := by decide +kernel
theorem dX4_joins_63 : decode cX4_joins 63 = .ok (.if_icmp .eq 9, 3) := by decide +kernel
theorem dX4_joins_66 : decode cX4_joins 66 = .ok (.iload_n 1, 1) := by decide +kernel
theorem dX4_joins_67 : decode cX4_joins 67 = .ok (.bipush (-11), 2) := by decide +kernel
theorem dX4_joins_69 : decode cX4_joins 69 = .ok (.if_icmp .ne 7, 3) := by decide +kernel
theorem dX4_joins_72 : decode cX4_joins 72 = .ok (.iconst 1, 1) := by decide +kernel
theorem dX4_joins_73 : decode cX4_joins 73 = .ok (.goto 4, 3) := by decide +kernel
theorem dX4_joins_76 : decode cX4_joins 76 = .ok (.iconst 0, 1) := by decide +kernel
theorem dX4_joins_77 : decode cX4_joins 77 = .ok (.ireturn, 1) := by decide +kernel
theorem dX4_joins_78 : decode cX4_joins 78 = .ok (.iload_n 1, 1) := by decide +kernel
theorem dX4_joins_79 : decode cX4_joins 79 = .ok (.bipush (-12), 2) := by decide +kernel
theorem dX4_joins_81 : decode cX4_joins 81 = .ok (.if_icmp .eq 9, 3) := by decide +kernel
theorem dX4_joins_84 : decode cX4_joins 84 = .ok (.iload_n 1, 1) := by decide +kernel
theorem dX4_joins_85 : decode cX4_joins 85 = .ok (.bipush (-13), 2) := by decide +kernel
theorem dX4_joins_87 : decode cX4_joins 87 = .ok (.if_icmp .ne 7, 3) := by decide +kernel
theorem dX4_joins_90 : decode cX4_joins 90 = .ok (.iconst 1, 1) := by decide +kernel
theorem dX4_joins_91 : decode cX4_joins 91 = .ok (.goto 4, 3) := by decide +kernel
theorem dX4_joins_94 : decode cX4_joins 94 = .ok (.iconst 0, 1) := by decide +kernel
theorem dX4_joins_95 : decode cX4_joins 95 = .ok (.ireturn, 1) := by decide +kernel
theorem dX4_joins_96 : decode cX4_joins 96 = .ok (.iload_n 1, 1) := by decide +kernel
theorem dX4_joins_97 : decode cX4_joins 97 = .ok (.bipush (-14), 2) := by decide +kernel
theorem dX4_joins_99 : decode cX4_joins 99 = .ok (.if_icmp .ne 7, 3) := by decide +kernel
theorem dX4_joins_102 : decode cX4_joins 102 = .ok (.iconst 1, 1) := by decide +kernel
theorem dX4_joins_103 : decode cX4_joins 103 = .ok (.goto 4, 3) := by decide +kernel
theorem dX4_joins_106 : decode cX4_joins 106 = .ok (.iconst 0, 1) := by decide +kernel
theorem dX4_joins_107 : decode cX4_joins 107 = .ok (.ireturn, 1) := by decide +kernel
theorem dX4_joins_108 : decode cX4_joins 108 = .ok (.iconst 0, 1) := by decide +kernel
theorem dX4_joins_109 : decode cX4_joins 109 = .ok (.ireturn, 1) := by decide +kernel
theorem dX4_readOne_0 : decode cX4_readOne 0 = .ok (.aload_n 0, 1) := by decide +kernel
theorem dX4_readOne_1 : decode cX4_readOne 1 = .ok (.getfield 51, 3) := by decide +kernel
theorem dX4_readOne_4 : decode cX4_readOne 4 = .ok (.bipush (-6), 2) := by decide +kernel
theorem dX4_readOne_6 : decode cX4_readOne 6 = .ok (.if_icmp .lt 21, 3) := by decide +kernel
theorem dX4_readOne_9 : decode cX4_readOne 9 = .ok (.aload_n 0, 1) := by decide +kernel
theorem dX4_readOne_10 : decode cX4_readOne 10 = .ok (.getfield 19, 3) := by decide +kernel
theorem dX4_readOne_13 : decode cX4_readOne 13 = .ok (.aload_n 0, 1) := by decide +kernel
theorem dX4_readOne_14 : decode cX4_readOne 14 = .ok (.getfield 51, 3) := by decide +kernel
theorem dX4_readOne_17 : decode cX4_readOne 17 = .ok (.invokevirtual 71, 3) := by decide +kernel
theorem dX4_readOne_20 : decode cX4_readOne 20 = .ok (.aload_n 0, 1) := by decide +kernel
theorem dX4_readOne_21 : decode cX4_readOne 21 = .ok (.invokevirtual 37, 3) := by decide +kernel
theorem dX4_readOne_24 : decode cX4_readOne 24 = .ok (.goto 47, 3) := by decide +kernel
theorem dX4_readOne_27 : decode cX4_readOne 27 = .ok (.aload_n 0, 1) := by decide +kernel
theorem dX4_readOne_28 : decode cX4_readOne 28 = .ok (.getfield 51, 3) := by decide +kernel
theorem dX4_readOne_31 : decode cX4_readOne 31 = .ok (.bipush (-16), 2) := by decide +kernel
theorem dX4_readOne_33 : decode cX4_readOne 33 = .ok (.if_icmp .ne 34, 3) := by decide +kernel
theorem dX4_readOne_36 : decode cX4_readOne 36 = .ok (.aload_n 0, 1) := by decide +kernel
theorem dX4_readOne_37 : decode cX4_readOne 37 = .ok (.invokevirtual 74, 3) := by decide +kernel
theorem dX4_readOne_40 : decode cX4_readOne 40 = .ok (.ifCond .eq 31, 3) := by decide +kernel
theorem dX4_readOne_43 : decode cX4_readOne 43 = .ok (.aload_n 0, 1) := by decide +kernel
theorem dX4_readOne_44 : decode cX4_readOne 44 = .ok (.iconst 0, 1) := by decide +kernel
theorem dX4_readOne_45 : decode cX4_readOne 45 = .ok (.invokevirtual 44, 3) := by decide +kernel
theorem dX4_readOne_48 : decode cX4_readOne 48 = .ok (.aload_n 0, 1) := by decide +kernel
theorem dX4_readOne_49 : decode cX4_readOne 49 = .ok (.dup, 1) := by decide +kernel
theorem dX4_readOne_50 : decode cX4_readOne 50 = .ok (.getfield 31, 3) := by decide +kernel
theorem dX4_readOne_53 : decode cX4_readOne 53 = .ok (.iconst 1, 1) := by decide +kernel
theorem dX4_readOne_54 : decode cX4_readOne 54 = .ok (.isub, 1) := by decide +kernel
theorem dX4_readOne_55 : decode cX4_readOne 55 = .ok (.putfield 31, 3) := by decide +kernel
theorem dX4_readOne_58 : decode cX4_readOne 58 = .ok (.aload_n 0, 1) := by decide +kernel
theorem dX4_readOne_59 : decode cX4_readOne 59 = .ok (.bipush (-17), 2) := by decide +kernel
theorem dX4_readOne_61 : decode cX4_readOne 61 = .ok (.invokevirtual 40, 3) := by decide +kernel
theorem dX4_readOne_64 : decode cX4_readOne 64 = .ok (.goto 7, 3) := by decide +kernel
theorem dX4_readOne_67 : decode cX4_readOne 67 = .ok (.aload_n 0, 1) := by decide +kernel
theorem dX4_readOne_68 : decode cX4_readOne 68 = .ok (.invokevirtual 54, 3) := by decide +kernel
theorem dX4_readOne_71 : decode cX4_readOne 71 = .ok (.return_, 1) := by decide +kernel
theorem dX4_readBehind_0 : decode cX4_readBehind 0 = .ok (.aload_n 0, 1) := by decide +kernel
theorem dX4_readBehind_1 : decode cX4_readBehind 1 = .ok (.invokevirtual 74, 3) := by decide +kernel
theorem dX4_readBehind_4 : decode cX4_readBehind 4 = .ok (.ifCond .eq 26, 3) := by decide +kernel
theorem dX4_readBehind_7 : decode cX4_readBehind 7 = .ok (.aload_n 0, 1) := by decide +kernel
theorem dX4_readBehind_8 : decode cX4_readBehind 8 = .ok (.iload_n 1, 1) := by decide +kernel
theorem dX4_readBehind_9 : decode cX4_readBehind 9 = .ok (.invokevirtual 44, 3) := by decide +kernel
theorem dX4_readBehind_12 : decode cX4_readBehind 12 = .ok (.aload_n 0, 1) := by decide +kernel
theorem dX4_readBehind_13 : decode cX4_readBehind 13 = .ok (.dup, 1) := by decide +kernel
theorem dX4_readBehind_14 : decode cX4_readBehind 14 = .ok (.getfield 31, 3) := by decide +kernel
theorem dX4_readBehind_17 : decode cX4_readBehind 17 = .ok (.iconst 1, 1) := by decide +kernel
theorem dX4_readBehind_18 : decode cX4_readBehind 18 = .ok (.isub, 1) := by decide +kernel
theorem dX4_readBehind_19 : decode cX4_readBehind 19 = .ok (.putfield 31, 3) := by decide +kernel
theorem dX4_readBehind_22 : decode cX4_readBehind 22 = .ok (.aload_n 0, 1) := by decide +kernel
theorem dX4_readBehind_23 : decode cX4_readBehind 23 = .ok (.getfield 19, 3) := by decide +kernel
theorem dX4_readBehind_26 : decode cX4_readBehind 26 = .ok (.iload_n 2, 1) := by decide +kernel
theorem dX4_readBehind_27 : decode cX4_readBehind 27 = .ok (.invokevirtual 71, 3) := by decide +kernel
theorem dX4_readBehind_30 : decode cX4_readBehind 30 = .ok (.return_, 1) := by decide +kernel
theorem dX4_opens_0 : decode cX4_opens 0 = .ok (.aload_n 0, 1) := by decide +kernel
theorem dX4_opens_1 : decode cX4_opens 1 = .ok (.getfield 31, 3) := by decide +kernel
theorem dX4_opens_4 : decode cX4_opens 4 = .ok (.iconst 5, 1) := by decide +kernel
theorem dX4_opens_5 : decode cX4_opens 5 = .ok (.if_icmp .lt 9, 3) := by decide +kernel
theorem dX4_opens_8 : decode cX4_opens 8 = .ok (.aload_n 0, 1) := by decide +kernel
theorem dX4_opens_9 : decode cX4_opens 9 = .ok (.invokevirtual 54, 3) := by decide +kernel
theorem dX4_opens_12 : decode cX4_opens 12 = .ok (.iconst 0, 1) := by decide +kernel
theorem dX4_opens_13 : decode cX4_opens 13 = .ok (.ireturn, 1) := by decide +kernel
theorem dX4_opens_14 : decode cX4_opens 14 = .ok (.aload_n 0, 1) := by decide +kernel
theorem dX4_opens_15 : decode cX4_opens 15 = .ok (.dup, 1) := by decide +kernel
theorem dX4_opens_16 : decode cX4_opens 16 = .ok (.getfield 31, 3) := by decide +kernel
theorem dX4_opens_19 : decode cX4_opens 19 = .ok (.iconst 1, 1) := by decide +kernel
theorem dX4_opens_20 : decode cX4_opens 20 = .ok (.iadd, 1) := by decide +kernel
theorem dX4_opens_21 : decode cX4_opens 21 = .ok (.putfield 31, 3) := by decide +kernel
theorem dX4_opens_24 : decode cX4_opens 24 = .ok (.aload_n 0, 1) := by decide +kernel
theorem dX4_opens_25 : decode cX4_opens 25 = .ok (.invokevirtual 37, 3) := by decide +kernel
theorem dX4_opens_28 : decode cX4_opens 28 = .ok (.iconst 1, 1) := by decide +kernel
theorem dX4_opens_29 : decode cX4_opens 29 = .ok (.ireturn, 1) := by decide +kernel
theorem dX4_advance_0 : decode cX4_advance 0 = .ok (.aload_n 0, 1) := by decide +kernel
theorem dX4_advance_1 : decode cX4_advance 1 = .ok (.getfield 28, 3) := by decide +kernel
theorem dX4_advance_4 : decode cX4_advance 4 = .ok (.aload_n 0, 1) := by decide +kernel
theorem dX4_advance_5 : decode cX4_advance 5 = .ok (.getfield 15, 3) := by decide +kernel
theorem dX4_advance_8 : decode cX4_advance 8 = .ok (.if_icmp .ge 31, 3) := by decide +kernel
theorem dX4_advance_11 : decode cX4_advance 11 = .ok (.aload_n 0, 1) := by decide +kernel
theorem dX4_advance_12 : decode cX4_advance 12 = .ok (.getfield 9, 3) := by decide +kernel
theorem dX4_advance_15 : decode cX4_advance 15 = .ok (.aload_n 0, 1) := by decide +kernel
theorem dX4_advance_16 : decode cX4_advance 16 = .ok (.getfield 28, 3) := by decide +kernel
theorem dX4_advance_19 : decode cX4_advance 19 = .ok (.iaload, 1) := by decide +kernel
theorem dX4_advance_20 : decode cX4_advance 20 = .ok (.invokestatic 78, 3) := by decide +kernel
theorem dX4_advance_23 : decode cX4_advance 23 = .ok (.ifCond .eq 16, 3) := by decide +kernel
theorem dX4_advance_26 : decode cX4_advance 26 = .ok (.aload_n 0, 1) := by decide +kernel
theorem dX4_advance_27 : decode cX4_advance 27 = .ok (.dup, 1) := by decide +kernel
theorem dX4_advance_28 : decode cX4_advance 28 = .ok (.getfield 28, 3) := by decide +kernel
theorem dX4_advance_31 : decode cX4_advance 31 = .ok (.iconst 1, 1) := by decide +kernel
theorem dX4_advance_32 : decode cX4_advance 32 = .ok (.iadd, 1) := by decide +kernel
theorem dX4_advance_33 : decode cX4_advance 33 = .ok (.putfield 28, 3) := by decide +kernel
theorem dX4_advance_36 : decode cX4_advance 36 = .ok (.goto (-36), 3) := by decide +kernel
theorem dX4_advance_39 : decode cX4_advance 39 = .ok (.aload_n 0, 1) := by decide +kernel
theorem dX4_advance_40 : decode cX4_advance 40 = .ok (.aload_n 0, 1) := by decide +kernel
theorem dX4_advance_41 : decode cX4_advance 41 = .ok (.getfield 28, 3) := by decide +kernel
theorem dX4_advance_44 : decode cX4_advance 44 = .ok (.putfield 57, 3) := by decide +kernel
theorem dX4_advance_47 : decode cX4_advance 47 = .ok (.aload_n 0, 1) := by decide +kernel
theorem dX4_advance_48 : decode cX4_advance 48 = .ok (.getfield 28, 3) := by decide +kernel
theorem dX4_advance_51 : decode cX4_advance 51 = .ok (.aload_n 0, 1) := by decide +kernel
theorem dX4_advance_52 : decode cX4_advance 52 = .ok (.getfield 15, 3) := by decide +kernel
theorem dX4_advance_55 : decode cX4_advance 55 = .ok (.if_icmp .lt 12, 3) := by decide +kernel
theorem dX4_advance_58 : decode cX4_advance 58 = .ok (.aload_n 0, 1) := by decide +kernel
theorem dX4_advance_59 : decode cX4_advance 59 = .ok (.bipush (-22), 2) := by decide +kernel
theorem dX4_advance_61 : decode cX4_advance 61 = .ok (.putfield 51, 3) := by decide +kernel
theorem dX4_advance_64 : decode cX4_advance 64 = .ok (.goto 81, 3) := by decide +kernel
theorem dX4_advance_67 : decode cX4_advance 67 = .ok (.aload_n 0, 1) := by decide +kernel
theorem dX4_advance_68 : decode cX4_advance 68 = .ok (.getfield 9, 3) := by decide +kernel
theorem dX4_advance_71 : decode cX4_advance 71 = .ok (.aload_n 0, 1) := by decide +kernel
theorem dX4_advance_72 : decode cX4_advance 72 = .ok (.getfield 28, 3) := by decide +kernel
theorem dX4_advance_75 : decode cX4_advance 75 = .ok (.iaload, 1) := by decide +kernel
theorem dX4_advance_76 : decode cX4_advance 76 = .ok (.invokestatic 82, 3) := by decide +kernel
theorem dX4_advance_79 : decode cX4_advance 79 = .ok (.ifCond .eq 14, 3) := by decide +kernel
theorem dX4_advance_82 : decode cX4_advance 82 = .ok (.aload_n 0, 1) := by decide +kernel
theorem dX4_advance_83 : decode cX4_advance 83 = .ok (.aload_n 0, 1) := by decide +kernel
theorem dX4_advance_84 : decode cX4_advance 84 = .ok (.invokevirtual 85, 3) := by decide +kernel
theorem dX4_advance_87 : decode cX4_advance 87 = .ok (.putfield 51, 3) := by decide +kernel
theorem dX4_advance_90 : decode cX4_advance 90 = .ok (.goto 55, 3) := by decide +kernel
theorem dX4_advance_93 : decode cX4_advance 93 = .ok (.aload_n 0, 1) := by decide +kernel
theorem dX4_advance_94 : decode cX4_advance 94 = .ok (.getfield 9, 3) := by decide +kernel
theorem dX4_advance_97 : decode cX4_advance 97 = .ok (.aload_n 0, 1) := by decide +kernel
theorem dX4_advance_98 : decode cX4_advance 98 = .ok (.getfield 28, 3) := by decide +kernel
theorem dX4_advance_101 : decode cX4_advance 101 = .ok (.iaload, 1) := by decide +kernel
theorem dX4_advance_102 : decode cX4_advance 102 = .ok (.invokestatic 89, 3) := by decide +kernel
theorem dX4_advance_105 : decode cX4_advance 105 = .ok (.ifCond .eq 14, 3) := by decide +kernel
theorem dX4_advance_108 : decode cX4_advance 108 = .ok (.aload_n 0, 1) := by decide +kernel
theorem dX4_advance_109 : decode cX4_advance 109 = .ok (.aload_n 0, 1) := by decide +kernel
theorem dX4_advance_110 : decode cX4_advance 110 = .ok (.invokevirtual 92, 3) := by decide +kernel
theorem dX4_advance_113 : decode cX4_advance 113 = .ok (.putfield 51, 3) := by decide +kernel
theorem dX4_advance_116 : decode cX4_advance 116 = .ok (.goto 29, 3) := by decide +kernel
theorem dX4_advance_119 : decode cX4_advance 119 = .ok (.aload_n 0, 1) := by decide +kernel
theorem dX4_advance_120 : decode cX4_advance 120 = .ok (.aload_n 0, 1) := by decide +kernel
theorem dX4_advance_121 : decode cX4_advance 121 = .ok (.getfield 9, 3) := by decide +kernel
theorem dX4_advance_124 : decode cX4_advance 124 = .ok (.aload_n 0, 1) := by decide +kernel
theorem dX4_advance_125 : decode cX4_advance 125 = .ok (.getfield 28, 3) := by decide +kernel
theorem dX4_advance_128 : decode cX4_advance 128 = .ok (.iaload, 1) := by decide +kernel
theorem dX4_advance_129 : decode cX4_advance 129 = .ok (.invokestatic 95, 3) := by decide +kernel
theorem dX4_advance_132 : decode cX4_advance 132 = .ok (.putfield 51, 3) := by decide +kernel
theorem dX4_advance_135 : decode cX4_advance 135 = .ok (.aload_n 0, 1) := by decide +kernel
theorem dX4_advance_136 : decode cX4_advance 136 = .ok (.dup, 1) := by decide +kernel
theorem dX4_advance_137 : decode cX4_advance 137 = .ok (.getfield 28, 3) := by decide +kernel
theorem dX4_advance_140 : decode cX4_advance 140 = .ok (.iconst 1, 1) := by decide +kernel
theorem dX4_advance_141 : decode cX4_advance 141 = .ok (.iadd, 1) := by decide +kernel
theorem dX4_advance_142 : decode cX4_advance 142 = .ok (.putfield 28, 3) := by decide +kernel
theorem dX4_advance_145 : decode cX4_advance 145 = .ok (.return_, 1) := by decide +kernel
theorem dX4_nextWord_0 : decode cX4_nextWord 0 = .ok (.aload_n 0, 1) := by decide +kernel
theorem dX4_nextWord_1 : decode cX4_nextWord 1 = .ok (.getfield 28, 3) := by decide +kernel
theorem dX4_nextWord_4 : decode cX4_nextWord 4 = .ok (.aload_n 0, 1) := by decide +kernel
theorem dX4_nextWord_5 : decode cX4_nextWord 5 = .ok (.getfield 15, 3) := by decide +kernel
theorem dX4_nextWord_8 : decode cX4_nextWord 8 = .ok (.if_icmp .ge 31, 3) := by decide +kernel
theorem dX4_nextWord_11 : decode cX4_nextWord 11 = .ok (.aload_n 0, 1) := by decide +kernel
theorem dX4_nextWord_12 : decode cX4_nextWord 12 = .ok (.getfield 9, 3) := by decide +kernel
theorem dX4_nextWord_15 : decode cX4_nextWord 15 = .ok (.aload_n 0, 1) := by decide +kernel
theorem dX4_nextWord_16 : decode cX4_nextWord 16 = .ok (.getfield 28, 3) := by decide +kernel
theorem dX4_nextWord_19 : decode cX4_nextWord 19 = .ok (.iaload, 1) := by decide +kernel
theorem dX4_nextWord_20 : decode cX4_nextWord 20 = .ok (.invokestatic 82, 3) := by decide +kernel
theorem dX4_nextWord_23 : decode cX4_nextWord 23 = .ok (.ifCond .eq 16, 3) := by decide +kernel
theorem dX4_nextWord_26 : decode cX4_nextWord 26 = .ok (.aload_n 0, 1) := by decide +kernel
theorem dX4_nextWord_27 : decode cX4_nextWord 27 = .ok (.dup, 1) := by decide +kernel
theorem dX4_nextWord_28 : decode cX4_nextWord 28 = .ok (.getfield 28, 3) := by decide +kernel
theorem dX4_nextWord_31 : decode cX4_nextWord 31 = .ok (.iconst 1, 1) := by decide +kernel
theorem dX4_nextWord_32 : decode cX4_nextWord 32 = .ok (.iadd, 1) := by decide +kernel
theorem dX4_nextWord_33 : decode cX4_nextWord 33 = .ok (.putfield 28, 3) := by decide +kernel
theorem dX4_nextWord_36 : decode cX4_nextWord 36 = .ok (.goto (-36), 3) := by decide +kernel
theorem dX4_nextWord_39 : decode cX4_nextWord 39 = .ok (.aload_n 0, 1) := by decide +kernel
theorem dX4_nextWord_40 : decode cX4_nextWord 40 = .ok (.ldc 99, 2) := by decide +kernel
theorem dX4_nextWord_42 : decode cX4_nextWord 42 = .ok (.invokevirtual 101, 3) := by decide +kernel
theorem dX4_nextWord_45 : decode cX4_nextWord 45 = .ok (.ifCond .eq 5, 3) := by decide +kernel
theorem dX4_nextWord_48 : decode cX4_nextWord 48 = .ok (.iconst (-1), 1) := by decide +kernel
theorem dX4_nextWord_49 : decode cX4_nextWord 49 = .ok (.ireturn, 1) := by decide +kernel
theorem dX4_nextWord_50 : decode cX4_nextWord 50 = .ok (.aload_n 0, 1) := by decide +kernel
theorem dX4_nextWord_51 : decode cX4_nextWord 51 = .ok (.ldc 105, 2) := by decide +kernel
theorem dX4_nextWord_53 : decode cX4_nextWord 53 = .ok (.invokevirtual 101, 3) := by decide +kernel
theorem dX4_nextWord_56 : decode cX4_nextWord 56 = .ok (.ifCond .eq 6, 3) := by decide +kernel
theorem dX4_nextWord_59 : decode cX4_nextWord 59 = .ok (.bipush (-2), 2) := by decide +kernel
theorem dX4_nextWord_61 : decode cX4_nextWord 61 = .ok (.ireturn, 1) := by decide +kernel
theorem dX4_nextWord_62 : decode cX4_nextWord 62 = .ok (.aload_n 0, 1) := by decide +kernel
theorem dX4_nextWord_63 : decode cX4_nextWord 63 = .ok (.ldc 107, 2) := by decide +kernel
theorem dX4_nextWord_65 : decode cX4_nextWord 65 = .ok (.invokevirtual 101, 3) := by decide +kernel
theorem dX4_nextWord_68 : decode cX4_nextWord 68 = .ok (.ifCond .eq 6, 3) := by decide +kernel
theorem dX4_nextWord_71 : decode cX4_nextWord 71 = .ok (.bipush (-3), 2) := by decide +kernel
theorem dX4_nextWord_73 : decode cX4_nextWord 73 = .ok (.ireturn, 1) := by decide +kernel
theorem dX4_nextWord_74 : decode cX4_nextWord 74 = .ok (.aload_n 0, 1) := by decide +kernel
theorem dX4_nextWord_75 : decode cX4_nextWord 75 = .ok (.ldc 109, 2) := by decide +kernel
theorem dX4_nextWord_77 : decode cX4_nextWord 77 = .ok (.invokevirtual 101, 3) := by decide +kernel
theorem dX4_nextWord_80 : decode cX4_nextWord 80 = .ok (.ifCond .eq 6, 3) := by decide +kernel
theorem dX4_nextWord_83 : decode cX4_nextWord 83 = .ok (.bipush (-4), 2) := by decide +kernel
theorem dX4_nextWord_85 : decode cX4_nextWord 85 = .ok (.ireturn, 1) := by decide +kernel
theorem dX4_nextWord_86 : decode cX4_nextWord 86 = .ok (.aload_n 0, 1) := by decide +kernel
theorem dX4_nextWord_87 : decode cX4_nextWord 87 = .ok (.ldc 111, 2) := by decide +kernel
theorem dX4_nextWord_89 : decode cX4_nextWord 89 = .ok (.invokevirtual 101, 3) := by decide +kernel
theorem dX4_nextWord_92 : decode cX4_nextWord 92 = .ok (.ifCond .eq 6, 3) := by decide +kernel
theorem dX4_nextWord_95 : decode cX4_nextWord 95 = .ok (.bipush (-5), 2) := by decide +kernel
theorem dX4_nextWord_97 : decode cX4_nextWord 97 = .ok (.ireturn, 1) := by decide +kernel
theorem dX4_nextWord_98 : decode cX4_nextWord 98 = .ok (.aload_n 0, 1) := by decide +kernel
theorem dX4_nextWord_99 : decode cX4_nextWord 99 = .ok (.ldc 113, 2) := by decide +kernel
theorem dX4_nextWord_101 : decode cX4_nextWord 101 = .ok (.invokevirtual 101, 3) := by decide +kernel
theorem dX4_nextWord_104 : decode cX4_nextWord 104 = .ok (.ifCond .eq 6, 3) := by decide +kernel
theorem dX4_nextWord_107 : decode cX4_nextWord 107 = .ok (.bipush (-6), 2) := by decide +kernel
theorem dX4_nextWord_109 : decode cX4_nextWord 109 = .ok (.ireturn, 1) := by decide +kernel
theorem dX4_nextWord_110 : decode cX4_nextWord 110 = .ok (.aload_n 0, 1) := by decide +kernel
theorem dX4_nextWord_111 : decode cX4_nextWord 111 = .ok (.ldc 115, 2) := by decide +kernel
theorem dX4_nextWord_113 : decode cX4_nextWord 113 = .ok (.invokevirtual 101, 3) := by decide +kernel
theorem dX4_nextWord_116 : decode cX4_nextWord 116 = .ok (.ifCond .eq 6, 3) := by decide +kernel
theorem dX4_nextWord_119 : decode cX4_nextWord 119 = .ok (.bipush (-19), 2) := by decide +kernel
theorem dX4_nextWord_121 : decode cX4_nextWord 121 = .ok (.ireturn, 1) := by decide +kernel
theorem dX4_nextWord_122 : decode cX4_nextWord 122 = .ok (.aload_n 0, 1) := by decide +kernel
theorem dX4_nextWord_123 : decode cX4_nextWord 123 = .ok (.ldc 117, 2) := by decide +kernel
theorem dX4_nextWord_125 : decode cX4_nextWord 125 = .ok (.invokevirtual 101, 3) := by decide +kernel
theorem dX4_nextWord_128 : decode cX4_nextWord 128 = .ok (.ifCond .eq 6, 3) := by decide +kernel
theorem dX4_nextWord_131 : decode cX4_nextWord 131 = .ok (.bipush (-20), 2) := by decide +kernel
theorem dX4_nextWord_133 : decode cX4_nextWord 133 = .ok (.ireturn, 1) := by decide +kernel
theorem dX4_nextWord_134 : decode cX4_nextWord 134 = .ok (.aload_n 0, 1) := by decide +kernel
theorem dX4_nextWord_135 : decode cX4_nextWord 135 = .ok (.ldc 119, 2) := by decide +kernel
theorem dX4_nextWord_137 : decode cX4_nextWord 137 = .ok (.invokevirtual 101, 3) := by decide +kernel
theorem dX4_nextWord_140 : decode cX4_nextWord 140 = .ok (.ifCond .eq 6, 3) := by decide +kernel
theorem dX4_nextWord_143 : decode cX4_nextWord 143 = .ok (.bipush (-21), 2) := by decide +kernel
theorem dX4_nextWord_145 : decode cX4_nextWord 145 = .ok (.ireturn, 1) := by decide +kernel
theorem dX4_nextWord_146 : decode cX4_nextWord 146 = .ok (.aload_n 0, 1) := by decide +kernel
theorem dX4_nextWord_147 : decode cX4_nextWord 147 = .ok (.ldc 121, 2) := by decide +kernel
theorem dX4_nextWord_149 : decode cX4_nextWord 149 = .ok (.invokevirtual 101, 3) := by decide +kernel
theorem dX4_nextWord_152 : decode cX4_nextWord 152 = .ok (.ifCond .eq 6, 3) := by decide +kernel
theorem dX4_nextWord_155 : decode cX4_nextWord 155 = .ok (.bipush (-7), 2) := by decide +kernel
theorem dX4_nextWord_157 : decode cX4_nextWord 157 = .ok (.ireturn, 1) := by decide +kernel
theorem dX4_nextWord_158 : decode cX4_nextWord 158 = .ok (.aload_n 0, 1) := by decide +kernel
theorem dX4_nextWord_159 : decode cX4_nextWord 159 = .ok (.ldc 123, 2) := by decide +kernel
theorem dX4_nextWord_161 : decode cX4_nextWord 161 = .ok (.invokevirtual 101, 3) := by decide +kernel
theorem dX4_nextWord_164 : decode cX4_nextWord 164 = .ok (.ifCond .eq 6, 3) := by decide +kernel
theorem dX4_nextWord_167 : decode cX4_nextWord 167 = .ok (.bipush (-8), 2) := by decide +kernel
theorem dX4_nextWord_169 : decode cX4_nextWord 169 = .ok (.ireturn, 1) := by decide +kernel
theorem dX4_nextWord_170 : decode cX4_nextWord 170 = .ok (.aload_n 0, 1) := by decide +kernel
theorem dX4_nextWord_171 : decode cX4_nextWord 171 = .ok (.ldc 125, 2) := by decide +kernel
theorem dX4_nextWord_173 : decode cX4_nextWord 173 = .ok (.invokevirtual 101, 3) := by decide +kernel
theorem dX4_nextWord_176 : decode cX4_nextWord 176 = .ok (.ifCond .eq 8, 3) := by decide +kernel
theorem dX4_nextWord_179 : decode cX4_nextWord 179 = .ok (.bipush (-9), 2) := by decide +kernel
theorem dX4_nextWord_181 : decode cX4_nextWord 181 = .ok (.goto 5, 3) := by decide +kernel
theorem dX4_nextWord_184 : decode cX4_nextWord 184 = .ok (.bipush (-23), 2) := by decide +kernel
theorem dX4_nextWord_186 : decode cX4_nextWord 186 = .ok (.ireturn, 1) := by decide +kernel
theorem dX4_nextNumber_0 : decode cX4_nextNumber 0 = .ok (.iconst 0, 1) := by decide +kernel
theorem dX4_nextNumber_1 : decode cX4_nextNumber 1 = .ok (.istore_n 1, 1) := by decide +kernel
theorem dX4_nextNumber_2 : decode cX4_nextNumber 2 = .ok (.aload_n 0, 1) := by decide +kernel
theorem dX4_nextNumber_3 : decode cX4_nextNumber 3 = .ok (.getfield 28, 3) := by decide +kernel
theorem dX4_nextNumber_6 : decode cX4_nextNumber 6 = .ok (.aload_n 0, 1) := by decide +kernel
theorem dX4_nextNumber_7 : decode cX4_nextNumber 7 = .ok (.getfield 15, 3) := by decide +kernel
theorem dX4_nextNumber_10 : decode cX4_nextNumber 10 = .ok (.if_icmp .ge 49, 3) := by decide +kernel
theorem dX4_nextNumber_13 : decode cX4_nextNumber 13 = .ok (.aload_n 0, 1) := by decide +kernel
theorem dX4_nextNumber_14 : decode cX4_nextNumber 14 = .ok (.getfield 9, 3) := by decide +kernel
theorem dX4_nextNumber_17 : decode cX4_nextNumber 17 = .ok (.aload_n 0, 1) := by decide +kernel
theorem dX4_nextNumber_18 : decode cX4_nextNumber 18 = .ok (.getfield 28, 3) := by decide +kernel
theorem dX4_nextNumber_21 : decode cX4_nextNumber 21 = .ok (.iaload, 1) := by decide +kernel
theorem dX4_nextNumber_22 : decode cX4_nextNumber 22 = .ok (.invokestatic 89, 3) := by decide +kernel
theorem dX4_nextNumber_25 : decode cX4_nextNumber 25 = .ok (.ifCond .eq 34, 3) := by decide +kernel
theorem dX4_nextNumber_28 : decode cX4_nextNumber 28 = .ok (.bipush 10, 2) := by decide +kernel
theorem dX4_nextNumber_30 : decode cX4_nextNumber 30 = .ok (.iload_n 1, 1) := by decide +kernel
theorem dX4_nextNumber_31 : decode cX4_nextNumber 31 = .ok (.imul, 1) := by decide +kernel
theorem dX4_nextNumber_32 : decode cX4_nextNumber 32 = .ok (.aload_n 0, 1) := by decide +kernel
theorem dX4_nextNumber_33 : decode cX4_nextNumber 33 = .ok (.getfield 9, 3) := by decide +kernel
theorem dX4_nextNumber_36 : decode cX4_nextNumber 36 = .ok (.aload_n 0, 1) := by decide +kernel
theorem dX4_nextNumber_37 : decode cX4_nextNumber 37 = .ok (.getfield 28, 3) := by decide +kernel
theorem dX4_nextNumber_40 : decode cX4_nextNumber 40 = .ok (.iaload, 1) := by decide +kernel
theorem dX4_nextNumber_41 : decode cX4_nextNumber 41 = .ok (.iadd, 1) := by decide +kernel
theorem dX4_nextNumber_42 : decode cX4_nextNumber 42 = .ok (.bipush 48, 2) := by decide +kernel
theorem dX4_nextNumber_44 : decode cX4_nextNumber 44 = .ok (.isub, 1) := by decide +kernel
theorem dX4_nextNumber_45 : decode cX4_nextNumber 45 = .ok (.istore_n 1, 1) := by decide +kernel
theorem dX4_nextNumber_46 : decode cX4_nextNumber 46 = .ok (.aload_n 0, 1) := by decide +kernel
theorem dX4_nextNumber_47 : decode cX4_nextNumber 47 = .ok (.dup, 1) := by decide +kernel
theorem dX4_nextNumber_48 : decode cX4_nextNumber 48 = .ok (.getfield 28, 3) := by decide +kernel
theorem dX4_nextNumber_51 : decode cX4_nextNumber 51 = .ok (.iconst 1, 1) := by decide +kernel
theorem dX4_nextNumber_52 : decode cX4_nextNumber 52 = .ok (.iadd, 1) := by decide +kernel
theorem dX4_nextNumber_53 : decode cX4_nextNumber 53 = .ok (.putfield 28, 3) := by decide +kernel
theorem dX4_nextNumber_56 : decode cX4_nextNumber 56 = .ok (.goto (-54), 3) := by decide +kernel
theorem dX4_nextNumber_59 : decode cX4_nextNumber 59 = .ok (.aload_n 0, 1) := by decide +kernel
theorem dX4_nextNumber_60 : decode cX4_nextNumber 60 = .ok (.getfield 28, 3) := by decide +kernel
theorem dX4_nextNumber_63 : decode cX4_nextNumber 63 = .ok (.aload_n 0, 1) := by decide +kernel
theorem dX4_nextNumber_64 : decode cX4_nextNumber 64 = .ok (.getfield 57, 3) := by decide +kernel
theorem dX4_nextNumber_67 : decode cX4_nextNumber 67 = .ok (.isub, 1) := by decide +kernel
theorem dX4_nextNumber_68 : decode cX4_nextNumber 68 = .ok (.iconst 4, 1) := by decide +kernel
theorem dX4_nextNumber_69 : decode cX4_nextNumber 69 = .ok (.if_icmp .le 8, 3) := by decide +kernel
theorem dX4_nextNumber_72 : decode cX4_nextNumber 72 = .ok (.bipush (-23), 2) := by decide +kernel
theorem dX4_nextNumber_74 : decode cX4_nextNumber 74 = .ok (.goto 4, 3) := by decide +kernel
theorem dX4_nextNumber_77 : decode cX4_nextNumber 77 = .ok (.iload_n 1, 1) := by decide +kernel
theorem dX4_nextNumber_78 : decode cX4_nextNumber 78 = .ok (.ireturn, 1) := by decide +kernel
theorem dX4_spells_0 : decode cX4_spells 0 = .ok (.aload_n 0, 1) := by decide +kernel
theorem dX4_spells_1 : decode cX4_spells 1 = .ok (.getfield 28, 3) := by decide +kernel
theorem dX4_spells_4 : decode cX4_spells 4 = .ok (.aload_n 0, 1) := by decide +kernel
theorem dX4_spells_5 : decode cX4_spells 5 = .ok (.getfield 57, 3) := by decide +kernel
theorem dX4_spells_8 : decode cX4_spells 8 = .ok (.isub, 1) := by decide +kernel
theorem dX4_spells_9 : decode cX4_spells 9 = .ok (.aload_n 1, 1) := by decide +kernel
theorem dX4_spells_10 : decode cX4_spells 10 = .ok (.invokevirtual 127, 3) := by decide +kernel
theorem dX4_spells_13 : decode cX4_spells 13 = .ok (.if_icmp .eq 5, 3) := by decide +kernel
theorem dX4_spells_16 : decode cX4_spells 16 = .ok (.iconst 0, 1) := by decide +kernel
theorem dX4_spells_17 : decode cX4_spells 17 = .ok (.ireturn, 1) := by decide +kernel
theorem dX4_spells_18 : decode cX4_spells 18 = .ok (.iconst 0, 1) := by decide +kernel
theorem dX4_spells_19 : decode cX4_spells 19 = .ok (.istore_n 2, 1) := by decide +kernel
theorem dX4_spells_20 : decode cX4_spells 20 = .ok (.iload_n 2, 1) := by decide +kernel
theorem dX4_spells_21 : decode cX4_spells 21 = .ok (.aload_n 1, 1) := by decide +kernel
theorem dX4_spells_22 : decode cX4_spells 22 = .ok (.invokevirtual 127, 3) := by decide +kernel
theorem dX4_spells_25 : decode cX4_spells 25 = .ok (.if_icmp .ge 30, 3) := by decide +kernel
theorem dX4_spells_28 : decode cX4_spells 28 = .ok (.aload_n 0, 1) := by decide +kernel
theorem dX4_spells_29 : decode cX4_spells 29 = .ok (.getfield 9, 3) := by decide +kernel
theorem dX4_spells_32 : decode cX4_spells 32 = .ok (.aload_n 0, 1) := by decide +kernel
theorem dX4_spells_33 : decode cX4_spells 33 = .ok (.getfield 57, 3) := by decide +kernel
theorem dX4_spells_36 : decode cX4_spells 36 = .ok (.iload_n 2, 1) := by decide +kernel
theorem dX4_spells_37 : decode cX4_spells 37 = .ok (.iadd, 1) := by decide +kernel
theorem dX4_spells_38 : decode cX4_spells 38 = .ok (.iaload, 1) := by decide +kernel
theorem dX4_spells_39 : decode cX4_spells 39 = .ok (.aload_n 1, 1) := by decide +kernel
theorem dX4_spells_40 : decode cX4_spells 40 = .ok (.iload_n 2, 1) := by decide +kernel
theorem dX4_spells_41 : decode cX4_spells 41 = .ok (.invokevirtual 132, 3) := by decide +kernel
theorem dX4_spells_44 : decode cX4_spells 44 = .ok (.if_icmp .eq 5, 3) := by decide +kernel
theorem dX4_spells_47 : decode cX4_spells 47 = .ok (.iconst 0, 1) := by decide +kernel
theorem dX4_spells_48 : decode cX4_spells 48 = .ok (.ireturn, 1) := by decide +kernel
theorem dX4_spells_49 : decode cX4_spells 49 = .ok (.iinc 2 1, 3) := by decide +kernel
theorem dX4_spells_52 : decode cX4_spells 52 = .ok (.goto (-32), 3) := by decide +kernel
theorem dX4_spells_55 : decode cX4_spells 55 = .ok (.iconst 1, 1) := by decide +kernel
theorem dX4_spells_56 : decode cX4_spells 56 = .ok (.ireturn, 1) := by decide +kernel
theorem dX4_signOf_0 : decode cX4_signOf 0 = .ok (.iload_n 0, 1) := by decide +kernel
theorem dX4_signOf_1 : decode cX4_signOf 1 = .ok (.tableswitch 127 40 61 #[103, 106, 118, 112, 127, 115, 127, 127, 127, 127, 127, 127, 127, 127, 127, 127, 127, 127, 127, 109, 121, 124], 103) := by decide +kernel
theorem dX4_signOf_104 : decode cX4_signOf 104 = .ok (.bipush (-16), 2) := by decide +kernel
theorem dX4_signOf_106 : decode cX4_signOf 106 = .ok (.ireturn, 1) := by decide +kernel
theorem dX4_signOf_107 : decode cX4_signOf 107 = .ok (.bipush (-17), 2) := by decide +kernel
theorem dX4_signOf_109 : decode cX4_signOf 109 = .ok (.ireturn, 1) := by decide +kernel
theorem dX4_signOf_110 : decode cX4_signOf 110 = .ok (.bipush (-18), 2) := by decide +kernel
theorem dX4_signOf_112 : decode cX4_signOf 112 = .ok (.ireturn, 1) := by decide +kernel
theorem dX4_signOf_113 : decode cX4_signOf 113 = .ok (.bipush (-12), 2) := by decide +kernel
theorem dX4_signOf_115 : decode cX4_signOf 115 = .ok (.ireturn, 1) := by decide +kernel
theorem dX4_signOf_116 : decode cX4_signOf 116 = .ok (.bipush (-13), 2) := by decide +kernel
theorem dX4_signOf_118 : decode cX4_signOf 118 = .ok (.ireturn, 1) := by decide +kernel
theorem dX4_signOf_119 : decode cX4_signOf 119 = .ok (.bipush (-14), 2) := by decide +kernel
theorem dX4_signOf_121 : decode cX4_signOf 121 = .ok (.ireturn, 1) := by decide +kernel
theorem dX4_signOf_122 : decode cX4_signOf 122 = .ok (.bipush (-10), 2) := by decide +kernel
theorem dX4_signOf_124 : decode cX4_signOf 124 = .ok (.ireturn, 1) := by decide +kernel
theorem dX4_signOf_125 : decode cX4_signOf 125 = .ok (.bipush (-11), 2) := by decide +kernel
theorem dX4_signOf_127 : decode cX4_signOf 127 = .ok (.ireturn, 1) := by decide +kernel
theorem dX4_signOf_128 : decode cX4_signOf 128 = .ok (.bipush (-23), 2) := by decide +kernel
theorem dX4_signOf_130 : decode cX4_signOf 130 = .ok (.ireturn, 1) := by decide +kernel
theorem dX4_isBlank_0 : decode cX4_isBlank 0 = .ok (.iload_n 0, 1) := by decide +kernel
theorem dX4_isBlank_1 : decode cX4_isBlank 1 = .ok (.bipush 32, 2) := by decide +kernel
theorem dX4_isBlank_3 : decode cX4_isBlank 3 = .ok (.if_icmp .eq 9, 3) := by decide +kernel
theorem dX4_isBlank_6 : decode cX4_isBlank 6 = .ok (.iload_n 0, 1) := by decide +kernel
theorem dX4_isBlank_7 : decode cX4_isBlank 7 = .ok (.bipush 10, 2) := by decide +kernel
theorem dX4_isBlank_9 : decode cX4_isBlank 9 = .ok (.if_icmp .ne 7, 3) := by decide +kernel
theorem dX4_isBlank_12 : decode cX4_isBlank 12 = .ok (.iconst 1, 1) := by decide +kernel
theorem dX4_isBlank_13 : decode cX4_isBlank 13 = .ok (.goto 4, 3) := by decide +kernel
theorem dX4_isBlank_16 : decode cX4_isBlank 16 = .ok (.iconst 0, 1) := by decide +kernel
theorem dX4_isBlank_17 : decode cX4_isBlank 17 = .ok (.ireturn, 1) := by decide +kernel
theorem dX4_isLetter_0 : decode cX4_isLetter 0 = .ok (.iload_n 0, 1) := by decide +kernel
theorem dX4_isLetter_1 : decode cX4_isLetter 1 = .ok (.bipush 97, 2) := by decide +kernel
theorem dX4_isLetter_3 : decode cX4_isLetter 3 = .ok (.if_icmp .lt 13, 3) := by decide +kernel
theorem dX4_isLetter_6 : decode cX4_isLetter 6 = .ok (.iload_n 0, 1) := by decide +kernel
theorem dX4_isLetter_7 : decode cX4_isLetter 7 = .ok (.bipush 122, 2) := by decide +kernel
theorem dX4_isLetter_9 : decode cX4_isLetter 9 = .ok (.if_icmp .gt 7, 3) := by decide +kernel
theorem dX4_isLetter_12 : decode cX4_isLetter 12 = .ok (.iconst 1, 1) := by decide +kernel
theorem dX4_isLetter_13 : decode cX4_isLetter 13 = .ok (.goto 4, 3) := by decide +kernel
theorem dX4_isLetter_16 : decode cX4_isLetter 16 = .ok (.iconst 0, 1) := by decide +kernel
theorem dX4_isLetter_17 : decode cX4_isLetter 17 = .ok (.ireturn, 1) := by decide +kernel
theorem dX4_isDigit_0 : decode cX4_isDigit 0 = .ok (.iload_n 0, 1) := by decide +kernel
theorem dX4_isDigit_1 : decode cX4_isDigit 1 = .ok (.bipush 48, 2) := by decide +kernel
theorem dX4_isDigit_3 : decode cX4_isDigit 3 = .ok (.if_icmp .lt 13, 3) := by decide +kernel
theorem dX4_isDigit_6 : decode cX4_isDigit 6 = .ok (.iload_n 0, 1) := by decide +kernel
theorem dX4_isDigit_7 : decode cX4_isDigit 7 = .ok (.bipush 57, 2) := by decide +kernel
theorem dX4_isDigit_9 : decode cX4_isDigit 9 = .ok (.if_icmp .gt 7, 3) := by decide +kernel
theorem dX4_isDigit_12 : decode cX4_isDigit 12 = .ok (.iconst 1, 1) := by decide +kernel
theorem dX4_isDigit_13 : decode cX4_isDigit 13 = .ok (.goto 4, 3) := by decide +kernel
theorem dX4_isDigit_16 : decode cX4_isDigit 16 = .ok (.iconst 0, 1) := by decide +kernel
theorem dX4_isDigit_17 : decode cX4_isDigit 17 = .ok (.ireturn, 1) := by decide +kernel
theorem dX5_init_0 : decode cX5_init 0 = .ok (.aload_n 0, 1) := by decide +kernel
theorem dX5_init_1 : decode cX5_init 1 = .ok (.invokespecial 3, 3) := by decide +kernel
theorem dX5_init_4 : decode cX5_init 4 = .ok (.aload_n 0, 1) := by decide +kernel
theorem dX5_init_5 : decode cX5_init 5 = .ok (.iconst 3, 1) := by decide +kernel
theorem dX5_init_6 : decode cX5_init 6 = .ok (.newarray .int, 2) := by decide +kernel
theorem dX5_init_8 : decode cX5_init 8 = .ok (.dup, 1) := by decide +kernel
theorem dX5_init_9 : decode cX5_init 9 = .ok (.iconst 0, 1) := by decide +kernel
theorem dX5_init_10 : decode cX5_init 10 = .ok (.iconst 1, 1) := by decide +kernel
theorem dX5_init_11 : decode cX5_init 11 = .ok (.iastore, 1) := by decide +kernel
theorem dX5_init_12 : decode cX5_init 12 = .ok (.dup, 1) := by decide +kernel
theorem dX5_init_13 : decode cX5_init 13 = .ok (.iconst 1, 1) := by decide +kernel
theorem dX5_init_14 : decode cX5_init 14 = .ok (.iconst 1, 1) := by decide +kernel
theorem dX5_init_15 : decode cX5_init 15 = .ok (.iastore, 1) := by decide +kernel
theorem dX5_init_16 : decode cX5_init 16 = .ok (.dup, 1) := by decide +kernel
theorem dX5_init_17 : decode cX5_init 17 = .ok (.iconst 2, 1) := by decide +kernel
theorem dX5_init_18 : decode cX5_init 18 = .ok (.iconst 0, 1) := by decide +kernel
theorem dX5_init_19 : decode cX5_init 19 = .ok (.iastore, 1) := by decide +kernel
theorem dX5_init_20 : decode cX5_init 20 = .ok (.putfield 9, 3) := by decide +kernel
theorem dX5_init_23 : decode cX5_init 23 = .ok (.aload_n 0, 1) := by decide +kernel
theorem dX5_init_24 : decode cX5_init 24 = .ok (.iconst 5, 1) := by decide +kernel
theorem dX5_init_25 : decode cX5_init 25 = .ok (.newarray .int, 2) := by decide +kernel
theorem dX5_init_27 : decode cX5_init 27 = .ok (.putfield 15, 3) := by decide +kernel
theorem dX5_init_30 : decode cX5_init 30 = .ok (.aload_n 0, 1) := by decide +kernel
theorem dX5_init_31 : decode cX5_init 31 = .ok (.sipush 1000, 3) := by decide +kernel
theorem dX5_init_34 : decode cX5_init 34 = .ok (.newarray .int, 2) := by decide +kernel
theorem dX5_init_36 : decode cX5_init 36 = .ok (.putfield 18, 3) := by decide +kernel
theorem dX5_init_39 : decode cX5_init 39 = .ok (.aload_n 0, 1) := by decide +kernel
theorem dX5_init_40 : decode cX5_init 40 = .ok (.invokevirtual 21, 3) := by decide +kernel
theorem dX5_init_43 : decode cX5_init 43 = .ok (.return_, 1) := by decide +kernel
theorem dX5_layAll_0 : decode cX5_layAll 0 = .ok (.iconst 0, 1) := by decide +kernel
theorem dX5_layAll_1 : decode cX5_layAll 1 = .ok (.istore_n 1, 1) := by decide +kernel
theorem dX5_layAll_2 : decode cX5_layAll 2 = .ok (.iload_n 1, 1) := by decide +kernel
theorem dX5_layAll_3 : decode cX5_layAll 3 = .ok (.sipush 999, 3) := by decide +kernel
theorem dX5_layAll_6 : decode cX5_layAll 6 = .ok (.if_icmp .gt 16, 3) := by decide +kernel
theorem dX5_layAll_9 : decode cX5_layAll 9 = .ok (.aload_n 0, 1) := by decide +kernel
theorem dX5_layAll_10 : decode cX5_layAll 10 = .ok (.getfield 18, 3) := by decide +kernel
theorem dX5_layAll_13 : decode cX5_layAll 13 = .ok (.iload_n 1, 1) := by decide +kernel
theorem dX5_layAll_14 : decode cX5_layAll 14 = .ok (.iconst (-1), 1) := by decide +kernel
theorem dX5_layAll_15 : decode cX5_layAll 15 = .ok (.iastore, 1) := by decide +kernel
theorem dX5_layAll_16 : decode cX5_layAll 16 = .ok (.iinc 1 1, 3) := by decide +kernel
theorem dX5_layAll_19 : decode cX5_layAll 19 = .ok (.goto (-17), 3) := by decide +kernel
theorem dX5_layAll_22 : decode cX5_layAll 22 = .ok (.aload_n 0, 1) := by decide +kernel
theorem dX5_layAll_23 : decode cX5_layAll 23 = .ok (.iconst 0, 1) := by decide +kernel
theorem dX5_layAll_24 : decode cX5_layAll 24 = .ok (.iconst 0, 1) := by decide +kernel
theorem dX5_layAll_25 : decode cX5_layAll 25 = .ok (.iconst 0, 1) := by decide +kernel
theorem dX5_layAll_26 : decode cX5_layAll 26 = .ok (.invokevirtual 24, 3) := by decide +kernel
theorem dX5_layAll_29 : decode cX5_layAll 29 = .ok (.return_, 1) := by decide +kernel
theorem dX5_lay_0 : decode cX5_lay 0 = .ok (.iload_n 1, 1) := by decide +kernel
theorem dX5_lay_1 : decode cX5_lay 1 = .ok (.aload_n 0, 1) := by decide +kernel
theorem dX5_lay_2 : decode cX5_lay 2 = .ok (.getfield 28, 3) := by decide +kernel
theorem dX5_lay_5 : decode cX5_lay 5 = .ok (.if_icmp .ge 8, 3) := by decide +kernel
theorem dX5_lay_8 : decode cX5_lay 8 = .ok (.iload_n 1, 1) := by decide +kernel
theorem dX5_lay_9 : decode cX5_lay 9 = .ok (.iconst 5, 1) := by decide +kernel
theorem dX5_lay_10 : decode cX5_lay 10 = .ok (.if_icmp .lt 48, 3) := by decide +kernel
theorem dX5_lay_13 : decode cX5_lay 13 = .ok (.iload_n 2, 1) := by decide +kernel
theorem dX5_lay_14 : decode cX5_lay 14 = .ok (.invokestatic 32, 3) := by decide +kernel
theorem dX5_lay_17 : decode cX5_lay 17 = .ok (.istore 4, 2) := by decide +kernel
theorem dX5_lay_19 : decode cX5_lay 19 = .ok (.iload 4, 2) := by decide +kernel
theorem dX5_lay_21 : decode cX5_lay 21 = .ok (.sipush 999, 3) := by decide +kernel
theorem dX5_lay_24 : decode cX5_lay 24 = .ok (.if_icmp .gt 33, 3) := by decide +kernel
theorem dX5_lay_27 : decode cX5_lay 27 = .ok (.aload_n 0, 1) := by decide +kernel
theorem dX5_lay_28 : decode cX5_lay 28 = .ok (.getfield 18, 3) := by decide +kernel
theorem dX5_lay_31 : decode cX5_lay 31 = .ok (.iload 4, 2) := by decide +kernel
theorem dX5_lay_33 : decode cX5_lay 33 = .ok (.iaload, 1) := by decide +kernel
theorem dX5_lay_34 : decode cX5_lay 34 = .ok (.iconst (-1), 1) := by decide +kernel
theorem dX5_lay_35 : decode cX5_lay 35 = .ok (.if_icmp .eq 14, 3) := by decide +kernel
theorem dX5_lay_38 : decode cX5_lay 38 = .ok (.iload_n 3, 1) := by decide +kernel
theorem dX5_lay_39 : decode cX5_lay 39 = .ok (.aload_n 0, 1) := by decide +kernel
theorem dX5_lay_40 : decode cX5_lay 40 = .ok (.getfield 18, 3) := by decide +kernel
theorem dX5_lay_43 : decode cX5_lay 43 = .ok (.iload 4, 2) := by decide +kernel
theorem dX5_lay_45 : decode cX5_lay 45 = .ok (.iaload, 1) := by decide +kernel
theorem dX5_lay_46 : decode cX5_lay 46 = .ok (.if_icmp .ge 11, 3) := by decide +kernel
theorem dX5_lay_49 : decode cX5_lay 49 = .ok (.aload_n 0, 1) := by decide +kernel
theorem dX5_lay_50 : decode cX5_lay 50 = .ok (.getfield 18, 3) := by decide +kernel
theorem dX5_lay_53 : decode cX5_lay 53 = .ok (.iload 4, 2) := by decide +kernel
theorem dX5_lay_55 : decode cX5_lay 55 = .ok (.iload_n 3, 1) := by decide +kernel
theorem dX5_lay_56 : decode cX5_lay 56 = .ok (.iastore, 1) := by decide +kernel
theorem dX5_lay_57 : decode cX5_lay 57 = .ok (.return_, 1) := by decide +kernel
theorem dX5_lay_58 : decode cX5_lay 58 = .ok (.aload_n 0, 1) := by decide +kernel
theorem dX5_lay_59 : decode cX5_lay 59 = .ok (.iload_n 1, 1) := by decide +kernel
theorem dX5_lay_60 : decode cX5_lay 60 = .ok (.iconst 1, 1) := by decide +kernel
theorem dX5_lay_61 : decode cX5_lay 61 = .ok (.iadd, 1) := by decide +kernel
theorem dX5_lay_62 : decode cX5_lay 62 = .ok (.iload_n 2, 1) := by decide +kernel
theorem dX5_lay_63 : decode cX5_lay 63 = .ok (.iload_n 3, 1) := by decide +kernel
theorem dX5_lay_64 : decode cX5_lay 64 = .ok (.invokevirtual 24, 3) := by decide +kernel
theorem dX5_lay_67 : decode cX5_lay 67 = .ok (.aload_n 0, 1) := by decide +kernel
theorem dX5_lay_68 : decode cX5_lay 68 = .ok (.iload_n 1, 1) := by decide +kernel
theorem dX5_lay_69 : decode cX5_lay 69 = .ok (.iconst 1, 1) := by decide +kernel
theorem dX5_lay_70 : decode cX5_lay 70 = .ok (.iadd, 1) := by decide +kernel
theorem dX5_lay_71 : decode cX5_lay 71 = .ok (.iload_n 2, 1) := by decide +kernel
theorem dX5_lay_72 : decode cX5_lay 72 = .ok (.aload_n 0, 1) := by decide +kernel
theorem dX5_lay_73 : decode cX5_lay 73 = .ok (.getfield 15, 3) := by decide +kernel
theorem dX5_lay_76 : decode cX5_lay 76 = .ok (.iload_n 1, 1) := by decide +kernel
theorem dX5_lay_77 : decode cX5_lay 77 = .ok (.iaload, 1) := by decide +kernel
theorem dX5_lay_78 : decode cX5_lay 78 = .ok (.iadd, 1) := by decide +kernel
theorem dX5_lay_79 : decode cX5_lay 79 = .ok (.iload_n 3, 1) := by decide +kernel
theorem dX5_lay_80 : decode cX5_lay 80 = .ok (.iconst 1, 1) := by decide +kernel
theorem dX5_lay_81 : decode cX5_lay 81 = .ok (.iadd, 1) := by decide +kernel
theorem dX5_lay_82 : decode cX5_lay 82 = .ok (.invokevirtual 24, 3) := by decide +kernel
theorem dX5_lay_85 : decode cX5_lay 85 = .ok (.aload_n 0, 1) := by decide +kernel
theorem dX5_lay_86 : decode cX5_lay 86 = .ok (.iload_n 1, 1) := by decide +kernel
theorem dX5_lay_87 : decode cX5_lay 87 = .ok (.iconst 1, 1) := by decide +kernel
theorem dX5_lay_88 : decode cX5_lay 88 = .ok (.iadd, 1) := by decide +kernel
theorem dX5_lay_89 : decode cX5_lay 89 = .ok (.iload_n 2, 1) := by decide +kernel
theorem dX5_lay_90 : decode cX5_lay 90 = .ok (.aload_n 0, 1) := by decide +kernel
theorem dX5_lay_91 : decode cX5_lay 91 = .ok (.getfield 15, 3) := by decide +kernel
theorem dX5_lay_94 : decode cX5_lay 94 = .ok (.iload_n 1, 1) := by decide +kernel
theorem dX5_lay_95 : decode cX5_lay 95 = .ok (.iaload, 1) := by decide +kernel
theorem dX5_lay_96 : decode cX5_lay 96 = .ok (.isub, 1) := by decide +kernel
theorem dX5_lay_97 : decode cX5_lay 97 = .ok (.iload_n 3, 1) := by decide +kernel
theorem dX5_lay_98 : decode cX5_lay 98 = .ok (.iconst 1, 1) := by decide +kernel
theorem dX5_lay_99 : decode cX5_lay 99 = .ok (.iadd, 1) := by decide +kernel
theorem dX5_lay_100 : decode cX5_lay 100 = .ok (.invokevirtual 24, 3) := by decide +kernel
theorem dX5_lay_103 : decode cX5_lay 103 = .ok (.return_, 1) := by decide +kernel
theorem dX5_fewestFor_0 : decode cX5_fewestFor 0 = .ok (.iload_n 1, 1) := by decide +kernel
theorem dX5_fewestFor_1 : decode cX5_fewestFor 1 = .ok (.ifCond .lt 19, 3) := by decide +kernel
theorem dX5_fewestFor_4 : decode cX5_fewestFor 4 = .ok (.iload_n 1, 1) := by decide +kernel
theorem dX5_fewestFor_5 : decode cX5_fewestFor 5 = .ok (.sipush 999, 3) := by decide +kernel
theorem dX5_fewestFor_8 : decode cX5_fewestFor 8 = .ok (.if_icmp .gt 12, 3) := by decide +kernel
theorem dX5_fewestFor_11 : decode cX5_fewestFor 11 = .ok (.aload_n 0, 1) := by decide +kernel
theorem dX5_fewestFor_12 : decode cX5_fewestFor 12 = .ok (.getfield 18, 3) := by decide +kernel
theorem dX5_fewestFor_15 : decode cX5_fewestFor 15 = .ok (.iload_n 1, 1) := by decide +kernel
theorem dX5_fewestFor_16 : decode cX5_fewestFor 16 = .ok (.iaload, 1) := by decide +kernel
theorem dX5_fewestFor_17 : decode cX5_fewestFor 17 = .ok (.goto 4, 3) := by decide +kernel
theorem dX5_fewestFor_20 : decode cX5_fewestFor 20 = .ok (.iconst (-1), 1) := by decide +kernel
theorem dX5_fewestFor_21 : decode cX5_fewestFor 21 = .ok (.ireturn, 1) := by decide +kernel
theorem dX5_makes_0 : decode cX5_makes 0 = .ok (.aload_n 0, 1) := by decide +kernel
theorem dX5_makes_1 : decode cX5_makes 1 = .ok (.iload_n 1, 1) := by decide +kernel
theorem dX5_makes_2 : decode cX5_makes 2 = .ok (.invokevirtual 38, 3) := by decide +kernel
theorem dX5_makes_5 : decode cX5_makes 5 = .ok (.iconst (-1), 1) := by decide +kernel
theorem dX5_makes_6 : decode cX5_makes 6 = .ok (.if_icmp .eq 7, 3) := by decide +kernel
theorem dX5_makes_9 : decode cX5_makes 9 = .ok (.iconst 1, 1) := by decide +kernel
theorem dX5_makes_10 : decode cX5_makes 10 = .ok (.goto 4, 3) := by decide +kernel
theorem dX5_makes_13 : decode cX5_makes 13 = .ok (.iconst 0, 1) := by decide +kernel
theorem dX5_makes_14 : decode cX5_makes 14 = .ok (.ireturn, 1) := by decide +kernel
theorem dX5_madeWith_0 : decode cX5_madeWith 0 = .ok (.iconst 0, 1) := by decide +kernel
theorem dX5_madeWith_1 : decode cX5_madeWith 1 = .ok (.istore_n 3, 1) := by decide +kernel
theorem dX5_madeWith_2 : decode cX5_madeWith 2 = .ok (.iconst 1, 1) := by decide +kernel
theorem dX5_madeWith_3 : decode cX5_madeWith 3 = .ok (.istore 4, 2) := by decide +kernel
theorem dX5_madeWith_5 : decode cX5_madeWith 5 = .ok (.iload 4, 2) := by decide +kernel
theorem dX5_madeWith_7 : decode cX5_madeWith 7 = .ok (.iload_n 2, 1) := by decide +kernel
theorem dX5_madeWith_8 : decode cX5_madeWith 8 = .ok (.if_icmp .gt 46, 3) := by decide +kernel
theorem dX5_madeWith_11 : decode cX5_madeWith 11 = .ok (.aload_n 0, 1) := by decide +kernel
theorem dX5_madeWith_12 : decode cX5_madeWith 12 = .ok (.iload 4, 2) := by decide +kernel
theorem dX5_madeWith_14 : decode cX5_madeWith 14 = .ok (.invokevirtual 41, 3) := by decide +kernel
theorem dX5_madeWith_17 : decode cX5_madeWith 17 = .ok (.ifCond .ne 28, 3) := by decide +kernel
theorem dX5_madeWith_20 : decode cX5_madeWith 20 = .ok (.aload_n 0, 1) := by decide +kernel
theorem dX5_madeWith_21 : decode cX5_madeWith 21 = .ok (.iload 4, 2) := by decide +kernel
theorem dX5_madeWith_23 : decode cX5_madeWith 23 = .ok (.iload_n 1, 1) := by decide +kernel
theorem dX5_madeWith_24 : decode cX5_madeWith 24 = .ok (.isub, 1) := by decide +kernel
theorem dX5_madeWith_25 : decode cX5_madeWith 25 = .ok (.invokestatic 32, 3) := by decide +kernel
theorem dX5_madeWith_28 : decode cX5_madeWith 28 = .ok (.invokevirtual 41, 3) := by decide +kernel
theorem dX5_madeWith_31 : decode cX5_madeWith 31 = .ok (.ifCond .ne 14, 3) := by decide +kernel
theorem dX5_madeWith_34 : decode cX5_madeWith 34 = .ok (.aload_n 0, 1) := by decide +kernel
theorem dX5_madeWith_35 : decode cX5_madeWith 35 = .ok (.iload 4, 2) := by decide +kernel
theorem dX5_madeWith_37 : decode cX5_madeWith 37 = .ok (.iload_n 1, 1) := by decide +kernel
theorem dX5_madeWith_38 : decode cX5_madeWith 38 = .ok (.iadd, 1) := by decide +kernel
theorem dX5_madeWith_39 : decode cX5_madeWith 39 = .ok (.invokevirtual 41, 3) := by decide +kernel
theorem dX5_madeWith_42 : decode cX5_madeWith 42 = .ok (.ifCond .eq 6, 3) := by decide +kernel
theorem dX5_madeWith_45 : decode cX5_madeWith 45 = .ok (.iinc 3 1, 3) := by decide +kernel
theorem dX5_madeWith_48 : decode cX5_madeWith 48 = .ok (.iinc 4 1, 3) := by decide +kernel
theorem dX5_madeWith_51 : decode cX5_madeWith 51 = .ok (.goto (-46), 3) := by decide +kernel
theorem dX5_madeWith_54 : decode cX5_madeWith 54 = .ok (.iload_n 3, 1) := by decide +kernel
theorem dX5_madeWith_55 : decode cX5_madeWith 55 = .ok (.ireturn, 1) := by decide +kernel
theorem dX5_heavierFor_0 : decode cX5_heavierFor 0 = .ok (.iconst 0, 1) := by decide +kernel
theorem dX5_heavierFor_1 : decode cX5_heavierFor 1 = .ok (.istore_n 2, 1) := by decide +kernel
theorem dX5_heavierFor_2 : decode cX5_heavierFor 2 = .ok (.aload_n 0, 1) := by decide +kernel
theorem dX5_heavierFor_3 : decode cX5_heavierFor 3 = .ok (.iload_n 1, 1) := by decide +kernel
theorem dX5_heavierFor_4 : decode cX5_heavierFor 4 = .ok (.invokevirtual 41, 3) := by decide +kernel
theorem dX5_heavierFor_7 : decode cX5_heavierFor 7 = .ok (.ifCond .ne 35, 3) := by decide +kernel
theorem dX5_heavierFor_10 : decode cX5_heavierFor 10 = .ok (.iconst 0, 1) := by decide +kernel
theorem dX5_heavierFor_11 : decode cX5_heavierFor 11 = .ok (.istore_n 3, 1) := by decide +kernel
theorem dX5_heavierFor_12 : decode cX5_heavierFor 12 = .ok (.iload_n 3, 1) := by decide +kernel
theorem dX5_heavierFor_13 : decode cX5_heavierFor 13 = .ok (.aload_n 0, 1) := by decide +kernel
theorem dX5_heavierFor_14 : decode cX5_heavierFor 14 = .ok (.getfield 28, 3) := by decide +kernel
theorem dX5_heavierFor_17 : decode cX5_heavierFor 17 = .ok (.if_icmp .ge 25, 3) := by decide +kernel
theorem dX5_heavierFor_20 : decode cX5_heavierFor 20 = .ok (.aload_n 0, 1) := by decide +kernel
theorem dX5_heavierFor_21 : decode cX5_heavierFor 21 = .ok (.iload_n 1, 1) := by decide +kernel
theorem dX5_heavierFor_22 : decode cX5_heavierFor 22 = .ok (.iconst 0, 1) := by decide +kernel
theorem dX5_heavierFor_23 : decode cX5_heavierFor 23 = .ok (.iload_n 3, 1) := by decide +kernel
theorem dX5_heavierFor_24 : decode cX5_heavierFor 24 = .ok (.invokevirtual 45, 3) := by decide +kernel
theorem dX5_heavierFor_27 : decode cX5_heavierFor 27 = .ok (.ifCond .eq 9, 3) := by decide +kernel
theorem dX5_heavierFor_30 : decode cX5_heavierFor 30 = .ok (.iload_n 2, 1) := by decide +kernel
theorem dX5_heavierFor_31 : decode cX5_heavierFor 31 = .ok (.iconst 1, 1) := by decide +kernel
theorem dX5_heavierFor_32 : decode cX5_heavierFor 32 = .ok (.iload_n 3, 1) := by decide +kernel
theorem dX5_heavierFor_33 : decode cX5_heavierFor 33 = .ok (.ishl, 1) := by decide +kernel
theorem dX5_heavierFor_34 : decode cX5_heavierFor 34 = .ok (.ior, 1) := by decide +kernel
theorem dX5_heavierFor_35 : decode cX5_heavierFor 35 = .ok (.istore_n 2, 1) := by decide +kernel
theorem dX5_heavierFor_36 : decode cX5_heavierFor 36 = .ok (.iinc 3 1, 3) := by decide +kernel
theorem dX5_heavierFor_39 : decode cX5_heavierFor 39 = .ok (.goto (-27), 3) := by decide +kernel
theorem dX5_heavierFor_42 : decode cX5_heavierFor 42 = .ok (.iload_n 2, 1) := by decide +kernel
theorem dX5_heavierFor_43 : decode cX5_heavierFor 43 = .ok (.ireturn, 1) := by decide +kernel
theorem dX5_reaches_0 : decode cX5_reaches 0 = .ok (.iload_n 2, 1) := by decide +kernel
theorem dX5_reaches_1 : decode cX5_reaches 1 = .ok (.aload_n 0, 1) := by decide +kernel
theorem dX5_reaches_2 : decode cX5_reaches 2 = .ok (.getfield 28, 3) := by decide +kernel
theorem dX5_reaches_5 : decode cX5_reaches 5 = .ok (.if_icmp .ge 8, 3) := by decide +kernel
theorem dX5_reaches_8 : decode cX5_reaches 8 = .ok (.iload_n 2, 1) := by decide +kernel
theorem dX5_reaches_9 : decode cX5_reaches 9 = .ok (.iconst 5, 1) := by decide +kernel
theorem dX5_reaches_10 : decode cX5_reaches 10 = .ok (.if_icmp .lt 13, 3) := by decide +kernel
theorem dX5_reaches_13 : decode cX5_reaches 13 = .ok (.iload_n 1, 1) := by decide +kernel
theorem dX5_reaches_14 : decode cX5_reaches 14 = .ok (.ifCond .ne 7, 3) := by decide +kernel
theorem dX5_reaches_17 : decode cX5_reaches 17 = .ok (.iconst 1, 1) := by decide +kernel
theorem dX5_reaches_18 : decode cX5_reaches 18 = .ok (.goto 4, 3) := by decide +kernel
theorem dX5_reaches_21 : decode cX5_reaches 21 = .ok (.iconst 0, 1) := by decide +kernel
theorem dX5_reaches_22 : decode cX5_reaches 22 = .ok (.ireturn, 1) := by decide +kernel
theorem dX5_reaches_23 : decode cX5_reaches 23 = .ok (.iload_n 2, 1) := by decide +kernel
theorem dX5_reaches_24 : decode cX5_reaches 24 = .ok (.iload_n 3, 1) := by decide +kernel
theorem dX5_reaches_25 : decode cX5_reaches 25 = .ok (.if_icmp .ne 14, 3) := by decide +kernel
theorem dX5_reaches_28 : decode cX5_reaches 28 = .ok (.aload_n 0, 1) := by decide +kernel
theorem dX5_reaches_29 : decode cX5_reaches 29 = .ok (.getfield 15, 3) := by decide +kernel
theorem dX5_reaches_32 : decode cX5_reaches 32 = .ok (.iload_n 2, 1) := by decide +kernel
theorem dX5_reaches_33 : decode cX5_reaches 33 = .ok (.iaload, 1) := by decide +kernel
theorem dX5_reaches_34 : decode cX5_reaches 34 = .ok (.iconst 1, 1) := by decide +kernel
theorem dX5_reaches_35 : decode cX5_reaches 35 = .ok (.iadd, 1) := by decide +kernel
theorem dX5_reaches_36 : decode cX5_reaches 36 = .ok (.goto 9, 3) := by decide +kernel
theorem dX5_reaches_39 : decode cX5_reaches 39 = .ok (.aload_n 0, 1) := by decide +kernel
theorem dX5_reaches_40 : decode cX5_reaches 40 = .ok (.getfield 15, 3) := by decide +kernel
theorem dX5_reaches_43 : decode cX5_reaches 43 = .ok (.iload_n 2, 1) := by decide +kernel
theorem dX5_reaches_44 : decode cX5_reaches 44 = .ok (.iaload, 1) := by decide +kernel
theorem dX5_reaches_45 : decode cX5_reaches 45 = .ok (.istore 4, 2) := by decide +kernel
theorem dX5_reaches_47 : decode cX5_reaches 47 = .ok (.aload_n 0, 1) := by decide +kernel
theorem dX5_reaches_48 : decode cX5_reaches 48 = .ok (.iload_n 1, 1) := by decide +kernel
theorem dX5_reaches_49 : decode cX5_reaches 49 = .ok (.iload_n 2, 1) := by decide +kernel
theorem dX5_reaches_50 : decode cX5_reaches 50 = .ok (.iconst 1, 1) := by decide +kernel
theorem dX5_reaches_51 : decode cX5_reaches 51 = .ok (.iadd, 1) := by decide +kernel
theorem dX5_reaches_52 : decode cX5_reaches 52 = .ok (.iload_n 3, 1) := by decide +kernel
theorem dX5_reaches_53 : decode cX5_reaches 53 = .ok (.invokevirtual 45, 3) := by decide +kernel
theorem dX5_reaches_56 : decode cX5_reaches 56 = .ok (.ifCond .ne 33, 3) := by decide +kernel
theorem dX5_reaches_59 : decode cX5_reaches 59 = .ok (.aload_n 0, 1) := by decide +kernel
theorem dX5_reaches_60 : decode cX5_reaches 60 = .ok (.iload_n 1, 1) := by decide +kernel
theorem dX5_reaches_61 : decode cX5_reaches 61 = .ok (.iload 4, 2) := by decide +kernel
theorem dX5_reaches_63 : decode cX5_reaches 63 = .ok (.isub, 1) := by decide +kernel
theorem dX5_reaches_64 : decode cX5_reaches 64 = .ok (.iload_n 2, 1) := by decide +kernel
theorem dX5_reaches_65 : decode cX5_reaches 65 = .ok (.iconst 1, 1) := by decide +kernel
theorem dX5_reaches_66 : decode cX5_reaches 66 = .ok (.iadd, 1) := by decide +kernel
theorem dX5_reaches_67 : decode cX5_reaches 67 = .ok (.iload_n 3, 1) := by decide +kernel
theorem dX5_reaches_68 : decode cX5_reaches 68 = .ok (.invokevirtual 45, 3) := by decide +kernel
theorem dX5_reaches_71 : decode cX5_reaches 71 = .ok (.ifCond .ne 18, 3) := by decide +kernel
theorem dX5_reaches_74 : decode cX5_reaches 74 = .ok (.aload_n 0, 1) := by decide +kernel
theorem dX5_reaches_75 : decode cX5_reaches 75 = .ok (.iload_n 1, 1) := by decide +kernel
theorem dX5_reaches_76 : decode cX5_reaches 76 = .ok (.iload 4, 2) := by decide +kernel
theorem dX5_reaches_78 : decode cX5_reaches 78 = .ok (.iadd, 1) := by decide +kernel
theorem dX5_reaches_79 : decode cX5_reaches 79 = .ok (.iload_n 2, 1) := by decide +kernel
theorem dX5_reaches_80 : decode cX5_reaches 80 = .ok (.iconst 1, 1) := by decide +kernel
theorem dX5_reaches_81 : decode cX5_reaches 81 = .ok (.iadd, 1) := by decide +kernel
theorem dX5_reaches_82 : decode cX5_reaches 82 = .ok (.iload_n 3, 1) := by decide +kernel
theorem dX5_reaches_83 : decode cX5_reaches 83 = .ok (.invokevirtual 45, 3) := by decide +kernel
theorem dX5_reaches_86 : decode cX5_reaches 86 = .ok (.ifCond .eq 7, 3) := by decide +kernel
theorem dX5_reaches_89 : decode cX5_reaches 89 = .ok (.iconst 1, 1) := by decide +kernel
theorem dX5_reaches_90 : decode cX5_reaches 90 = .ok (.goto 4, 3) := by decide +kernel
theorem dX5_reaches_93 : decode cX5_reaches 93 = .ok (.iconst 0, 1) := by decide +kernel
theorem dX5_reaches_94 : decode cX5_reaches 94 = .ok (.ireturn, 1) := by decide +kernel
theorem dX5_offOf_0 : decode cX5_offOf 0 = .ok (.iconst 0, 1) := by decide +kernel
theorem dX5_offOf_1 : decode cX5_offOf 1 = .ok (.istore_n 2, 1) := by decide +kernel
theorem dX5_offOf_2 : decode cX5_offOf 2 = .ok (.iload_n 2, 1) := by decide +kernel
theorem dX5_offOf_3 : decode cX5_offOf 3 = .ok (.aload_n 0, 1) := by decide +kernel
theorem dX5_offOf_4 : decode cX5_offOf 4 = .ok (.getfield 9, 3) := by decide +kernel
theorem dX5_offOf_7 : decode cX5_offOf 7 = .ok (.iconst 2, 1) := by decide +kernel
theorem dX5_offOf_8 : decode cX5_offOf 8 = .ok (.iaload, 1) := by decide +kernel
theorem dX5_offOf_9 : decode cX5_offOf 9 = .ok (.if_icmp .gt 33, 3) := by decide +kernel
theorem dX5_offOf_12 : decode cX5_offOf 12 = .ok (.aload_n 0, 1) := by decide +kernel
theorem dX5_offOf_13 : decode cX5_offOf 13 = .ok (.iload_n 1, 1) := by decide +kernel
theorem dX5_offOf_14 : decode cX5_offOf 14 = .ok (.iload_n 2, 1) := by decide +kernel
theorem dX5_offOf_15 : decode cX5_offOf 15 = .ok (.isub, 1) := by decide +kernel
theorem dX5_offOf_16 : decode cX5_offOf 16 = .ok (.invokevirtual 38, 3) := by decide +kernel
theorem dX5_offOf_19 : decode cX5_offOf 19 = .ok (.iconst (-1), 1) := by decide +kernel
theorem dX5_offOf_20 : decode cX5_offOf 20 = .ok (.if_icmp .ne 14, 3) := by decide +kernel
theorem dX5_offOf_23 : decode cX5_offOf 23 = .ok (.aload_n 0, 1) := by decide +kernel
theorem dX5_offOf_24 : decode cX5_offOf 24 = .ok (.iload_n 1, 1) := by decide +kernel
theorem dX5_offOf_25 : decode cX5_offOf 25 = .ok (.iload_n 2, 1) := by decide +kernel
theorem dX5_offOf_26 : decode cX5_offOf 26 = .ok (.iadd, 1) := by decide +kernel
theorem dX5_offOf_27 : decode cX5_offOf 27 = .ok (.invokevirtual 38, 3) := by decide +kernel
theorem dX5_offOf_30 : decode cX5_offOf 30 = .ok (.iconst (-1), 1) := by decide +kernel
theorem dX5_offOf_31 : decode cX5_offOf 31 = .ok (.if_icmp .eq 5, 3) := by decide +kernel
theorem dX5_offOf_34 : decode cX5_offOf 34 = .ok (.iload_n 2, 1) := by decide +kernel
theorem dX5_offOf_35 : decode cX5_offOf 35 = .ok (.ireturn, 1) := by decide +kernel
theorem dX5_offOf_36 : decode cX5_offOf 36 = .ok (.iinc 2 1, 3) := by decide +kernel
theorem dX5_offOf_39 : decode cX5_offOf 39 = .ok (.goto (-37), 3) := by decide +kernel
theorem dX5_offOf_42 : decode cX5_offOf 42 = .ok (.iconst (-1), 1) := by decide +kernel
theorem dX5_offOf_43 : decode cX5_offOf 43 = .ok (.ireturn, 1) := by decide +kernel
theorem dX5_stonesFor_0 : decode cX5_stonesFor 0 = .ok (.aload_n 0, 1) := by decide +kernel
theorem dX5_stonesFor_1 : decode cX5_stonesFor 1 = .ok (.iload_n 1, 1) := by decide +kernel
theorem dX5_stonesFor_2 : decode cX5_stonesFor 2 = .ok (.iload_n 2, 1) := by decide +kernel
theorem dX5_stonesFor_3 : decode cX5_stonesFor 3 = .ok (.isub, 1) := by decide +kernel
theorem dX5_stonesFor_4 : decode cX5_stonesFor 4 = .ok (.invokevirtual 38, 3) := by decide +kernel
theorem dX5_stonesFor_7 : decode cX5_stonesFor 7 = .ok (.istore_n 3, 1) := by decide +kernel
theorem dX5_stonesFor_8 : decode cX5_stonesFor 8 = .ok (.aload_n 0, 1) := by decide +kernel
theorem dX5_stonesFor_9 : decode cX5_stonesFor 9 = .ok (.iload_n 1, 1) := by decide +kernel
theorem dX5_stonesFor_10 : decode cX5_stonesFor 10 = .ok (.iload_n 2, 1) := by decide +kernel
theorem dX5_stonesFor_11 : decode cX5_stonesFor 11 = .ok (.iadd, 1) := by decide +kernel
theorem dX5_stonesFor_12 : decode cX5_stonesFor 12 = .ok (.invokevirtual 38, 3) := by decide +kernel
theorem dX5_stonesFor_15 : decode cX5_stonesFor 15 = .ok (.istore 4, 2) := by decide +kernel
theorem dX5_stonesFor_17 : decode cX5_stonesFor 17 = .ok (.iload_n 3, 1) := by decide +kernel
theorem dX5_stonesFor_18 : decode cX5_stonesFor 18 = .ok (.iconst (-1), 1) := by decide +kernel
theorem dX5_stonesFor_19 : decode cX5_stonesFor 19 = .ok (.if_icmp .eq 9, 3) := by decide +kernel
theorem dX5_stonesFor_22 : decode cX5_stonesFor 22 = .ok (.iload 4, 2) := by decide +kernel
theorem dX5_stonesFor_24 : decode cX5_stonesFor 24 = .ok (.iconst (-1), 1) := by decide +kernel
theorem dX5_stonesFor_25 : decode cX5_stonesFor 25 = .ok (.if_icmp .ne 10, 3) := by decide +kernel
theorem dX5_stonesFor_28 : decode cX5_stonesFor 28 = .ok (.iload_n 3, 1) := by decide +kernel
theorem dX5_stonesFor_29 : decode cX5_stonesFor 29 = .ok (.iload 4, 2) := by decide +kernel
theorem dX5_stonesFor_31 : decode cX5_stonesFor 31 = .ok (.invokestatic 49, 3) := by decide +kernel
theorem dX5_stonesFor_34 : decode cX5_stonesFor 34 = .ok (.ireturn, 1) := by decide +kernel
theorem dX5_stonesFor_35 : decode cX5_stonesFor 35 = .ok (.iload_n 3, 1) := by decide +kernel
theorem dX5_stonesFor_36 : decode cX5_stonesFor 36 = .ok (.iload 4, 2) := by decide +kernel
theorem dX5_stonesFor_38 : decode cX5_stonesFor 38 = .ok (.invokestatic 53, 3) := by decide +kernel
theorem dX5_stonesFor_41 : decode cX5_stonesFor 41 = .ok (.ireturn, 1) := by decide +kernel
theorem dX6_init_0 : decode cX6_init 0 = .ok (.aload_n 0, 1) := by decide +kernel
theorem dX6_init_1 : decode cX6_init 1 = .ok (.invokespecial 3, 3) := by decide +kernel
theorem dX6_init_4 : decode cX6_init 4 = .ok (.aload_n 0, 1) := by decide +kernel
theorem dX6_init_5 : decode cX6_init 5 = .ok (.iconst (-1), 1) := by decide +kernel
theorem dX6_init_6 : decode cX6_init 6 = .ok (.putfield 9, 3) := by decide +kernel
theorem dX6_init_9 : decode cX6_init 9 = .ok (.aload_n 0, 1) := by decide +kernel
theorem dX6_init_10 : decode cX6_init 10 = .ok (.bipush 40, 2) := by decide +kernel
theorem dX6_init_12 : decode cX6_init 12 = .ok (.newarray .int, 2) := by decide +kernel
theorem dX6_init_14 : decode cX6_init 14 = .ok (.putfield 15, 3) := by decide +kernel
theorem dX6_init_17 : decode cX6_init 17 = .ok (.return_, 1) := by decide +kernel
theorem dX6_become_0 : decode cX6_become 0 = .ok (.aload_n 0, 1) := by decide +kernel
theorem dX6_become_1 : decode cX6_become 1 = .ok (.iload_n 1, 1) := by decide +kernel
theorem dX6_become_2 : decode cX6_become 2 = .ok (.putfield 9, 3) := by decide +kernel
theorem dX6_become_5 : decode cX6_become 5 = .ok (.aload_n 0, 1) := by decide +kernel
theorem dX6_become_6 : decode cX6_become 6 = .ok (.iload_n 2, 1) := by decide +kernel
theorem dX6_become_7 : decode cX6_become 7 = .ok (.putfield 19, 3) := by decide +kernel
theorem dX6_become_10 : decode cX6_become 10 = .ok (.iconst 0, 1) := by decide +kernel
theorem dX6_become_11 : decode cX6_become 11 = .ok (.istore_n 3, 1) := by decide +kernel
theorem dX6_become_12 : decode cX6_become 12 = .ok (.iload_n 3, 1) := by decide +kernel
theorem dX6_become_13 : decode cX6_become 13 = .ok (.bipush 40, 2) := by decide +kernel
theorem dX6_become_15 : decode cX6_become 15 = .ok (.if_icmp .ge 16, 3) := by decide +kernel
theorem dX6_become_18 : decode cX6_become 18 = .ok (.aload_n 0, 1) := by decide +kernel
theorem dX6_become_19 : decode cX6_become 19 = .ok (.getfield 15, 3) := by decide +kernel
theorem dX6_become_22 : decode cX6_become 22 = .ok (.iload_n 3, 1) := by decide +kernel
theorem dX6_become_23 : decode cX6_become 23 = .ok (.iconst 0, 1) := by decide +kernel
theorem dX6_become_24 : decode cX6_become 24 = .ok (.iastore, 1) := by decide +kernel
theorem dX6_become_25 : decode cX6_become 25 = .ok (.iinc 3 1, 3) := by decide +kernel
theorem dX6_become_28 : decode cX6_become 28 = .ok (.goto (-16), 3) := by decide +kernel
theorem dX6_become_31 : decode cX6_become 31 = .ok (.return_, 1) := by decide +kernel
theorem dX6_put_0 : decode cX6_put 0 = .ok (.iload_n 1, 1) := by decide +kernel
theorem dX6_put_1 : decode cX6_put 1 = .ok (.iconst 0, 1) := by decide +kernel
theorem dX6_put_2 : decode cX6_put 2 = .ok (.aload_n 0, 1) := by decide +kernel
theorem dX6_put_3 : decode cX6_put 3 = .ok (.getfield 19, 3) := by decide +kernel
theorem dX6_put_6 : decode cX6_put 6 = .ok (.iconst 1, 1) := by decide +kernel
theorem dX6_put_7 : decode cX6_put 7 = .ok (.isub, 1) := by decide +kernel
theorem dX6_put_8 : decode cX6_put 8 = .ok (.invokestatic 22, 3) := by decide +kernel
theorem dX6_put_11 : decode cX6_put 11 = .ok (.ifCond .ne 4, 3) := by decide +kernel
theorem dX6_put_14 : decode cX6_put 14 = .ok (.return_, 1) := by decide +kernel
theorem dX6_put_15 : decode cX6_put 15 = .ok (.aload_n 0, 1) := by decide +kernel
theorem dX6_put_16 : decode cX6_put 16 = .ok (.getfield 9, 3) := by decide +kernel
theorem dX6_put_19 : decode cX6_put 19 = .ok (.lookupswitch 47 #[(0, 25), (1, 36)], 25) := by decide +kernel
theorem dX6_put_44 : decode cX6_put 44 = .ok (.aload_n 0, 1) := by decide +kernel
theorem dX6_put_45 : decode cX6_put 45 = .ok (.getfield 15, 3) := by decide +kernel
theorem dX6_put_48 : decode cX6_put 48 = .ok (.iload_n 1, 1) := by decide +kernel
theorem dX6_put_49 : decode cX6_put 49 = .ok (.iload_n 2, 1) := by decide +kernel
theorem dX6_put_50 : decode cX6_put 50 = .ok (.i2b, 1) := by decide +kernel
theorem dX6_put_51 : decode cX6_put 51 = .ok (.iastore, 1) := by decide +kernel
theorem dX6_put_52 : decode cX6_put 52 = .ok (.goto 21, 3) := by decide +kernel
theorem dX6_put_55 : decode cX6_put 55 = .ok (.aload_n 0, 1) := by decide +kernel
theorem dX6_put_56 : decode cX6_put 56 = .ok (.getfield 15, 3) := by decide +kernel
theorem dX6_put_59 : decode cX6_put 59 = .ok (.iload_n 1, 1) := by decide +kernel
theorem dX6_put_60 : decode cX6_put 60 = .ok (.iload_n 2, 1) := by decide +kernel
theorem dX6_put_61 : decode cX6_put 61 = .ok (.i2s, 1) := by decide +kernel
theorem dX6_put_62 : decode cX6_put 62 = .ok (.iastore, 1) := by decide +kernel
theorem dX6_put_63 : decode cX6_put 63 = .ok (.goto 10, 3) := by decide +kernel
theorem dX6_put_66 : decode cX6_put 66 = .ok (.aload_n 0, 1) := by decide +kernel
theorem dX6_put_67 : decode cX6_put 67 = .ok (.getfield 15, 3) := by decide +kernel
theorem dX6_put_70 : decode cX6_put 70 = .ok (.iload_n 1, 1) := by decide +kernel
theorem dX6_put_71 : decode cX6_put 71 = .ok (.iload_n 2, 1) := by decide +kernel
theorem dX6_put_72 : decode cX6_put 72 = .ok (.iastore, 1) := by decide +kernel
theorem dX6_put_73 : decode cX6_put 73 = .ok (.return_, 1) := by decide +kernel
theorem dX6_holds_0 : decode cX6_holds 0 = .ok (.iload_n 2, 1) := by decide +kernel
theorem dX6_holds_1 : decode cX6_holds 1 = .ok (.ifCond .lt 29, 3) := by decide +kernel
theorem dX6_holds_4 : decode cX6_holds 4 = .ok (.iload_n 1, 1) := by decide +kernel
theorem dX6_holds_5 : decode cX6_holds 5 = .ok (.iconst 0, 1) := by decide +kernel
theorem dX6_holds_6 : decode cX6_holds 6 = .ok (.aload_n 0, 1) := by decide +kernel
theorem dX6_holds_7 : decode cX6_holds 7 = .ok (.getfield 19, 3) := by decide +kernel
theorem dX6_holds_10 : decode cX6_holds 10 = .ok (.invokestatic 22, 3) := by decide +kernel
theorem dX6_holds_13 : decode cX6_holds 13 = .ok (.ifCond .eq 17, 3) := by decide +kernel
theorem dX6_holds_16 : decode cX6_holds 16 = .ok (.iload_n 2, 1) := by decide +kernel
theorem dX6_holds_17 : decode cX6_holds 17 = .ok (.aload_n 0, 1) := by decide +kernel
theorem dX6_holds_18 : decode cX6_holds 18 = .ok (.getfield 19, 3) := by decide +kernel
theorem dX6_holds_21 : decode cX6_holds 21 = .ok (.iload_n 1, 1) := by decide +kernel
theorem dX6_holds_22 : decode cX6_holds 22 = .ok (.isub, 1) := by decide +kernel
theorem dX6_holds_23 : decode cX6_holds 23 = .ok (.if_icmp .gt 7, 3) := by decide +kernel
theorem dX6_holds_26 : decode cX6_holds 26 = .ok (.iconst 1, 1) := by decide +kernel
theorem dX6_holds_27 : decode cX6_holds 27 = .ok (.goto 4, 3) := by decide +kernel
theorem dX6_holds_30 : decode cX6_holds 30 = .ok (.iconst 0, 1) := by decide +kernel
theorem dX6_holds_31 : decode cX6_holds 31 = .ok (.ireturn, 1) := by decide +kernel
theorem dX7_init_0 : decode cX7_init 0 = .ok (.aload_n 0, 1) := by decide +kernel
theorem dX7_init_1 : decode cX7_init 1 = .ok (.invokespecial 3, 3) := by decide +kernel
theorem dX7_init_4 : decode cX7_init 4 = .ok (.aload_n 0, 1) := by decide +kernel
theorem dX7_init_5 : decode cX7_init 5 = .ok (.sipush 160, 3) := by decide +kernel
theorem dX7_init_8 : decode cX7_init 8 = .ok (.newarray .int, 2) := by decide +kernel
theorem dX7_init_10 : decode cX7_init 10 = .ok (.putfield 9, 3) := by decide +kernel
theorem dX7_init_13 : decode cX7_init 13 = .ok (.aload_n 0, 1) := by decide +kernel
theorem dX7_init_14 : decode cX7_init 14 = .ok (.iconst 3, 1) := by decide +kernel
theorem dX7_init_15 : decode cX7_init 15 = .ok (.newarray .int, 2) := by decide +kernel
theorem dX7_init_17 : decode cX7_init 17 = .ok (.putfield 15, 3) := by decide +kernel
theorem dX7_init_20 : decode cX7_init 20 = .ok (.aload_n 0, 1) := by decide +kernel
theorem dX7_init_21 : decode cX7_init 21 = .ok (.sipush 160, 3) := by decide +kernel
theorem dX7_init_24 : decode cX7_init 24 = .ok (.newarray .int, 2) := by decide +kernel
theorem dX7_init_26 : decode cX7_init 26 = .ok (.putfield 18, 3) := by decide +kernel
theorem dX7_init_29 : decode cX7_init 29 = .ok (.return_, 1) := by decide +kernel
theorem dX7_clear_0 : decode cX7_clear 0 = .ok (.aload_n 0, 1) := by decide +kernel
theorem dX7_clear_1 : decode cX7_clear 1 = .ok (.iconst 0, 1) := by decide +kernel
theorem dX7_clear_2 : decode cX7_clear 2 = .ok (.putfield 21, 3) := by decide +kernel
theorem dX7_clear_5 : decode cX7_clear 5 = .ok (.return_, 1) := by decide +kernel
theorem dX7_add_0 : decode cX7_add 0 = .ok (.aload_n 0, 1) := by decide +kernel
theorem dX7_add_1 : decode cX7_add 1 = .ok (.getfield 21, 3) := by decide +kernel
theorem dX7_add_4 : decode cX7_add 4 = .ok (.sipush 160, 3) := by decide +kernel
theorem dX7_add_7 : decode cX7_add 7 = .ok (.if_icmp .ge 23, 3) := by decide +kernel
theorem dX7_add_10 : decode cX7_add 10 = .ok (.aload_n 0, 1) := by decide +kernel
theorem dX7_add_11 : decode cX7_add 11 = .ok (.getfield 9, 3) := by decide +kernel
theorem dX7_add_14 : decode cX7_add 14 = .ok (.aload_n 0, 1) := by decide +kernel
theorem dX7_add_15 : decode cX7_add 15 = .ok (.getfield 21, 3) := by decide +kernel
theorem dX7_add_18 : decode cX7_add 18 = .ok (.iload_n 1, 1) := by decide +kernel
theorem dX7_add_19 : decode cX7_add 19 = .ok (.iastore, 1) := by decide +kernel
theorem dX7_add_20 : decode cX7_add 20 = .ok (.aload_n 0, 1) := by decide +kernel
theorem dX7_add_21 : decode cX7_add 21 = .ok (.dup, 1) := by decide +kernel
theorem dX7_add_22 : decode cX7_add 22 = .ok (.getfield 21, 3) := by decide +kernel
theorem dX7_add_25 : decode cX7_add 25 = .ok (.iconst 1, 1) := by decide +kernel
theorem dX7_add_26 : decode cX7_add 26 = .ok (.iadd, 1) := by decide +kernel
theorem dX7_add_27 : decode cX7_add 27 = .ok (.putfield 21, 3) := by decide +kernel
theorem dX7_add_30 : decode cX7_add 30 = .ok (.return_, 1) := by decide +kernel
theorem dX7_says_0 : decode cX7_says 0 = .ok (.iconst 0, 1) := by decide +kernel
theorem dX7_says_1 : decode cX7_says 1 = .ok (.istore_n 3, 1) := by decide +kernel
theorem dX7_says_2 : decode cX7_says 2 = .ok (.iload_n 1, 1) := by decide +kernel
theorem dX7_says_3 : decode cX7_says 3 = .ok (.ifCond .ne 7, 3) := by decide +kernel
theorem dX7_says_6 : decode cX7_says 6 = .ok (.iconst 0, 1) := by decide +kernel
theorem dX7_says_7 : decode cX7_says 7 = .ok (.goto 11, 3) := by decide +kernel
theorem dX7_says_10 : decode cX7_says 10 = .ok (.aload_n 0, 1) := by decide +kernel
theorem dX7_says_11 : decode cX7_says 11 = .ok (.getfield 15, 3) := by decide +kernel
theorem dX7_says_14 : decode cX7_says 14 = .ok (.iload_n 1, 1) := by decide +kernel
theorem dX7_says_15 : decode cX7_says 15 = .ok (.iconst 1, 1) := by decide +kernel
theorem dX7_says_16 : decode cX7_says 16 = .ok (.isub, 1) := by decide +kernel
theorem dX7_says_17 : decode cX7_says 17 = .ok (.iaload, 1) := by decide +kernel
theorem dX7_says_18 : decode cX7_says 18 = .ok (.istore 4, 2) := by decide +kernel
theorem dX7_says_20 : decode cX7_says 20 = .ok (.iload 4, 2) := by decide +kernel
theorem dX7_says_22 : decode cX7_says 22 = .ok (.aload_n 0, 1) := by decide +kernel
theorem dX7_says_23 : decode cX7_says 23 = .ok (.getfield 15, 3) := by decide +kernel
theorem dX7_says_26 : decode cX7_says 26 = .ok (.iload_n 1, 1) := by decide +kernel
theorem dX7_says_27 : decode cX7_says 27 = .ok (.iaload, 1) := by decide +kernel
theorem dX7_says_28 : decode cX7_says 28 = .ok (.if_icmp .ge 166, 3) := by decide +kernel
theorem dX7_says_31 : decode cX7_says 31 = .ok (.aload_n 0, 1) := by decide +kernel
theorem dX7_says_32 : decode cX7_says 32 = .ok (.getfield 9, 3) := by decide +kernel
theorem dX7_says_35 : decode cX7_says 35 = .ok (.iload 4, 2) := by decide +kernel
theorem dX7_says_37 : decode cX7_says 37 = .ok (.iaload, 1) := by decide +kernel
theorem dX7_says_38 : decode cX7_says 38 = .ok (.istore 5, 2) := by decide +kernel
theorem dX7_says_40 : decode cX7_says 40 = .ok (.iload 5, 2) := by decide +kernel
theorem dX7_says_42 : decode cX7_says 42 = .ok (.bipush (-6), 2) := by decide +kernel
theorem dX7_says_44 : decode cX7_says 44 = .ok (.if_icmp .lt 38, 3) := by decide +kernel
theorem dX7_says_47 : decode cX7_says 47 = .ok (.iload_n 3, 1) := by decide +kernel
theorem dX7_says_48 : decode cX7_says 48 = .ok (.sipush 160, 3) := by decide +kernel
theorem dX7_says_51 : decode cX7_says 51 = .ok (.if_icmp .ge 31, 3) := by decide +kernel
theorem dX7_says_54 : decode cX7_says 54 = .ok (.aload_n 0, 1) := by decide +kernel
theorem dX7_says_55 : decode cX7_says 55 = .ok (.getfield 18, 3) := by decide +kernel
theorem dX7_says_58 : decode cX7_says 58 = .ok (.iload_n 3, 1) := by decide +kernel
theorem dX7_says_59 : decode cX7_says 59 = .ok (.iload 5, 2) := by decide +kernel
theorem dX7_says_61 : decode cX7_says 61 = .ok (.ifCond .lt 8, 3) := by decide +kernel
theorem dX7_says_64 : decode cX7_says 64 = .ok (.iload 5, 2) := by decide +kernel
theorem dX7_says_66 : decode cX7_says 66 = .ok (.goto 9, 3) := by decide +kernel
theorem dX7_says_69 : decode cX7_says 69 = .ok (.aload_n 2, 1) := by decide +kernel
theorem dX7_says_70 : decode cX7_says 70 = .ok (.iconst (-1), 1) := by decide +kernel
theorem dX7_says_71 : decode cX7_says 71 = .ok (.iload 5, 2) := by decide +kernel
theorem dX7_says_73 : decode cX7_says 73 = .ok (.isub, 1) := by decide +kernel
theorem dX7_says_74 : decode cX7_says 74 = .ok (.iaload, 1) := by decide +kernel
theorem dX7_says_75 : decode cX7_says 75 = .ok (.iastore, 1) := by decide +kernel
theorem dX7_says_76 : decode cX7_says 76 = .ok (.iinc 3 1, 3) := by decide +kernel
theorem dX7_says_79 : decode cX7_says 79 = .ok (.goto 109, 3) := by decide +kernel
theorem dX7_says_82 : decode cX7_says 82 = .ok (.iload 5, 2) := by decide +kernel
theorem dX7_says_84 : decode cX7_says 84 = .ok (.bipush (-9), 2) := by decide +kernel
theorem dX7_says_86 : decode cX7_says 86 = .ok (.if_icmp .ne 35, 3) := by decide +kernel
theorem dX7_says_89 : decode cX7_says 89 = .ok (.iload_n 3, 1) := by decide +kernel
theorem dX7_says_90 : decode cX7_says 90 = .ok (.iconst 1, 1) := by decide +kernel
theorem dX7_says_91 : decode cX7_says 91 = .ok (.if_icmp .lt 30, 3) := by decide +kernel
theorem dX7_says_94 : decode cX7_says 94 = .ok (.aload_n 0, 1) := by decide +kernel
theorem dX7_says_95 : decode cX7_says 95 = .ok (.getfield 18, 3) := by decide +kernel
theorem dX7_says_98 : decode cX7_says 98 = .ok (.iload_n 3, 1) := by decide +kernel
theorem dX7_says_99 : decode cX7_says 99 = .ok (.iconst 1, 1) := by decide +kernel
theorem dX7_says_100 : decode cX7_says 100 = .ok (.isub, 1) := by decide +kernel
theorem dX7_says_101 : decode cX7_says 101 = .ok (.aload_n 0, 1) := by decide +kernel
theorem dX7_says_102 : decode cX7_says 102 = .ok (.getfield 18, 3) := by decide +kernel
theorem dX7_says_105 : decode cX7_says 105 = .ok (.iload_n 3, 1) := by decide +kernel
theorem dX7_says_106 : decode cX7_says 106 = .ok (.iconst 1, 1) := by decide +kernel
theorem dX7_says_107 : decode cX7_says 107 = .ok (.isub, 1) := by decide +kernel
theorem dX7_says_108 : decode cX7_says 108 = .ok (.iaload, 1) := by decide +kernel
theorem dX7_says_109 : decode cX7_says 109 = .ok (.ifCond .ne 7, 3) := by decide +kernel
theorem dX7_says_112 : decode cX7_says 112 = .ok (.iconst 1, 1) := by decide +kernel
theorem dX7_says_113 : decode cX7_says 113 = .ok (.goto 4, 3) := by decide +kernel
theorem dX7_says_116 : decode cX7_says 116 = .ok (.iconst 0, 1) := by decide +kernel
theorem dX7_says_117 : decode cX7_says 117 = .ok (.iastore, 1) := by decide +kernel
theorem dX7_says_118 : decode cX7_says 118 = .ok (.goto 70, 3) := by decide +kernel
theorem dX7_says_121 : decode cX7_says 121 = .ok (.iload 5, 2) := by decide +kernel
theorem dX7_says_123 : decode cX7_says 123 = .ok (.bipush (-15), 2) := by decide +kernel
theorem dX7_says_125 : decode cX7_says 125 = .ok (.if_icmp .ne 28, 3) := by decide +kernel
theorem dX7_says_128 : decode cX7_says 128 = .ok (.iload_n 3, 1) := by decide +kernel
theorem dX7_says_129 : decode cX7_says 129 = .ok (.iconst 1, 1) := by decide +kernel
theorem dX7_says_130 : decode cX7_says 130 = .ok (.if_icmp .lt 23, 3) := by decide +kernel
theorem dX7_says_133 : decode cX7_says 133 = .ok (.aload_n 0, 1) := by decide +kernel
theorem dX7_says_134 : decode cX7_says 134 = .ok (.getfield 18, 3) := by decide +kernel
theorem dX7_says_137 : decode cX7_says 137 = .ok (.iload_n 3, 1) := by decide +kernel
theorem dX7_says_138 : decode cX7_says 138 = .ok (.iconst 1, 1) := by decide +kernel
theorem dX7_says_139 : decode cX7_says 139 = .ok (.isub, 1) := by decide +kernel
theorem dX7_says_140 : decode cX7_says 140 = .ok (.aload_n 0, 1) := by decide +kernel
theorem dX7_says_141 : decode cX7_says 141 = .ok (.getfield 18, 3) := by decide +kernel
theorem dX7_says_144 : decode cX7_says 144 = .ok (.iload_n 3, 1) := by decide +kernel
theorem dX7_says_145 : decode cX7_says 145 = .ok (.iconst 1, 1) := by decide +kernel
theorem dX7_says_146 : decode cX7_says 146 = .ok (.isub, 1) := by decide +kernel
theorem dX7_says_147 : decode cX7_says 147 = .ok (.iaload, 1) := by decide +kernel
theorem dX7_says_148 : decode cX7_says 148 = .ok (.ineg, 1) := by decide +kernel
theorem dX7_says_149 : decode cX7_says 149 = .ok (.iastore, 1) := by decide +kernel
theorem dX7_says_150 : decode cX7_says 150 = .ok (.goto 38, 3) := by decide +kernel
theorem dX7_says_153 : decode cX7_says 153 = .ok (.iload_n 3, 1) := by decide +kernel
theorem dX7_says_154 : decode cX7_says 154 = .ok (.iconst 2, 1) := by decide +kernel
theorem dX7_says_155 : decode cX7_says 155 = .ok (.if_icmp .lt 33, 3) := by decide +kernel
theorem dX7_says_158 : decode cX7_says 158 = .ok (.iinc 3 (-1), 3) := by decide +kernel
theorem dX7_says_161 : decode cX7_says 161 = .ok (.aload_n 0, 1) := by decide +kernel
theorem dX7_says_162 : decode cX7_says 162 = .ok (.getfield 18, 3) := by decide +kernel
theorem dX7_says_165 : decode cX7_says 165 = .ok (.iload_n 3, 1) := by decide +kernel
theorem dX7_says_166 : decode cX7_says 166 = .ok (.iconst 1, 1) := by decide +kernel
theorem dX7_says_167 : decode cX7_says 167 = .ok (.isub, 1) := by decide +kernel
theorem dX7_says_168 : decode cX7_says 168 = .ok (.iload 5, 2) := by decide +kernel
theorem dX7_says_170 : decode cX7_says 170 = .ok (.aload_n 0, 1) := by decide +kernel
theorem dX7_says_171 : decode cX7_says 171 = .ok (.getfield 18, 3) := by decide +kernel
theorem dX7_says_174 : decode cX7_says 174 = .ok (.iload_n 3, 1) := by decide +kernel
theorem dX7_says_175 : decode cX7_says 175 = .ok (.iconst 1, 1) := by decide +kernel
theorem dX7_says_176 : decode cX7_says 176 = .ok (.isub, 1) := by decide +kernel
theorem dX7_says_177 : decode cX7_says 177 = .ok (.iaload, 1) := by decide +kernel
theorem dX7_says_178 : decode cX7_says 178 = .ok (.aload_n 0, 1) := by decide +kernel
theorem dX7_says_179 : decode cX7_says 179 = .ok (.getfield 18, 3) := by decide +kernel
theorem dX7_says_182 : decode cX7_says 182 = .ok (.iload_n 3, 1) := by decide +kernel
theorem dX7_says_183 : decode cX7_says 183 = .ok (.iaload, 1) := by decide +kernel
theorem dX7_says_184 : decode cX7_says 184 = .ok (.invokestatic 25, 3) := by decide +kernel
theorem dX7_says_187 : decode cX7_says 187 = .ok (.iastore, 1) := by decide +kernel
theorem dX7_says_188 : decode cX7_says 188 = .ok (.iinc 4 1, 3) := by decide +kernel
theorem dX7_says_191 : decode cX7_says 191 = .ok (.goto (-171), 3) := by decide +kernel
theorem dX7_says_194 : decode cX7_says 194 = .ok (.iload_n 3, 1) := by decide +kernel
theorem dX7_says_195 : decode cX7_says 195 = .ok (.ifCond .le 14, 3) := by decide +kernel
theorem dX7_says_198 : decode cX7_says 198 = .ok (.aload_n 0, 1) := by decide +kernel
theorem dX7_says_199 : decode cX7_says 199 = .ok (.getfield 18, 3) := by decide +kernel
theorem dX7_says_202 : decode cX7_says 202 = .ok (.iload_n 3, 1) := by decide +kernel
theorem dX7_says_203 : decode cX7_says 203 = .ok (.iconst 1, 1) := by decide +kernel
theorem dX7_says_204 : decode cX7_says 204 = .ok (.isub, 1) := by decide +kernel
theorem dX7_says_205 : decode cX7_says 205 = .ok (.iaload, 1) := by decide +kernel
theorem dX7_says_206 : decode cX7_says 206 = .ok (.goto 4, 3) := by decide +kernel
theorem dX7_says_209 : decode cX7_says 209 = .ok (.iconst 0, 1) := by decide +kernel
theorem dX7_says_210 : decode cX7_says 210 = .ok (.istore 4, 2) := by decide +kernel
theorem dX7_says_212 : decode cX7_says 212 = .ok (.iload_n 1, 1) := by decide +kernel
theorem dX7_says_213 : decode cX7_says 213 = .ok (.ifCond .ne 14, 3) := by decide +kernel
theorem dX7_says_216 : decode cX7_says 216 = .ok (.iload 4, 2) := by decide +kernel
theorem dX7_says_218 : decode cX7_says 218 = .ok (.ifCond .eq 7, 3) := by decide +kernel
theorem dX7_says_221 : decode cX7_says 221 = .ok (.iconst 1, 1) := by decide +kernel
theorem dX7_says_222 : decode cX7_says 222 = .ok (.goto 4, 3) := by decide +kernel
theorem dX7_says_225 : decode cX7_says 225 = .ok (.iconst 0, 1) := by decide +kernel
theorem dX7_says_226 : decode cX7_says 226 = .ok (.ireturn, 1) := by decide +kernel
theorem dX7_says_227 : decode cX7_says 227 = .ok (.iconst 0, 1) := by decide +kernel
theorem dX7_says_228 : decode cX7_says 228 = .ok (.bipush 99, 2) := by decide +kernel
theorem dX7_says_230 : decode cX7_says 230 = .ok (.iload 4, 2) := by decide +kernel
theorem dX7_says_232 : decode cX7_says 232 = .ok (.invokestatic 29, 3) := by decide +kernel
theorem dX7_says_235 : decode cX7_says 235 = .ok (.invokestatic 35, 3) := by decide +kernel
theorem dX7_says_238 : decode cX7_says 238 = .ok (.ireturn, 1) := by decide +kernel
theorem dX7_joined_0 : decode cX7_joined 0 = .ok (.iload_n 0, 1) := by decide +kernel
theorem dX7_joined_1 : decode cX7_joined 1 = .ok (.tableswitch 101 (-13) (-7) #[97, 93, 82, 71, 101, 57, 43], 43) := by decide +kernel
theorem dX7_joined_44 : decode cX7_joined 44 = .ok (.iload_n 1, 1) := by decide +kernel
theorem dX7_joined_45 : decode cX7_joined 45 = .ok (.ifCond .ne 7, 3) := by decide +kernel
theorem dX7_joined_48 : decode cX7_joined 48 = .ok (.iload_n 2, 1) := by decide +kernel
theorem dX7_joined_49 : decode cX7_joined 49 = .ok (.ifCond .eq 7, 3) := by decide +kernel
theorem dX7_joined_52 : decode cX7_joined 52 = .ok (.iconst 1, 1) := by decide +kernel
theorem dX7_joined_53 : decode cX7_joined 53 = .ok (.goto 4, 3) := by decide +kernel
theorem dX7_joined_56 : decode cX7_joined 56 = .ok (.iconst 0, 1) := by decide +kernel
theorem dX7_joined_57 : decode cX7_joined 57 = .ok (.ireturn, 1) := by decide +kernel
theorem dX7_joined_58 : decode cX7_joined 58 = .ok (.iload_n 1, 1) := by decide +kernel
theorem dX7_joined_59 : decode cX7_joined 59 = .ok (.ifCond .eq 11, 3) := by decide +kernel
theorem dX7_joined_62 : decode cX7_joined 62 = .ok (.iload_n 2, 1) := by decide +kernel
theorem dX7_joined_63 : decode cX7_joined 63 = .ok (.ifCond .eq 7, 3) := by decide +kernel
theorem dX7_joined_66 : decode cX7_joined 66 = .ok (.iconst 1, 1) := by decide +kernel
theorem dX7_joined_67 : decode cX7_joined 67 = .ok (.goto 4, 3) := by decide +kernel
theorem dX7_joined_70 : decode cX7_joined 70 = .ok (.iconst 0, 1) := by decide +kernel
theorem dX7_joined_71 : decode cX7_joined 71 = .ok (.ireturn, 1) := by decide +kernel
theorem dX7_joined_72 : decode cX7_joined 72 = .ok (.iload_n 1, 1) := by decide +kernel
theorem dX7_joined_73 : decode cX7_joined 73 = .ok (.iload_n 2, 1) := by decide +kernel
theorem dX7_joined_74 : decode cX7_joined 74 = .ok (.if_icmp .ge 7, 3) := by decide +kernel
theorem dX7_joined_77 : decode cX7_joined 77 = .ok (.iconst 1, 1) := by decide +kernel
theorem dX7_joined_78 : decode cX7_joined 78 = .ok (.goto 4, 3) := by decide +kernel
theorem dX7_joined_81 : decode cX7_joined 81 = .ok (.iconst 0, 1) := by decide +kernel
theorem dX7_joined_82 : decode cX7_joined 82 = .ok (.ireturn, 1) := by decide +kernel
theorem dX7_joined_83 : decode cX7_joined 83 = .ok (.iload_n 1, 1) := by decide +kernel
theorem dX7_joined_84 : decode cX7_joined 84 = .ok (.iload_n 2, 1) := by decide +kernel
theorem dX7_joined_85 : decode cX7_joined 85 = .ok (.if_icmp .ne 7, 3) := by decide +kernel
theorem dX7_joined_88 : decode cX7_joined 88 = .ok (.iconst 1, 1) := by decide +kernel
theorem dX7_joined_89 : decode cX7_joined 89 = .ok (.goto 4, 3) := by decide +kernel
theorem dX7_joined_92 : decode cX7_joined 92 = .ok (.iconst 0, 1) := by decide +kernel
theorem dX7_joined_93 : decode cX7_joined 93 = .ok (.ireturn, 1) := by decide +kernel
theorem dX7_joined_94 : decode cX7_joined 94 = .ok (.iload_n 1, 1) := by decide +kernel
theorem dX7_joined_95 : decode cX7_joined 95 = .ok (.iload_n 2, 1) := by decide +kernel
theorem dX7_joined_96 : decode cX7_joined 96 = .ok (.iadd, 1) := by decide +kernel
theorem dX7_joined_97 : decode cX7_joined 97 = .ok (.ireturn, 1) := by decide +kernel
theorem dX7_joined_98 : decode cX7_joined 98 = .ok (.iload_n 1, 1) := by decide +kernel
theorem dX7_joined_99 : decode cX7_joined 99 = .ok (.iload_n 2, 1) := by decide +kernel
theorem dX7_joined_100 : decode cX7_joined 100 = .ok (.isub, 1) := by decide +kernel
theorem dX7_joined_101 : decode cX7_joined 101 = .ok (.ireturn, 1) := by decide +kernel
theorem dX7_joined_102 : decode cX7_joined 102 = .ok (.iload_n 1, 1) := by decide +kernel
theorem dX7_joined_103 : decode cX7_joined 103 = .ok (.iload_n 2, 1) := by decide +kernel
theorem dX7_joined_104 : decode cX7_joined 104 = .ok (.imul, 1) := by decide +kernel
theorem dX7_joined_105 : decode cX7_joined 105 = .ok (.ireturn, 1) := by decide +kernel
theorem dX8_init_0 : decode cX8_init 0 = .ok (.aload_n 0, 1) := by decide +kernel
theorem dX8_init_1 : decode cX8_init 1 = .ok (.invokespecial 3, 3) := by decide +kernel
theorem dX8_init_4 : decode cX8_init 4 = .ok (.aload_n 0, 1) := by decide +kernel
theorem dX8_init_5 : decode cX8_init 5 = .ok (.bipush 10, 2) := by decide +kernel
theorem dX8_init_7 : decode cX8_init 7 = .ok (.newarray .int, 2) := by decide +kernel
theorem dX8_init_9 : decode cX8_init 9 = .ok (.putfield 9, 3) := by decide +kernel
theorem dX8_init_12 : decode cX8_init 12 = .ok (.aload_n 0, 1) := by decide +kernel
theorem dX8_init_13 : decode cX8_init 13 = .ok (.bipush 10, 2) := by decide +kernel
theorem dX8_init_15 : decode cX8_init 15 = .ok (.newarray .int, 2) := by decide +kernel
theorem dX8_init_17 : decode cX8_init 17 = .ok (.putfield 15, 3) := by decide +kernel
theorem dX8_init_20 : decode cX8_init 20 = .ok (.aload_n 0, 1) := by decide +kernel
theorem dX8_init_21 : decode cX8_init 21 = .ok (.bipush 6, 2) := by decide +kernel
theorem dX8_init_23 : decode cX8_init 23 = .ok (.newarray .int, 2) := by decide +kernel
theorem dX8_init_25 : decode cX8_init 25 = .ok (.putfield 18, 3) := by decide +kernel
theorem dX8_init_28 : decode cX8_init 28 = .ok (.aload_n 0, 1) := by decide +kernel
theorem dX8_init_29 : decode cX8_init 29 = .ok (.aload_n 1, 1) := by decide +kernel
theorem dX8_init_30 : decode cX8_init 30 = .ok (.putfield 21, 3) := by decide +kernel
theorem dX8_init_33 : decode cX8_init 33 = .ok (.aload_n 0, 1) := by decide +kernel
theorem dX8_init_34 : decode cX8_init 34 = .ok (.aload_n 2, 1) := by decide +kernel
theorem dX8_init_35 : decode cX8_init 35 = .ok (.putfield 25, 3) := by decide +kernel
theorem dX8_init_38 : decode cX8_init 38 = .ok (.return_, 1) := by decide +kernel
theorem dX8_prepare_0 : decode cX8_prepare 0 = .ok (.aload_n 0, 1) := by decide +kernel
theorem dX8_prepare_1 : decode cX8_prepare 1 = .ok (.iconst 0, 1) := by decide +kernel
theorem dX8_prepare_2 : decode cX8_prepare 2 = .ok (.putfield 29, 3) := by decide +kernel
theorem dX8_prepare_5 : decode cX8_prepare 5 = .ok (.aload_n 0, 1) := by decide +kernel
theorem dX8_prepare_6 : decode cX8_prepare 6 = .ok (.iconst 0, 1) := by decide +kernel
theorem dX8_prepare_7 : decode cX8_prepare 7 = .ok (.putfield 33, 3) := by decide +kernel
theorem dX8_prepare_10 : decode cX8_prepare 10 = .ok (.aload_n 0, 1) := by decide +kernel
theorem dX8_prepare_11 : decode cX8_prepare 11 = .ok (.getfield 18, 3) := by decide +kernel
theorem dX8_prepare_14 : decode cX8_prepare 14 = .ok (.iconst 3, 1) := by decide +kernel
theorem dX8_prepare_15 : decode cX8_prepare 15 = .ok (.iload_n 1, 1) := by decide +kernel
theorem dX8_prepare_16 : decode cX8_prepare 16 = .ok (.iastore, 1) := by decide +kernel
theorem dX8_prepare_17 : decode cX8_prepare 17 = .ok (.iconst 0, 1) := by decide +kernel
theorem dX8_prepare_18 : decode cX8_prepare 18 = .ok (.istore_n 3, 1) := by decide +kernel
theorem dX8_prepare_19 : decode cX8_prepare 19 = .ok (.iload_n 3, 1) := by decide +kernel
theorem dX8_prepare_20 : decode cX8_prepare 20 = .ok (.aload_n 0, 1) := by decide +kernel
theorem dX8_prepare_21 : decode cX8_prepare 21 = .ok (.getfield 25, 3) := by decide +kernel
theorem dX8_prepare_24 : decode cX8_prepare 24 = .ok (.getfield 36, 3) := by decide +kernel
theorem dX8_prepare_27 : decode cX8_prepare 27 = .ok (.if_icmp .ge 95, 3) := by decide +kernel
theorem dX8_prepare_30 : decode cX8_prepare 30 = .ok (.aload_n 0, 1) := by decide +kernel
theorem dX8_prepare_31 : decode cX8_prepare 31 = .ok (.getfield 25, 3) := by decide +kernel
theorem dX8_prepare_34 : decode cX8_prepare 34 = .ok (.getfield 41, 3) := by decide +kernel
theorem dX8_prepare_37 : decode cX8_prepare 37 = .ok (.iload_n 3, 1) := by decide +kernel
theorem dX8_prepare_38 : decode cX8_prepare 38 = .ok (.aaload, 1) := by decide +kernel
theorem dX8_prepare_39 : decode cX8_prepare 39 = .ok (.astore 4, 2) := by decide +kernel
theorem dX8_prepare_41 : decode cX8_prepare 41 = .ok (.iload_n 1, 1) := by decide +kernel
theorem dX8_prepare_42 : decode cX8_prepare 42 = .ok (.aload_n 2, 1) := by decide +kernel
theorem dX8_prepare_43 : decode cX8_prepare 43 = .ok (.iload_n 3, 1) := by decide +kernel
theorem dX8_prepare_44 : decode cX8_prepare 44 = .ok (.iaload, 1) := by decide +kernel
theorem dX8_prepare_45 : decode cX8_prepare 45 = .ok (.invokestatic 45, 3) := by decide +kernel
theorem dX8_prepare_48 : decode cX8_prepare 48 = .ok (.istore 5, 2) := by decide +kernel
theorem dX8_prepare_50 : decode cX8_prepare 50 = .ok (.aload_n 0, 1) := by decide +kernel
theorem dX8_prepare_51 : decode cX8_prepare 51 = .ok (.getfield 9, 3) := by decide +kernel
theorem dX8_prepare_54 : decode cX8_prepare 54 = .ok (.iload_n 3, 1) := by decide +kernel
theorem dX8_prepare_55 : decode cX8_prepare 55 = .ok (.aload 4, 2) := by decide +kernel
theorem dX8_prepare_57 : decode cX8_prepare 57 = .ok (.iload 5, 2) := by decide +kernel
theorem dX8_prepare_59 : decode cX8_prepare 59 = .ok (.invokevirtual 49, 3) := by decide +kernel
theorem dX8_prepare_62 : decode cX8_prepare 62 = .ok (.iastore, 1) := by decide +kernel
theorem dX8_prepare_63 : decode cX8_prepare 63 = .ok (.aload_n 0, 1) := by decide +kernel
theorem dX8_prepare_64 : decode cX8_prepare 64 = .ok (.getfield 15, 3) := by decide +kernel
theorem dX8_prepare_67 : decode cX8_prepare 67 = .ok (.iload_n 3, 1) := by decide +kernel
theorem dX8_prepare_68 : decode cX8_prepare 68 = .ok (.aload 4, 2) := by decide +kernel
theorem dX8_prepare_70 : decode cX8_prepare 70 = .ok (.iload 5, 2) := by decide +kernel
theorem dX8_prepare_72 : decode cX8_prepare 72 = .ok (.invokevirtual 55, 3) := by decide +kernel
theorem dX8_prepare_75 : decode cX8_prepare 75 = .ok (.iastore, 1) := by decide +kernel
theorem dX8_prepare_76 : decode cX8_prepare 76 = .ok (.aload_n 2, 1) := by decide +kernel
theorem dX8_prepare_77 : decode cX8_prepare 77 = .ok (.iload_n 3, 1) := by decide +kernel
theorem dX8_prepare_78 : decode cX8_prepare 78 = .ok (.iaload, 1) := by decide +kernel
theorem dX8_prepare_79 : decode cX8_prepare 79 = .ok (.iload_n 1, 1) := by decide +kernel
theorem dX8_prepare_80 : decode cX8_prepare 80 = .ok (.if_icmp .gt 15, 3) := by decide +kernel
theorem dX8_prepare_83 : decode cX8_prepare 83 = .ok (.aload_n 0, 1) := by decide +kernel
theorem dX8_prepare_84 : decode cX8_prepare 84 = .ok (.dup, 1) := by decide +kernel
theorem dX8_prepare_85 : decode cX8_prepare 85 = .ok (.getfield 29, 3) := by decide +kernel
theorem dX8_prepare_88 : decode cX8_prepare 88 = .ok (.iconst 1, 1) := by decide +kernel
theorem dX8_prepare_89 : decode cX8_prepare 89 = .ok (.iload_n 3, 1) := by decide +kernel
theorem dX8_prepare_90 : decode cX8_prepare 90 = .ok (.ishl, 1) := by decide +kernel
theorem dX8_prepare_91 : decode cX8_prepare 91 = .ok (.ior, 1) := by decide +kernel
theorem dX8_prepare_92 : decode cX8_prepare 92 = .ok (.putfield 29, 3) := by decide +kernel
theorem dX8_prepare_95 : decode cX8_prepare 95 = .ok (.aload 4, 2) := by decide +kernel
theorem dX8_prepare_97 : decode cX8_prepare 97 = .ok (.getfield 58, 3) := by decide +kernel
theorem dX8_prepare_100 : decode cX8_prepare 100 = .ok (.iconst 1, 1) := by decide +kernel
theorem dX8_prepare_101 : decode cX8_prepare 101 = .ok (.if_icmp .ne 15, 3) := by decide +kernel
theorem dX8_prepare_104 : decode cX8_prepare 104 = .ok (.aload_n 0, 1) := by decide +kernel
theorem dX8_prepare_105 : decode cX8_prepare 105 = .ok (.dup, 1) := by decide +kernel
theorem dX8_prepare_106 : decode cX8_prepare 106 = .ok (.getfield 33, 3) := by decide +kernel
theorem dX8_prepare_109 : decode cX8_prepare 109 = .ok (.iconst 1, 1) := by decide +kernel
theorem dX8_prepare_110 : decode cX8_prepare 110 = .ok (.iload_n 3, 1) := by decide +kernel
theorem dX8_prepare_111 : decode cX8_prepare 111 = .ok (.ishl, 1) := by decide +kernel
theorem dX8_prepare_112 : decode cX8_prepare 112 = .ok (.ior, 1) := by decide +kernel
theorem dX8_prepare_113 : decode cX8_prepare 113 = .ok (.putfield 33, 3) := by decide +kernel
theorem dX8_prepare_116 : decode cX8_prepare 116 = .ok (.iinc 3 1, 3) := by decide +kernel
theorem dX8_prepare_119 : decode cX8_prepare 119 = .ok (.goto (-100), 3) := by decide +kernel
theorem dX8_prepare_122 : decode cX8_prepare 122 = .ok (.return_, 1) := by decide +kernel
theorem dX8_isInward_0 : decode cX8_isInward 0 = .ok (.aload_n 0, 1) := by decide +kernel
theorem dX8_isInward_1 : decode cX8_isInward 1 = .ok (.getfield 33, 3) := by decide +kernel
theorem dX8_isInward_4 : decode cX8_isInward 4 = .ok (.iload_n 1, 1) := by decide +kernel
theorem dX8_isInward_5 : decode cX8_isInward 5 = .ok (.ishr, 1) := by decide +kernel
theorem dX8_isInward_6 : decode cX8_isInward 6 = .ok (.iconst 1, 1) := by decide +kernel
theorem dX8_isInward_7 : decode cX8_isInward 7 = .ok (.iand, 1) := by decide +kernel
theorem dX8_isInward_8 : decode cX8_isInward 8 = .ok (.iconst 1, 1) := by decide +kernel
theorem dX8_isInward_9 : decode cX8_isInward 9 = .ok (.if_icmp .ne 7, 3) := by decide +kernel
theorem dX8_isInward_12 : decode cX8_isInward 12 = .ok (.iconst 1, 1) := by decide +kernel
theorem dX8_isInward_13 : decode cX8_isInward 13 = .ok (.goto 4, 3) := by decide +kernel
theorem dX8_isInward_16 : decode cX8_isInward 16 = .ok (.iconst 0, 1) := by decide +kernel
theorem dX8_isInward_17 : decode cX8_isInward 17 = .ok (.ireturn, 1) := by decide +kernel
theorem dX8_weightOf_0 : decode cX8_weightOf 0 = .ok (.iconst 0, 1) := by decide +kernel
theorem dX8_weightOf_1 : decode cX8_weightOf 1 = .ok (.istore_n 2, 1) := by decide +kernel
theorem dX8_weightOf_2 : decode cX8_weightOf 2 = .ok (.iconst 0, 1) := by decide +kernel
theorem dX8_weightOf_3 : decode cX8_weightOf 3 = .ok (.istore_n 3, 1) := by decide +kernel
theorem dX8_weightOf_4 : decode cX8_weightOf 4 = .ok (.iload_n 3, 1) := by decide +kernel
theorem dX8_weightOf_5 : decode cX8_weightOf 5 = .ok (.aload_n 0, 1) := by decide +kernel
theorem dX8_weightOf_6 : decode cX8_weightOf 6 = .ok (.getfield 25, 3) := by decide +kernel
theorem dX8_weightOf_9 : decode cX8_weightOf 9 = .ok (.getfield 36, 3) := by decide +kernel
theorem dX8_weightOf_12 : decode cX8_weightOf 12 = .ok (.if_icmp .ge 27, 3) := by decide +kernel
theorem dX8_weightOf_15 : decode cX8_weightOf 15 = .ok (.iload_n 1, 1) := by decide +kernel
theorem dX8_weightOf_16 : decode cX8_weightOf 16 = .ok (.iload_n 3, 1) := by decide +kernel
theorem dX8_weightOf_17 : decode cX8_weightOf 17 = .ok (.ishr, 1) := by decide +kernel
theorem dX8_weightOf_18 : decode cX8_weightOf 18 = .ok (.iconst 1, 1) := by decide +kernel
theorem dX8_weightOf_19 : decode cX8_weightOf 19 = .ok (.iand, 1) := by decide +kernel
theorem dX8_weightOf_20 : decode cX8_weightOf 20 = .ok (.iconst 1, 1) := by decide +kernel
theorem dX8_weightOf_21 : decode cX8_weightOf 21 = .ok (.if_icmp .ne 12, 3) := by decide +kernel
theorem dX8_weightOf_24 : decode cX8_weightOf 24 = .ok (.iload_n 2, 1) := by decide +kernel
theorem dX8_weightOf_25 : decode cX8_weightOf 25 = .ok (.aload_n 0, 1) := by decide +kernel
theorem dX8_weightOf_26 : decode cX8_weightOf 26 = .ok (.getfield 9, 3) := by decide +kernel
theorem dX8_weightOf_29 : decode cX8_weightOf 29 = .ok (.iload_n 3, 1) := by decide +kernel
theorem dX8_weightOf_30 : decode cX8_weightOf 30 = .ok (.iaload, 1) := by decide +kernel
theorem dX8_weightOf_31 : decode cX8_weightOf 31 = .ok (.iadd, 1) := by decide +kernel
theorem dX8_weightOf_32 : decode cX8_weightOf 32 = .ok (.istore_n 2, 1) := by decide +kernel
theorem dX8_weightOf_33 : decode cX8_weightOf 33 = .ok (.iinc 3 1, 3) := by decide +kernel
theorem dX8_weightOf_36 : decode cX8_weightOf 36 = .ok (.goto (-32), 3) := by decide +kernel
theorem dX8_weightOf_39 : decode cX8_weightOf 39 = .ok (.iload_n 2, 1) := by decide +kernel
theorem dX8_weightOf_40 : decode cX8_weightOf 40 = .ok (.ireturn, 1) := by decide +kernel
theorem dX8_worthOf_0 : decode cX8_worthOf 0 = .ok (.iconst 0, 1) := by decide +kernel
theorem dX8_worthOf_1 : decode cX8_worthOf 1 = .ok (.istore_n 2, 1) := by decide +kernel
theorem dX8_worthOf_2 : decode cX8_worthOf 2 = .ok (.iconst 0, 1) := by decide +kernel
theorem dX8_worthOf_3 : decode cX8_worthOf 3 = .ok (.istore_n 3, 1) := by decide +kernel
theorem dX8_worthOf_4 : decode cX8_worthOf 4 = .ok (.iload_n 3, 1) := by decide +kernel
theorem dX8_worthOf_5 : decode cX8_worthOf 5 = .ok (.aload_n 0, 1) := by decide +kernel
theorem dX8_worthOf_6 : decode cX8_worthOf 6 = .ok (.getfield 25, 3) := by decide +kernel
theorem dX8_worthOf_9 : decode cX8_worthOf 9 = .ok (.getfield 36, 3) := by decide +kernel
theorem dX8_worthOf_12 : decode cX8_worthOf 12 = .ok (.if_icmp .ge 27, 3) := by decide +kernel
theorem dX8_worthOf_15 : decode cX8_worthOf 15 = .ok (.iload_n 1, 1) := by decide +kernel
theorem dX8_worthOf_16 : decode cX8_worthOf 16 = .ok (.iload_n 3, 1) := by decide +kernel
theorem dX8_worthOf_17 : decode cX8_worthOf 17 = .ok (.ishr, 1) := by decide +kernel
theorem dX8_worthOf_18 : decode cX8_worthOf 18 = .ok (.iconst 1, 1) := by decide +kernel
theorem dX8_worthOf_19 : decode cX8_worthOf 19 = .ok (.iand, 1) := by decide +kernel
theorem dX8_worthOf_20 : decode cX8_worthOf 20 = .ok (.iconst 1, 1) := by decide +kernel
theorem dX8_worthOf_21 : decode cX8_worthOf 21 = .ok (.if_icmp .ne 12, 3) := by decide +kernel
theorem dX8_worthOf_24 : decode cX8_worthOf 24 = .ok (.iload_n 2, 1) := by decide +kernel
theorem dX8_worthOf_25 : decode cX8_worthOf 25 = .ok (.aload_n 0, 1) := by decide +kernel
theorem dX8_worthOf_26 : decode cX8_worthOf 26 = .ok (.getfield 15, 3) := by decide +kernel
theorem dX8_worthOf_29 : decode cX8_worthOf 29 = .ok (.iload_n 3, 1) := by decide +kernel
theorem dX8_worthOf_30 : decode cX8_worthOf 30 = .ok (.iaload, 1) := by decide +kernel
theorem dX8_worthOf_31 : decode cX8_worthOf 31 = .ok (.iadd, 1) := by decide +kernel
theorem dX8_worthOf_32 : decode cX8_worthOf 32 = .ok (.istore_n 2, 1) := by decide +kernel
theorem dX8_worthOf_33 : decode cX8_worthOf 33 = .ok (.iinc 3 1, 3) := by decide +kernel
theorem dX8_worthOf_36 : decode cX8_worthOf 36 = .ok (.goto (-32), 3) := by decide +kernel
theorem dX8_worthOf_39 : decode cX8_worthOf 39 = .ok (.iload_n 2, 1) := by decide +kernel
theorem dX8_worthOf_40 : decode cX8_worthOf 40 = .ok (.ireturn, 1) := by decide +kernel
theorem dX8_weigh_0 : decode cX8_weigh 0 = .ok (.aload_n 0, 1) := by decide +kernel
theorem dX8_weigh_1 : decode cX8_weigh 1 = .ok (.iload_n 1, 1) := by decide +kernel
theorem dX8_weigh_2 : decode cX8_weigh 2 = .ok (.putfield 59, 3) := by decide +kernel
theorem dX8_weigh_5 : decode cX8_weigh 5 = .ok (.aload_n 0, 1) := by decide +kernel
theorem dX8_weigh_6 : decode cX8_weigh 6 = .ok (.aload_n 0, 1) := by decide +kernel
theorem dX8_weigh_7 : decode cX8_weigh 7 = .ok (.iload_n 1, 1) := by decide +kernel
theorem dX8_weigh_8 : decode cX8_weigh 8 = .ok (.invokevirtual 62, 3) := by decide +kernel
theorem dX8_weigh_11 : decode cX8_weigh 11 = .ok (.putfield 65, 3) := by decide +kernel
theorem dX8_weigh_14 : decode cX8_weigh 14 = .ok (.aload_n 0, 1) := by decide +kernel
theorem dX8_weigh_15 : decode cX8_weigh 15 = .ok (.aload_n 0, 1) := by decide +kernel
theorem dX8_weigh_16 : decode cX8_weigh 16 = .ok (.iload_n 1, 1) := by decide +kernel
theorem dX8_weigh_17 : decode cX8_weigh 17 = .ok (.aload_n 0, 1) := by decide +kernel
theorem dX8_weigh_18 : decode cX8_weigh 18 = .ok (.getfield 33, 3) := by decide +kernel
theorem dX8_weigh_21 : decode cX8_weigh 21 = .ok (.iand, 1) := by decide +kernel
theorem dX8_weigh_22 : decode cX8_weigh 22 = .ok (.invokevirtual 67, 3) := by decide +kernel
theorem dX8_weigh_25 : decode cX8_weigh 25 = .ok (.putfield 70, 3) := by decide +kernel
theorem dX8_weigh_28 : decode cX8_weigh 28 = .ok (.aload_n 0, 1) := by decide +kernel
theorem dX8_weigh_29 : decode cX8_weigh 29 = .ok (.aload_n 0, 1) := by decide +kernel
theorem dX8_weigh_30 : decode cX8_weigh 30 = .ok (.iload_n 1, 1) := by decide +kernel
theorem dX8_weigh_31 : decode cX8_weigh 31 = .ok (.aload_n 0, 1) := by decide +kernel
theorem dX8_weigh_32 : decode cX8_weigh 32 = .ok (.getfield 33, 3) := by decide +kernel
theorem dX8_weigh_35 : decode cX8_weigh 35 = .ok (.iconst (-1), 1) := by decide +kernel
theorem dX8_weigh_36 : decode cX8_weigh 36 = .ok (.ixor, 1) := by decide +kernel
theorem dX8_weigh_37 : decode cX8_weigh 37 = .ok (.iand, 1) := by decide +kernel
theorem dX8_weigh_38 : decode cX8_weigh 38 = .ok (.invokevirtual 67, 3) := by decide +kernel
theorem dX8_weigh_41 : decode cX8_weigh 41 = .ok (.putfield 73, 3) := by decide +kernel
theorem dX8_weigh_44 : decode cX8_weigh 44 = .ok (.aload_n 0, 1) := by decide +kernel
theorem dX8_weigh_45 : decode cX8_weigh 45 = .ok (.getfield 70, 3) := by decide +kernel
theorem dX8_weigh_48 : decode cX8_weigh 48 = .ok (.aload_n 0, 1) := by decide +kernel
theorem dX8_weigh_49 : decode cX8_weigh 49 = .ok (.getfield 21, 3) := by decide +kernel
theorem dX8_weigh_52 : decode cX8_weigh 52 = .ok (.getfield 76, 3) := by decide +kernel
theorem dX8_weigh_55 : decode cX8_weigh 55 = .ok (.iconst 0, 1) := by decide +kernel
theorem dX8_weigh_56 : decode cX8_weigh 56 = .ok (.iaload, 1) := by decide +kernel
theorem dX8_weigh_57 : decode cX8_weigh 57 = .ok (.imul, 1) := by decide +kernel
theorem dX8_weigh_58 : decode cX8_weigh 58 = .ok (.aload_n 0, 1) := by decide +kernel
theorem dX8_weigh_59 : decode cX8_weigh 59 = .ok (.getfield 73, 3) := by decide +kernel
theorem dX8_weigh_62 : decode cX8_weigh 62 = .ok (.aload_n 0, 1) := by decide +kernel
theorem dX8_weigh_63 : decode cX8_weigh 63 = .ok (.getfield 21, 3) := by decide +kernel
theorem dX8_weigh_66 : decode cX8_weigh 66 = .ok (.getfield 76, 3) := by decide +kernel
theorem dX8_weigh_69 : decode cX8_weigh 69 = .ok (.iconst 1, 1) := by decide +kernel
theorem dX8_weigh_70 : decode cX8_weigh 70 = .ok (.iaload, 1) := by decide +kernel
theorem dX8_weigh_71 : decode cX8_weigh 71 = .ok (.imul, 1) := by decide +kernel
theorem dX8_weigh_72 : decode cX8_weigh 72 = .ok (.isub, 1) := by decide +kernel
theorem dX8_weigh_73 : decode cX8_weigh 73 = .ok (.invokestatic 81, 3) := by decide +kernel
theorem dX8_weigh_76 : decode cX8_weigh 76 = .ok (.istore_n 2, 1) := by decide +kernel
theorem dX8_weigh_77 : decode cX8_weigh 77 = .ok (.aload_n 0, 1) := by decide +kernel
theorem dX8_weigh_78 : decode cX8_weigh 78 = .ok (.aload_n 0, 1) := by decide +kernel
theorem dX8_weigh_79 : decode cX8_weigh 79 = .ok (.getfield 21, 3) := by decide +kernel
theorem dX8_weigh_82 : decode cX8_weigh 82 = .ok (.iload_n 2, 1) := by decide +kernel
theorem dX8_weigh_83 : decode cX8_weigh 83 = .ok (.invokevirtual 86, 3) := by decide +kernel
theorem dX8_weigh_86 : decode cX8_weigh 86 = .ok (.putfield 89, 3) := by decide +kernel
theorem dX8_weigh_89 : decode cX8_weigh 89 = .ok (.aload_n 0, 1) := by decide +kernel
theorem dX8_weigh_90 : decode cX8_weigh 90 = .ok (.aload_n 0, 1) := by decide +kernel
theorem dX8_weigh_91 : decode cX8_weigh 91 = .ok (.getfield 89, 3) := by decide +kernel
theorem dX8_weigh_94 : decode cX8_weigh 94 = .ok (.iconst (-1), 1) := by decide +kernel
theorem dX8_weigh_95 : decode cX8_weigh 95 = .ok (.if_icmp .ne 7, 3) := by decide +kernel
theorem dX8_weigh_98 : decode cX8_weigh 98 = .ok (.iconst 0, 1) := by decide +kernel
theorem dX8_weigh_99 : decode cX8_weigh 99 = .ok (.goto 15, 3) := by decide +kernel
theorem dX8_weigh_102 : decode cX8_weigh 102 = .ok (.aload_n 0, 1) := by decide +kernel
theorem dX8_weigh_103 : decode cX8_weigh 103 = .ok (.getfield 21, 3) := by decide +kernel
theorem dX8_weigh_106 : decode cX8_weigh 106 = .ok (.iload_n 2, 1) := by decide +kernel
theorem dX8_weigh_107 : decode cX8_weigh 107 = .ok (.aload_n 0, 1) := by decide +kernel
theorem dX8_weigh_108 : decode cX8_weigh 108 = .ok (.getfield 89, 3) := by decide +kernel
theorem dX8_weigh_111 : decode cX8_weigh 111 = .ok (.invokevirtual 92, 3) := by decide +kernel
theorem dX8_weigh_114 : decode cX8_weigh 114 = .ok (.putfield 95, 3) := by decide +kernel
theorem dX8_weigh_117 : decode cX8_weigh 117 = .ok (.aload_n 0, 1) := by decide +kernel
theorem dX8_weigh_118 : decode cX8_weigh 118 = .ok (.getfield 18, 3) := by decide +kernel
theorem dX8_weigh_121 : decode cX8_weigh 121 = .ok (.iconst 0, 1) := by decide +kernel
theorem dX8_weigh_122 : decode cX8_weigh 122 = .ok (.aload_n 0, 1) := by decide +kernel
theorem dX8_weigh_123 : decode cX8_weigh 123 = .ok (.getfield 70, 3) := by decide +kernel
theorem dX8_weigh_126 : decode cX8_weigh 126 = .ok (.iastore, 1) := by decide +kernel
theorem dX8_weigh_127 : decode cX8_weigh 127 = .ok (.aload_n 0, 1) := by decide +kernel
theorem dX8_weigh_128 : decode cX8_weigh 128 = .ok (.getfield 18, 3) := by decide +kernel
theorem dX8_weigh_131 : decode cX8_weigh 131 = .ok (.iconst 1, 1) := by decide +kernel
theorem dX8_weigh_132 : decode cX8_weigh 132 = .ok (.aload_n 0, 1) := by decide +kernel
theorem dX8_weigh_133 : decode cX8_weigh 133 = .ok (.getfield 73, 3) := by decide +kernel
theorem dX8_weigh_136 : decode cX8_weigh 136 = .ok (.iastore, 1) := by decide +kernel
theorem dX8_weigh_137 : decode cX8_weigh 137 = .ok (.aload_n 0, 1) := by decide +kernel
theorem dX8_weigh_138 : decode cX8_weigh 138 = .ok (.getfield 18, 3) := by decide +kernel
theorem dX8_weigh_141 : decode cX8_weigh 141 = .ok (.iconst 2, 1) := by decide +kernel
theorem dX8_weigh_142 : decode cX8_weigh 142 = .ok (.aload_n 0, 1) := by decide +kernel
theorem dX8_weigh_143 : decode cX8_weigh 143 = .ok (.getfield 89, 3) := by decide +kernel
theorem dX8_weigh_146 : decode cX8_weigh 146 = .ok (.iastore, 1) := by decide +kernel
theorem dX8_weigh_147 : decode cX8_weigh 147 = .ok (.aload_n 0, 1) := by decide +kernel
theorem dX8_weigh_148 : decode cX8_weigh 148 = .ok (.getfield 18, 3) := by decide +kernel
theorem dX8_weigh_151 : decode cX8_weigh 151 = .ok (.iconst 4, 1) := by decide +kernel
theorem dX8_weigh_152 : decode cX8_weigh 152 = .ok (.iload_n 1, 1) := by decide +kernel
theorem dX8_weigh_153 : decode cX8_weigh 153 = .ok (.invokestatic 98, 3) := by decide +kernel
theorem dX8_weigh_156 : decode cX8_weigh 156 = .ok (.iastore, 1) := by decide +kernel
theorem dX8_weigh_157 : decode cX8_weigh 157 = .ok (.aload_n 0, 1) := by decide +kernel
theorem dX8_weigh_158 : decode cX8_weigh 158 = .ok (.getfield 18, 3) := by decide +kernel
theorem dX8_weigh_161 : decode cX8_weigh 161 = .ok (.iconst 5, 1) := by decide +kernel
theorem dX8_weigh_162 : decode cX8_weigh 162 = .ok (.aload_n 0, 1) := by decide +kernel
theorem dX8_weigh_163 : decode cX8_weigh 163 = .ok (.getfield 95, 3) := by decide +kernel
theorem dX8_weigh_166 : decode cX8_weigh 166 = .ok (.iastore, 1) := by decide +kernel
theorem dX8_weigh_167 : decode cX8_weigh 167 = .ok (.return_, 1) := by decide +kernel
theorem dX8_fillsPans_0 : decode cX8_fillsPans 0 = .ok (.iload_n 1, 1) := by decide +kernel
theorem dX8_fillsPans_1 : decode cX8_fillsPans 1 = .ok (.aload_n 0, 1) := by decide +kernel
theorem dX8_fillsPans_2 : decode cX8_fillsPans 2 = .ok (.getfield 33, 3) := by decide +kernel
theorem dX8_fillsPans_5 : decode cX8_fillsPans 5 = .ok (.iand, 1) := by decide +kernel
theorem dX8_fillsPans_6 : decode cX8_fillsPans 6 = .ok (.invokestatic 98, 3) := by decide +kernel
theorem dX8_fillsPans_9 : decode cX8_fillsPans 9 = .ok (.iconst 1, 1) := by decide +kernel
theorem dX8_fillsPans_10 : decode cX8_fillsPans 10 = .ok (.iconst 2, 1) := by decide +kernel
theorem dX8_fillsPans_11 : decode cX8_fillsPans 11 = .ok (.invokestatic 103, 3) := by decide +kernel
theorem dX8_fillsPans_14 : decode cX8_fillsPans 14 = .ok (.ifCond .eq 26, 3) := by decide +kernel
theorem dX8_fillsPans_17 : decode cX8_fillsPans 17 = .ok (.iload_n 1, 1) := by decide +kernel
theorem dX8_fillsPans_18 : decode cX8_fillsPans 18 = .ok (.aload_n 0, 1) := by decide +kernel
theorem dX8_fillsPans_19 : decode cX8_fillsPans 19 = .ok (.getfield 33, 3) := by decide +kernel
theorem dX8_fillsPans_22 : decode cX8_fillsPans 22 = .ok (.iconst (-1), 1) := by decide +kernel
theorem dX8_fillsPans_23 : decode cX8_fillsPans 23 = .ok (.ixor, 1) := by decide +kernel
theorem dX8_fillsPans_24 : decode cX8_fillsPans 24 = .ok (.iand, 1) := by decide +kernel
theorem dX8_fillsPans_25 : decode cX8_fillsPans 25 = .ok (.invokestatic 98, 3) := by decide +kernel
theorem dX8_fillsPans_28 : decode cX8_fillsPans 28 = .ok (.iconst 1, 1) := by decide +kernel
theorem dX8_fillsPans_29 : decode cX8_fillsPans 29 = .ok (.iconst 2, 1) := by decide +kernel
theorem dX8_fillsPans_30 : decode cX8_fillsPans 30 = .ok (.invokestatic 103, 3) := by decide +kernel
theorem dX8_fillsPans_33 : decode cX8_fillsPans 33 = .ok (.ifCond .eq 7, 3) := by decide +kernel
theorem dX8_fillsPans_36 : decode cX8_fillsPans 36 = .ok (.iconst 1, 1) := by decide +kernel
theorem dX8_fillsPans_37 : decode cX8_fillsPans 37 = .ok (.goto 4, 3) := by decide +kernel
theorem dX8_fillsPans_40 : decode cX8_fillsPans 40 = .ok (.iconst 0, 1) := by decide +kernel
theorem dX8_fillsPans_41 : decode cX8_fillsPans 41 = .ok (.ireturn, 1) := by decide +kernel
theorem dX8_mayBe_0 : decode cX8_mayBe 0 = .ok (.aload_n 0, 1) := by decide +kernel
theorem dX8_mayBe_1 : decode cX8_mayBe 1 = .ok (.aload_n 0, 1) := by decide +kernel
theorem dX8_mayBe_2 : decode cX8_mayBe 2 = .ok (.getfield 59, 3) := by decide +kernel
theorem dX8_mayBe_5 : decode cX8_mayBe 5 = .ok (.invokevirtual 107, 3) := by decide +kernel
theorem dX8_mayBe_8 : decode cX8_mayBe 8 = .ok (.ifCond .eq 42, 3) := by decide +kernel
theorem dX8_mayBe_11 : decode cX8_mayBe 11 = .ok (.aload_n 0, 1) := by decide +kernel
theorem dX8_mayBe_12 : decode cX8_mayBe 12 = .ok (.getfield 59, 3) := by decide +kernel
theorem dX8_mayBe_15 : decode cX8_mayBe 15 = .ok (.aload_n 0, 1) := by decide +kernel
theorem dX8_mayBe_16 : decode cX8_mayBe 16 = .ok (.getfield 29, 3) := by decide +kernel
theorem dX8_mayBe_19 : decode cX8_mayBe 19 = .ok (.iconst (-1), 1) := by decide +kernel
theorem dX8_mayBe_20 : decode cX8_mayBe 20 = .ok (.ixor, 1) := by decide +kernel
theorem dX8_mayBe_21 : decode cX8_mayBe 21 = .ok (.iand, 1) := by decide +kernel
theorem dX8_mayBe_22 : decode cX8_mayBe 22 = .ok (.ifCond .ne 28, 3) := by decide +kernel
theorem dX8_mayBe_25 : decode cX8_mayBe 25 = .ok (.aload_n 0, 1) := by decide +kernel
theorem dX8_mayBe_26 : decode cX8_mayBe 26 = .ok (.getfield 89, 3) := by decide +kernel
theorem dX8_mayBe_29 : decode cX8_mayBe 29 = .ok (.iconst (-1), 1) := by decide +kernel
theorem dX8_mayBe_30 : decode cX8_mayBe 30 = .ok (.if_icmp .eq 20, 3) := by decide +kernel
theorem dX8_mayBe_33 : decode cX8_mayBe 33 = .ok (.aload_n 1, 1) := by decide +kernel
theorem dX8_mayBe_34 : decode cX8_mayBe 34 = .ok (.iconst 0, 1) := by decide +kernel
theorem dX8_mayBe_35 : decode cX8_mayBe 35 = .ok (.aload_n 0, 1) := by decide +kernel
theorem dX8_mayBe_36 : decode cX8_mayBe 36 = .ok (.getfield 18, 3) := by decide +kernel
theorem dX8_mayBe_39 : decode cX8_mayBe 39 = .ok (.invokevirtual 111, 3) := by decide +kernel
theorem dX8_mayBe_42 : decode cX8_mayBe 42 = .ok (.iconst 1, 1) := by decide +kernel
theorem dX8_mayBe_43 : decode cX8_mayBe 43 = .ok (.if_icmp .ne 7, 3) := by decide +kernel
theorem dX8_mayBe_46 : decode cX8_mayBe 46 = .ok (.iconst 1, 1) := by decide +kernel
theorem dX8_mayBe_47 : decode cX8_mayBe 47 = .ok (.goto 4, 3) := by decide +kernel
theorem dX8_mayBe_50 : decode cX8_mayBe 50 = .ok (.iconst 0, 1) := by decide +kernel
theorem dX8_mayBe_51 : decode cX8_mayBe 51 = .ok (.ireturn, 1) := by decide +kernel
theorem dX8_brings_0 : decode cX8_brings 0 = .ok (.aload_n 0, 1) := by decide +kernel
theorem dX8_brings_1 : decode cX8_brings 1 = .ok (.getfield 65, 3) := by decide +kernel
theorem dX8_brings_4 : decode cX8_brings 4 = .ok (.aload_n 1, 1) := by decide +kernel
theorem dX8_brings_5 : decode cX8_brings 5 = .ok (.iconst 1, 1) := by decide +kernel
theorem dX8_brings_6 : decode cX8_brings 6 = .ok (.aload_n 0, 1) := by decide +kernel
theorem dX8_brings_7 : decode cX8_brings 7 = .ok (.getfield 18, 3) := by decide +kernel
theorem dX8_brings_10 : decode cX8_brings 10 = .ok (.invokevirtual 111, 3) := by decide +kernel
theorem dX8_brings_13 : decode cX8_brings 13 = .ok (.isub, 1) := by decide +kernel
theorem dX8_brings_14 : decode cX8_brings 14 = .ok (.aload_n 1, 1) := by decide +kernel
theorem dX8_brings_15 : decode cX8_brings 15 = .ok (.iconst 2, 1) := by decide +kernel
theorem dX8_brings_16 : decode cX8_brings 16 = .ok (.aload_n 0, 1) := by decide +kernel
theorem dX8_brings_17 : decode cX8_brings 17 = .ok (.getfield 18, 3) := by decide +kernel
theorem dX8_brings_20 : decode cX8_brings 20 = .ok (.invokevirtual 111, 3) := by decide +kernel
theorem dX8_brings_23 : decode cX8_brings 23 = .ok (.isub, 1) := by decide +kernel
theorem dX8_brings_24 : decode cX8_brings 24 = .ok (.ireturn, 1) := by decide +kernel
theorem dX8_findBest_0 : decode cX8_findBest 0 = .ok (.aload_n 0, 1) := by decide +kernel
theorem dX8_findBest_1 : decode cX8_findBest 1 = .ok (.iconst 0, 1) := by decide +kernel
theorem dX8_findBest_2 : decode cX8_findBest 2 = .ok (.putfield 117, 3) := by decide +kernel
theorem dX8_findBest_5 : decode cX8_findBest 5 = .ok (.aload_n 0, 1) := by decide +kernel
theorem dX8_findBest_6 : decode cX8_findBest 6 = .ok (.iconst 0, 1) := by decide +kernel
theorem dX8_findBest_7 : decode cX8_findBest 7 = .ok (.putfield 120, 3) := by decide +kernel
theorem dX8_findBest_10 : decode cX8_findBest 10 = .ok (.iconst 1, 1) := by decide +kernel
theorem dX8_findBest_11 : decode cX8_findBest 11 = .ok (.aload_n 0, 1) := by decide +kernel
theorem dX8_findBest_12 : decode cX8_findBest 12 = .ok (.getfield 25, 3) := by decide +kernel
theorem dX8_findBest_15 : decode cX8_findBest 15 = .ok (.getfield 36, 3) := by decide +kernel
theorem dX8_findBest_18 : decode cX8_findBest 18 = .ok (.ishl, 1) := by decide +kernel
theorem dX8_findBest_19 : decode cX8_findBest 19 = .ok (.istore_n 3, 1) := by decide +kernel
theorem dX8_findBest_20 : decode cX8_findBest 20 = .ok (.iconst 1, 1) := by decide +kernel
theorem dX8_findBest_21 : decode cX8_findBest 21 = .ok (.istore 4, 2) := by decide +kernel
theorem dX8_findBest_23 : decode cX8_findBest 23 = .ok (.iload 4, 2) := by decide +kernel
theorem dX8_findBest_25 : decode cX8_findBest 25 = .ok (.iload_n 3, 1) := by decide +kernel
theorem dX8_findBest_26 : decode cX8_findBest 26 = .ok (.if_icmp .ge 89, 3) := by decide +kernel
theorem dX8_findBest_29 : decode cX8_findBest 29 = .ok (.iload 4, 2) := by decide +kernel
theorem dX8_findBest_31 : decode cX8_findBest 31 = .ok (.iload_n 1, 1) := by decide +kernel
theorem dX8_findBest_32 : decode cX8_findBest 32 = .ok (.aload_n 0, 1) := by decide +kernel
theorem dX8_findBest_33 : decode cX8_findBest 33 = .ok (.getfield 29, 3) := by decide +kernel
theorem dX8_findBest_36 : decode cX8_findBest 36 = .ok (.iand, 1) := by decide +kernel
theorem dX8_findBest_37 : decode cX8_findBest 37 = .ok (.iconst (-1), 1) := by decide +kernel
theorem dX8_findBest_38 : decode cX8_findBest 38 = .ok (.ixor, 1) := by decide +kernel
theorem dX8_findBest_39 : decode cX8_findBest 39 = .ok (.iand, 1) := by decide +kernel
theorem dX8_findBest_40 : decode cX8_findBest 40 = .ok (.ifCond .ne 69, 3) := by decide +kernel
theorem dX8_findBest_43 : decode cX8_findBest 43 = .ok (.aload_n 0, 1) := by decide +kernel
theorem dX8_findBest_44 : decode cX8_findBest 44 = .ok (.iload 4, 2) := by decide +kernel
theorem dX8_findBest_46 : decode cX8_findBest 46 = .ok (.invokevirtual 107, 3) := by decide +kernel
theorem dX8_findBest_49 : decode cX8_findBest 49 = .ok (.ifCond .eq 60, 3) := by decide +kernel
theorem dX8_findBest_52 : decode cX8_findBest 52 = .ok (.aload_n 0, 1) := by decide +kernel
theorem dX8_findBest_53 : decode cX8_findBest 53 = .ok (.iload 4, 2) := by decide +kernel
theorem dX8_findBest_55 : decode cX8_findBest 55 = .ok (.invokevirtual 62, 3) := by decide +kernel
theorem dX8_findBest_58 : decode cX8_findBest 58 = .ok (.aload_n 0, 1) := by decide +kernel
theorem dX8_findBest_59 : decode cX8_findBest 59 = .ok (.getfield 120, 3) := by decide +kernel
theorem dX8_findBest_62 : decode cX8_findBest 62 = .ok (.if_icmp .gt 6, 3) := by decide +kernel
theorem dX8_findBest_65 : decode cX8_findBest 65 = .ok (.goto 44, 3) := by decide +kernel
theorem dX8_findBest_68 : decode cX8_findBest 68 = .ok (.aload_n 0, 1) := by decide +kernel
theorem dX8_findBest_69 : decode cX8_findBest 69 = .ok (.iload 4, 2) := by decide +kernel
theorem dX8_findBest_71 : decode cX8_findBest 71 = .ok (.invokevirtual 123, 3) := by decide +kernel
theorem dX8_findBest_74 : decode cX8_findBest 74 = .ok (.aload_n 0, 1) := by decide +kernel
theorem dX8_findBest_75 : decode cX8_findBest 75 = .ok (.aload_n 2, 1) := by decide +kernel
theorem dX8_findBest_76 : decode cX8_findBest 76 = .ok (.invokevirtual 127, 3) := by decide +kernel
theorem dX8_findBest_79 : decode cX8_findBest 79 = .ok (.ifCond .eq 30, 3) := by decide +kernel
theorem dX8_findBest_82 : decode cX8_findBest 82 = .ok (.aload_n 0, 1) := by decide +kernel
theorem dX8_findBest_83 : decode cX8_findBest 83 = .ok (.aload_n 2, 1) := by decide +kernel
theorem dX8_findBest_84 : decode cX8_findBest 84 = .ok (.invokevirtual 131, 3) := by decide +kernel
theorem dX8_findBest_87 : decode cX8_findBest 87 = .ok (.aload_n 0, 1) := by decide +kernel
theorem dX8_findBest_88 : decode cX8_findBest 88 = .ok (.getfield 120, 3) := by decide +kernel
theorem dX8_findBest_91 : decode cX8_findBest 91 = .ok (.if_icmp .le 18, 3) := by decide +kernel
theorem dX8_findBest_94 : decode cX8_findBest 94 = .ok (.aload_n 0, 1) := by decide +kernel
theorem dX8_findBest_95 : decode cX8_findBest 95 = .ok (.iload 4, 2) := by decide +kernel
theorem dX8_findBest_97 : decode cX8_findBest 97 = .ok (.putfield 117, 3) := by decide +kernel
theorem dX8_findBest_100 : decode cX8_findBest 100 = .ok (.aload_n 0, 1) := by decide +kernel
theorem dX8_findBest_101 : decode cX8_findBest 101 = .ok (.aload_n 0, 1) := by decide +kernel
theorem dX8_findBest_102 : decode cX8_findBest 102 = .ok (.aload_n 2, 1) := by decide +kernel
theorem dX8_findBest_103 : decode cX8_findBest 103 = .ok (.invokevirtual 131, 3) := by decide +kernel
theorem dX8_findBest_106 : decode cX8_findBest 106 = .ok (.putfield 120, 3) := by decide +kernel
theorem dX8_findBest_109 : decode cX8_findBest 109 = .ok (.iinc 4 1, 3) := by decide +kernel
theorem dX8_findBest_112 : decode cX8_findBest 112 = .ok (.goto (-89), 3) := by decide +kernel
theorem dX8_findBest_115 : decode cX8_findBest 115 = .ok (.return_, 1) := by decide +kernel
theorem dX9_init_0 : decode cX9_init 0 = .ok (.aload_n 0, 1) := by decide +kernel
theorem dX9_init_1 : decode cX9_init 1 = .ok (.invokespecial 3, 3) := by decide +kernel
theorem dX9_init_4 : decode cX9_init 4 = .ok (.aload_n 0, 1) := by decide +kernel
theorem dX9_init_5 : decode cX9_init 5 = .ok (.bipush 10, 2) := by decide +kernel
theorem dX9_init_7 : decode cX9_init 7 = .ok (.anewarray 9, 3) := by decide +kernel
theorem dX9_init_10 : decode cX9_init 10 = .ok (.putfield 11, 3) := by decide +kernel
theorem dX9_init_13 : decode cX9_init 13 = .ok (.aload_n 0, 1) := by decide +kernel
theorem dX9_init_14 : decode cX9_init 14 = .ok (.bipush 10, 2) := by decide +kernel
theorem dX9_init_16 : decode cX9_init 16 = .ok (.newarray .int, 2) := by decide +kernel
theorem dX9_init_18 : decode cX9_init 18 = .ok (.putfield 17, 3) := by decide +kernel
theorem dX9_init_21 : decode cX9_init 21 = .ok (.iconst 0, 1) := by decide +kernel
theorem dX9_init_22 : decode cX9_init 22 = .ok (.istore_n 1, 1) := by decide +kernel
theorem dX9_init_23 : decode cX9_init 23 = .ok (.iload_n 1, 1) := by decide +kernel
theorem dX9_init_24 : decode cX9_init 24 = .ok (.bipush 10, 2) := by decide +kernel
theorem dX9_init_26 : decode cX9_init 26 = .ok (.if_icmp .ge 22, 3) := by decide +kernel
theorem dX9_init_29 : decode cX9_init 29 = .ok (.aload_n 0, 1) := by decide +kernel
theorem dX9_init_30 : decode cX9_init 30 = .ok (.getfield 11, 3) := by decide +kernel
theorem dX9_init_33 : decode cX9_init 33 = .ok (.iload_n 1, 1) := by decide +kernel
theorem dX9_init_34 : decode cX9_init 34 = .ok (.new 9, 3) := by decide +kernel
theorem dX9_init_37 : decode cX9_init 37 = .ok (.dup, 1) := by decide +kernel
theorem dX9_init_38 : decode cX9_init 38 = .ok (.invokespecial 21, 3) := by decide +kernel
theorem dX9_init_41 : decode cX9_init 41 = .ok (.aastore, 1) := by decide +kernel
theorem dX9_init_42 : decode cX9_init 42 = .ok (.iinc 1 1, 3) := by decide +kernel
theorem dX9_init_45 : decode cX9_init 45 = .ok (.goto (-22), 3) := by decide +kernel
theorem dX9_init_48 : decode cX9_init 48 = .ok (.return_, 1) := by decide +kernel
theorem dX9_has_0 : decode cX9_has 0 = .ok (.iload_n 1, 1) := by decide +kernel
theorem dX9_has_1 : decode cX9_has 1 = .ok (.ifCond .lt 15, 3) := by decide +kernel
theorem dX9_has_4 : decode cX9_has 4 = .ok (.iload_n 1, 1) := by decide +kernel
theorem dX9_has_5 : decode cX9_has 5 = .ok (.aload_n 0, 1) := by decide +kernel
theorem dX9_has_6 : decode cX9_has 6 = .ok (.getfield 22, 3) := by decide +kernel
theorem dX9_has_9 : decode cX9_has 9 = .ok (.if_icmp .ge 7, 3) := by decide +kernel
theorem dX9_has_12 : decode cX9_has 12 = .ok (.iconst 1, 1) := by decide +kernel
theorem dX9_has_13 : decode cX9_has 13 = .ok (.goto 4, 3) := by decide +kernel
theorem dX9_has_16 : decode cX9_has 16 = .ok (.iconst 0, 1) := by decide +kernel
theorem dX9_has_17 : decode cX9_has 17 = .ok (.ireturn, 1) := by decide +kernel
theorem dX9_all_0 : decode cX9_all 0 = .ok (.iconst 1, 1) := by decide +kernel
theorem dX9_all_1 : decode cX9_all 1 = .ok (.aload_n 0, 1) := by decide +kernel
theorem dX9_all_2 : decode cX9_all 2 = .ok (.getfield 22, 3) := by decide +kernel
theorem dX9_all_5 : decode cX9_all 5 = .ok (.ishl, 1) := by decide +kernel
theorem dX9_all_6 : decode cX9_all 6 = .ok (.iconst 1, 1) := by decide +kernel
theorem dX9_all_7 : decode cX9_all 7 = .ok (.isub, 1) := by decide +kernel
theorem dX9_all_8 : decode cX9_all 8 = .ok (.ireturn, 1) := by decide +kernel
theorem dX9_hasAll_0 : decode cX9_hasAll 0 = .ok (.iload_n 1, 1) := by decide +kernel
theorem dX9_hasAll_1 : decode cX9_hasAll 1 = .ok (.aload_n 0, 1) := by decide +kernel
theorem dX9_hasAll_2 : decode cX9_hasAll 2 = .ok (.invokevirtual 26, 3) := by decide +kernel
theorem dX9_hasAll_5 : decode cX9_hasAll 5 = .ok (.iconst (-1), 1) := by decide +kernel
theorem dX9_hasAll_6 : decode cX9_hasAll 6 = .ok (.ixor, 1) := by decide +kernel
theorem dX9_hasAll_7 : decode cX9_hasAll 7 = .ok (.iand, 1) := by decide +kernel
theorem dX9_hasAll_8 : decode cX9_hasAll 8 = .ok (.ifCond .ne 7, 3) := by decide +kernel
theorem dX9_hasAll_11 : decode cX9_hasAll 11 = .ok (.iconst 1, 1) := by decide +kernel
theorem dX9_hasAll_12 : decode cX9_hasAll 12 = .ok (.goto 4, 3) := by decide +kernel
theorem dX9_hasAll_15 : decode cX9_hasAll 15 = .ok (.iconst 0, 1) := by decide +kernel
theorem dX9_hasAll_16 : decode cX9_hasAll 16 = .ok (.ireturn, 1) := by decide +kernel
