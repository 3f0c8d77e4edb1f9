theorem dX0_init_0 : decode cX0_init 0 = .ok (.aload_n 0, 1) := by decide +kernel
theorem dX0_init_1 : decode cX0_init 1 = .ok (.invokespecial 3, 3) := by decide +kernel
theorem dX0_init_4 : decode cX0_init 4 = .ok (.aload_n 0, 1) := by decide +kernel
theorem dX0_init_5 : decode cX0_init 5 = .ok (.iconst 3, 1) := by decide +kernel
theorem dX0_init_6 : decode cX0_init 6 = .ok (.newarray .int, 2) := by decide +kernel
theorem dX0_init_8 : decode cX0_init 8 = .ok (.putfield 9, 3) := by decide +kernel
theorem dX0_init_11 : decode cX0_init 11 = .ok (.aload_n 0, 1) := by decide +kernel
theorem dX0_init_12 : decode cX0_init 12 = .ok (.new 15, 3) := by decide +kernel
theorem dX0_init_15 : decode cX0_init 15 = .ok (.dup, 1) := by decide +kernel
theorem dX0_init_16 : decode cX0_init 16 = .ok (.invokespecial 17, 3) := by decide +kernel
theorem dX0_init_19 : decode cX0_init 19 = .ok (.putfield 18, 3) := by decide +kernel
theorem dX0_init_22 : decode cX0_init 22 = .ok (.aload_n 0, 1) := by decide +kernel
theorem dX0_init_23 : decode cX0_init 23 = .ok (.bipush 18, 2) := by decide +kernel
theorem dX0_init_25 : decode cX0_init 25 = .ok (.anewarray 15, 3) := by decide +kernel
theorem dX0_init_28 : decode cX0_init 28 = .ok (.putfield 22, 3) := by decide +kernel
theorem dX0_init_31 : decode cX0_init 31 = .ok (.iconst 0, 1) := by decide +kernel
theorem dX0_init_32 : decode cX0_init 32 = .ok (.istore_n 1, 1) := by decide +kernel
theorem dX0_init_33 : decode cX0_init 33 = .ok (.iload_n 1, 1) := by decide +kernel
theorem dX0_init_34 : decode cX0_init 34 = .ok (.aload_n 0, 1) := by decide +kernel
theorem dX0_init_35 : decode cX0_init 35 = .ok (.getfield 22, 3) := by decide +kernel
theorem dX0_init_38 : decode cX0_init 38 = .ok (.arraylength, 1) := by decide +kernel
theorem dX0_init_39 : decode cX0_init 39 = .ok (.if_icmp .ge 22, 3) := by decide +kernel
theorem dX0_init_42 : decode cX0_init 42 = .ok (.aload_n 0, 1) := by decide +kernel
theorem dX0_init_43 : decode cX0_init 43 = .ok (.getfield 22, 3) := by decide +kernel
theorem dX0_init_46 : decode cX0_init 46 = .ok (.iload_n 1, 1) := by decide +kernel
theorem dX0_init_47 : decode cX0_init 47 = .ok (.new 15, 3) := by decide +kernel
theorem dX0_init_50 : decode cX0_init 50 = .ok (.dup, 1) := by decide +kernel
theorem dX0_init_51 : decode cX0_init 51 = .ok (.invokespecial 17, 3) := by decide +kernel
theorem dX0_init_54 : decode cX0_init 54 = .ok (.aastore, 1) := by decide +kernel
theorem dX0_init_55 : decode cX0_init 55 = .ok (.iinc 1 1, 3) := by decide +kernel
theorem dX0_init_58 : decode cX0_init 58 = .ok (.goto (-25), 3) := by decide +kernel
theorem dX0_init_61 : decode cX0_init 61 = .ok (.aload_n 0, 1) := by decide +kernel
theorem dX0_init_62 : decode cX0_init 62 = .ok (.iconst 1, 1) := by decide +kernel
theorem dX0_init_63 : decode cX0_init 63 = .ok (.iconst 1, 1) := by decide +kernel
theorem dX0_init_64 : decode cX0_init 64 = .ok (.invokevirtual 26, 3) := by decide +kernel
theorem dX0_init_67 : decode cX0_init 67 = .ok (.return_, 1) := by decide +kernel
theorem dX0_clear_0 : decode cX0_clear 0 = .ok (.aload_n 0, 1) := by decide +kernel
theorem dX0_clear_1 : decode cX0_clear 1 = .ok (.iload_n 1, 1) := by decide +kernel
theorem dX0_clear_2 : decode cX0_clear 2 = .ok (.putfield 30, 3) := by decide +kernel
theorem dX0_clear_5 : decode cX0_clear 5 = .ok (.aload_n 0, 1) := by decide +kernel
theorem dX0_clear_6 : decode cX0_clear 6 = .ok (.iload_n 2, 1) := by decide +kernel
theorem dX0_clear_7 : decode cX0_clear 7 = .ok (.putfield 34, 3) := by decide +kernel
theorem dX0_clear_10 : decode cX0_clear 10 = .ok (.aload_n 0, 1) := by decide +kernel
theorem dX0_clear_11 : decode cX0_clear 11 = .ok (.iconst 0, 1) := by decide +kernel
theorem dX0_clear_12 : decode cX0_clear 12 = .ok (.putfield 37, 3) := by decide +kernel
theorem dX0_clear_15 : decode cX0_clear 15 = .ok (.aload_n 0, 1) := by decide +kernel
theorem dX0_clear_16 : decode cX0_clear 16 = .ok (.getfield 18, 3) := by decide +kernel
theorem dX0_clear_19 : decode cX0_clear 19 = .ok (.invokevirtual 40, 3) := by decide +kernel
theorem dX0_clear_22 : decode cX0_clear 22 = .ok (.iconst 0, 1) := by decide +kernel
theorem dX0_clear_23 : decode cX0_clear 23 = .ok (.istore_n 3, 1) := by decide +kernel
theorem dX0_clear_24 : decode cX0_clear 24 = .ok (.iload_n 3, 1) := by decide +kernel
theorem dX0_clear_25 : decode cX0_clear 25 = .ok (.aload_n 0, 1) := by decide +kernel
theorem dX0_clear_26 : decode cX0_clear 26 = .ok (.getfield 22, 3) := by decide +kernel
theorem dX0_clear_29 : decode cX0_clear 29 = .ok (.arraylength, 1) := by decide +kernel
theorem dX0_clear_30 : decode cX0_clear 30 = .ok (.if_icmp .ge 18, 3) := by decide +kernel
theorem dX0_clear_33 : decode cX0_clear 33 = .ok (.aload_n 0, 1) := by decide +kernel
theorem dX0_clear_34 : decode cX0_clear 34 = .ok (.getfield 22, 3) := by decide +kernel
theorem dX0_clear_37 : decode cX0_clear 37 = .ok (.iload_n 3, 1) := by decide +kernel
theorem dX0_clear_38 : decode cX0_clear 38 = .ok (.aaload, 1) := by decide +kernel
theorem dX0_clear_39 : decode cX0_clear 39 = .ok (.invokevirtual 40, 3) := by decide +kernel
theorem dX0_clear_42 : decode cX0_clear 42 = .ok (.iinc 3 1, 3) := by decide +kernel
theorem dX0_clear_45 : decode cX0_clear 45 = .ok (.goto (-21), 3) := by decide +kernel
theorem dX0_clear_48 : decode cX0_clear 48 = .ok (.aload_n 0, 1) := by decide +kernel
theorem dX0_clear_49 : decode cX0_clear 49 = .ok (.getfield 9, 3) := by decide +kernel
theorem dX0_clear_52 : decode cX0_clear 52 = .ok (.iconst 1, 1) := by decide +kernel
theorem dX0_clear_53 : decode cX0_clear 53 = .ok (.invokestatic 43, 3) := by decide +kernel
theorem dX0_clear_56 : decode cX0_clear 56 = .ok (.return_, 1) := by decide +kernel
theorem dX0_hasState_0 : decode cX0_hasState 0 = .ok (.iload_n 1, 1) := by decide +kernel
theorem dX0_hasState_1 : decode cX0_hasState 1 = .ok (.ifCond .lt 15, 3) := by decide +kernel
theorem dX0_hasState_4 : decode cX0_hasState 4 = .ok (.iload_n 1, 1) := by decide +kernel
theorem dX0_hasState_5 : decode cX0_hasState 5 = .ok (.aload_n 0, 1) := by decide +kernel
theorem dX0_hasState_6 : decode cX0_hasState 6 = .ok (.getfield 30, 3) := by decide +kernel
theorem dX0_hasState_9 : decode cX0_hasState 9 = .ok (.if_icmp .ge 7, 3) := by decide +kernel
theorem dX0_hasState_12 : decode cX0_hasState 12 = .ok (.iconst 1, 1) := by decide +kernel
theorem dX0_hasState_13 : decode cX0_hasState 13 = .ok (.goto 4, 3) := by decide +kernel
theorem dX0_hasState_16 : decode cX0_hasState 16 = .ok (.iconst 0, 1) := by decide +kernel
theorem dX0_hasState_17 : decode cX0_hasState 17 = .ok (.ireturn, 1) := by decide +kernel
theorem dX0_hasLetter_0 : decode cX0_hasLetter 0 = .ok (.iload_n 1, 1) := by decide +kernel
theorem dX0_hasLetter_1 : decode cX0_hasLetter 1 = .ok (.ifCond .lt 15, 3) := by decide +kernel
theorem dX0_hasLetter_4 : decode cX0_hasLetter 4 = .ok (.iload_n 1, 1) := by decide +kernel
theorem dX0_hasLetter_5 : decode cX0_hasLetter 5 = .ok (.aload_n 0, 1) := by decide +kernel
theorem dX0_hasLetter_6 : decode cX0_hasLetter 6 = .ok (.getfield 34, 3) := by decide +kernel
theorem dX0_hasLetter_9 : decode cX0_hasLetter 9 = .ok (.if_icmp .ge 7, 3) := by decide +kernel
theorem dX0_hasLetter_12 : decode cX0_hasLetter 12 = .ok (.iconst 1, 1) := by decide +kernel
theorem dX0_hasLetter_13 : decode cX0_hasLetter 13 = .ok (.goto 4, 3) := by decide +kernel
theorem dX0_hasLetter_16 : decode cX0_hasLetter 16 = .ok (.iconst 0, 1) := by decide +kernel
theorem dX0_hasLetter_17 : decode cX0_hasLetter 17 = .ok (.ireturn, 1) := by decide +kernel
theorem dX0_hasSet_0 : decode cX0_hasSet 0 = .ok (.iload_n 1, 1) := by decide +kernel
theorem dX0_hasSet_1 : decode cX0_hasSet 1 = .ok (.ifCond .lt 17, 3) := by decide +kernel
theorem dX0_hasSet_4 : decode cX0_hasSet 4 = .ok (.iload_n 1, 1) := by decide +kernel
theorem dX0_hasSet_5 : decode cX0_hasSet 5 = .ok (.iconst 1, 1) := by decide +kernel
theorem dX0_hasSet_6 : decode cX0_hasSet 6 = .ok (.aload_n 0, 1) := by decide +kernel
theorem dX0_hasSet_7 : decode cX0_hasSet 7 = .ok (.getfield 30, 3) := by decide +kernel
theorem dX0_hasSet_10 : decode cX0_hasSet 10 = .ok (.ishl, 1) := by decide +kernel
theorem dX0_hasSet_11 : decode cX0_hasSet 11 = .ok (.if_icmp .ge 7, 3) := by decide +kernel
theorem dX0_hasSet_14 : decode cX0_hasSet 14 = .ok (.iconst 1, 1) := by decide +kernel
theorem dX0_hasSet_15 : decode cX0_hasSet 15 = .ok (.goto 4, 3) := by decide +kernel
theorem dX0_hasSet_18 : decode cX0_hasSet 18 = .ok (.iconst 0, 1) := by decide +kernel
theorem dX0_hasSet_19 : decode cX0_hasSet 19 = .ok (.ireturn, 1) := by decide +kernel
theorem dX0_formula_0 : decode cX0_formula 0 = .ok (.iload_n 1, 1) := by decide +kernel
theorem dX0_formula_1 : decode cX0_formula 1 = .ok (.iconst (-1), 1) := by decide +kernel
theorem dX0_formula_2 : decode cX0_formula 2 = .ok (.if_icmp .ne 8, 3) := by decide +kernel
theorem dX0_formula_5 : decode cX0_formula 5 = .ok (.aload_n 0, 1) := by decide +kernel
theorem dX0_formula_6 : decode cX0_formula 6 = .ok (.getfield 18, 3) := by decide +kernel
theorem dX0_formula_9 : decode cX0_formula 9 = .ok (.areturn, 1) := by decide +kernel
theorem dX0_formula_10 : decode cX0_formula 10 = .ok (.aload_n 0, 1) := by decide +kernel
theorem dX0_formula_11 : decode cX0_formula 11 = .ok (.iload_n 1, 1) := by decide +kernel
theorem dX0_formula_12 : decode cX0_formula 12 = .ok (.invokevirtual 49, 3) := by decide +kernel
theorem dX0_formula_15 : decode cX0_formula 15 = .ok (.ifCond .eq 20, 3) := by decide +kernel
theorem dX0_formula_18 : decode cX0_formula 18 = .ok (.aload_n 0, 1) := by decide +kernel
theorem dX0_formula_19 : decode cX0_formula 19 = .ok (.iload_n 2, 1) := by decide +kernel
theorem dX0_formula_20 : decode cX0_formula 20 = .ok (.invokevirtual 53, 3) := by decide +kernel
theorem dX0_formula_23 : decode cX0_formula 23 = .ok (.ifCond .eq 12, 3) := by decide +kernel
theorem dX0_formula_26 : decode cX0_formula 26 = .ok (.aload_n 0, 1) := by decide +kernel
theorem dX0_formula_27 : decode cX0_formula 27 = .ok (.iload_n 1, 1) := by decide +kernel
theorem dX0_formula_28 : decode cX0_formula 28 = .ok (.iload_n 2, 1) := by decide +kernel
theorem dX0_formula_29 : decode cX0_formula 29 = .ok (.invokevirtual 56, 3) := by decide +kernel
theorem dX0_formula_32 : decode cX0_formula 32 = .ok (.goto 4, 3) := by decide +kernel
theorem dX0_formula_35 : decode cX0_formula 35 = .ok (.aconst_null, 1) := by decide +kernel
theorem dX0_formula_36 : decode cX0_formula 36 = .ok (.areturn, 1) := by decide +kernel
theorem dX0_move_0 : decode cX0_move 0 = .ok (.aload_n 0, 1) := by decide +kernel
theorem dX0_move_1 : decode cX0_move 1 = .ok (.iload_n 1, 1) := by decide +kernel
theorem dX0_move_2 : decode cX0_move 2 = .ok (.invokevirtual 49, 3) := by decide +kernel
theorem dX0_move_5 : decode cX0_move 5 = .ok (.ifCond .eq 24, 3) := by decide +kernel
theorem dX0_move_8 : decode cX0_move 8 = .ok (.aload_n 0, 1) := by decide +kernel
theorem dX0_move_9 : decode cX0_move 9 = .ok (.iload_n 2, 1) := by decide +kernel
theorem dX0_move_10 : decode cX0_move 10 = .ok (.invokevirtual 53, 3) := by decide +kernel
theorem dX0_move_13 : decode cX0_move 13 = .ok (.ifCond .eq 16, 3) := by decide +kernel
theorem dX0_move_16 : decode cX0_move 16 = .ok (.aload_n 0, 1) := by decide +kernel
theorem dX0_move_17 : decode cX0_move 17 = .ok (.getfield 22, 3) := by decide +kernel
theorem dX0_move_20 : decode cX0_move 20 = .ok (.iload_n 1, 1) := by decide +kernel
theorem dX0_move_21 : decode cX0_move 21 = .ok (.iconst 3, 1) := by decide +kernel
theorem dX0_move_22 : decode cX0_move 22 = .ok (.imul, 1) := by decide +kernel
theorem dX0_move_23 : decode cX0_move 23 = .ok (.iload_n 2, 1) := by decide +kernel
theorem dX0_move_24 : decode cX0_move 24 = .ok (.iadd, 1) := by decide +kernel
theorem dX0_move_25 : decode cX0_move 25 = .ok (.aaload, 1) := by decide +kernel
theorem dX0_move_26 : decode cX0_move 26 = .ok (.goto 7, 3) := by decide +kernel
theorem dX0_move_29 : decode cX0_move 29 = .ok (.aload_n 0, 1) := by decide +kernel
theorem dX0_move_30 : decode cX0_move 30 = .ok (.getfield 18, 3) := by decide +kernel
theorem dX0_move_33 : decode cX0_move 33 = .ok (.areturn, 1) := by decide +kernel
theorem dX0_copy_0 : decode cX0_copy 0 = .ok (.aload_n 0, 1) := by decide +kernel
theorem dX0_copy_1 : decode cX0_copy 1 = .ok (.aload_n 1, 1) := by decide +kernel
theorem dX0_copy_2 : decode cX0_copy 2 = .ok (.aload_n 1, 1) := by decide +kernel
theorem dX0_copy_3 : decode cX0_copy 3 = .ok (.getfield 30, 3) := by decide +kernel
theorem dX0_copy_6 : decode cX0_copy 6 = .ok (.invokevirtual 60, 3) := by decide +kernel
theorem dX0_copy_9 : decode cX0_copy 9 = .ok (.aload_n 0, 1) := by decide +kernel
theorem dX0_copy_10 : decode cX0_copy 10 = .ok (.aload_n 1, 1) := by decide +kernel
theorem dX0_copy_11 : decode cX0_copy 11 = .ok (.getfield 37, 3) := by decide +kernel
theorem dX0_copy_14 : decode cX0_copy 14 = .ok (.putfield 37, 3) := by decide +kernel
theorem dX0_copy_17 : decode cX0_copy 17 = .ok (.aload_n 0, 1) := by decide +kernel
theorem dX0_copy_18 : decode cX0_copy 18 = .ok (.getfield 18, 3) := by decide +kernel
theorem dX0_copy_21 : decode cX0_copy 21 = .ok (.aload_n 1, 1) := by decide +kernel
theorem dX0_copy_22 : decode cX0_copy 22 = .ok (.getfield 18, 3) := by decide +kernel
theorem dX0_copy_25 : decode cX0_copy 25 = .ok (.invokevirtual 64, 3) := by decide +kernel
theorem dX0_copy_28 : decode cX0_copy 28 = .ok (.aload_n 0, 1) := by decide +kernel
theorem dX0_copy_29 : decode cX0_copy 29 = .ok (.aload_n 1, 1) := by decide +kernel
theorem dX0_copy_30 : decode cX0_copy 30 = .ok (.invokevirtual 68, 3) := by decide +kernel
theorem dX0_copy_33 : decode cX0_copy 33 = .ok (.return_, 1) := by decide +kernel
theorem dX0_takeShape_0 : decode cX0_takeShape 0 = .ok (.aload_n 0, 1) := by decide +kernel
theorem dX0_takeShape_1 : decode cX0_takeShape 1 = .ok (.iload_n 2, 1) := by decide +kernel
theorem dX0_takeShape_2 : decode cX0_takeShape 2 = .ok (.putfield 30, 3) := by decide +kernel
theorem dX0_takeShape_5 : decode cX0_takeShape 5 = .ok (.aload_n 0, 1) := by decide +kernel
theorem dX0_takeShape_6 : decode cX0_takeShape 6 = .ok (.aload_n 1, 1) := by decide +kernel
theorem dX0_takeShape_7 : decode cX0_takeShape 7 = .ok (.getfield 34, 3) := by decide +kernel
theorem dX0_takeShape_10 : decode cX0_takeShape 10 = .ok (.putfield 34, 3) := by decide +kernel
theorem dX0_takeShape_13 : decode cX0_takeShape 13 = .ok (.aload_n 1, 1) := by decide +kernel
theorem dX0_takeShape_14 : decode cX0_takeShape 14 = .ok (.getfield 9, 3) := by decide +kernel
theorem dX0_takeShape_17 : decode cX0_takeShape 17 = .ok (.iconst 0, 1) := by decide +kernel
theorem dX0_takeShape_18 : decode cX0_takeShape 18 = .ok (.aload_n 0, 1) := by decide +kernel
theorem dX0_takeShape_19 : decode cX0_takeShape 19 = .ok (.getfield 9, 3) := by decide +kernel
theorem dX0_takeShape_22 : decode cX0_takeShape 22 = .ok (.iconst 0, 1) := by decide +kernel
theorem dX0_takeShape_23 : decode cX0_takeShape 23 = .ok (.iconst 3, 1) := by decide +kernel
theorem dX0_takeShape_24 : decode cX0_takeShape 24 = .ok (.invokestatic 72, 3) := by decide +kernel
theorem dX0_takeShape_27 : decode cX0_takeShape 27 = .ok (.return_, 1) := by decide +kernel
theorem dX0_copyMoves_0 : decode cX0_copyMoves 0 = .ok (.iconst 0, 1) := by decide +kernel
theorem dX0_copyMoves_1 : decode cX0_copyMoves 1 = .ok (.istore_n 2, 1) := by decide +kernel
theorem dX0_copyMoves_2 : decode cX0_copyMoves 2 = .ok (.iload_n 2, 1) := by decide +kernel
theorem dX0_copyMoves_3 : decode cX0_copyMoves 3 = .ok (.aload_n 1, 1) := by decide +kernel
theorem dX0_copyMoves_4 : decode cX0_copyMoves 4 = .ok (.getfield 30, 3) := by decide +kernel
theorem dX0_copyMoves_7 : decode cX0_copyMoves 7 = .ok (.if_icmp .ge 40, 3) := by decide +kernel
theorem dX0_copyMoves_10 : decode cX0_copyMoves 10 = .ok (.iconst 0, 1) := by decide +kernel
theorem dX0_copyMoves_11 : decode cX0_copyMoves 11 = .ok (.istore_n 3, 1) := by decide +kernel
theorem dX0_copyMoves_12 : decode cX0_copyMoves 12 = .ok (.iload_n 3, 1) := by decide +kernel
theorem dX0_copyMoves_13 : decode cX0_copyMoves 13 = .ok (.aload_n 0, 1) := by decide +kernel
theorem dX0_copyMoves_14 : decode cX0_copyMoves 14 = .ok (.getfield 34, 3) := by decide +kernel
theorem dX0_copyMoves_17 : decode cX0_copyMoves 17 = .ok (.if_icmp .ge 24, 3) := by decide +kernel
theorem dX0_copyMoves_20 : decode cX0_copyMoves 20 = .ok (.aload_n 0, 1) := by decide +kernel
theorem dX0_copyMoves_21 : decode cX0_copyMoves 21 = .ok (.iload_n 2, 1) := by decide +kernel
theorem dX0_copyMoves_22 : decode cX0_copyMoves 22 = .ok (.iload_n 3, 1) := by decide +kernel
theorem dX0_copyMoves_23 : decode cX0_copyMoves 23 = .ok (.invokevirtual 56, 3) := by decide +kernel
theorem dX0_copyMoves_26 : decode cX0_copyMoves 26 = .ok (.aload_n 1, 1) := by decide +kernel
theorem dX0_copyMoves_27 : decode cX0_copyMoves 27 = .ok (.iload_n 2, 1) := by decide +kernel
theorem dX0_copyMoves_28 : decode cX0_copyMoves 28 = .ok (.iload_n 3, 1) := by decide +kernel
theorem dX0_copyMoves_29 : decode cX0_copyMoves 29 = .ok (.invokevirtual 56, 3) := by decide +kernel
theorem dX0_copyMoves_32 : decode cX0_copyMoves 32 = .ok (.invokevirtual 64, 3) := by decide +kernel
theorem dX0_copyMoves_35 : decode cX0_copyMoves 35 = .ok (.iinc 3 1, 3) := by decide +kernel
theorem dX0_copyMoves_38 : decode cX0_copyMoves 38 = .ok (.goto (-26), 3) := by decide +kernel
theorem dX0_copyMoves_41 : decode cX0_copyMoves 41 = .ok (.iinc 2 1, 3) := by decide +kernel
theorem dX0_copyMoves_44 : decode cX0_copyMoves 44 = .ok (.goto (-42), 3) := by decide +kernel
theorem dX0_copyMoves_47 : decode cX0_copyMoves 47 = .ok (.return_, 1) := by decide +kernel
theorem dX0_becomeDual_0 : decode cX0_becomeDual 0 = .ok (.aload_n 0, 1) := by decide +kernel
theorem dX0_becomeDual_1 : decode cX0_becomeDual 1 = .ok (.aload_n 1, 1) := by decide +kernel
theorem dX0_becomeDual_2 : decode cX0_becomeDual 2 = .ok (.aload_n 1, 1) := by decide +kernel
theorem dX0_becomeDual_3 : decode cX0_becomeDual 3 = .ok (.getfield 30, 3) := by decide +kernel
theorem dX0_becomeDual_6 : decode cX0_becomeDual 6 = .ok (.invokevirtual 60, 3) := by decide +kernel
theorem dX0_becomeDual_9 : decode cX0_becomeDual 9 = .ok (.aload_n 0, 1) := by decide +kernel
theorem dX0_becomeDual_10 : decode cX0_becomeDual 10 = .ok (.aload_n 1, 1) := by decide +kernel
theorem dX0_becomeDual_11 : decode cX0_becomeDual 11 = .ok (.getfield 37, 3) := by decide +kernel
theorem dX0_becomeDual_14 : decode cX0_becomeDual 14 = .ok (.iconst (-1), 1) := by decide +kernel
theorem dX0_becomeDual_15 : decode cX0_becomeDual 15 = .ok (.ixor, 1) := by decide +kernel
theorem dX0_becomeDual_16 : decode cX0_becomeDual 16 = .ok (.iconst 1, 1) := by decide +kernel
theorem dX0_becomeDual_17 : decode cX0_becomeDual 17 = .ok (.aload_n 0, 1) := by decide +kernel
theorem dX0_becomeDual_18 : decode cX0_becomeDual 18 = .ok (.getfield 30, 3) := by decide +kernel
theorem dX0_becomeDual_21 : decode cX0_becomeDual 21 = .ok (.ishl, 1) := by decide +kernel
theorem dX0_becomeDual_22 : decode cX0_becomeDual 22 = .ok (.iconst 1, 1) := by decide +kernel
theorem dX0_becomeDual_23 : decode cX0_becomeDual 23 = .ok (.isub, 1) := by decide +kernel
theorem dX0_becomeDual_24 : decode cX0_becomeDual 24 = .ok (.iand, 1) := by decide +kernel
theorem dX0_becomeDual_25 : decode cX0_becomeDual 25 = .ok (.putfield 37, 3) := by decide +kernel
theorem dX0_becomeDual_28 : decode cX0_becomeDual 28 = .ok (.aload_n 0, 1) := by decide +kernel
theorem dX0_becomeDual_29 : decode cX0_becomeDual 29 = .ok (.getfield 18, 3) := by decide +kernel
theorem dX0_becomeDual_32 : decode cX0_becomeDual 32 = .ok (.aload_n 1, 1) := by decide +kernel
theorem dX0_becomeDual_33 : decode cX0_becomeDual 33 = .ok (.getfield 18, 3) := by decide +kernel
theorem dX0_becomeDual_36 : decode cX0_becomeDual 36 = .ok (.invokevirtual 78, 3) := by decide +kernel
theorem dX0_becomeDual_39 : decode cX0_becomeDual 39 = .ok (.iconst 0, 1) := by decide +kernel
theorem dX0_becomeDual_40 : decode cX0_becomeDual 40 = .ok (.istore_n 2, 1) := by decide +kernel
theorem dX0_becomeDual_41 : decode cX0_becomeDual 41 = .ok (.iload_n 2, 1) := by decide +kernel
theorem dX0_becomeDual_42 : decode cX0_becomeDual 42 = .ok (.aload_n 0, 1) := by decide +kernel
theorem dX0_becomeDual_43 : decode cX0_becomeDual 43 = .ok (.getfield 30, 3) := by decide +kernel
theorem dX0_becomeDual_46 : decode cX0_becomeDual 46 = .ok (.if_icmp .ge 40, 3) := by decide +kernel
theorem dX0_becomeDual_49 : decode cX0_becomeDual 49 = .ok (.iconst 0, 1) := by decide +kernel
theorem dX0_becomeDual_50 : decode cX0_becomeDual 50 = .ok (.istore_n 3, 1) := by decide +kernel
theorem dX0_becomeDual_51 : decode cX0_becomeDual 51 = .ok (.iload_n 3, 1) := by decide +kernel
theorem dX0_becomeDual_52 : decode cX0_becomeDual 52 = .ok (.aload_n 0, 1) := by decide +kernel
theorem dX0_becomeDual_53 : decode cX0_becomeDual 53 = .ok (.getfield 34, 3) := by decide +kernel
theorem dX0_becomeDual_56 : decode cX0_becomeDual 56 = .ok (.if_icmp .ge 24, 3) := by decide +kernel
theorem dX0_becomeDual_59 : decode cX0_becomeDual 59 = .ok (.aload_n 0, 1) := by decide +kernel
theorem dX0_becomeDual_60 : decode cX0_becomeDual 60 = .ok (.iload_n 2, 1) := by decide +kernel
theorem dX0_becomeDual_61 : decode cX0_becomeDual 61 = .ok (.iload_n 3, 1) := by decide +kernel
theorem dX0_becomeDual_62 : decode cX0_becomeDual 62 = .ok (.invokevirtual 56, 3) := by decide +kernel
theorem dX0_becomeDual_65 : decode cX0_becomeDual 65 = .ok (.aload_n 1, 1) := by decide +kernel
theorem dX0_becomeDual_66 : decode cX0_becomeDual 66 = .ok (.iload_n 2, 1) := by decide +kernel
theorem dX0_becomeDual_67 : decode cX0_becomeDual 67 = .ok (.iload_n 3, 1) := by decide +kernel
theorem dX0_becomeDual_68 : decode cX0_becomeDual 68 = .ok (.invokevirtual 56, 3) := by decide +kernel
theorem dX0_becomeDual_71 : decode cX0_becomeDual 71 = .ok (.invokevirtual 78, 3) := by decide +kernel
theorem dX0_becomeDual_74 : decode cX0_becomeDual 74 = .ok (.iinc 3 1, 3) := by decide +kernel
theorem dX0_becomeDual_77 : decode cX0_becomeDual 77 = .ok (.goto (-26), 3) := by decide +kernel
theorem dX0_becomeDual_80 : decode cX0_becomeDual 80 = .ok (.iinc 2 1, 3) := by decide +kernel
theorem dX0_becomeDual_83 : decode cX0_becomeDual 83 = .ok (.goto (-42), 3) := by decide +kernel
theorem dX0_becomeDual_86 : decode cX0_becomeDual 86 = .ok (.return_, 1) := by decide +kernel
theorem dX0_becomeJoin_0 : decode cX0_becomeJoin 0 = .ok (.aload_n 1, 1) := by decide +kernel
theorem dX0_becomeJoin_1 : decode cX0_becomeJoin 1 = .ok (.getfield 30, 3) := by decide +kernel
theorem dX0_becomeJoin_4 : decode cX0_becomeJoin 4 = .ok (.istore 4, 2) := by decide +kernel
theorem dX0_becomeJoin_6 : decode cX0_becomeJoin 6 = .ok (.aload_n 0, 1) := by decide +kernel
theorem dX0_becomeJoin_7 : decode cX0_becomeJoin 7 = .ok (.aload_n 1, 1) := by decide +kernel
theorem dX0_becomeJoin_8 : decode cX0_becomeJoin 8 = .ok (.iload 4, 2) := by decide +kernel
theorem dX0_becomeJoin_10 : decode cX0_becomeJoin 10 = .ok (.aload_n 2, 1) := by decide +kernel
theorem dX0_becomeJoin_11 : decode cX0_becomeJoin 11 = .ok (.getfield 30, 3) := by decide +kernel
theorem dX0_becomeJoin_14 : decode cX0_becomeJoin 14 = .ok (.iadd, 1) := by decide +kernel
theorem dX0_becomeJoin_15 : decode cX0_becomeJoin 15 = .ok (.invokevirtual 60, 3) := by decide +kernel
theorem dX0_becomeJoin_18 : decode cX0_becomeJoin 18 = .ok (.aload_n 0, 1) := by decide +kernel
theorem dX0_becomeJoin_19 : decode cX0_becomeJoin 19 = .ok (.aload_n 1, 1) := by decide +kernel
theorem dX0_becomeJoin_20 : decode cX0_becomeJoin 20 = .ok (.getfield 37, 3) := by decide +kernel
theorem dX0_becomeJoin_23 : decode cX0_becomeJoin 23 = .ok (.aload_n 2, 1) := by decide +kernel
theorem dX0_becomeJoin_24 : decode cX0_becomeJoin 24 = .ok (.getfield 37, 3) := by decide +kernel
theorem dX0_becomeJoin_27 : decode cX0_becomeJoin 27 = .ok (.iload 4, 2) := by decide +kernel
theorem dX0_becomeJoin_29 : decode cX0_becomeJoin 29 = .ok (.ishl, 1) := by decide +kernel
theorem dX0_becomeJoin_30 : decode cX0_becomeJoin 30 = .ok (.ior, 1) := by decide +kernel
theorem dX0_becomeJoin_31 : decode cX0_becomeJoin 31 = .ok (.putfield 37, 3) := by decide +kernel
theorem dX0_becomeJoin_34 : decode cX0_becomeJoin 34 = .ok (.aload_n 0, 1) := by decide +kernel
theorem dX0_becomeJoin_35 : decode cX0_becomeJoin 35 = .ok (.getfield 18, 3) := by decide +kernel
theorem dX0_becomeJoin_38 : decode cX0_becomeJoin 38 = .ok (.aload_n 1, 1) := by decide +kernel
theorem dX0_becomeJoin_39 : decode cX0_becomeJoin 39 = .ok (.getfield 18, 3) := by decide +kernel
theorem dX0_becomeJoin_42 : decode cX0_becomeJoin 42 = .ok (.aload_n 2, 1) := by decide +kernel
theorem dX0_becomeJoin_43 : decode cX0_becomeJoin 43 = .ok (.getfield 18, 3) := by decide +kernel
theorem dX0_becomeJoin_46 : decode cX0_becomeJoin 46 = .ok (.iload 4, 2) := by decide +kernel
theorem dX0_becomeJoin_48 : decode cX0_becomeJoin 48 = .ok (.iload_n 3, 1) := by decide +kernel
theorem dX0_becomeJoin_49 : decode cX0_becomeJoin 49 = .ok (.invokevirtual 81, 3) := by decide +kernel
theorem dX0_becomeJoin_52 : decode cX0_becomeJoin 52 = .ok (.aload_n 0, 1) := by decide +kernel
theorem dX0_becomeJoin_53 : decode cX0_becomeJoin 53 = .ok (.aload_n 1, 1) := by decide +kernel
theorem dX0_becomeJoin_54 : decode cX0_becomeJoin 54 = .ok (.invokevirtual 68, 3) := by decide +kernel
theorem dX0_becomeJoin_57 : decode cX0_becomeJoin 57 = .ok (.iconst 0, 1) := by decide +kernel
theorem dX0_becomeJoin_58 : decode cX0_becomeJoin 58 = .ok (.istore 5, 2) := by decide +kernel
theorem dX0_becomeJoin_60 : decode cX0_becomeJoin 60 = .ok (.iload 5, 2) := by decide +kernel
theorem dX0_becomeJoin_62 : decode cX0_becomeJoin 62 = .ok (.aload_n 2, 1) := by decide +kernel
theorem dX0_becomeJoin_63 : decode cX0_becomeJoin 63 = .ok (.getfield 30, 3) := by decide +kernel
theorem dX0_becomeJoin_66 : decode cX0_becomeJoin 66 = .ok (.if_icmp .ge 51, 3) := by decide +kernel
theorem dX0_becomeJoin_69 : decode cX0_becomeJoin 69 = .ok (.iconst 0, 1) := by decide +kernel
theorem dX0_becomeJoin_70 : decode cX0_becomeJoin 70 = .ok (.istore 6, 2) := by decide +kernel
theorem dX0_becomeJoin_72 : decode cX0_becomeJoin 72 = .ok (.iload 6, 2) := by decide +kernel
theorem dX0_becomeJoin_74 : decode cX0_becomeJoin 74 = .ok (.aload_n 0, 1) := by decide +kernel
theorem dX0_becomeJoin_75 : decode cX0_becomeJoin 75 = .ok (.getfield 34, 3) := by decide +kernel
theorem dX0_becomeJoin_78 : decode cX0_becomeJoin 78 = .ok (.if_icmp .ge 33, 3) := by decide +kernel
theorem dX0_becomeJoin_81 : decode cX0_becomeJoin 81 = .ok (.aload_n 0, 1) := by decide +kernel
theorem dX0_becomeJoin_82 : decode cX0_becomeJoin 82 = .ok (.iload 4, 2) := by decide +kernel
theorem dX0_becomeJoin_84 : decode cX0_becomeJoin 84 = .ok (.iload 5, 2) := by decide +kernel
theorem dX0_becomeJoin_86 : decode cX0_becomeJoin 86 = .ok (.iadd, 1) := by decide +kernel
theorem dX0_becomeJoin_87 : decode cX0_becomeJoin 87 = .ok (.iload 6, 2) := by decide +kernel
theorem dX0_becomeJoin_89 : decode cX0_becomeJoin 89 = .ok (.invokevirtual 56, 3) := by decide +kernel
theorem dX0_becomeJoin_92 : decode cX0_becomeJoin 92 = .ok (.aload_n 2, 1) := by decide +kernel
theorem dX0_becomeJoin_93 : decode cX0_becomeJoin 93 = .ok (.iload 5, 2) := by decide +kernel
theorem dX0_becomeJoin_95 : decode cX0_becomeJoin 95 = .ok (.iload 6, 2) := by decide +kernel
theorem dX0_becomeJoin_97 : decode cX0_becomeJoin 97 = .ok (.invokevirtual 56, 3) := by decide +kernel
theorem dX0_becomeJoin_100 : decode cX0_becomeJoin 100 = .ok (.iload 4, 2) := by decide +kernel
theorem dX0_becomeJoin_102 : decode cX0_becomeJoin 102 = .ok (.invokevirtual 85, 3) := by decide +kernel
theorem dX0_becomeJoin_105 : decode cX0_becomeJoin 105 = .ok (.iinc 6 1, 3) := by decide +kernel
theorem dX0_becomeJoin_108 : decode cX0_becomeJoin 108 = .ok (.goto (-36), 3) := by decide +kernel
theorem dX0_becomeJoin_111 : decode cX0_becomeJoin 111 = .ok (.iinc 5 1, 3) := by decide +kernel
theorem dX0_becomeJoin_114 : decode cX0_becomeJoin 114 = .ok (.goto (-54), 3) := by decide +kernel
theorem dX0_becomeJoin_117 : decode cX0_becomeJoin 117 = .ok (.return_, 1) := by decide +kernel
theorem dX0_statesBefore_0 : decode cX0_statesBefore 0 = .ok (.iconst 0, 1) := by decide +kernel
theorem dX0_statesBefore_1 : decode cX0_statesBefore 1 = .ok (.istore_n 3, 1) := by decide +kernel
theorem dX0_statesBefore_2 : decode cX0_statesBefore 2 = .ok (.iconst 0, 1) := by decide +kernel
theorem dX0_statesBefore_3 : decode cX0_statesBefore 3 = .ok (.istore 4, 2) := by decide +kernel
theorem dX0_statesBefore_5 : decode cX0_statesBefore 5 = .ok (.iload 4, 2) := by decide +kernel
theorem dX0_statesBefore_7 : decode cX0_statesBefore 7 = .ok (.aload_n 0, 1) := by decide +kernel
theorem dX0_statesBefore_8 : decode cX0_statesBefore 8 = .ok (.getfield 30, 3) := by decide +kernel
theorem dX0_statesBefore_11 : decode cX0_statesBefore 11 = .ok (.if_icmp .ge 30, 3) := by decide +kernel
theorem dX0_statesBefore_14 : decode cX0_statesBefore 14 = .ok (.aload_n 0, 1) := by decide +kernel
theorem dX0_statesBefore_15 : decode cX0_statesBefore 15 = .ok (.iload 4, 2) := by decide +kernel
theorem dX0_statesBefore_17 : decode cX0_statesBefore 17 = .ok (.iload_n 1, 1) := by decide +kernel
theorem dX0_statesBefore_18 : decode cX0_statesBefore 18 = .ok (.invokevirtual 56, 3) := by decide +kernel
theorem dX0_statesBefore_21 : decode cX0_statesBefore 21 = .ok (.iload_n 2, 1) := by decide +kernel
theorem dX0_statesBefore_22 : decode cX0_statesBefore 22 = .ok (.invokevirtual 89, 3) := by decide +kernel
theorem dX0_statesBefore_25 : decode cX0_statesBefore 25 = .ok (.ifCond .eq 10, 3) := by decide +kernel
theorem dX0_statesBefore_28 : decode cX0_statesBefore 28 = .ok (.iload_n 3, 1) := by decide +kernel
theorem dX0_statesBefore_29 : decode cX0_statesBefore 29 = .ok (.iconst 1, 1) := by decide +kernel
theorem dX0_statesBefore_30 : decode cX0_statesBefore 30 = .ok (.iload 4, 2) := by decide +kernel
theorem dX0_statesBefore_32 : decode cX0_statesBefore 32 = .ok (.ishl, 1) := by decide +kernel
theorem dX0_statesBefore_33 : decode cX0_statesBefore 33 = .ok (.ior, 1) := by decide +kernel
theorem dX0_statesBefore_34 : decode cX0_statesBefore 34 = .ok (.istore_n 3, 1) := by decide +kernel
theorem dX0_statesBefore_35 : decode cX0_statesBefore 35 = .ok (.iinc 4 1, 3) := by decide +kernel
theorem dX0_statesBefore_38 : decode cX0_statesBefore 38 = .ok (.goto (-33), 3) := by decide +kernel
theorem dX0_statesBefore_41 : decode cX0_statesBefore 41 = .ok (.iload_n 3, 1) := by decide +kernel
theorem dX0_statesBefore_42 : decode cX0_statesBefore 42 = .ok (.ireturn, 1) := by decide +kernel
theorem dX0_statesThatMatter_0 : decode cX0_statesThatMatter 0 = .ok (.aload_n 0, 1) := by decide +kernel
theorem dX0_statesThatMatter_1 : decode cX0_statesThatMatter 1 = .ok (.getfield 18, 3) := by decide +kernel
theorem dX0_statesThatMatter_4 : decode cX0_statesThatMatter 4 = .ok (.invokevirtual 92, 3) := by decide +kernel
theorem dX0_statesThatMatter_7 : decode cX0_statesThatMatter 7 = .ok (.istore_n 1, 1) := by decide +kernel
theorem dX0_statesThatMatter_8 : decode cX0_statesThatMatter 8 = .ok (.iconst 0, 1) := by decide +kernel
theorem dX0_statesThatMatter_9 : decode cX0_statesThatMatter 9 = .ok (.istore_n 2, 1) := by decide +kernel
theorem dX0_statesThatMatter_10 : decode cX0_statesThatMatter 10 = .ok (.iconst 0, 1) := by decide +kernel
theorem dX0_statesThatMatter_11 : decode cX0_statesThatMatter 11 = .ok (.istore_n 3, 1) := by decide +kernel
theorem dX0_statesThatMatter_12 : decode cX0_statesThatMatter 12 = .ok (.iload_n 3, 1) := by decide +kernel
theorem dX0_statesThatMatter_13 : decode cX0_statesThatMatter 13 = .ok (.bipush 6, 2) := by decide +kernel
theorem dX0_statesThatMatter_15 : decode cX0_statesThatMatter 15 = .ok (.if_icmp .gt 24, 3) := by decide +kernel
theorem dX0_statesThatMatter_18 : decode cX0_statesThatMatter 18 = .ok (.iload_n 1, 1) := by decide +kernel
theorem dX0_statesThatMatter_19 : decode cX0_statesThatMatter 19 = .ok (.iload_n 2, 1) := by decide +kernel
theorem dX0_statesThatMatter_20 : decode cX0_statesThatMatter 20 = .ok (.if_icmp .eq 19, 3) := by decide +kernel
theorem dX0_statesThatMatter_23 : decode cX0_statesThatMatter 23 = .ok (.iload_n 1, 1) := by decide +kernel
theorem dX0_statesThatMatter_24 : decode cX0_statesThatMatter 24 = .ok (.istore_n 2, 1) := by decide +kernel
theorem dX0_statesThatMatter_25 : decode cX0_statesThatMatter 25 = .ok (.iload_n 1, 1) := by decide +kernel
theorem dX0_statesThatMatter_26 : decode cX0_statesThatMatter 26 = .ok (.aload_n 0, 1) := by decide +kernel
theorem dX0_statesThatMatter_27 : decode cX0_statesThatMatter 27 = .ok (.iload_n 2, 1) := by decide +kernel
theorem dX0_statesThatMatter_28 : decode cX0_statesThatMatter 28 = .ok (.invokevirtual 96, 3) := by decide +kernel
theorem dX0_statesThatMatter_31 : decode cX0_statesThatMatter 31 = .ok (.ior, 1) := by decide +kernel
theorem dX0_statesThatMatter_32 : decode cX0_statesThatMatter 32 = .ok (.istore_n 1, 1) := by decide +kernel
theorem dX0_statesThatMatter_33 : decode cX0_statesThatMatter 33 = .ok (.iinc 3 1, 3) := by decide +kernel
theorem dX0_statesThatMatter_36 : decode cX0_statesThatMatter 36 = .ok (.goto (-24), 3) := by decide +kernel
theorem dX0_statesThatMatter_39 : decode cX0_statesThatMatter 39 = .ok (.iload_n 1, 1) := by decide +kernel
theorem dX0_statesThatMatter_40 : decode cX0_statesThatMatter 40 = .ok (.ireturn, 1) := by decide +kernel
theorem dX0_statesAfter_0 : decode cX0_statesAfter 0 = .ok (.iconst 0, 1) := by decide +kernel
theorem dX0_statesAfter_1 : decode cX0_statesAfter 1 = .ok (.istore_n 2, 1) := by decide +kernel
theorem dX0_statesAfter_2 : decode cX0_statesAfter 2 = .ok (.iconst 0, 1) := by decide +kernel
theorem dX0_statesAfter_3 : decode cX0_statesAfter 3 = .ok (.istore_n 3, 1) := by decide +kernel
theorem dX0_statesAfter_4 : decode cX0_statesAfter 4 = .ok (.iload_n 3, 1) := by decide +kernel
theorem dX0_statesAfter_5 : decode cX0_statesAfter 5 = .ok (.aload_n 0, 1) := by decide +kernel
theorem dX0_statesAfter_6 : decode cX0_statesAfter 6 = .ok (.getfield 30, 3) := by decide +kernel
theorem dX0_statesAfter_9 : decode cX0_statesAfter 9 = .ok (.if_icmp .ge 48, 3) := by decide +kernel
theorem dX0_statesAfter_12 : decode cX0_statesAfter 12 = .ok (.iload_n 1, 1) := by decide +kernel
theorem dX0_statesAfter_13 : decode cX0_statesAfter 13 = .ok (.iload_n 3, 1) := by decide +kernel
theorem dX0_statesAfter_14 : decode cX0_statesAfter 14 = .ok (.ishr, 1) := by decide +kernel
theorem dX0_statesAfter_15 : decode cX0_statesAfter 15 = .ok (.iconst 1, 1) := by decide +kernel
theorem dX0_statesAfter_16 : decode cX0_statesAfter 16 = .ok (.iand, 1) := by decide +kernel
theorem dX0_statesAfter_17 : decode cX0_statesAfter 17 = .ok (.ifCond .eq 34, 3) := by decide +kernel
theorem dX0_statesAfter_20 : decode cX0_statesAfter 20 = .ok (.iconst 0, 1) := by decide +kernel
theorem dX0_statesAfter_21 : decode cX0_statesAfter 21 = .ok (.istore 4, 2) := by decide +kernel
theorem dX0_statesAfter_23 : decode cX0_statesAfter 23 = .ok (.iload 4, 2) := by decide +kernel
theorem dX0_statesAfter_25 : decode cX0_statesAfter 25 = .ok (.aload_n 0, 1) := by decide +kernel
theorem dX0_statesAfter_26 : decode cX0_statesAfter 26 = .ok (.getfield 34, 3) := by decide +kernel
theorem dX0_statesAfter_29 : decode cX0_statesAfter 29 = .ok (.if_icmp .ge 22, 3) := by decide +kernel
theorem dX0_statesAfter_32 : decode cX0_statesAfter 32 = .ok (.iload_n 2, 1) := by decide +kernel
theorem dX0_statesAfter_33 : decode cX0_statesAfter 33 = .ok (.aload_n 0, 1) := by decide +kernel
theorem dX0_statesAfter_34 : decode cX0_statesAfter 34 = .ok (.iload_n 3, 1) := by decide +kernel
theorem dX0_statesAfter_35 : decode cX0_statesAfter 35 = .ok (.iload 4, 2) := by decide +kernel
theorem dX0_statesAfter_37 : decode cX0_statesAfter 37 = .ok (.invokevirtual 56, 3) := by decide +kernel
theorem dX0_statesAfter_40 : decode cX0_statesAfter 40 = .ok (.invokevirtual 92, 3) := by decide +kernel
theorem dX0_statesAfter_43 : decode cX0_statesAfter 43 = .ok (.ior, 1) := by decide +kernel
theorem dX0_statesAfter_44 : decode cX0_statesAfter 44 = .ok (.istore_n 2, 1) := by decide +kernel
theorem dX0_statesAfter_45 : decode cX0_statesAfter 45 = .ok (.iinc 4 1, 3) := by decide +kernel
theorem dX0_statesAfter_48 : decode cX0_statesAfter 48 = .ok (.goto (-25), 3) := by decide +kernel
theorem dX0_statesAfter_51 : decode cX0_statesAfter 51 = .ok (.iinc 3 1, 3) := by decide +kernel
theorem dX0_statesAfter_54 : decode cX0_statesAfter 54 = .ok (.goto (-50), 3) := by decide +kernel
theorem dX0_statesAfter_57 : decode cX0_statesAfter 57 = .ok (.iload_n 2, 1) := by decide +kernel
theorem dX0_statesAfter_58 : decode cX0_statesAfter 58 = .ok (.ireturn, 1) := by decide +kernel
theorem dX0_existentialReach_0 : decode cX0_existentialReach 0 = .ok (.lconst 0, 1) := by decide +kernel
theorem dX0_existentialReach_1 : decode cX0_existentialReach 1 = .ok (.lstore_n 1, 1) := by decide +kernel
theorem dX0_existentialReach_2 : decode cX0_existentialReach 2 = .ok (.aload_n 0, 1) := by decide +kernel
theorem dX0_existentialReach_3 : decode cX0_existentialReach 3 = .ok (.getfield 18, 3) := by decide +kernel
theorem dX0_existentialReach_6 : decode cX0_existentialReach 6 = .ok (.getfield 100, 3) := by decide +kernel
theorem dX0_existentialReach_9 : decode cX0_existentialReach 9 = .ok (.invokestatic 104, 3) := by decide +kernel
theorem dX0_existentialReach_12 : decode cX0_existentialReach 12 = .ok (.lstore_n 3, 1) := by decide +kernel
theorem dX0_existentialReach_13 : decode cX0_existentialReach 13 = .ok (.iconst 0, 1) := by decide +kernel
theorem dX0_existentialReach_14 : decode cX0_existentialReach 14 = .ok (.istore 5, 2) := by decide +kernel
theorem dX0_existentialReach_16 : decode cX0_existentialReach 16 = .ok (.iload 5, 2) := by decide +kernel
theorem dX0_existentialReach_18 : decode cX0_existentialReach 18 = .ok (.bipush 64, 2) := by decide +kernel
theorem dX0_existentialReach_20 : decode cX0_existentialReach 20 = .ok (.if_icmp .gt 61, 3) := by decide +kernel
theorem dX0_existentialReach_23 : decode cX0_existentialReach 23 = .ok (.lload_n 3, 1) := by decide +kernel
theorem dX0_existentialReach_24 : decode cX0_existentialReach 24 = .ok (.lconst 0, 1) := by decide +kernel
theorem dX0_existentialReach_25 : decode cX0_existentialReach 25 = .ok (.lcmp, 1) := by decide +kernel
theorem dX0_existentialReach_26 : decode cX0_existentialReach 26 = .ok (.ifCond .eq 55, 3) := by decide +kernel
theorem dX0_existentialReach_29 : decode cX0_existentialReach 29 = .ok (.lload_n 1, 1) := by decide +kernel
theorem dX0_existentialReach_30 : decode cX0_existentialReach 30 = .ok (.lload_n 3, 1) := by decide +kernel
theorem dX0_existentialReach_31 : decode cX0_existentialReach 31 = .ok (.lor, 1) := by decide +kernel
theorem dX0_existentialReach_32 : decode cX0_existentialReach 32 = .ok (.lstore_n 1, 1) := by decide +kernel
theorem dX0_existentialReach_33 : decode cX0_existentialReach 33 = .ok (.lconst 0, 1) := by decide +kernel
theorem dX0_existentialReach_34 : decode cX0_existentialReach 34 = .ok (.lstore 6, 2) := by decide +kernel
theorem dX0_existentialReach_36 : decode cX0_existentialReach 36 = .ok (.iconst 0, 1) := by decide +kernel
theorem dX0_existentialReach_37 : decode cX0_existentialReach 37 = .ok (.istore 8, 2) := by decide +kernel
theorem dX0_existentialReach_39 : decode cX0_existentialReach 39 = .ok (.iload 8, 2) := by decide +kernel
theorem dX0_existentialReach_41 : decode cX0_existentialReach 41 = .ok (.aload_n 0, 1) := by decide +kernel
theorem dX0_existentialReach_42 : decode cX0_existentialReach 42 = .ok (.getfield 34, 3) := by decide +kernel
theorem dX0_existentialReach_45 : decode cX0_existentialReach 45 = .ok (.if_icmp .ge 21, 3) := by decide +kernel
theorem dX0_existentialReach_48 : decode cX0_existentialReach 48 = .ok (.lload 6, 2) := by decide +kernel
theorem dX0_existentialReach_50 : decode cX0_existentialReach 50 = .ok (.aload_n 0, 1) := by decide +kernel
theorem dX0_existentialReach_51 : decode cX0_existentialReach 51 = .ok (.lload_n 3, 1) := by decide +kernel
theorem dX0_existentialReach_52 : decode cX0_existentialReach 52 = .ok (.iload 8, 2) := by decide +kernel
theorem dX0_existentialReach_54 : decode cX0_existentialReach 54 = .ok (.invokevirtual 108, 3) := by decide +kernel
theorem dX0_existentialReach_57 : decode cX0_existentialReach 57 = .ok (.lor, 1) := by decide +kernel
theorem dX0_existentialReach_58 : decode cX0_existentialReach 58 = .ok (.lstore 6, 2) := by decide +kernel
theorem dX0_existentialReach_60 : decode cX0_existentialReach 60 = .ok (.iinc 8 1, 3) := by decide +kernel
theorem dX0_existentialReach_63 : decode cX0_existentialReach 63 = .ok (.goto (-24), 3) := by decide +kernel
theorem dX0_existentialReach_66 : decode cX0_existentialReach 66 = .ok (.lload 6, 2) := by decide +kernel
theorem dX0_existentialReach_68 : decode cX0_existentialReach 68 = .ok (.lload_n 1, 1) := by decide +kernel
theorem dX0_existentialReach_69 : decode cX0_existentialReach 69 = .ok (.ldc2_w 112, 3) := by decide +kernel
theorem dX0_existentialReach_72 : decode cX0_existentialReach 72 = .ok (.lxor, 1) := by decide +kernel
theorem dX0_existentialReach_73 : decode cX0_existentialReach 73 = .ok (.land, 1) := by decide +kernel
theorem dX0_existentialReach_74 : decode cX0_existentialReach 74 = .ok (.lstore_n 3, 1) := by decide +kernel
theorem dX0_existentialReach_75 : decode cX0_existentialReach 75 = .ok (.iinc 5 1, 3) := by decide +kernel
theorem dX0_existentialReach_78 : decode cX0_existentialReach 78 = .ok (.goto (-62), 3) := by decide +kernel
theorem dX0_existentialReach_81 : decode cX0_existentialReach 81 = .ok (.lload_n 1, 1) := by decide +kernel
theorem dX0_existentialReach_82 : decode cX0_existentialReach 82 = .ok (.lreturn, 1) := by decide +kernel
theorem dX0_existentialNext_0 : decode cX0_existentialNext 0 = .ok (.lconst 0, 1) := by decide +kernel
theorem dX0_existentialNext_1 : decode cX0_existentialNext 1 = .ok (.lstore 4, 2) := by decide +kernel
theorem dX0_existentialNext_3 : decode cX0_existentialNext 3 = .ok (.iconst 0, 1) := by decide +kernel
theorem dX0_existentialNext_4 : decode cX0_existentialNext 4 = .ok (.istore 6, 2) := by decide +kernel
theorem dX0_existentialNext_6 : decode cX0_existentialNext 6 = .ok (.iload 6, 2) := by decide +kernel
theorem dX0_existentialNext_8 : decode cX0_existentialNext 8 = .ok (.bipush 64, 2) := by decide +kernel
theorem dX0_existentialNext_10 : decode cX0_existentialNext 10 = .ok (.if_icmp .ge 33, 3) := by decide +kernel
theorem dX0_existentialNext_13 : decode cX0_existentialNext 13 = .ok (.lload_n 1, 1) := by decide +kernel
theorem dX0_existentialNext_14 : decode cX0_existentialNext 14 = .ok (.iload 6, 2) := by decide +kernel
theorem dX0_existentialNext_16 : decode cX0_existentialNext 16 = .ok (.invokestatic 114, 3) := by decide +kernel
theorem dX0_existentialNext_19 : decode cX0_existentialNext 19 = .ok (.ifCond .eq 18, 3) := by decide +kernel
theorem dX0_existentialNext_22 : decode cX0_existentialNext 22 = .ok (.lload 4, 2) := by decide +kernel
theorem dX0_existentialNext_24 : decode cX0_existentialNext 24 = .ok (.aload_n 0, 1) := by decide +kernel
theorem dX0_existentialNext_25 : decode cX0_existentialNext 25 = .ok (.iload 6, 2) := by decide +kernel
theorem dX0_existentialNext_27 : decode cX0_existentialNext 27 = .ok (.iload_n 3, 1) := by decide +kernel
theorem dX0_existentialNext_28 : decode cX0_existentialNext 28 = .ok (.invokevirtual 118, 3) := by decide +kernel
theorem dX0_existentialNext_31 : decode cX0_existentialNext 31 = .ok (.invokestatic 104, 3) := by decide +kernel
theorem dX0_existentialNext_34 : decode cX0_existentialNext 34 = .ok (.lor, 1) := by decide +kernel
theorem dX0_existentialNext_35 : decode cX0_existentialNext 35 = .ok (.lstore 4, 2) := by decide +kernel
theorem dX0_existentialNext_37 : decode cX0_existentialNext 37 = .ok (.iinc 6 1, 3) := by decide +kernel
theorem dX0_existentialNext_40 : decode cX0_existentialNext 40 = .ok (.goto (-34), 3) := by decide +kernel
theorem dX0_existentialNext_43 : decode cX0_existentialNext 43 = .ok (.lload 4, 2) := by decide +kernel
theorem dX0_existentialNext_45 : decode cX0_existentialNext 45 = .ok (.lreturn, 1) := by decide +kernel
theorem dX0_tableOfAll_0 : decode cX0_tableOfAll 0 = .ok (.ldc2_w 112, 3) := by decide +kernel
theorem dX0_tableOfAll_3 : decode cX0_tableOfAll 3 = .ok (.lstore_n 3, 1) := by decide +kernel
theorem dX0_tableOfAll_4 : decode cX0_tableOfAll 4 = .ok (.iconst 0, 1) := by decide +kernel
theorem dX0_tableOfAll_5 : decode cX0_tableOfAll 5 = .ok (.istore 5, 2) := by decide +kernel
theorem dX0_tableOfAll_7 : decode cX0_tableOfAll 7 = .ok (.iload 5, 2) := by decide +kernel
theorem dX0_tableOfAll_9 : decode cX0_tableOfAll 9 = .ok (.aload_n 0, 1) := by decide +kernel
theorem dX0_tableOfAll_10 : decode cX0_tableOfAll 10 = .ok (.getfield 30, 3) := by decide +kernel
theorem dX0_tableOfAll_13 : decode cX0_tableOfAll 13 = .ok (.if_icmp .ge 31, 3) := by decide +kernel
theorem dX0_tableOfAll_16 : decode cX0_tableOfAll 16 = .ok (.iload_n 1, 1) := by decide +kernel
theorem dX0_tableOfAll_17 : decode cX0_tableOfAll 17 = .ok (.iload 5, 2) := by decide +kernel
theorem dX0_tableOfAll_19 : decode cX0_tableOfAll 19 = .ok (.ishr, 1) := by decide +kernel
theorem dX0_tableOfAll_20 : decode cX0_tableOfAll 20 = .ok (.iconst 1, 1) := by decide +kernel
theorem dX0_tableOfAll_21 : decode cX0_tableOfAll 21 = .ok (.iand, 1) := by decide +kernel
theorem dX0_tableOfAll_22 : decode cX0_tableOfAll 22 = .ok (.ifCond .eq 16, 3) := by decide +kernel
theorem dX0_tableOfAll_25 : decode cX0_tableOfAll 25 = .ok (.lload_n 3, 1) := by decide +kernel
theorem dX0_tableOfAll_26 : decode cX0_tableOfAll 26 = .ok (.aload_n 0, 1) := by decide +kernel
theorem dX0_tableOfAll_27 : decode cX0_tableOfAll 27 = .ok (.iload 5, 2) := by decide +kernel
theorem dX0_tableOfAll_29 : decode cX0_tableOfAll 29 = .ok (.iload_n 2, 1) := by decide +kernel
theorem dX0_tableOfAll_30 : decode cX0_tableOfAll 30 = .ok (.invokevirtual 56, 3) := by decide +kernel
theorem dX0_tableOfAll_33 : decode cX0_tableOfAll 33 = .ok (.getfield 100, 3) := by decide +kernel
theorem dX0_tableOfAll_36 : decode cX0_tableOfAll 36 = .ok (.land, 1) := by decide +kernel
theorem dX0_tableOfAll_37 : decode cX0_tableOfAll 37 = .ok (.lstore_n 3, 1) := by decide +kernel
theorem dX0_tableOfAll_38 : decode cX0_tableOfAll 38 = .ok (.iinc 5 1, 3) := by decide +kernel
theorem dX0_tableOfAll_41 : decode cX0_tableOfAll 41 = .ok (.goto (-34), 3) := by decide +kernel
theorem dX0_tableOfAll_44 : decode cX0_tableOfAll 44 = .ok (.lload_n 3, 1) := by decide +kernel
theorem dX0_tableOfAll_45 : decode cX0_tableOfAll 45 = .ok (.lreturn, 1) := by decide +kernel
theorem dX0_acceptingSets_0 : decode cX0_acceptingSets 0 = .ok (.lconst 0, 1) := by decide +kernel
theorem dX0_acceptingSets_1 : decode cX0_acceptingSets 1 = .ok (.lstore_n 1, 1) := by decide +kernel
theorem dX0_acceptingSets_2 : decode cX0_acceptingSets 2 = .ok (.iconst 0, 1) := by decide +kernel
theorem dX0_acceptingSets_3 : decode cX0_acceptingSets 3 = .ok (.istore_n 3, 1) := by decide +kernel
theorem dX0_acceptingSets_4 : decode cX0_acceptingSets 4 = .ok (.iload_n 3, 1) := by decide +kernel
theorem dX0_acceptingSets_5 : decode cX0_acceptingSets 5 = .ok (.bipush 64, 2) := by decide +kernel
theorem dX0_acceptingSets_7 : decode cX0_acceptingSets 7 = .ok (.if_icmp .ge 26, 3) := by decide +kernel
theorem dX0_acceptingSets_10 : decode cX0_acceptingSets 10 = .ok (.iload_n 3, 1) := by decide +kernel
theorem dX0_acceptingSets_11 : decode cX0_acceptingSets 11 = .ok (.aload_n 0, 1) := by decide +kernel
theorem dX0_acceptingSets_12 : decode cX0_acceptingSets 12 = .ok (.getfield 37, 3) := by decide +kernel
theorem dX0_acceptingSets_15 : decode cX0_acceptingSets 15 = .ok (.iconst (-1), 1) := by decide +kernel
theorem dX0_acceptingSets_16 : decode cX0_acceptingSets 16 = .ok (.ixor, 1) := by decide +kernel
theorem dX0_acceptingSets_17 : decode cX0_acceptingSets 17 = .ok (.iand, 1) := by decide +kernel
theorem dX0_acceptingSets_18 : decode cX0_acceptingSets 18 = .ok (.ifCond .ne 9, 3) := by decide +kernel
theorem dX0_acceptingSets_21 : decode cX0_acceptingSets 21 = .ok (.lload_n 1, 1) := by decide +kernel
theorem dX0_acceptingSets_22 : decode cX0_acceptingSets 22 = .ok (.lconst 1, 1) := by decide +kernel
theorem dX0_acceptingSets_23 : decode cX0_acceptingSets 23 = .ok (.iload_n 3, 1) := by decide +kernel
theorem dX0_acceptingSets_24 : decode cX0_acceptingSets 24 = .ok (.lshl, 1) := by decide +kernel
theorem dX0_acceptingSets_25 : decode cX0_acceptingSets 25 = .ok (.lor, 1) := by decide +kernel
theorem dX0_acceptingSets_26 : decode cX0_acceptingSets 26 = .ok (.lstore_n 1, 1) := by decide +kernel
theorem dX0_acceptingSets_27 : decode cX0_acceptingSets 27 = .ok (.iinc 3 1, 3) := by decide +kernel
theorem dX0_acceptingSets_30 : decode cX0_acceptingSets 30 = .ok (.goto (-26), 3) := by decide +kernel
theorem dX0_acceptingSets_33 : decode cX0_acceptingSets 33 = .ok (.lload_n 1, 1) := by decide +kernel
theorem dX0_acceptingSets_34 : decode cX0_acceptingSets 34 = .ok (.lreturn, 1) := by decide +kernel
theorem dX1_init_0 : decode cX1_init 0 = .ok (.aload_n 0, 1) := by decide +kernel
theorem dX1_init_1 : decode cX1_init 1 = .ok (.invokespecial 3, 3) := by decide +kernel
theorem dX1_init_4 : decode cX1_init 4 = .ok (.aload_n 0, 1) := by decide +kernel
theorem dX1_init_5 : decode cX1_init 5 = .ok (.bipush 64, 2) := by decide +kernel
theorem dX1_init_7 : decode cX1_init 7 = .ok (.newarray .int, 2) := by decide +kernel
theorem dX1_init_9 : decode cX1_init 9 = .ok (.putfield 9, 3) := by decide +kernel
theorem dX1_init_12 : decode cX1_init 12 = .ok (.aload_n 0, 1) := by decide +kernel
theorem dX1_init_13 : decode cX1_init 13 = .ok (.ldc 15, 2) := by decide +kernel
theorem dX1_init_15 : decode cX1_init 15 = .ok (.putfield 16, 3) := by decide +kernel
theorem dX1_init_18 : decode cX1_init 18 = .ok (.return_, 1) := by decide +kernel
theorem dX1_search_0 : decode cX1_search 0 = .ok (.aload_n 0, 1) := by decide +kernel
theorem dX1_search_1 : decode cX1_search 1 = .ok (.getfield 9, 3) := by decide +kernel
theorem dX1_search_4 : decode cX1_search 4 = .ok (.ldc 15, 2) := by decide +kernel
theorem dX1_search_6 : decode cX1_search 6 = .ok (.invokestatic 20, 3) := by decide +kernel
theorem dX1_search_9 : decode cX1_search 9 = .ok (.aload_n 0, 1) := by decide +kernel
theorem dX1_search_10 : decode cX1_search 10 = .ok (.getfield 9, 3) := by decide +kernel
theorem dX1_search_13 : decode cX1_search 13 = .ok (.aload_n 1, 1) := by decide +kernel
theorem dX1_search_14 : decode cX1_search 14 = .ok (.getfield 26, 3) := by decide +kernel
theorem dX1_search_17 : decode cX1_search 17 = .ok (.iconst 0, 1) := by decide +kernel
theorem dX1_search_18 : decode cX1_search 18 = .ok (.iastore, 1) := by decide +kernel
theorem dX1_search_19 : decode cX1_search 19 = .ok (.iconst 1, 1) := by decide +kernel
theorem dX1_search_20 : decode cX1_search 20 = .ok (.istore_n 3, 1) := by decide +kernel
theorem dX1_search_21 : decode cX1_search 21 = .ok (.iconst 0, 1) := by decide +kernel
theorem dX1_search_22 : decode cX1_search 22 = .ok (.istore 4, 2) := by decide +kernel
theorem dX1_search_24 : decode cX1_search 24 = .ok (.iload 4, 2) := by decide +kernel
theorem dX1_search_26 : decode cX1_search 26 = .ok (.bipush 64, 2) := by decide +kernel
theorem dX1_search_28 : decode cX1_search 28 = .ok (.if_icmp .gt 20, 3) := by decide +kernel
theorem dX1_search_31 : decode cX1_search 31 = .ok (.iload_n 3, 1) := by decide +kernel
theorem dX1_search_32 : decode cX1_search 32 = .ok (.ifCond .eq 16, 3) := by decide +kernel
theorem dX1_search_35 : decode cX1_search 35 = .ok (.aload_n 0, 1) := by decide +kernel
theorem dX1_search_36 : decode cX1_search 36 = .ok (.aload_n 1, 1) := by decide +kernel
theorem dX1_search_37 : decode cX1_search 37 = .ok (.aload_n 2, 1) := by decide +kernel
theorem dX1_search_38 : decode cX1_search 38 = .ok (.invokevirtual 31, 3) := by decide +kernel
theorem dX1_search_41 : decode cX1_search 41 = .ok (.istore_n 3, 1) := by decide +kernel
theorem dX1_search_42 : decode cX1_search 42 = .ok (.iinc 4 1, 3) := by decide +kernel
theorem dX1_search_45 : decode cX1_search 45 = .ok (.goto (-21), 3) := by decide +kernel
theorem dX1_search_48 : decode cX1_search 48 = .ok (.aload_n 0, 1) := by decide +kernel
theorem dX1_search_49 : decode cX1_search 49 = .ok (.ldc 15, 2) := by decide +kernel
theorem dX1_search_51 : decode cX1_search 51 = .ok (.putfield 16, 3) := by decide +kernel
theorem dX1_search_54 : decode cX1_search 54 = .ok (.iconst 0, 1) := by decide +kernel
theorem dX1_search_55 : decode cX1_search 55 = .ok (.istore 4, 2) := by decide +kernel
theorem dX1_search_57 : decode cX1_search 57 = .ok (.iload 4, 2) := by decide +kernel
theorem dX1_search_59 : decode cX1_search 59 = .ok (.bipush 64, 2) := by decide +kernel
theorem dX1_search_61 : decode cX1_search 61 = .ok (.if_icmp .ge 36, 3) := by decide +kernel
theorem dX1_search_64 : decode cX1_search 64 = .ok (.aload_n 1, 1) := by decide +kernel
theorem dX1_search_65 : decode cX1_search 65 = .ok (.iload 4, 2) := by decide +kernel
theorem dX1_search_67 : decode cX1_search 67 = .ok (.invokevirtual 35, 3) := by decide +kernel
theorem dX1_search_70 : decode cX1_search 70 = .ok (.ifCond .eq 21, 3) := by decide +kernel
theorem dX1_search_73 : decode cX1_search 73 = .ok (.aload_n 0, 1) := by decide +kernel
theorem dX1_search_74 : decode cX1_search 74 = .ok (.aload_n 0, 1) := by decide +kernel
theorem dX1_search_75 : decode cX1_search 75 = .ok (.getfield 16, 3) := by decide +kernel
theorem dX1_search_78 : decode cX1_search 78 = .ok (.aload_n 0, 1) := by decide +kernel
theorem dX1_search_79 : decode cX1_search 79 = .ok (.getfield 9, 3) := by decide +kernel
theorem dX1_search_82 : decode cX1_search 82 = .ok (.iload 4, 2) := by decide +kernel
theorem dX1_search_84 : decode cX1_search 84 = .ok (.iaload, 1) := by decide +kernel
theorem dX1_search_85 : decode cX1_search 85 = .ok (.invokestatic 39, 3) := by decide +kernel
theorem dX1_search_88 : decode cX1_search 88 = .ok (.putfield 16, 3) := by decide +kernel
theorem dX1_search_91 : decode cX1_search 91 = .ok (.iinc 4 1, 3) := by decide +kernel
theorem dX1_search_94 : decode cX1_search 94 = .ok (.goto (-37), 3) := by decide +kernel
theorem dX1_search_97 : decode cX1_search 97 = .ok (.aload_n 0, 1) := by decide +kernel
theorem dX1_search_98 : decode cX1_search 98 = .ok (.getfield 16, 3) := by decide +kernel
theorem dX1_search_101 : decode cX1_search 101 = .ok (.ldc 15, 2) := by decide +kernel
theorem dX1_search_103 : decode cX1_search 103 = .ok (.if_icmp .ge 7, 3) := by decide +kernel
theorem dX1_search_106 : decode cX1_search 106 = .ok (.iconst 1, 1) := by decide +kernel
theorem dX1_search_107 : decode cX1_search 107 = .ok (.goto 4, 3) := by decide +kernel
theorem dX1_search_110 : decode cX1_search 110 = .ok (.iconst 0, 1) := by decide +kernel
theorem dX1_search_111 : decode cX1_search 111 = .ok (.ireturn, 1) := by decide +kernel
theorem dX1_lowerPrices_0 : decode cX1_lowerPrices 0 = .ok (.iconst 0, 1) := by decide +kernel
theorem dX1_lowerPrices_1 : decode cX1_lowerPrices 1 = .ok (.istore_n 3, 1) := by decide +kernel
theorem dX1_lowerPrices_2 : decode cX1_lowerPrices 2 = .ok (.iconst 0, 1) := by decide +kernel
theorem dX1_lowerPrices_3 : decode cX1_lowerPrices 3 = .ok (.istore 4, 2) := by decide +kernel
theorem dX1_lowerPrices_5 : decode cX1_lowerPrices 5 = .ok (.iload 4, 2) := by decide +kernel
theorem dX1_lowerPrices_7 : decode cX1_lowerPrices 7 = .ok (.bipush 64, 2) := by decide +kernel
theorem dX1_lowerPrices_9 : decode cX1_lowerPrices 9 = .ok (.if_icmp .ge 88, 3) := by decide +kernel
theorem dX1_lowerPrices_12 : decode cX1_lowerPrices 12 = .ok (.iconst 0, 1) := by decide +kernel
theorem dX1_lowerPrices_13 : decode cX1_lowerPrices 13 = .ok (.istore 5, 2) := by decide +kernel
theorem dX1_lowerPrices_15 : decode cX1_lowerPrices 15 = .ok (.iload 5, 2) := by decide +kernel
theorem dX1_lowerPrices_17 : decode cX1_lowerPrices 17 = .ok (.aload_n 1, 1) := by decide +kernel
theorem dX1_lowerPrices_18 : decode cX1_lowerPrices 18 = .ok (.getfield 45, 3) := by decide +kernel
theorem dX1_lowerPrices_21 : decode cX1_lowerPrices 21 = .ok (.if_icmp .ge 70, 3) := by decide +kernel
theorem dX1_lowerPrices_24 : decode cX1_lowerPrices 24 = .ok (.aload_n 0, 1) := by decide +kernel
theorem dX1_lowerPrices_25 : decode cX1_lowerPrices 25 = .ok (.getfield 9, 3) := by decide +kernel
theorem dX1_lowerPrices_28 : decode cX1_lowerPrices 28 = .ok (.iload 4, 2) := by decide +kernel
theorem dX1_lowerPrices_30 : decode cX1_lowerPrices 30 = .ok (.iaload, 1) := by decide +kernel
theorem dX1_lowerPrices_31 : decode cX1_lowerPrices 31 = .ok (.ldc 15, 2) := by decide +kernel
theorem dX1_lowerPrices_33 : decode cX1_lowerPrices 33 = .ok (.if_icmp .ge 58, 3) := by decide +kernel
theorem dX1_lowerPrices_36 : decode cX1_lowerPrices 36 = .ok (.aload_n 0, 1) := by decide +kernel
theorem dX1_lowerPrices_37 : decode cX1_lowerPrices 37 = .ok (.getfield 9, 3) := by decide +kernel
theorem dX1_lowerPrices_40 : decode cX1_lowerPrices 40 = .ok (.iload 4, 2) := by decide +kernel
theorem dX1_lowerPrices_42 : decode cX1_lowerPrices 42 = .ok (.iaload, 1) := by decide +kernel
theorem dX1_lowerPrices_43 : decode cX1_lowerPrices 43 = .ok (.aload_n 2, 1) := by decide +kernel
theorem dX1_lowerPrices_44 : decode cX1_lowerPrices 44 = .ok (.iload 5, 2) := by decide +kernel
theorem dX1_lowerPrices_46 : decode cX1_lowerPrices 46 = .ok (.invokestatic 48, 3) := by decide +kernel
theorem dX1_lowerPrices_49 : decode cX1_lowerPrices 49 = .ok (.iadd, 1) := by decide +kernel
theorem dX1_lowerPrices_50 : decode cX1_lowerPrices 50 = .ok (.istore 6, 2) := by decide +kernel
theorem dX1_lowerPrices_52 : decode cX1_lowerPrices 52 = .ok (.aload_n 1, 1) := by decide +kernel
theorem dX1_lowerPrices_53 : decode cX1_lowerPrices 53 = .ok (.iload 4, 2) := by decide +kernel
theorem dX1_lowerPrices_55 : decode cX1_lowerPrices 55 = .ok (.iload 5, 2) := by decide +kernel
theorem dX1_lowerPrices_57 : decode cX1_lowerPrices 57 = .ok (.invokevirtual 52, 3) := by decide +kernel
theorem dX1_lowerPrices_60 : decode cX1_lowerPrices 60 = .ok (.istore 7, 2) := by decide +kernel
theorem dX1_lowerPrices_62 : decode cX1_lowerPrices 62 = .ok (.iload 6, 2) := by decide +kernel
theorem dX1_lowerPrices_64 : decode cX1_lowerPrices 64 = .ok (.aload_n 0, 1) := by decide +kernel
theorem dX1_lowerPrices_65 : decode cX1_lowerPrices 65 = .ok (.getfield 9, 3) := by decide +kernel
theorem dX1_lowerPrices_68 : decode cX1_lowerPrices 68 = .ok (.iload 7, 2) := by decide +kernel
theorem dX1_lowerPrices_70 : decode cX1_lowerPrices 70 = .ok (.iaload, 1) := by decide +kernel
theorem dX1_lowerPrices_71 : decode cX1_lowerPrices 71 = .ok (.if_icmp .ge 14, 3) := by decide +kernel
theorem dX1_lowerPrices_74 : decode cX1_lowerPrices 74 = .ok (.aload_n 0, 1) := by decide +kernel
theorem dX1_lowerPrices_75 : decode cX1_lowerPrices 75 = .ok (.getfield 9, 3) := by decide +kernel
theorem dX1_lowerPrices_78 : decode cX1_lowerPrices 78 = .ok (.iload 7, 2) := by decide +kernel
theorem dX1_lowerPrices_80 : decode cX1_lowerPrices 80 = .ok (.iload 6, 2) := by decide +kernel
theorem dX1_lowerPrices_82 : decode cX1_lowerPrices 82 = .ok (.iastore, 1) := by decide +kernel
theorem dX1_lowerPrices_83 : decode cX1_lowerPrices 83 = .ok (.iconst 1, 1) := by decide +kernel
theorem dX1_lowerPrices_84 : decode cX1_lowerPrices 84 = .ok (.istore_n 3, 1) := by decide +kernel
theorem dX1_lowerPrices_85 : decode cX1_lowerPrices 85 = .ok (.iinc 5 1, 3) := by decide +kernel
theorem dX1_lowerPrices_88 : decode cX1_lowerPrices 88 = .ok (.goto (-73), 3) := by decide +kernel
theorem dX1_lowerPrices_91 : decode cX1_lowerPrices 91 = .ok (.iinc 4 1, 3) := by decide +kernel
theorem dX1_lowerPrices_94 : decode cX1_lowerPrices 94 = .ok (.goto (-89), 3) := by decide +kernel
theorem dX1_lowerPrices_97 : decode cX1_lowerPrices 97 = .ok (.iload_n 3, 1) := by decide +kernel
theorem dX1_lowerPrices_98 : decode cX1_lowerPrices 98 = .ok (.ireturn, 1) := by decide +kernel
theorem dX1_priceOf_0 : decode cX1_priceOf 0 = .ok (.iload_n 1, 1) := by decide +kernel
theorem dX1_priceOf_1 : decode cX1_priceOf 1 = .ok (.ifCond .lt 15, 3) := by decide +kernel
theorem dX1_priceOf_4 : decode cX1_priceOf 4 = .ok (.iload_n 1, 1) := by decide +kernel
theorem dX1_priceOf_5 : decode cX1_priceOf 5 = .ok (.aload_n 0, 1) := by decide +kernel
theorem dX1_priceOf_6 : decode cX1_priceOf 6 = .ok (.arraylength, 1) := by decide +kernel
theorem dX1_priceOf_7 : decode cX1_priceOf 7 = .ok (.if_icmp .ge 9, 3) := by decide +kernel
theorem dX1_priceOf_10 : decode cX1_priceOf 10 = .ok (.aload_n 0, 1) := by decide +kernel
theorem dX1_priceOf_11 : decode cX1_priceOf 11 = .ok (.iload_n 1, 1) := by decide +kernel
theorem dX1_priceOf_12 : decode cX1_priceOf 12 = .ok (.iaload, 1) := by decide +kernel
theorem dX1_priceOf_13 : decode cX1_priceOf 13 = .ok (.goto 4, 3) := by decide +kernel
theorem dX1_priceOf_16 : decode cX1_priceOf 16 = .ok (.iconst 1, 1) := by decide +kernel
theorem dX1_priceOf_17 : decode cX1_priceOf 17 = .ok (.istore_n 2, 1) := by decide +kernel
theorem dX1_priceOf_18 : decode cX1_priceOf 18 = .ok (.iload_n 2, 1) := by decide +kernel
theorem dX1_priceOf_19 : decode cX1_priceOf 19 = .ok (.sipush 1000, 3) := by decide +kernel
theorem dX1_priceOf_22 : decode cX1_priceOf 22 = .ok (.imul, 1) := by decide +kernel
theorem dX1_priceOf_23 : decode cX1_priceOf 23 = .ok (.iconst 1, 1) := by decide +kernel
theorem dX1_priceOf_24 : decode cX1_priceOf 24 = .ok (.iadd, 1) := by decide +kernel
theorem dX1_priceOf_25 : decode cX1_priceOf 25 = .ok (.ireturn, 1) := by decide +kernel
theorem dX1_spell_0 : decode cX1_spell 0 = .ok (.aload_n 3, 1) := by decide +kernel
theorem dX1_spell_1 : decode cX1_spell 1 = .ok (.iconst 0, 1) := by decide +kernel
theorem dX1_spell_2 : decode cX1_spell 2 = .ok (.putfield 55, 3) := by decide +kernel
theorem dX1_spell_5 : decode cX1_spell 5 = .ok (.lconst 0, 1) := by decide +kernel
theorem dX1_spell_6 : decode cX1_spell 6 = .ok (.lstore 4, 2) := by decide +kernel
theorem dX1_spell_8 : decode cX1_spell 8 = .ok (.iconst 0, 1) := by decide +kernel
theorem dX1_spell_9 : decode cX1_spell 9 = .ok (.istore 6, 2) := by decide +kernel
theorem dX1_spell_11 : decode cX1_spell 11 = .ok (.iload 6, 2) := by decide +kernel
theorem dX1_spell_13 : decode cX1_spell 13 = .ok (.bipush 64, 2) := by decide +kernel
theorem dX1_spell_15 : decode cX1_spell 15 = .ok (.if_icmp .ge 41, 3) := by decide +kernel
theorem dX1_spell_18 : decode cX1_spell 18 = .ok (.aload_n 1, 1) := by decide +kernel
theorem dX1_spell_19 : decode cX1_spell 19 = .ok (.iload 6, 2) := by decide +kernel
theorem dX1_spell_21 : decode cX1_spell 21 = .ok (.invokevirtual 35, 3) := by decide +kernel
theorem dX1_spell_24 : decode cX1_spell 24 = .ok (.ifCond .eq 26, 3) := by decide +kernel
theorem dX1_spell_27 : decode cX1_spell 27 = .ok (.aload_n 0, 1) := by decide +kernel
theorem dX1_spell_28 : decode cX1_spell 28 = .ok (.getfield 9, 3) := by decide +kernel
theorem dX1_spell_31 : decode cX1_spell 31 = .ok (.iload 6, 2) := by decide +kernel
theorem dX1_spell_33 : decode cX1_spell 33 = .ok (.iaload, 1) := by decide +kernel
theorem dX1_spell_34 : decode cX1_spell 34 = .ok (.aload_n 0, 1) := by decide +kernel
theorem dX1_spell_35 : decode cX1_spell 35 = .ok (.getfield 16, 3) := by decide +kernel
theorem dX1_spell_38 : decode cX1_spell 38 = .ok (.if_icmp .ne 12, 3) := by decide +kernel
theorem dX1_spell_41 : decode cX1_spell 41 = .ok (.lload 4, 2) := by decide +kernel
theorem dX1_spell_43 : decode cX1_spell 43 = .ok (.lconst 1, 1) := by decide +kernel
theorem dX1_spell_44 : decode cX1_spell 44 = .ok (.iload 6, 2) := by decide +kernel
theorem dX1_spell_46 : decode cX1_spell 46 = .ok (.lshl, 1) := by decide +kernel
theorem dX1_spell_47 : decode cX1_spell 47 = .ok (.lor, 1) := by decide +kernel
theorem dX1_spell_48 : decode cX1_spell 48 = .ok (.lstore 4, 2) := by decide +kernel
theorem dX1_spell_50 : decode cX1_spell 50 = .ok (.iinc 6 1, 3) := by decide +kernel
theorem dX1_spell_53 : decode cX1_spell 53 = .ok (.goto (-42), 3) := by decide +kernel
theorem dX1_spell_56 : decode cX1_spell 56 = .ok (.aload_n 0, 1) := by decide +kernel
theorem dX1_spell_57 : decode cX1_spell 57 = .ok (.getfield 16, 3) := by decide +kernel
theorem dX1_spell_60 : decode cX1_spell 60 = .ok (.istore 6, 2) := by decide +kernel
theorem dX1_spell_62 : decode cX1_spell 62 = .ok (.iconst 0, 1) := by decide +kernel
theorem dX1_spell_63 : decode cX1_spell 63 = .ok (.istore 7, 2) := by decide +kernel
theorem dX1_spell_65 : decode cX1_spell 65 = .ok (.iload 7, 2) := by decide +kernel
theorem dX1_spell_67 : decode cX1_spell 67 = .ok (.bipush 64, 2) := by decide +kernel
theorem dX1_spell_69 : decode cX1_spell 69 = .ok (.if_icmp .ge 90, 3) := by decide +kernel
theorem dX1_spell_72 : decode cX1_spell 72 = .ok (.iload 6, 2) := by decide +kernel
theorem dX1_spell_74 : decode cX1_spell 74 = .ok (.ifCond .le 85, 3) := by decide +kernel
theorem dX1_spell_77 : decode cX1_spell 77 = .ok (.iconst 0, 1) := by decide +kernel
theorem dX1_spell_78 : decode cX1_spell 78 = .ok (.istore 8, 2) := by decide +kernel
theorem dX1_spell_80 : decode cX1_spell 80 = .ok (.lconst 0, 1) := by decide +kernel
theorem dX1_spell_81 : decode cX1_spell 81 = .ok (.lstore 9, 2) := by decide +kernel
theorem dX1_spell_83 : decode cX1_spell 83 = .ok (.iconst 0, 1) := by decide +kernel
theorem dX1_spell_84 : decode cX1_spell 84 = .ok (.istore 11, 2) := by decide +kernel
theorem dX1_spell_86 : decode cX1_spell 86 = .ok (.iload 11, 2) := by decide +kernel
theorem dX1_spell_88 : decode cX1_spell 88 = .ok (.aload_n 1, 1) := by decide +kernel
theorem dX1_spell_89 : decode cX1_spell 89 = .ok (.getfield 45, 3) := by decide +kernel
theorem dX1_spell_92 : decode cX1_spell 92 = .ok (.if_icmp .ge 40, 3) := by decide +kernel
theorem dX1_spell_95 : decode cX1_spell 95 = .ok (.lload 9, 2) := by decide +kernel
theorem dX1_spell_97 : decode cX1_spell 97 = .ok (.lconst 0, 1) := by decide +kernel
theorem dX1_spell_98 : decode cX1_spell 98 = .ok (.lcmp, 1) := by decide +kernel
theorem dX1_spell_99 : decode cX1_spell 99 = .ok (.ifCond .ne 33, 3) := by decide +kernel
theorem dX1_spell_102 : decode cX1_spell 102 = .ok (.iload 11, 2) := by decide +kernel
theorem dX1_spell_104 : decode cX1_spell 104 = .ok (.istore 8, 2) := by decide +kernel
theorem dX1_spell_106 : decode cX1_spell 106 = .ok (.aload_n 0, 1) := by decide +kernel
theorem dX1_spell_107 : decode cX1_spell 107 = .ok (.aload_n 1, 1) := by decide +kernel
theorem dX1_spell_108 : decode cX1_spell 108 = .ok (.lload 4, 2) := by decide +kernel
theorem dX1_spell_110 : decode cX1_spell 110 = .ok (.iload 11, 2) := by decide +kernel
theorem dX1_spell_112 : decode cX1_spell 112 = .ok (.iload 6, 2) := by decide +kernel
theorem dX1_spell_114 : decode cX1_spell 114 = .ok (.aload_n 2, 1) := by decide +kernel
theorem dX1_spell_115 : decode cX1_spell 115 = .ok (.iload 11, 2) := by decide +kernel
theorem dX1_spell_117 : decode cX1_spell 117 = .ok (.invokestatic 48, 3) := by decide +kernel
theorem dX1_spell_120 : decode cX1_spell 120 = .ok (.isub, 1) := by decide +kernel
theorem dX1_spell_121 : decode cX1_spell 121 = .ok (.invokevirtual 60, 3) := by decide +kernel
theorem dX1_spell_124 : decode cX1_spell 124 = .ok (.lstore 9, 2) := by decide +kernel
theorem dX1_spell_126 : decode cX1_spell 126 = .ok (.iinc 11 1, 3) := by decide +kernel
theorem dX1_spell_129 : decode cX1_spell 129 = .ok (.goto (-43), 3) := by decide +kernel
theorem dX1_spell_132 : decode cX1_spell 132 = .ok (.aload_n 3, 1) := by decide +kernel
theorem dX1_spell_133 : decode cX1_spell 133 = .ok (.iload 8, 2) := by decide +kernel
theorem dX1_spell_135 : decode cX1_spell 135 = .ok (.invokevirtual 64, 3) := by decide +kernel
theorem dX1_spell_138 : decode cX1_spell 138 = .ok (.iload 6, 2) := by decide +kernel
theorem dX1_spell_140 : decode cX1_spell 140 = .ok (.aload_n 2, 1) := by decide +kernel
theorem dX1_spell_141 : decode cX1_spell 141 = .ok (.iload 8, 2) := by decide +kernel
theorem dX1_spell_143 : decode cX1_spell 143 = .ok (.invokestatic 48, 3) := by decide +kernel
theorem dX1_spell_146 : decode cX1_spell 146 = .ok (.isub, 1) := by decide +kernel
theorem dX1_spell_147 : decode cX1_spell 147 = .ok (.istore 6, 2) := by decide +kernel
theorem dX1_spell_149 : decode cX1_spell 149 = .ok (.lload 9, 2) := by decide +kernel
theorem dX1_spell_151 : decode cX1_spell 151 = .ok (.lstore 4, 2) := by decide +kernel
theorem dX1_spell_153 : decode cX1_spell 153 = .ok (.iinc 7 1, 3) := by decide +kernel
theorem dX1_spell_156 : decode cX1_spell 156 = .ok (.goto (-91), 3) := by decide +kernel
theorem dX1_spell_159 : decode cX1_spell 159 = .ok (.return_, 1) := by decide +kernel
theorem dX1_waysInto_0 : decode cX1_waysInto 0 = .ok (.lconst 0, 1) := by decide +kernel
theorem dX1_waysInto_1 : decode cX1_waysInto 1 = .ok (.lstore 6, 2) := by decide +kernel
theorem dX1_waysInto_3 : decode cX1_waysInto 3 = .ok (.iconst 0, 1) := by decide +kernel
theorem dX1_waysInto_4 : decode cX1_waysInto 4 = .ok (.istore 8, 2) := by decide +kernel
theorem dX1_waysInto_6 : decode cX1_waysInto 6 = .ok (.iload 8, 2) := by decide +kernel
theorem dX1_waysInto_8 : decode cX1_waysInto 8 = .ok (.bipush 64, 2) := by decide +kernel
theorem dX1_waysInto_10 : decode cX1_waysInto 10 = .ok (.if_icmp .ge 45, 3) := by decide +kernel
theorem dX1_waysInto_13 : decode cX1_waysInto 13 = .ok (.aload_n 0, 1) := by decide +kernel
theorem dX1_waysInto_14 : decode cX1_waysInto 14 = .ok (.getfield 9, 3) := by decide +kernel
theorem dX1_waysInto_17 : decode cX1_waysInto 17 = .ok (.iload 8, 2) := by decide +kernel
theorem dX1_waysInto_19 : decode cX1_waysInto 19 = .ok (.iaload, 1) := by decide +kernel
theorem dX1_waysInto_20 : decode cX1_waysInto 20 = .ok (.iload 5, 2) := by decide +kernel
theorem dX1_waysInto_22 : decode cX1_waysInto 22 = .ok (.if_icmp .ne 27, 3) := by decide +kernel
theorem dX1_waysInto_25 : decode cX1_waysInto 25 = .ok (.lload_n 2, 1) := by decide +kernel
theorem dX1_waysInto_26 : decode cX1_waysInto 26 = .ok (.aload_n 1, 1) := by decide +kernel
theorem dX1_waysInto_27 : decode cX1_waysInto 27 = .ok (.iload 8, 2) := by decide +kernel
theorem dX1_waysInto_29 : decode cX1_waysInto 29 = .ok (.iload 4, 2) := by decide +kernel
theorem dX1_waysInto_31 : decode cX1_waysInto 31 = .ok (.invokevirtual 52, 3) := by decide +kernel
theorem dX1_waysInto_34 : decode cX1_waysInto 34 = .ok (.invokestatic 68, 3) := by decide +kernel
theorem dX1_waysInto_37 : decode cX1_waysInto 37 = .ok (.ifCond .eq 12, 3) := by decide +kernel
theorem dX1_waysInto_40 : decode cX1_waysInto 40 = .ok (.lload 6, 2) := by decide +kernel
theorem dX1_waysInto_42 : decode cX1_waysInto 42 = .ok (.lconst 1, 1) := by decide +kernel
theorem dX1_waysInto_43 : decode cX1_waysInto 43 = .ok (.iload 8, 2) := by decide +kernel
theorem dX1_waysInto_45 : decode cX1_waysInto 45 = .ok (.lshl, 1) := by decide +kernel
theorem dX1_waysInto_46 : decode cX1_waysInto 46 = .ok (.lor, 1) := by decide +kernel
theorem dX1_waysInto_47 : decode cX1_waysInto 47 = .ok (.lstore 6, 2) := by decide +kernel
theorem dX1_waysInto_49 : decode cX1_waysInto 49 = .ok (.iinc 8 1, 3) := by decide +kernel
theorem dX1_waysInto_52 : decode cX1_waysInto 52 = .ok (.goto (-46), 3) := by decide +kernel
theorem dX1_waysInto_55 : decode cX1_waysInto 55 = .ok (.lload 6, 2) := by decide +kernel
theorem dX1_waysInto_57 : decode cX1_waysInto 57 = .ok (.lreturn, 1) := by decide +kernel
theorem dX2_init_0 : decode cX2_init 0 = .ok (.aload_n 0, 1) := by decide +kernel
theorem dX2_init_1 : decode cX2_init 1 = .ok (.invokespecial 3, 3) := by decide +kernel
theorem dX2_init_4 : decode cX2_init 4 = .ok (.aload_n 0, 1) := by decide +kernel
theorem dX2_init_5 : decode cX2_init 5 = .ok (.bipush 40, 2) := by decide +kernel
theorem dX2_init_7 : decode cX2_init 7 = .ok (.newarray .byte, 2) := by decide +kernel
theorem dX2_init_9 : decode cX2_init 9 = .ok (.putfield 9, 3) := by decide +kernel
theorem dX2_init_12 : decode cX2_init 12 = .ok (.aload_n 0, 1) := by decide +kernel
theorem dX2_init_13 : decode cX2_init 13 = .ok (.invokevirtual 15, 3) := by decide +kernel
theorem dX2_init_16 : decode cX2_init 16 = .ok (.return_, 1) := by decide +kernel
theorem dX2_becomeFalse_0 : decode cX2_becomeFalse 0 = .ok (.aload_n 0, 1) := by decide +kernel
theorem dX2_becomeFalse_1 : decode cX2_becomeFalse 1 = .ok (.getfield 9, 3) := by decide +kernel
theorem dX2_becomeFalse_4 : decode cX2_becomeFalse 4 = .ok (.iconst 0, 1) := by decide +kernel
theorem dX2_becomeFalse_5 : decode cX2_becomeFalse 5 = .ok (.bipush 7, 2) := by decide +kernel
theorem dX2_becomeFalse_7 : decode cX2_becomeFalse 7 = .ok (.bastore, 1) := by decide +kernel
theorem dX2_becomeFalse_8 : decode cX2_becomeFalse 8 = .ok (.aload_n 0, 1) := by decide +kernel
theorem dX2_becomeFalse_9 : decode cX2_becomeFalse 9 = .ok (.iconst 1, 1) := by decide +kernel
theorem dX2_becomeFalse_10 : decode cX2_becomeFalse 10 = .ok (.putfield 18, 3) := by decide +kernel
theorem dX2_becomeFalse_13 : decode cX2_becomeFalse 13 = .ok (.aload_n 0, 1) := by decide +kernel
theorem dX2_becomeFalse_14 : decode cX2_becomeFalse 14 = .ok (.lconst 0, 1) := by decide +kernel
theorem dX2_becomeFalse_15 : decode cX2_becomeFalse 15 = .ok (.putfield 22, 3) := by decide +kernel
theorem dX2_becomeFalse_18 : decode cX2_becomeFalse 18 = .ok (.return_, 1) := by decide +kernel
theorem dX2_nodeAt_0 : decode cX2_nodeAt 0 = .ok (.iload_n 1, 1) := by decide +kernel
theorem dX2_nodeAt_1 : decode cX2_nodeAt 1 = .ok (.ifCond .lt 20, 3) := by decide +kernel
theorem dX2_nodeAt_4 : decode cX2_nodeAt 4 = .ok (.iload_n 1, 1) := by decide +kernel
theorem dX2_nodeAt_5 : decode cX2_nodeAt 5 = .ok (.aload_n 0, 1) := by decide +kernel
theorem dX2_nodeAt_6 : decode cX2_nodeAt 6 = .ok (.getfield 18, 3) := by decide +kernel
theorem dX2_nodeAt_9 : decode cX2_nodeAt 9 = .ok (.if_icmp .ge 12, 3) := by decide +kernel
theorem dX2_nodeAt_12 : decode cX2_nodeAt 12 = .ok (.aload_n 0, 1) := by decide +kernel
theorem dX2_nodeAt_13 : decode cX2_nodeAt 13 = .ok (.getfield 9, 3) := by decide +kernel
theorem dX2_nodeAt_16 : decode cX2_nodeAt 16 = .ok (.iload_n 1, 1) := by decide +kernel
theorem dX2_nodeAt_17 : decode cX2_nodeAt 17 = .ok (.baload, 1) := by decide +kernel
theorem dX2_nodeAt_18 : decode cX2_nodeAt 18 = .ok (.goto 5, 3) := by decide +kernel
theorem dX2_nodeAt_21 : decode cX2_nodeAt 21 = .ok (.bipush 7, 2) := by decide +kernel
theorem dX2_nodeAt_23 : decode cX2_nodeAt 23 = .ok (.ireturn, 1) := by decide +kernel
theorem dX2_holdsIn_0 : decode cX2_holdsIn 0 = .ok (.aload_n 0, 1) := by decide +kernel
theorem dX2_holdsIn_1 : decode cX2_holdsIn 1 = .ok (.getfield 22, 3) := by decide +kernel
theorem dX2_holdsIn_4 : decode cX2_holdsIn 4 = .ok (.iload_n 1, 1) := by decide +kernel
theorem dX2_holdsIn_5 : decode cX2_holdsIn 5 = .ok (.invokestatic 26, 3) := by decide +kernel
theorem dX2_holdsIn_8 : decode cX2_holdsIn 8 = .ok (.ireturn, 1) := by decide +kernel
theorem dX2_statesInside_0 : decode cX2_statesInside 0 = .ok (.iconst 0, 1) := by decide +kernel
theorem dX2_statesInside_1 : decode cX2_statesInside 1 = .ok (.istore_n 1, 1) := by decide +kernel
theorem dX2_statesInside_2 : decode cX2_statesInside 2 = .ok (.iconst 0, 1) := by decide +kernel
theorem dX2_statesInside_3 : decode cX2_statesInside 3 = .ok (.istore_n 2, 1) := by decide +kernel
theorem dX2_statesInside_4 : decode cX2_statesInside 4 = .ok (.iload_n 2, 1) := by decide +kernel
theorem dX2_statesInside_5 : decode cX2_statesInside 5 = .ok (.aload_n 0, 1) := by decide +kernel
theorem dX2_statesInside_6 : decode cX2_statesInside 6 = .ok (.getfield 18, 3) := by decide +kernel
theorem dX2_statesInside_9 : decode cX2_statesInside 9 = .ok (.if_icmp .ge 31, 3) := by decide +kernel
theorem dX2_statesInside_12 : decode cX2_statesInside 12 = .ok (.aload_n 0, 1) := by decide +kernel
theorem dX2_statesInside_13 : decode cX2_statesInside 13 = .ok (.getfield 9, 3) := by decide +kernel
theorem dX2_statesInside_16 : decode cX2_statesInside 16 = .ok (.iload_n 2, 1) := by decide +kernel
theorem dX2_statesInside_17 : decode cX2_statesInside 17 = .ok (.baload, 1) := by decide +kernel
theorem dX2_statesInside_18 : decode cX2_statesInside 18 = .ok (.bipush 6, 2) := by decide +kernel
theorem dX2_statesInside_20 : decode cX2_statesInside 20 = .ok (.if_icmp .ge 14, 3) := by decide +kernel
theorem dX2_statesInside_23 : decode cX2_statesInside 23 = .ok (.iload_n 1, 1) := by decide +kernel
theorem dX2_statesInside_24 : decode cX2_statesInside 24 = .ok (.iconst 1, 1) := by decide +kernel
theorem dX2_statesInside_25 : decode cX2_statesInside 25 = .ok (.aload_n 0, 1) := by decide +kernel
theorem dX2_statesInside_26 : decode cX2_statesInside 26 = .ok (.getfield 9, 3) := by decide +kernel
theorem dX2_statesInside_29 : decode cX2_statesInside 29 = .ok (.iload_n 2, 1) := by decide +kernel
theorem dX2_statesInside_30 : decode cX2_statesInside 30 = .ok (.baload, 1) := by decide +kernel
theorem dX2_statesInside_31 : decode cX2_statesInside 31 = .ok (.ishl, 1) := by decide +kernel
theorem dX2_statesInside_32 : decode cX2_statesInside 32 = .ok (.ior, 1) := by decide +kernel
theorem dX2_statesInside_33 : decode cX2_statesInside 33 = .ok (.istore_n 1, 1) := by decide +kernel
theorem dX2_statesInside_34 : decode cX2_statesInside 34 = .ok (.iinc 2 1, 3) := by decide +kernel
theorem dX2_statesInside_37 : decode cX2_statesInside 37 = .ok (.goto (-33), 3) := by decide +kernel
theorem dX2_statesInside_40 : decode cX2_statesInside 40 = .ok (.iload_n 1, 1) := by decide +kernel
theorem dX2_statesInside_41 : decode cX2_statesInside 41 = .ok (.ireturn, 1) := by decide +kernel
theorem dX2_become_0 : decode cX2_become 0 = .ok (.iload_n 2, 1) := by decide +kernel
theorem dX2_become_1 : decode cX2_become 1 = .ok (.iconst 1, 1) := by decide +kernel
theorem dX2_become_2 : decode cX2_become 2 = .ok (.if_icmp .lt 15, 3) := by decide +kernel
theorem dX2_become_5 : decode cX2_become 5 = .ok (.iload_n 2, 1) := by decide +kernel
theorem dX2_become_6 : decode cX2_become 6 = .ok (.bipush 40, 2) := by decide +kernel
theorem dX2_become_8 : decode cX2_become 8 = .ok (.if_icmp .gt 9, 3) := by decide +kernel
theorem dX2_become_11 : decode cX2_become 11 = .ok (.iload_n 2, 1) := by decide +kernel
theorem dX2_become_12 : decode cX2_become 12 = .ok (.aload_n 1, 1) := by decide +kernel
theorem dX2_become_13 : decode cX2_become 13 = .ok (.arraylength, 1) := by decide +kernel
theorem dX2_become_14 : decode cX2_become 14 = .ok (.if_icmp .le 4, 3) := by decide +kernel
theorem dX2_become_17 : decode cX2_become 17 = .ok (.return_, 1) := by decide +kernel
theorem dX2_become_18 : decode cX2_become 18 = .ok (.aload_n 1, 1) := by decide +kernel
theorem dX2_become_19 : decode cX2_become 19 = .ok (.iconst 0, 1) := by decide +kernel
theorem dX2_become_20 : decode cX2_become 20 = .ok (.aload_n 0, 1) := by decide +kernel
theorem dX2_become_21 : decode cX2_become 21 = .ok (.getfield 9, 3) := by decide +kernel
theorem dX2_become_24 : decode cX2_become 24 = .ok (.iconst 0, 1) := by decide +kernel
theorem dX2_become_25 : decode cX2_become 25 = .ok (.iload_n 2, 1) := by decide +kernel
theorem dX2_become_26 : decode cX2_become 26 = .ok (.invokestatic 30, 3) := by decide +kernel
theorem dX2_become_29 : decode cX2_become 29 = .ok (.aload_n 0, 1) := by decide +kernel
theorem dX2_become_30 : decode cX2_become 30 = .ok (.iload_n 2, 1) := by decide +kernel
theorem dX2_become_31 : decode cX2_become 31 = .ok (.putfield 18, 3) := by decide +kernel
theorem dX2_become_34 : decode cX2_become 34 = .ok (.aload_n 0, 1) := by decide +kernel
theorem dX2_become_35 : decode cX2_become 35 = .ok (.lload_n 3, 1) := by decide +kernel
theorem dX2_become_36 : decode cX2_become 36 = .ok (.putfield 22, 3) := by decide +kernel
theorem dX2_become_39 : decode cX2_become 39 = .ok (.return_, 1) := by decide +kernel
theorem dX2_copy_0 : decode cX2_copy 0 = .ok (.aload_n 0, 1) := by decide +kernel
theorem dX2_copy_1 : decode cX2_copy 1 = .ok (.aload_n 1, 1) := by decide +kernel
theorem dX2_copy_2 : decode cX2_copy 2 = .ok (.getfield 9, 3) := by decide +kernel
theorem dX2_copy_5 : decode cX2_copy 5 = .ok (.aload_n 1, 1) := by decide +kernel
theorem dX2_copy_6 : decode cX2_copy 6 = .ok (.getfield 18, 3) := by decide +kernel
theorem dX2_copy_9 : decode cX2_copy 9 = .ok (.aload_n 1, 1) := by decide +kernel
theorem dX2_copy_10 : decode cX2_copy 10 = .ok (.getfield 22, 3) := by decide +kernel
theorem dX2_copy_13 : decode cX2_copy 13 = .ok (.invokevirtual 36, 3) := by decide +kernel
theorem dX2_copy_16 : decode cX2_copy 16 = .ok (.return_, 1) := by decide +kernel
theorem dX2_becomeDual_0 : decode cX2_becomeDual 0 = .ok (.iconst 0, 1) := by decide +kernel
theorem dX2_becomeDual_1 : decode cX2_becomeDual 1 = .ok (.istore_n 2, 1) := by decide +kernel
theorem dX2_becomeDual_2 : decode cX2_becomeDual 2 = .ok (.iload_n 2, 1) := by decide +kernel
theorem dX2_becomeDual_3 : decode cX2_becomeDual 3 = .ok (.aload_n 1, 1) := by decide +kernel
theorem dX2_becomeDual_4 : decode cX2_becomeDual 4 = .ok (.getfield 18, 3) := by decide +kernel
theorem dX2_becomeDual_7 : decode cX2_becomeDual 7 = .ok (.if_icmp .ge 24, 3) := by decide +kernel
theorem dX2_becomeDual_10 : decode cX2_becomeDual 10 = .ok (.aload_n 0, 1) := by decide +kernel
theorem dX2_becomeDual_11 : decode cX2_becomeDual 11 = .ok (.getfield 9, 3) := by decide +kernel
theorem dX2_becomeDual_14 : decode cX2_becomeDual 14 = .ok (.iload_n 2, 1) := by decide +kernel
theorem dX2_becomeDual_15 : decode cX2_becomeDual 15 = .ok (.aload_n 1, 1) := by decide +kernel
theorem dX2_becomeDual_16 : decode cX2_becomeDual 16 = .ok (.getfield 9, 3) := by decide +kernel
theorem dX2_becomeDual_19 : decode cX2_becomeDual 19 = .ok (.iload_n 2, 1) := by decide +kernel
theorem dX2_becomeDual_20 : decode cX2_becomeDual 20 = .ok (.baload, 1) := by decide +kernel
theorem dX2_becomeDual_21 : decode cX2_becomeDual 21 = .ok (.invokestatic 40, 3) := by decide +kernel
theorem dX2_becomeDual_24 : decode cX2_becomeDual 24 = .ok (.bastore, 1) := by decide +kernel
theorem dX2_becomeDual_25 : decode cX2_becomeDual 25 = .ok (.iinc 2 1, 3) := by decide +kernel
theorem dX2_becomeDual_28 : decode cX2_becomeDual 28 = .ok (.goto (-26), 3) := by decide +kernel
theorem dX2_becomeDual_31 : decode cX2_becomeDual 31 = .ok (.aload_n 0, 1) := by decide +kernel
theorem dX2_becomeDual_32 : decode cX2_becomeDual 32 = .ok (.aload_n 1, 1) := by decide +kernel
theorem dX2_becomeDual_33 : decode cX2_becomeDual 33 = .ok (.getfield 18, 3) := by decide +kernel
theorem dX2_becomeDual_36 : decode cX2_becomeDual 36 = .ok (.putfield 18, 3) := by decide +kernel
theorem dX2_becomeDual_39 : decode cX2_becomeDual 39 = .ok (.aload_n 0, 1) := by decide +kernel
theorem dX2_becomeDual_40 : decode cX2_becomeDual 40 = .ok (.aload_n 1, 1) := by decide +kernel
theorem dX2_becomeDual_41 : decode cX2_becomeDual 41 = .ok (.getfield 22, 3) := by decide +kernel
theorem dX2_becomeDual_44 : decode cX2_becomeDual 44 = .ok (.invokestatic 44, 3) := by decide +kernel
theorem dX2_becomeDual_47 : decode cX2_becomeDual 47 = .ok (.putfield 22, 3) := by decide +kernel
theorem dX2_becomeDual_50 : decode cX2_becomeDual 50 = .ok (.return_, 1) := by decide +kernel
theorem dX2_dualNode_0 : decode cX2_dualNode 0 = .ok (.iload_n 0, 1) := by decide +kernel
theorem dX2_dualNode_1 : decode cX2_dualNode 1 = .ok (.tableswitch 43 6 9 #[31, 34, 40, 37], 31) := by decide +kernel
theorem dX2_dualNode_32 : decode cX2_dualNode 32 = .ok (.bipush 7, 2) := by decide +kernel
theorem dX2_dualNode_34 : decode cX2_dualNode 34 = .ok (.ireturn, 1) := by decide +kernel
theorem dX2_dualNode_35 : decode cX2_dualNode 35 = .ok (.bipush 6, 2) := by decide +kernel
theorem dX2_dualNode_37 : decode cX2_dualNode 37 = .ok (.ireturn, 1) := by decide +kernel
theorem dX2_dualNode_38 : decode cX2_dualNode 38 = .ok (.bipush 8, 2) := by decide +kernel
theorem dX2_dualNode_40 : decode cX2_dualNode 40 = .ok (.ireturn, 1) := by decide +kernel
theorem dX2_dualNode_41 : decode cX2_dualNode 41 = .ok (.bipush 9, 2) := by decide +kernel
theorem dX2_dualNode_43 : decode cX2_dualNode 43 = .ok (.ireturn, 1) := by decide +kernel
theorem dX2_dualNode_44 : decode cX2_dualNode 44 = .ok (.iload_n 0, 1) := by decide +kernel
theorem dX2_dualNode_45 : decode cX2_dualNode 45 = .ok (.ireturn, 1) := by decide +kernel
theorem dX2_dualTable_0 : decode cX2_dualTable 0 = .ok (.lconst 0, 1) := by decide +kernel
theorem dX2_dualTable_1 : decode cX2_dualTable 1 = .ok (.lstore_n 2, 1) := by decide +kernel
theorem dX2_dualTable_2 : decode cX2_dualTable 2 = .ok (.iconst 0, 1) := by decide +kernel
theorem dX2_dualTable_3 : decode cX2_dualTable 3 = .ok (.istore 4, 2) := by decide +kernel
theorem dX2_dualTable_5 : decode cX2_dualTable 5 = .ok (.iload 4, 2) := by decide +kernel
theorem dX2_dualTable_7 : decode cX2_dualTable 7 = .ok (.bipush 64, 2) := by decide +kernel
theorem dX2_dualTable_9 : decode cX2_dualTable 9 = .ok (.if_icmp .ge 28, 3) := by decide +kernel
theorem dX2_dualTable_12 : decode cX2_dualTable 12 = .ok (.lload_n 0, 1) := by decide +kernel
theorem dX2_dualTable_13 : decode cX2_dualTable 13 = .ok (.bipush 63, 2) := by decide +kernel
theorem dX2_dualTable_15 : decode cX2_dualTable 15 = .ok (.iload 4, 2) := by decide +kernel
theorem dX2_dualTable_17 : decode cX2_dualTable 17 = .ok (.isub, 1) := by decide +kernel
theorem dX2_dualTable_18 : decode cX2_dualTable 18 = .ok (.invokestatic 26, 3) := by decide +kernel
theorem dX2_dualTable_21 : decode cX2_dualTable 21 = .ok (.ifCond .ne 10, 3) := by decide +kernel
theorem dX2_dualTable_24 : decode cX2_dualTable 24 = .ok (.lload_n 2, 1) := by decide +kernel
theorem dX2_dualTable_25 : decode cX2_dualTable 25 = .ok (.lconst 1, 1) := by decide +kernel
theorem dX2_dualTable_26 : decode cX2_dualTable 26 = .ok (.iload 4, 2) := by decide +kernel
theorem dX2_dualTable_28 : decode cX2_dualTable 28 = .ok (.lshl, 1) := by decide +kernel
theorem dX2_dualTable_29 : decode cX2_dualTable 29 = .ok (.lor, 1) := by decide +kernel
theorem dX2_dualTable_30 : decode cX2_dualTable 30 = .ok (.lstore_n 2, 1) := by decide +kernel
theorem dX2_dualTable_31 : decode cX2_dualTable 31 = .ok (.iinc 4 1, 3) := by decide +kernel
theorem dX2_dualTable_34 : decode cX2_dualTable 34 = .ok (.goto (-29), 3) := by decide +kernel
theorem dX2_dualTable_37 : decode cX2_dualTable 37 = .ok (.lload_n 2, 1) := by decide +kernel
theorem dX2_dualTable_38 : decode cX2_dualTable 38 = .ok (.lreturn, 1) := by decide +kernel
theorem dX2_becomeShifted_0 : decode cX2_becomeShifted 0 = .ok (.aload_n 0, 1) := by decide +kernel
theorem dX2_becomeShifted_1 : decode cX2_becomeShifted 1 = .ok (.iconst 0, 1) := by decide +kernel
theorem dX2_becomeShifted_2 : decode cX2_becomeShifted 2 = .ok (.putfield 18, 3) := by decide +kernel
theorem dX2_becomeShifted_5 : decode cX2_becomeShifted 5 = .ok (.aload_n 0, 1) := by decide +kernel
theorem dX2_becomeShifted_6 : decode cX2_becomeShifted 6 = .ok (.aload_n 1, 1) := by decide +kernel
theorem dX2_becomeShifted_7 : decode cX2_becomeShifted 7 = .ok (.iload_n 2, 1) := by decide +kernel
theorem dX2_becomeShifted_8 : decode cX2_becomeShifted 8 = .ok (.invokevirtual 48, 3) := by decide +kernel
theorem dX2_becomeShifted_11 : decode cX2_becomeShifted 11 = .ok (.aload_n 0, 1) := by decide +kernel
theorem dX2_becomeShifted_12 : decode cX2_becomeShifted 12 = .ok (.aload_n 1, 1) := by decide +kernel
theorem dX2_becomeShifted_13 : decode cX2_becomeShifted 13 = .ok (.getfield 22, 3) := by decide +kernel
theorem dX2_becomeShifted_16 : decode cX2_becomeShifted 16 = .ok (.iload_n 2, 1) := by decide +kernel
theorem dX2_becomeShifted_17 : decode cX2_becomeShifted 17 = .ok (.invokestatic 52, 3) := by decide +kernel
theorem dX2_becomeShifted_20 : decode cX2_becomeShifted 20 = .ok (.putfield 22, 3) := by decide +kernel
theorem dX2_becomeShifted_23 : decode cX2_becomeShifted 23 = .ok (.return_, 1) := by decide +kernel
theorem dX2_becomeJoin_0 : decode cX2_becomeJoin 0 = .ok (.aload_n 1, 1) := by decide +kernel
theorem dX2_becomeJoin_1 : decode cX2_becomeJoin 1 = .ok (.getfield 18, 3) := by decide +kernel
theorem dX2_becomeJoin_4 : decode cX2_becomeJoin 4 = .ok (.aload_n 2, 1) := by decide +kernel
theorem dX2_becomeJoin_5 : decode cX2_becomeJoin 5 = .ok (.getfield 18, 3) := by decide +kernel
theorem dX2_becomeJoin_8 : decode cX2_becomeJoin 8 = .ok (.iadd, 1) := by decide +kernel
theorem dX2_becomeJoin_9 : decode cX2_becomeJoin 9 = .ok (.iconst 1, 1) := by decide +kernel
theorem dX2_becomeJoin_10 : decode cX2_becomeJoin 10 = .ok (.iadd, 1) := by decide +kernel
theorem dX2_becomeJoin_11 : decode cX2_becomeJoin 11 = .ok (.bipush 40, 2) := by decide +kernel
theorem dX2_becomeJoin_13 : decode cX2_becomeJoin 13 = .ok (.if_icmp .le 4, 3) := by decide +kernel
theorem dX2_becomeJoin_16 : decode cX2_becomeJoin 16 = .ok (.return_, 1) := by decide +kernel
theorem dX2_becomeJoin_17 : decode cX2_becomeJoin 17 = .ok (.aload_n 0, 1) := by decide +kernel
theorem dX2_becomeJoin_18 : decode cX2_becomeJoin 18 = .ok (.iconst 0, 1) := by decide +kernel
theorem dX2_becomeJoin_19 : decode cX2_becomeJoin 19 = .ok (.putfield 18, 3) := by decide +kernel
theorem dX2_becomeJoin_22 : decode cX2_becomeJoin 22 = .ok (.aload_n 0, 1) := by decide +kernel
theorem dX2_becomeJoin_23 : decode cX2_becomeJoin 23 = .ok (.aload_n 1, 1) := by decide +kernel
theorem dX2_becomeJoin_24 : decode cX2_becomeJoin 24 = .ok (.iconst 0, 1) := by decide +kernel
theorem dX2_becomeJoin_25 : decode cX2_becomeJoin 25 = .ok (.invokevirtual 48, 3) := by decide +kernel
theorem dX2_becomeJoin_28 : decode cX2_becomeJoin 28 = .ok (.aload_n 0, 1) := by decide +kernel
theorem dX2_becomeJoin_29 : decode cX2_becomeJoin 29 = .ok (.aload_n 2, 1) := by decide +kernel
theorem dX2_becomeJoin_30 : decode cX2_becomeJoin 30 = .ok (.iload_n 3, 1) := by decide +kernel
theorem dX2_becomeJoin_31 : decode cX2_becomeJoin 31 = .ok (.invokevirtual 48, 3) := by decide +kernel
theorem dX2_becomeJoin_34 : decode cX2_becomeJoin 34 = .ok (.aload_n 0, 1) := by decide +kernel
theorem dX2_becomeJoin_35 : decode cX2_becomeJoin 35 = .ok (.getfield 9, 3) := by decide +kernel
theorem dX2_becomeJoin_38 : decode cX2_becomeJoin 38 = .ok (.aload_n 0, 1) := by decide +kernel
theorem dX2_becomeJoin_39 : decode cX2_becomeJoin 39 = .ok (.getfield 18, 3) := by decide +kernel
theorem dX2_becomeJoin_42 : decode cX2_becomeJoin 42 = .ok (.iload 4, 2) := by decide +kernel
theorem dX2_becomeJoin_44 : decode cX2_becomeJoin 44 = .ok (.i2b, 1) := by decide +kernel
theorem dX2_becomeJoin_45 : decode cX2_becomeJoin 45 = .ok (.bastore, 1) := by decide +kernel
theorem dX2_becomeJoin_46 : decode cX2_becomeJoin 46 = .ok (.aload_n 0, 1) := by decide +kernel
theorem dX2_becomeJoin_47 : decode cX2_becomeJoin 47 = .ok (.dup, 1) := by decide +kernel
theorem dX2_becomeJoin_48 : decode cX2_becomeJoin 48 = .ok (.getfield 18, 3) := by decide +kernel
theorem dX2_becomeJoin_51 : decode cX2_becomeJoin 51 = .ok (.iconst 1, 1) := by decide +kernel
theorem dX2_becomeJoin_52 : decode cX2_becomeJoin 52 = .ok (.iadd, 1) := by decide +kernel
theorem dX2_becomeJoin_53 : decode cX2_becomeJoin 53 = .ok (.putfield 18, 3) := by decide +kernel
theorem dX2_becomeJoin_56 : decode cX2_becomeJoin 56 = .ok (.aload_n 0, 1) := by decide +kernel
theorem dX2_becomeJoin_57 : decode cX2_becomeJoin 57 = .ok (.iload 4, 2) := by decide +kernel
theorem dX2_becomeJoin_59 : decode cX2_becomeJoin 59 = .ok (.aload_n 1, 1) := by decide +kernel
theorem dX2_becomeJoin_60 : decode cX2_becomeJoin 60 = .ok (.getfield 22, 3) := by decide +kernel
theorem dX2_becomeJoin_63 : decode cX2_becomeJoin 63 = .ok (.aload_n 2, 1) := by decide +kernel
theorem dX2_becomeJoin_64 : decode cX2_becomeJoin 64 = .ok (.getfield 22, 3) := by decide +kernel
theorem dX2_becomeJoin_67 : decode cX2_becomeJoin 67 = .ok (.iload_n 3, 1) := by decide +kernel
theorem dX2_becomeJoin_68 : decode cX2_becomeJoin 68 = .ok (.invokestatic 52, 3) := by decide +kernel
theorem dX2_becomeJoin_71 : decode cX2_becomeJoin 71 = .ok (.invokestatic 56, 3) := by decide +kernel
theorem dX2_becomeJoin_74 : decode cX2_becomeJoin 74 = .ok (.putfield 22, 3) := by decide +kernel
theorem dX2_becomeJoin_77 : decode cX2_becomeJoin 77 = .ok (.return_, 1) := by decide +kernel
theorem dX2_addShifted_0 : decode cX2_addShifted 0 = .ok (.iconst 0, 1) := by decide +kernel
theorem dX2_addShifted_1 : decode cX2_addShifted 1 = .ok (.istore_n 3, 1) := by decide +kernel
theorem dX2_addShifted_2 : decode cX2_addShifted 2 = .ok (.iload_n 3, 1) := by decide +kernel
theorem dX2_addShifted_3 : decode cX2_addShifted 3 = .ok (.aload_n 1, 1) := by decide +kernel
theorem dX2_addShifted_4 : decode cX2_addShifted 4 = .ok (.getfield 18, 3) := by decide +kernel
theorem dX2_addShifted_7 : decode cX2_addShifted 7 = .ok (.if_icmp .ge 62, 3) := by decide +kernel
theorem dX2_addShifted_10 : decode cX2_addShifted 10 = .ok (.aload_n 0, 1) := by decide +kernel
theorem dX2_addShifted_11 : decode cX2_addShifted 11 = .ok (.getfield 18, 3) := by decide +kernel
theorem dX2_addShifted_14 : decode cX2_addShifted 14 = .ok (.bipush 40, 2) := by decide +kernel
theorem dX2_addShifted_16 : decode cX2_addShifted 16 = .ok (.if_icmp .ge 53, 3) := by decide +kernel
theorem dX2_addShifted_19 : decode cX2_addShifted 19 = .ok (.aload_n 1, 1) := by decide +kernel
theorem dX2_addShifted_20 : decode cX2_addShifted 20 = .ok (.getfield 9, 3) := by decide +kernel
theorem dX2_addShifted_23 : decode cX2_addShifted 23 = .ok (.iload_n 3, 1) := by decide +kernel
theorem dX2_addShifted_24 : decode cX2_addShifted 24 = .ok (.baload, 1) := by decide +kernel
theorem dX2_addShifted_25 : decode cX2_addShifted 25 = .ok (.istore 4, 2) := by decide +kernel
theorem dX2_addShifted_27 : decode cX2_addShifted 27 = .ok (.aload_n 0, 1) := by decide +kernel
theorem dX2_addShifted_28 : decode cX2_addShifted 28 = .ok (.getfield 9, 3) := by decide +kernel
theorem dX2_addShifted_31 : decode cX2_addShifted 31 = .ok (.aload_n 0, 1) := by decide +kernel
theorem dX2_addShifted_32 : decode cX2_addShifted 32 = .ok (.getfield 18, 3) := by decide +kernel
theorem dX2_addShifted_35 : decode cX2_addShifted 35 = .ok (.iload 4, 2) := by decide +kernel
theorem dX2_addShifted_37 : decode cX2_addShifted 37 = .ok (.bipush 6, 2) := by decide +kernel
theorem dX2_addShifted_39 : decode cX2_addShifted 39 = .ok (.if_icmp .ge 10, 3) := by decide +kernel
theorem dX2_addShifted_42 : decode cX2_addShifted 42 = .ok (.iload 4, 2) := by decide +kernel
theorem dX2_addShifted_44 : decode cX2_addShifted 44 = .ok (.iload_n 2, 1) := by decide +kernel
theorem dX2_addShifted_45 : decode cX2_addShifted 45 = .ok (.iadd, 1) := by decide +kernel
theorem dX2_addShifted_46 : decode cX2_addShifted 46 = .ok (.goto 5, 3) := by decide +kernel
theorem dX2_addShifted_49 : decode cX2_addShifted 49 = .ok (.iload 4, 2) := by decide +kernel
theorem dX2_addShifted_51 : decode cX2_addShifted 51 = .ok (.i2b, 1) := by decide +kernel
theorem dX2_addShifted_52 : decode cX2_addShifted 52 = .ok (.bastore, 1) := by decide +kernel
theorem dX2_addShifted_53 : decode cX2_addShifted 53 = .ok (.aload_n 0, 1) := by decide +kernel
theorem dX2_addShifted_54 : decode cX2_addShifted 54 = .ok (.dup, 1) := by decide +kernel
theorem dX2_addShifted_55 : decode cX2_addShifted 55 = .ok (.getfield 18, 3) := by decide +kernel
theorem dX2_addShifted_58 : decode cX2_addShifted 58 = .ok (.iconst 1, 1) := by decide +kernel
theorem dX2_addShifted_59 : decode cX2_addShifted 59 = .ok (.iadd, 1) := by decide +kernel
theorem dX2_addShifted_60 : decode cX2_addShifted 60 = .ok (.putfield 18, 3) := by decide +kernel
theorem dX2_addShifted_63 : decode cX2_addShifted 63 = .ok (.iinc 3 1, 3) := by decide +kernel
theorem dX2_addShifted_66 : decode cX2_addShifted 66 = .ok (.goto (-64), 3) := by decide +kernel
theorem dX2_addShifted_69 : decode cX2_addShifted 69 = .ok (.return_, 1) := by decide +kernel
theorem dX2_shiftedTable_0 : decode cX2_shiftedTable 0 = .ok (.lconst 0, 1) := by decide +kernel
theorem dX2_shiftedTable_1 : decode cX2_shiftedTable 1 = .ok (.lstore_n 3, 1) := by decide +kernel
theorem dX2_shiftedTable_2 : decode cX2_shiftedTable 2 = .ok (.iconst 0, 1) := by decide +kernel
theorem dX2_shiftedTable_3 : decode cX2_shiftedTable 3 = .ok (.istore 5, 2) := by decide +kernel
theorem dX2_shiftedTable_5 : decode cX2_shiftedTable 5 = .ok (.iload 5, 2) := by decide +kernel
theorem dX2_shiftedTable_7 : decode cX2_shiftedTable 7 = .ok (.bipush 64, 2) := by decide +kernel
theorem dX2_shiftedTable_9 : decode cX2_shiftedTable 9 = .ok (.if_icmp .ge 27, 3) := by decide +kernel
theorem dX2_shiftedTable_12 : decode cX2_shiftedTable 12 = .ok (.lload_n 0, 1) := by decide +kernel
theorem dX2_shiftedTable_13 : decode cX2_shiftedTable 13 = .ok (.iload 5, 2) := by decide +kernel
theorem dX2_shiftedTable_15 : decode cX2_shiftedTable 15 = .ok (.iload_n 2, 1) := by decide +kernel
theorem dX2_shiftedTable_16 : decode cX2_shiftedTable 16 = .ok (.ishr, 1) := by decide +kernel
theorem dX2_shiftedTable_17 : decode cX2_shiftedTable 17 = .ok (.invokestatic 26, 3) := by decide +kernel
theorem dX2_shiftedTable_20 : decode cX2_shiftedTable 20 = .ok (.ifCond .eq 10, 3) := by decide +kernel
theorem dX2_shiftedTable_23 : decode cX2_shiftedTable 23 = .ok (.lload_n 3, 1) := by decide +kernel
theorem dX2_shiftedTable_24 : decode cX2_shiftedTable 24 = .ok (.lconst 1, 1) := by decide +kernel
theorem dX2_shiftedTable_25 : decode cX2_shiftedTable 25 = .ok (.iload 5, 2) := by decide +kernel
theorem dX2_shiftedTable_27 : decode cX2_shiftedTable 27 = .ok (.lshl, 1) := by decide +kernel
theorem dX2_shiftedTable_28 : decode cX2_shiftedTable 28 = .ok (.lor, 1) := by decide +kernel
theorem dX2_shiftedTable_29 : decode cX2_shiftedTable 29 = .ok (.lstore_n 3, 1) := by decide +kernel
theorem dX2_shiftedTable_30 : decode cX2_shiftedTable 30 = .ok (.iinc 5 1, 3) := by decide +kernel
theorem dX2_shiftedTable_33 : decode cX2_shiftedTable 33 = .ok (.goto (-28), 3) := by decide +kernel
theorem dX2_shiftedTable_36 : decode cX2_shiftedTable 36 = .ok (.lload_n 3, 1) := by decide +kernel
theorem dX2_shiftedTable_37 : decode cX2_shiftedTable 37 = .ok (.lreturn, 1) := by decide +kernel
theorem dX3_init_0 : decode cX3_init 0 = .ok (.aload_n 0, 1) := by decide +kernel
theorem dX3_init_1 : decode cX3_init 1 = .ok (.invokespecial 3, 3) := by decide +kernel
theorem dX3_init_4 : decode cX3_init 4 = .ok (.aload_n 0, 1) := by decide +kernel
theorem dX3_init_5 : decode cX3_init 5 = .ok (.bipush 120, 2) := by decide +kernel
theorem dX3_init_7 : decode cX3_init 7 = .ok (.newarray .char, 2) := by decide +kernel
theorem dX3_init_9 : decode cX3_init 9 = .ok (.putfield 9, 3) := by decide +kernel
theorem dX3_init_12 : decode cX3_init 12 = .ok (.aload_n 0, 1) := by decide +kernel
theorem dX3_init_13 : decode cX3_init 13 = .ok (.iconst 0, 1) := by decide +kernel
theorem dX3_init_14 : decode cX3_init 14 = .ok (.putfield 15, 3) := by decide +kernel
theorem dX3_init_17 : decode cX3_init 17 = .ok (.aload_n 0, 1) := by decide +kernel
theorem dX3_init_18 : decode cX3_init 18 = .ok (.bipush 40, 2) := by decide +kernel
theorem dX3_init_20 : decode cX3_init 20 = .ok (.newarray .int, 2) := by decide +kernel
theorem dX3_init_22 : decode cX3_init 22 = .ok (.putfield 19, 3) := by decide +kernel
theorem dX3_init_25 : decode cX3_init 25 = .ok (.aload_n 0, 1) := by decide +kernel
theorem dX3_init_26 : decode cX3_init 26 = .ok (.bipush 40, 2) := by decide +kernel
theorem dX3_init_28 : decode cX3_init 28 = .ok (.newarray .int, 2) := by decide +kernel
theorem dX3_init_30 : decode cX3_init 30 = .ok (.putfield 23, 3) := by decide +kernel
theorem dX3_init_33 : decode cX3_init 33 = .ok (.aload_n 0, 1) := by decide +kernel
theorem dX3_init_34 : decode cX3_init 34 = .ok (.iconst 0, 1) := by decide +kernel
theorem dX3_init_35 : decode cX3_init 35 = .ok (.putfield 26, 3) := by decide +kernel
theorem dX3_init_38 : decode cX3_init 38 = .ok (.return_, 1) := by decide +kernel
theorem dX3_write_0 : decode cX3_write 0 = .ok (.aload_n 0, 1) := by decide +kernel
theorem dX3_write_1 : decode cX3_write 1 = .ok (.iconst 0, 1) := by decide +kernel
theorem dX3_write_2 : decode cX3_write 2 = .ok (.putfield 15, 3) := by decide +kernel
theorem dX3_write_5 : decode cX3_write 5 = .ok (.aload_n 0, 1) := by decide +kernel
theorem dX3_write_6 : decode cX3_write 6 = .ok (.iconst 0, 1) := by decide +kernel
theorem dX3_write_7 : decode cX3_write 7 = .ok (.putfield 26, 3) := by decide +kernel
theorem dX3_write_10 : decode cX3_write 10 = .ok (.iconst 0, 1) := by decide +kernel
theorem dX3_write_11 : decode cX3_write 11 = .ok (.istore_n 2, 1) := by decide +kernel
theorem dX3_write_12 : decode cX3_write 12 = .ok (.iload_n 2, 1) := by decide +kernel
theorem dX3_write_13 : decode cX3_write 13 = .ok (.aload_n 1, 1) := by decide +kernel
theorem dX3_write_14 : decode cX3_write 14 = .ok (.getfield 29, 3) := by decide +kernel
theorem dX3_write_17 : decode cX3_write 17 = .ok (.if_icmp .ge 40, 3) := by decide +kernel
theorem dX3_write_20 : decode cX3_write 20 = .ok (.aload_n 1, 1) := by decide +kernel
theorem dX3_write_21 : decode cX3_write 21 = .ok (.iload_n 2, 1) := by decide +kernel
theorem dX3_write_22 : decode cX3_write 22 = .ok (.invokevirtual 34, 3) := by decide +kernel
theorem dX3_write_25 : decode cX3_write 25 = .ok (.istore_n 3, 1) := by decide +kernel
theorem dX3_write_26 : decode cX3_write 26 = .ok (.iload_n 3, 1) := by decide +kernel
theorem dX3_write_27 : decode cX3_write 27 = .ok (.bipush 9, 2) := by decide +kernel
theorem dX3_write_29 : decode cX3_write 29 = .ok (.if_icmp .eq 9, 3) := by decide +kernel
theorem dX3_write_32 : decode cX3_write 32 = .ok (.iload_n 3, 1) := by decide +kernel
theorem dX3_write_33 : decode cX3_write 33 = .ok (.bipush 8, 2) := by decide +kernel
theorem dX3_write_35 : decode cX3_write 35 = .ok (.if_icmp .ne 11, 3) := by decide +kernel
theorem dX3_write_38 : decode cX3_write 38 = .ok (.aload_n 0, 1) := by decide +kernel
theorem dX3_write_39 : decode cX3_write 39 = .ok (.iload_n 3, 1) := by decide +kernel
theorem dX3_write_40 : decode cX3_write 40 = .ok (.invokevirtual 38, 3) := by decide +kernel
theorem dX3_write_43 : decode cX3_write 43 = .ok (.goto 8, 3) := by decide +kernel
theorem dX3_write_46 : decode cX3_write 46 = .ok (.aload_n 0, 1) := by decide +kernel
theorem dX3_write_47 : decode cX3_write 47 = .ok (.iload_n 3, 1) := by decide +kernel
theorem dX3_write_48 : decode cX3_write 48 = .ok (.invokevirtual 42, 3) := by decide +kernel
theorem dX3_write_51 : decode cX3_write 51 = .ok (.iinc 2 1, 3) := by decide +kernel
theorem dX3_write_54 : decode cX3_write 54 = .ok (.goto (-42), 3) := by decide +kernel
theorem dX3_write_57 : decode cX3_write 57 = .ok (.return_, 1) := by decide +kernel
theorem dX3_addPart_0 : decode cX3_addPart 0 = .ok (.aload_n 0, 1) := by decide +kernel
theorem dX3_addPart_1 : decode cX3_addPart 1 = .ok (.getfield 26, 3) := by decide +kernel
theorem dX3_addPart_4 : decode cX3_addPart 4 = .ok (.bipush 40, 2) := by decide +kernel
theorem dX3_addPart_6 : decode cX3_addPart 6 = .ok (.if_icmp .ge 48, 3) := by decide +kernel
theorem dX3_addPart_9 : decode cX3_addPart 9 = .ok (.aload_n 0, 1) := by decide +kernel
theorem dX3_addPart_10 : decode cX3_addPart 10 = .ok (.getfield 19, 3) := by decide +kernel
theorem dX3_addPart_13 : decode cX3_addPart 13 = .ok (.aload_n 0, 1) := by decide +kernel
theorem dX3_addPart_14 : decode cX3_addPart 14 = .ok (.getfield 26, 3) := by decide +kernel
theorem dX3_addPart_17 : decode cX3_addPart 17 = .ok (.aload_n 0, 1) := by decide +kernel
theorem dX3_addPart_18 : decode cX3_addPart 18 = .ok (.getfield 15, 3) := by decide +kernel
theorem dX3_addPart_21 : decode cX3_addPart 21 = .ok (.iastore, 1) := by decide +kernel
theorem dX3_addPart_22 : decode cX3_addPart 22 = .ok (.aload_n 0, 1) := by decide +kernel
theorem dX3_addPart_23 : decode cX3_addPart 23 = .ok (.getfield 23, 3) := by decide +kernel
theorem dX3_addPart_26 : decode cX3_addPart 26 = .ok (.aload_n 0, 1) := by decide +kernel
theorem dX3_addPart_27 : decode cX3_addPart 27 = .ok (.getfield 26, 3) := by decide +kernel
theorem dX3_addPart_30 : decode cX3_addPart 30 = .ok (.iload_n 1, 1) := by decide +kernel
theorem dX3_addPart_31 : decode cX3_addPart 31 = .ok (.iastore, 1) := by decide +kernel
theorem dX3_addPart_32 : decode cX3_addPart 32 = .ok (.aload_n 0, 1) := by decide +kernel
theorem dX3_addPart_33 : decode cX3_addPart 33 = .ok (.dup, 1) := by decide +kernel
theorem dX3_addPart_34 : decode cX3_addPart 34 = .ok (.getfield 26, 3) := by decide +kernel
theorem dX3_addPart_37 : decode cX3_addPart 37 = .ok (.iconst 1, 1) := by decide +kernel
theorem dX3_addPart_38 : decode cX3_addPart 38 = .ok (.iadd, 1) := by decide +kernel
theorem dX3_addPart_39 : decode cX3_addPart 39 = .ok (.putfield 26, 3) := by decide +kernel
theorem dX3_addPart_42 : decode cX3_addPart 42 = .ok (.aload_n 0, 1) := by decide +kernel
theorem dX3_addPart_43 : decode cX3_addPart 43 = .ok (.aload_n 0, 1) := by decide +kernel
theorem dX3_addPart_44 : decode cX3_addPart 44 = .ok (.getfield 15, 3) := by decide +kernel
theorem dX3_addPart_47 : decode cX3_addPart 47 = .ok (.iload_n 1, 1) := by decide +kernel
theorem dX3_addPart_48 : decode cX3_addPart 48 = .ok (.invokestatic 45, 3) := by decide +kernel
theorem dX3_addPart_51 : decode cX3_addPart 51 = .ok (.invokevirtual 49, 3) := by decide +kernel
theorem dX3_addPart_54 : decode cX3_addPart 54 = .ok (.return_, 1) := by decide +kernel
theorem dX3_leafSign_0 : decode cX3_leafSign 0 = .ok (.iload_n 0, 1) := by decide +kernel
theorem dX3_leafSign_1 : decode cX3_leafSign 1 = .ok (.bipush 6, 2) := by decide +kernel
theorem dX3_leafSign_3 : decode cX3_leafSign 3 = .ok (.if_icmp .ne 6, 3) := by decide +kernel
theorem dX3_leafSign_6 : decode cX3_leafSign 6 = .ok (.bipush 116, 2) := by decide +kernel
theorem dX3_leafSign_8 : decode cX3_leafSign 8 = .ok (.ireturn, 1) := by decide +kernel
theorem dX3_leafSign_9 : decode cX3_leafSign 9 = .ok (.iload_n 0, 1) := by decide +kernel
theorem dX3_leafSign_10 : decode cX3_leafSign 10 = .ok (.bipush 7, 2) := by decide +kernel
theorem dX3_leafSign_12 : decode cX3_leafSign 12 = .ok (.if_icmp .ne 8, 3) := by decide +kernel
theorem dX3_leafSign_15 : decode cX3_leafSign 15 = .ok (.bipush 102, 2) := by decide +kernel
theorem dX3_leafSign_17 : decode cX3_leafSign 17 = .ok (.goto 8, 3) := by decide +kernel
theorem dX3_leafSign_20 : decode cX3_leafSign 20 = .ok (.bipush 48, 2) := by decide +kernel
theorem dX3_leafSign_22 : decode cX3_leafSign 22 = .ok (.iload_n 0, 1) := by decide +kernel
theorem dX3_leafSign_23 : decode cX3_leafSign 23 = .ok (.iadd, 1) := by decide +kernel
theorem dX3_leafSign_24 : decode cX3_leafSign 24 = .ok (.i2c, 1) := by decide +kernel
theorem dX3_leafSign_25 : decode cX3_leafSign 25 = .ok (.ireturn, 1) := by decide +kernel
theorem dX3_joinParts_0 : decode cX3_joinParts 0 = .ok (.aload_n 0, 1) := by decide +kernel
theorem dX3_joinParts_1 : decode cX3_joinParts 1 = .ok (.getfield 26, 3) := by decide +kernel
theorem dX3_joinParts_4 : decode cX3_joinParts 4 = .ok (.iconst 2, 1) := by decide +kernel
theorem dX3_joinParts_5 : decode cX3_joinParts 5 = .ok (.if_icmp .ge 4, 3) := by decide +kernel
theorem dX3_joinParts_8 : decode cX3_joinParts 8 = .ok (.return_, 1) := by decide +kernel
theorem dX3_joinParts_9 : decode cX3_joinParts 9 = .ok (.aload_n 0, 1) := by decide +kernel
theorem dX3_joinParts_10 : decode cX3_joinParts 10 = .ok (.dup, 1) := by decide +kernel
theorem dX3_joinParts_11 : decode cX3_joinParts 11 = .ok (.getfield 26, 3) := by decide +kernel
theorem dX3_joinParts_14 : decode cX3_joinParts 14 = .ok (.iconst 1, 1) := by decide +kernel
theorem dX3_joinParts_15 : decode cX3_joinParts 15 = .ok (.isub, 1) := by decide +kernel
theorem dX3_joinParts_16 : decode cX3_joinParts 16 = .ok (.putfield 26, 3) := by decide +kernel
theorem dX3_joinParts_19 : decode cX3_joinParts 19 = .ok (.aload_n 0, 1) := by decide +kernel
theorem dX3_joinParts_20 : decode cX3_joinParts 20 = .ok (.getfield 26, 3) := by decide +kernel
theorem dX3_joinParts_23 : decode cX3_joinParts 23 = .ok (.iconst 1, 1) := by decide +kernel
theorem dX3_joinParts_24 : decode cX3_joinParts 24 = .ok (.isub, 1) := by decide +kernel
theorem dX3_joinParts_25 : decode cX3_joinParts 25 = .ok (.istore_n 2, 1) := by decide +kernel
theorem dX3_joinParts_26 : decode cX3_joinParts 26 = .ok (.aload_n 0, 1) := by decide +kernel
theorem dX3_joinParts_27 : decode cX3_joinParts 27 = .ok (.getfield 26, 3) := by decide +kernel
theorem dX3_joinParts_30 : decode cX3_joinParts 30 = .ok (.istore_n 3, 1) := by decide +kernel
theorem dX3_joinParts_31 : decode cX3_joinParts 31 = .ok (.aload_n 0, 1) := by decide +kernel
theorem dX3_joinParts_32 : decode cX3_joinParts 32 = .ok (.getfield 23, 3) := by decide +kernel
theorem dX3_joinParts_35 : decode cX3_joinParts 35 = .ok (.iload_n 3, 1) := by decide +kernel
theorem dX3_joinParts_36 : decode cX3_joinParts 36 = .ok (.iaload, 1) := by decide +kernel
theorem dX3_joinParts_37 : decode cX3_joinParts 37 = .ok (.bipush 8, 2) := by decide +kernel
theorem dX3_joinParts_39 : decode cX3_joinParts 39 = .ok (.if_icmp .eq 20, 3) := by decide +kernel
theorem dX3_joinParts_42 : decode cX3_joinParts 42 = .ok (.aload_n 0, 1) := by decide +kernel
theorem dX3_joinParts_43 : decode cX3_joinParts 43 = .ok (.getfield 23, 3) := by decide +kernel
theorem dX3_joinParts_46 : decode cX3_joinParts 46 = .ok (.iload_n 3, 1) := by decide +kernel
theorem dX3_joinParts_47 : decode cX3_joinParts 47 = .ok (.iaload, 1) := by decide +kernel
theorem dX3_joinParts_48 : decode cX3_joinParts 48 = .ok (.bipush 9, 2) := by decide +kernel
theorem dX3_joinParts_50 : decode cX3_joinParts 50 = .ok (.if_icmp .ne 31, 3) := by decide +kernel
theorem dX3_joinParts_53 : decode cX3_joinParts 53 = .ok (.iload_n 1, 1) := by decide +kernel
theorem dX3_joinParts_54 : decode cX3_joinParts 54 = .ok (.bipush 9, 2) := by decide +kernel
theorem dX3_joinParts_56 : decode cX3_joinParts 56 = .ok (.if_icmp .ne 25, 3) := by decide +kernel
theorem dX3_joinParts_59 : decode cX3_joinParts 59 = .ok (.aload_n 0, 1) := by decide +kernel
theorem dX3_joinParts_60 : decode cX3_joinParts 60 = .ok (.aload_n 0, 1) := by decide +kernel
theorem dX3_joinParts_61 : decode cX3_joinParts 61 = .ok (.getfield 15, 3) := by decide +kernel
theorem dX3_joinParts_64 : decode cX3_joinParts 64 = .ok (.bipush 41, 2) := by decide +kernel
theorem dX3_joinParts_66 : decode cX3_joinParts 66 = .ok (.invokevirtual 49, 3) := by decide +kernel
theorem dX3_joinParts_69 : decode cX3_joinParts 69 = .ok (.aload_n 0, 1) := by decide +kernel
theorem dX3_joinParts_70 : decode cX3_joinParts 70 = .ok (.aload_n 0, 1) := by decide +kernel
theorem dX3_joinParts_71 : decode cX3_joinParts 71 = .ok (.getfield 19, 3) := by decide +kernel
theorem dX3_joinParts_74 : decode cX3_joinParts 74 = .ok (.iload_n 3, 1) := by decide +kernel
theorem dX3_joinParts_75 : decode cX3_joinParts 75 = .ok (.iaload, 1) := by decide +kernel
theorem dX3_joinParts_76 : decode cX3_joinParts 76 = .ok (.bipush 40, 2) := by decide +kernel
theorem dX3_joinParts_78 : decode cX3_joinParts 78 = .ok (.invokevirtual 49, 3) := by decide +kernel
theorem dX3_joinParts_81 : decode cX3_joinParts 81 = .ok (.aload_n 0, 1) := by decide +kernel
theorem dX3_joinParts_82 : decode cX3_joinParts 82 = .ok (.aload_n 0, 1) := by decide +kernel
theorem dX3_joinParts_83 : decode cX3_joinParts 83 = .ok (.getfield 19, 3) := by decide +kernel
theorem dX3_joinParts_86 : decode cX3_joinParts 86 = .ok (.iload_n 3, 1) := by decide +kernel
theorem dX3_joinParts_87 : decode cX3_joinParts 87 = .ok (.iaload, 1) := by decide +kernel
theorem dX3_joinParts_88 : decode cX3_joinParts 88 = .ok (.iload_n 1, 1) := by decide +kernel
theorem dX3_joinParts_89 : decode cX3_joinParts 89 = .ok (.bipush 9, 2) := by decide +kernel
theorem dX3_joinParts_91 : decode cX3_joinParts 91 = .ok (.if_icmp .ne 8, 3) := by decide +kernel
theorem dX3_joinParts_94 : decode cX3_joinParts 94 = .ok (.bipush 38, 2) := by decide +kernel
theorem dX3_joinParts_96 : decode cX3_joinParts 96 = .ok (.goto 5, 3) := by decide +kernel
theorem dX3_joinParts_99 : decode cX3_joinParts 99 = .ok (.bipush 124, 2) := by decide +kernel
theorem dX3_joinParts_101 : decode cX3_joinParts 101 = .ok (.invokevirtual 49, 3) := by decide +kernel
theorem dX3_joinParts_104 : decode cX3_joinParts 104 = .ok (.aload_n 0, 1) := by decide +kernel
theorem dX3_joinParts_105 : decode cX3_joinParts 105 = .ok (.getfield 23, 3) := by decide +kernel
theorem dX3_joinParts_108 : decode cX3_joinParts 108 = .ok (.iload_n 2, 1) := by decide +kernel
theorem dX3_joinParts_109 : decode cX3_joinParts 109 = .ok (.iaload, 1) := by decide +kernel
theorem dX3_joinParts_110 : decode cX3_joinParts 110 = .ok (.bipush 8, 2) := by decide +kernel
theorem dX3_joinParts_112 : decode cX3_joinParts 112 = .ok (.if_icmp .ne 33, 3) := by decide +kernel
theorem dX3_joinParts_115 : decode cX3_joinParts 115 = .ok (.iload_n 1, 1) := by decide +kernel
theorem dX3_joinParts_116 : decode cX3_joinParts 116 = .ok (.bipush 9, 2) := by decide +kernel
theorem dX3_joinParts_118 : decode cX3_joinParts 118 = .ok (.if_icmp .ne 27, 3) := by decide +kernel
theorem dX3_joinParts_121 : decode cX3_joinParts 121 = .ok (.aload_n 0, 1) := by decide +kernel
theorem dX3_joinParts_122 : decode cX3_joinParts 122 = .ok (.aload_n 0, 1) := by decide +kernel
theorem dX3_joinParts_123 : decode cX3_joinParts 123 = .ok (.getfield 19, 3) := by decide +kernel
theorem dX3_joinParts_126 : decode cX3_joinParts 126 = .ok (.iload_n 3, 1) := by decide +kernel
theorem dX3_joinParts_127 : decode cX3_joinParts 127 = .ok (.iaload, 1) := by decide +kernel
theorem dX3_joinParts_128 : decode cX3_joinParts 128 = .ok (.bipush 41, 2) := by decide +kernel
theorem dX3_joinParts_130 : decode cX3_joinParts 130 = .ok (.invokevirtual 49, 3) := by decide +kernel
theorem dX3_joinParts_133 : decode cX3_joinParts 133 = .ok (.aload_n 0, 1) := by decide +kernel
theorem dX3_joinParts_134 : decode cX3_joinParts 134 = .ok (.aload_n 0, 1) := by decide +kernel
theorem dX3_joinParts_135 : decode cX3_joinParts 135 = .ok (.getfield 19, 3) := by decide +kernel
theorem dX3_joinParts_138 : decode cX3_joinParts 138 = .ok (.iload_n 2, 1) := by decide +kernel
theorem dX3_joinParts_139 : decode cX3_joinParts 139 = .ok (.iaload, 1) := by decide +kernel
theorem dX3_joinParts_140 : decode cX3_joinParts 140 = .ok (.bipush 40, 2) := by decide +kernel
theorem dX3_joinParts_142 : decode cX3_joinParts 142 = .ok (.invokevirtual 49, 3) := by decide +kernel
theorem dX3_joinParts_145 : decode cX3_joinParts 145 = .ok (.aload_n 0, 1) := by decide +kernel
theorem dX3_joinParts_146 : decode cX3_joinParts 146 = .ok (.getfield 23, 3) := by decide +kernel
theorem dX3_joinParts_149 : decode cX3_joinParts 149 = .ok (.iload_n 2, 1) := by decide +kernel
theorem dX3_joinParts_150 : decode cX3_joinParts 150 = .ok (.iload_n 1, 1) := by decide +kernel
theorem dX3_joinParts_151 : decode cX3_joinParts 151 = .ok (.iastore, 1) := by decide +kernel
theorem dX3_joinParts_152 : decode cX3_joinParts 152 = .ok (.return_, 1) := by decide +kernel
theorem dX3_insert_0 : decode cX3_insert 0 = .ok (.iload_n 1, 1) := by decide +kernel
theorem dX3_insert_1 : decode cX3_insert 1 = .ok (.ifCond .lt 20, 3) := by decide +kernel
theorem dX3_insert_4 : decode cX3_insert 4 = .ok (.iload_n 1, 1) := by decide +kernel
theorem dX3_insert_5 : decode cX3_insert 5 = .ok (.aload_n 0, 1) := by decide +kernel
theorem dX3_insert_6 : decode cX3_insert 6 = .ok (.getfield 15, 3) := by decide +kernel
theorem dX3_insert_9 : decode cX3_insert 9 = .ok (.if_icmp .gt 12, 3) := by decide +kernel
theorem dX3_insert_12 : decode cX3_insert 12 = .ok (.aload_n 0, 1) := by decide +kernel
theorem dX3_insert_13 : decode cX3_insert 13 = .ok (.getfield 15, 3) := by decide +kernel
theorem dX3_insert_16 : decode cX3_insert 16 = .ok (.bipush 120, 2) := by decide +kernel
theorem dX3_insert_18 : decode cX3_insert 18 = .ok (.if_icmp .lt 4, 3) := by decide +kernel
theorem dX3_insert_21 : decode cX3_insert 21 = .ok (.return_, 1) := by decide +kernel
theorem dX3_insert_22 : decode cX3_insert 22 = .ok (.aload_n 0, 1) := by decide +kernel
theorem dX3_insert_23 : decode cX3_insert 23 = .ok (.getfield 15, 3) := by decide +kernel
theorem dX3_insert_26 : decode cX3_insert 26 = .ok (.istore_n 3, 1) := by decide +kernel
theorem dX3_insert_27 : decode cX3_insert 27 = .ok (.iload_n 3, 1) := by decide +kernel
theorem dX3_insert_28 : decode cX3_insert 28 = .ok (.iload_n 1, 1) := by decide +kernel
theorem dX3_insert_29 : decode cX3_insert 29 = .ok (.if_icmp .le 23, 3) := by decide +kernel
theorem dX3_insert_32 : decode cX3_insert 32 = .ok (.aload_n 0, 1) := by decide +kernel
theorem dX3_insert_33 : decode cX3_insert 33 = .ok (.getfield 9, 3) := by decide +kernel
theorem dX3_insert_36 : decode cX3_insert 36 = .ok (.iload_n 3, 1) := by decide +kernel
theorem dX3_insert_37 : decode cX3_insert 37 = .ok (.aload_n 0, 1) := by decide +kernel
theorem dX3_insert_38 : decode cX3_insert 38 = .ok (.getfield 9, 3) := by decide +kernel
theorem dX3_insert_41 : decode cX3_insert 41 = .ok (.iload_n 3, 1) := by decide +kernel
theorem dX3_insert_42 : decode cX3_insert 42 = .ok (.iconst 1, 1) := by decide +kernel
theorem dX3_insert_43 : decode cX3_insert 43 = .ok (.isub, 1) := by decide +kernel
theorem dX3_insert_44 : decode cX3_insert 44 = .ok (.caload, 1) := by decide +kernel
theorem dX3_insert_45 : decode cX3_insert 45 = .ok (.castore, 1) := by decide +kernel
theorem dX3_insert_46 : decode cX3_insert 46 = .ok (.iinc 3 (-1), 3) := by decide +kernel
theorem dX3_insert_49 : decode cX3_insert 49 = .ok (.goto (-22), 3) := by decide +kernel
theorem dX3_insert_52 : decode cX3_insert 52 = .ok (.aload_n 0, 1) := by decide +kernel
theorem dX3_insert_53 : decode cX3_insert 53 = .ok (.getfield 9, 3) := by decide +kernel
theorem dX3_insert_56 : decode cX3_insert 56 = .ok (.iload_n 1, 1) := by decide +kernel
theorem dX3_insert_57 : decode cX3_insert 57 = .ok (.iload_n 2, 1) := by decide +kernel
theorem dX3_insert_58 : decode cX3_insert 58 = .ok (.castore, 1) := by decide +kernel
theorem dX3_insert_59 : decode cX3_insert 59 = .ok (.aload_n 0, 1) := by decide +kernel
theorem dX3_insert_60 : decode cX3_insert 60 = .ok (.dup, 1) := by decide +kernel
theorem dX3_insert_61 : decode cX3_insert 61 = .ok (.getfield 15, 3) := by decide +kernel
theorem dX3_insert_64 : decode cX3_insert 64 = .ok (.iconst 1, 1) := by decide +kernel
theorem dX3_insert_65 : decode cX3_insert 65 = .ok (.iadd, 1) := by decide +kernel
theorem dX3_insert_66 : decode cX3_insert 66 = .ok (.putfield 15, 3) := by decide +kernel
theorem dX3_insert_69 : decode cX3_insert 69 = .ok (.return_, 1) := by decide +kernel
theorem dX4_init_0 : decode cX4_init 0 = .ok (.aload_n 0, 1) := by decide +kernel
theorem dX4_init_1 : decode cX4_init 1 = .ok (.invokespecial 3, 3) := by decide +kernel
theorem dX4_init_4 : decode cX4_init 4 = .ok (.aload_n 0, 1) := by decide +kernel
theorem dX4_init_5 : decode cX4_init 5 = .ok (.bipush 60, 2) := by decide +kernel
theorem dX4_init_7 : decode cX4_init 7 = .ok (.newarray .char, 2) := by decide +kernel
theorem dX4_init_9 : decode cX4_init 9 = .ok (.putfield 9, 3) := by decide +kernel
theorem dX4_init_12 : decode cX4_init 12 = .ok (.aload_n 0, 1) := by decide +kernel
theorem dX4_init_13 : decode cX4_init 13 = .ok (.bipush 60, 2) := by decide +kernel
theorem dX4_init_15 : decode cX4_init 15 = .ok (.newarray .byte, 2) := by decide +kernel
theorem dX4_init_17 : decode cX4_init 17 = .ok (.putfield 15, 3) := by decide +kernel
theorem dX4_init_20 : decode cX4_init 20 = .ok (.aload_n 0, 1) := by decide +kernel
theorem dX4_init_21 : decode cX4_init 21 = .ok (.bipush 60, 2) := by decide +kernel
theorem dX4_init_23 : decode cX4_init 23 = .ok (.newarray .long, 2) := by decide +kernel
theorem dX4_init_25 : decode cX4_init 25 = .ok (.putfield 19, 3) := by decide +kernel
theorem dX4_init_28 : decode cX4_init 28 = .ok (.aload_n 0, 1) := by decide +kernel
theorem dX4_init_29 : decode cX4_init 29 = .ok (.bipush 60, 2) := by decide +kernel
theorem dX4_init_31 : decode cX4_init 31 = .ok (.newarray .byte, 2) := by decide +kernel
theorem dX4_init_33 : decode cX4_init 33 = .ok (.putfield 23, 3) := by decide +kernel
theorem dX4_init_36 : decode cX4_init 36 = .ok (.aload_n 0, 1) := by decide +kernel
theorem dX4_init_37 : decode cX4_init 37 = .ok (.iconst 0, 1) := by decide +kernel
theorem dX4_init_38 : decode cX4_init 38 = .ok (.putfield 26, 3) := by decide +kernel
theorem dX4_init_41 : decode cX4_init 41 = .ok (.aload_n 0, 1) := by decide +kernel
theorem dX4_init_42 : decode cX4_init 42 = .ok (.iconst 0, 1) := by decide +kernel
theorem dX4_init_43 : decode cX4_init 43 = .ok (.putfield 30, 3) := by decide +kernel
theorem dX4_init_46 : decode cX4_init 46 = .ok (.aload_n 0, 1) := by decide +kernel
theorem dX4_init_47 : decode cX4_init 47 = .ok (.iconst 0, 1) := by decide +kernel
theorem dX4_init_48 : decode cX4_init 48 = .ok (.putfield 33, 3) := by decide +kernel
theorem dX4_init_51 : decode cX4_init 51 = .ok (.aload_n 0, 1) := by decide +kernel
theorem dX4_init_52 : decode cX4_init 52 = .ok (.iconst 0, 1) := by decide +kernel
theorem dX4_init_53 : decode cX4_init 53 = .ok (.putfield 36, 3) := by decide +kernel
theorem dX4_init_56 : decode cX4_init 56 = .ok (.aload_n 0, 1) := by decide +kernel
theorem dX4_init_57 : decode cX4_init 57 = .ok (.iconst 0, 1) := by decide +kernel
theorem dX4_init_58 : decode cX4_init 58 = .ok (.putfield 39, 3) := by decide +kernel
theorem dX4_init_61 : decode cX4_init 61 = .ok (.return_, 1) := by decide +kernel
theorem dX4_add_0 : decode cX4_add 0 = .ok (.iconst 0, 1) := by decide +kernel
theorem dX4_add_1 : decode cX4_add 1 = .ok (.istore_n 3, 1) := by decide +kernel
theorem dX4_add_2 : decode cX4_add 2 = .ok (.iload_n 3, 1) := by decide +kernel
theorem dX4_add_3 : decode cX4_add 3 = .ok (.iload_n 2, 1) := by decide +kernel
theorem dX4_add_4 : decode cX4_add 4 = .ok (.if_icmp .ge 38, 3) := by decide +kernel
theorem dX4_add_7 : decode cX4_add 7 = .ok (.aload_n 0, 1) := by decide +kernel
theorem dX4_add_8 : decode cX4_add 8 = .ok (.getfield 26, 3) := by decide +kernel
theorem dX4_add_11 : decode cX4_add 11 = .ok (.bipush 60, 2) := by decide +kernel
theorem dX4_add_13 : decode cX4_add 13 = .ok (.if_icmp .ge 29, 3) := by decide +kernel
theorem dX4_add_16 : decode cX4_add 16 = .ok (.aload_n 0, 1) := by decide +kernel
theorem dX4_add_17 : decode cX4_add 17 = .ok (.getfield 9, 3) := by decide +kernel
theorem dX4_add_20 : decode cX4_add 20 = .ok (.aload_n 0, 1) := by decide +kernel
theorem dX4_add_21 : decode cX4_add 21 = .ok (.getfield 26, 3) := by decide +kernel
theorem dX4_add_24 : decode cX4_add 24 = .ok (.iload_n 1, 1) := by decide +kernel
theorem dX4_add_25 : decode cX4_add 25 = .ok (.castore, 1) := by decide +kernel
theorem dX4_add_26 : decode cX4_add 26 = .ok (.aload_n 0, 1) := by decide +kernel
theorem dX4_add_27 : decode cX4_add 27 = .ok (.dup, 1) := by decide +kernel
theorem dX4_add_28 : decode cX4_add 28 = .ok (.getfield 26, 3) := by decide +kernel
theorem dX4_add_31 : decode cX4_add 31 = .ok (.iconst 1, 1) := by decide +kernel
theorem dX4_add_32 : decode cX4_add 32 = .ok (.iadd, 1) := by decide +kernel
theorem dX4_add_33 : decode cX4_add 33 = .ok (.putfield 26, 3) := by decide +kernel
theorem dX4_add_36 : decode cX4_add 36 = .ok (.iinc 3 1, 3) := by decide +kernel
theorem dX4_add_39 : decode cX4_add 39 = .ok (.goto (-37), 3) := by decide +kernel
theorem dX4_add_42 : decode cX4_add 42 = .ok (.return_, 1) := by decide +kernel
theorem dX4_readInto_0 : decode cX4_readInto 0 = .ok (.aload_n 0, 1) := by decide +kernel
theorem dX4_readInto_1 : decode cX4_readInto 1 = .ok (.iload_n 2, 1) := by decide +kernel
theorem dX4_readInto_2 : decode cX4_readInto 2 = .ok (.invokevirtual 42, 3) := by decide +kernel
theorem dX4_readInto_5 : decode cX4_readInto 5 = .ok (.istore_n 3, 1) := by decide +kernel
theorem dX4_readInto_6 : decode cX4_readInto 6 = .ok (.iload_n 3, 1) := by decide +kernel
theorem dX4_readInto_7 : decode cX4_readInto 7 = .ok (.iconst (-1), 1) := by decide +kernel
theorem dX4_readInto_8 : decode cX4_readInto 8 = .ok (.if_icmp .eq 8, 3) := by decide +kernel
theorem dX4_readInto_11 : decode cX4_readInto 11 = .ok (.bipush (-100), 2) := by decide +kernel
theorem dX4_readInto_13 : decode cX4_readInto 13 = .ok (.iload_n 3, 1) := by decide +kernel
theorem dX4_readInto_14 : decode cX4_readInto 14 = .ok (.isub, 1) := by decide +kernel
theorem dX4_readInto_15 : decode cX4_readInto 15 = .ok (.ireturn, 1) := by decide +kernel
theorem dX4_readInto_16 : decode cX4_readInto 16 = .ok (.aload_n 0, 1) := by decide +kernel
theorem dX4_readInto_17 : decode cX4_readInto 17 = .ok (.getfield 30, 3) := by decide +kernel
theorem dX4_readInto_20 : decode cX4_readInto 20 = .ok (.bipush 40, 2) := by decide +kernel
theorem dX4_readInto_22 : decode cX4_readInto 22 = .ok (.if_icmp .le 6, 3) := by decide +kernel
theorem dX4_readInto_25 : decode cX4_readInto 25 = .ok (.bipush (-3), 2) := by decide +kernel
theorem dX4_readInto_27 : decode cX4_readInto 27 = .ok (.ireturn, 1) := by decide +kernel
theorem dX4_readInto_28 : decode cX4_readInto 28 = .ok (.aload_n 1, 1) := by decide +kernel
theorem dX4_readInto_29 : decode cX4_readInto 29 = .ok (.aload_n 0, 1) := by decide +kernel
theorem dX4_readInto_30 : decode cX4_readInto 30 = .ok (.getfield 15, 3) := by decide +kernel
theorem dX4_readInto_33 : decode cX4_readInto 33 = .ok (.aload_n 0, 1) := by decide +kernel
theorem dX4_readInto_34 : decode cX4_readInto 34 = .ok (.getfield 30, 3) := by decide +kernel
theorem dX4_readInto_37 : decode cX4_readInto 37 = .ok (.aload_n 0, 1) := by decide +kernel
theorem dX4_readInto_38 : decode cX4_readInto 38 = .ok (.getfield 19, 3) := by decide +kernel
theorem dX4_readInto_41 : decode cX4_readInto 41 = .ok (.iconst 0, 1) := by decide +kernel
theorem dX4_readInto_42 : decode cX4_readInto 42 = .ok (.laload, 1) := by decide +kernel
theorem dX4_readInto_43 : decode cX4_readInto 43 = .ok (.invokevirtual 46, 3) := by decide +kernel
theorem dX4_readInto_46 : decode cX4_readInto 46 = .ok (.aload_n 0, 1) := by decide +kernel
theorem dX4_readInto_47 : decode cX4_readInto 47 = .ok (.getfield 30, 3) := by decide +kernel
theorem dX4_readInto_50 : decode cX4_readInto 50 = .ok (.ireturn, 1) := by decide +kernel
theorem dX4_parse_0 : decode cX4_parse 0 = .ok (.aload_n 0, 1) := by decide +kernel
theorem dX4_parse_1 : decode cX4_parse 1 = .ok (.iconst 0, 1) := by decide +kernel
theorem dX4_parse_2 : decode cX4_parse 2 = .ok (.putfield 30, 3) := by decide +kernel
theorem dX4_parse_5 : decode cX4_parse 5 = .ok (.aload_n 0, 1) := by decide +kernel
theorem dX4_parse_6 : decode cX4_parse 6 = .ok (.iconst 0, 1) := by decide +kernel
theorem dX4_parse_7 : decode cX4_parse 7 = .ok (.putfield 33, 3) := by decide +kernel
theorem dX4_parse_10 : decode cX4_parse 10 = .ok (.aload_n 0, 1) := by decide +kernel
theorem dX4_parse_11 : decode cX4_parse 11 = .ok (.iconst 0, 1) := by decide +kernel
theorem dX4_parse_12 : decode cX4_parse 12 = .ok (.putfield 36, 3) := by decide +kernel
theorem dX4_parse_15 : decode cX4_parse 15 = .ok (.aload_n 0, 1) := by decide +kernel
theorem dX4_parse_16 : decode cX4_parse 16 = .ok (.iconst 0, 1) := by decide +kernel
theorem dX4_parse_17 : decode cX4_parse 17 = .ok (.putfield 39, 3) := by decide +kernel
theorem dX4_parse_20 : decode cX4_parse 20 = .ok (.iconst 1, 1) := by decide +kernel
theorem dX4_parse_21 : decode cX4_parse 21 = .ok (.istore_n 2, 1) := by decide +kernel
theorem dX4_parse_22 : decode cX4_parse 22 = .ok (.iconst 0, 1) := by decide +kernel
theorem dX4_parse_23 : decode cX4_parse 23 = .ok (.istore_n 3, 1) := by decide +kernel
theorem dX4_parse_24 : decode cX4_parse 24 = .ok (.iload_n 3, 1) := by decide +kernel
theorem dX4_parse_25 : decode cX4_parse 25 = .ok (.aload_n 0, 1) := by decide +kernel
theorem dX4_parse_26 : decode cX4_parse 26 = .ok (.getfield 26, 3) := by decide +kernel
theorem dX4_parse_29 : decode cX4_parse 29 = .ok (.if_icmp .ge 126, 3) := by decide +kernel
theorem dX4_parse_32 : decode cX4_parse 32 = .ok (.aload_n 0, 1) := by decide +kernel
theorem dX4_parse_33 : decode cX4_parse 33 = .ok (.getfield 9, 3) := by decide +kernel
theorem dX4_parse_36 : decode cX4_parse 36 = .ok (.iload_n 3, 1) := by decide +kernel
theorem dX4_parse_37 : decode cX4_parse 37 = .ok (.caload, 1) := by decide +kernel
theorem dX4_parse_38 : decode cX4_parse 38 = .ok (.istore 4, 2) := by decide +kernel
theorem dX4_parse_40 : decode cX4_parse 40 = .ok (.iload_n 2, 1) := by decide +kernel
theorem dX4_parse_41 : decode cX4_parse 41 = .ok (.ifCond .eq 17, 3) := by decide +kernel
theorem dX4_parse_44 : decode cX4_parse 44 = .ok (.iload 4, 2) := by decide +kernel
theorem dX4_parse_46 : decode cX4_parse 46 = .ok (.bipush 40, 2) := by decide +kernel
theorem dX4_parse_48 : decode cX4_parse 48 = .ok (.if_icmp .ne 10, 3) := by decide +kernel
theorem dX4_parse_51 : decode cX4_parse 51 = .ok (.aload_n 0, 1) := by decide +kernel
theorem dX4_parse_52 : decode cX4_parse 52 = .ok (.invokevirtual 52, 3) := by decide +kernel
theorem dX4_parse_55 : decode cX4_parse 55 = .ok (.goto 94, 3) := by decide +kernel
theorem dX4_parse_58 : decode cX4_parse 58 = .ok (.iload_n 2, 1) := by decide +kernel
theorem dX4_parse_59 : decode cX4_parse 59 = .ok (.ifCond .eq 30, 3) := by decide +kernel
theorem dX4_parse_62 : decode cX4_parse 62 = .ok (.iload 4, 2) := by decide +kernel
theorem dX4_parse_64 : decode cX4_parse 64 = .ok (.iload_n 1, 1) := by decide +kernel
theorem dX4_parse_65 : decode cX4_parse 65 = .ok (.invokestatic 55, 3) := by decide +kernel
theorem dX4_parse_68 : decode cX4_parse 68 = .ok (.istore 5, 2) := by decide +kernel
theorem dX4_parse_70 : decode cX4_parse 70 = .ok (.iload 5, 2) := by decide +kernel
theorem dX4_parse_72 : decode cX4_parse 72 = .ok (.iconst (-1), 1) := by decide +kernel
theorem dX4_parse_73 : decode cX4_parse 73 = .ok (.if_icmp .ne 5, 3) := by decide +kernel
theorem dX4_parse_76 : decode cX4_parse 76 = .ok (.iload_n 3, 1) := by decide +kernel
theorem dX4_parse_77 : decode cX4_parse 77 = .ok (.ireturn, 1) := by decide +kernel
theorem dX4_parse_78 : decode cX4_parse 78 = .ok (.aload_n 0, 1) := by decide +kernel
theorem dX4_parse_79 : decode cX4_parse 79 = .ok (.iload 5, 2) := by decide +kernel
theorem dX4_parse_81 : decode cX4_parse 81 = .ok (.invokevirtual 59, 3) := by decide +kernel
theorem dX4_parse_84 : decode cX4_parse 84 = .ok (.iconst 0, 1) := by decide +kernel
theorem dX4_parse_85 : decode cX4_parse 85 = .ok (.istore_n 2, 1) := by decide +kernel
theorem dX4_parse_86 : decode cX4_parse 86 = .ok (.goto 63, 3) := by decide +kernel
theorem dX4_parse_89 : decode cX4_parse 89 = .ok (.iload 4, 2) := by decide +kernel
theorem dX4_parse_91 : decode cX4_parse 91 = .ok (.bipush 41, 2) := by decide +kernel
theorem dX4_parse_93 : decode cX4_parse 93 = .ok (.if_icmp .ne 17, 3) := by decide +kernel
theorem dX4_parse_96 : decode cX4_parse 96 = .ok (.aload_n 0, 1) := by decide +kernel
theorem dX4_parse_97 : decode cX4_parse 97 = .ok (.getfield 39, 3) := by decide +kernel
theorem dX4_parse_100 : decode cX4_parse 100 = .ok (.ifCond .le 10, 3) := by decide +kernel
theorem dX4_parse_103 : decode cX4_parse 103 = .ok (.aload_n 0, 1) := by decide +kernel
theorem dX4_parse_104 : decode cX4_parse 104 = .ok (.invokevirtual 63, 3) := by decide +kernel
theorem dX4_parse_107 : decode cX4_parse 107 = .ok (.goto 42, 3) := by decide +kernel
theorem dX4_parse_110 : decode cX4_parse 110 = .ok (.iload 4, 2) := by decide +kernel
theorem dX4_parse_112 : decode cX4_parse 112 = .ok (.bipush 38, 2) := by decide +kernel
theorem dX4_parse_114 : decode cX4_parse 114 = .ok (.if_icmp .eq 10, 3) := by decide +kernel
theorem dX4_parse_117 : decode cX4_parse 117 = .ok (.iload 4, 2) := by decide +kernel
theorem dX4_parse_119 : decode cX4_parse 119 = .ok (.bipush 124, 2) := by decide +kernel
theorem dX4_parse_121 : decode cX4_parse 121 = .ok (.if_icmp .ne 26, 3) := by decide +kernel
theorem dX4_parse_124 : decode cX4_parse 124 = .ok (.aload_n 0, 1) := by decide +kernel
theorem dX4_parse_125 : decode cX4_parse 125 = .ok (.iload 4, 2) := by decide +kernel
theorem dX4_parse_127 : decode cX4_parse 127 = .ok (.bipush 38, 2) := by decide +kernel
theorem dX4_parse_129 : decode cX4_parse 129 = .ok (.if_icmp .ne 8, 3) := by decide +kernel
theorem dX4_parse_132 : decode cX4_parse 132 = .ok (.bipush 9, 2) := by decide +kernel
theorem dX4_parse_134 : decode cX4_parse 134 = .ok (.goto 5, 3) := by decide +kernel
theorem dX4_parse_137 : decode cX4_parse 137 = .ok (.bipush 8, 2) := by decide +kernel
theorem dX4_parse_139 : decode cX4_parse 139 = .ok (.invokevirtual 66, 3) := by decide +kernel
theorem dX4_parse_142 : decode cX4_parse 142 = .ok (.iconst 1, 1) := by decide +kernel
theorem dX4_parse_143 : decode cX4_parse 143 = .ok (.istore_n 2, 1) := by decide +kernel
theorem dX4_parse_144 : decode cX4_parse 144 = .ok (.goto 5, 3) := by decide +kernel
theorem dX4_parse_147 : decode cX4_parse 147 = .ok (.iload_n 3, 1) := by decide +kernel
theorem dX4_parse_148 : decode cX4_parse 148 = .ok (.ireturn, 1) := by decide +kernel
theorem dX4_parse_149 : decode cX4_parse 149 = .ok (.iinc 3 1, 3) := by decide +kernel
theorem dX4_parse_152 : decode cX4_parse 152 = .ok (.goto (-128), 3) := by decide +kernel
theorem dX4_parse_155 : decode cX4_parse 155 = .ok (.iload_n 2, 1) := by decide +kernel
theorem dX4_parse_156 : decode cX4_parse 156 = .ok (.ifCond .ne 10, 3) := by decide +kernel
theorem dX4_parse_159 : decode cX4_parse 159 = .ok (.aload_n 0, 1) := by decide +kernel
theorem dX4_parse_160 : decode cX4_parse 160 = .ok (.getfield 39, 3) := by decide +kernel
theorem dX4_parse_163 : decode cX4_parse 163 = .ok (.ifCond .le 8, 3) := by decide +kernel
theorem dX4_parse_166 : decode cX4_parse 166 = .ok (.aload_n 0, 1) := by decide +kernel
theorem dX4_parse_167 : decode cX4_parse 167 = .ok (.getfield 26, 3) := by decide +kernel
theorem dX4_parse_170 : decode cX4_parse 170 = .ok (.ireturn, 1) := by decide +kernel
theorem dX4_parse_171 : decode cX4_parse 171 = .ok (.aload_n 0, 1) := by decide +kernel
theorem dX4_parse_172 : decode cX4_parse 172 = .ok (.bipush 8, 2) := by decide +kernel
theorem dX4_parse_174 : decode cX4_parse 174 = .ok (.invokevirtual 69, 3) := by decide +kernel
theorem dX4_parse_177 : decode cX4_parse 177 = .ok (.iconst (-1), 1) := by decide +kernel
theorem dX4_parse_178 : decode cX4_parse 178 = .ok (.ireturn, 1) := by decide +kernel
theorem dX4_leafFor_0 : decode cX4_leafFor 0 = .ok (.iload_n 0, 1) := by decide +kernel
theorem dX4_leafFor_1 : decode cX4_leafFor 1 = .ok (.bipush 116, 2) := by decide +kernel
theorem dX4_leafFor_3 : decode cX4_leafFor 3 = .ok (.if_icmp .ne 6, 3) := by decide +kernel
theorem dX4_leafFor_6 : decode cX4_leafFor 6 = .ok (.bipush 6, 2) := by decide +kernel
theorem dX4_leafFor_8 : decode cX4_leafFor 8 = .ok (.ireturn, 1) := by decide +kernel
theorem dX4_leafFor_9 : decode cX4_leafFor 9 = .ok (.iload_n 0, 1) := by decide +kernel
theorem dX4_leafFor_10 : decode cX4_leafFor 10 = .ok (.bipush 102, 2) := by decide +kernel
theorem dX4_leafFor_12 : decode cX4_leafFor 12 = .ok (.if_icmp .ne 6, 3) := by decide +kernel
theorem dX4_leafFor_15 : decode cX4_leafFor 15 = .ok (.bipush 7, 2) := by decide +kernel
theorem dX4_leafFor_17 : decode cX4_leafFor 17 = .ok (.ireturn, 1) := by decide +kernel
theorem dX4_leafFor_18 : decode cX4_leafFor 18 = .ok (.iload_n 0, 1) := by decide +kernel
theorem dX4_leafFor_19 : decode cX4_leafFor 19 = .ok (.bipush 48, 2) := by decide +kernel
theorem dX4_leafFor_21 : decode cX4_leafFor 21 = .ok (.isub, 1) := by decide +kernel
theorem dX4_leafFor_22 : decode cX4_leafFor 22 = .ok (.istore_n 2, 1) := by decide +kernel
theorem dX4_leafFor_23 : decode cX4_leafFor 23 = .ok (.iload_n 2, 1) := by decide +kernel
theorem dX4_leafFor_24 : decode cX4_leafFor 24 = .ok (.ifCond .lt 12, 3) := by decide +kernel
theorem dX4_leafFor_27 : decode cX4_leafFor 27 = .ok (.iload_n 2, 1) := by decide +kernel
theorem dX4_leafFor_28 : decode cX4_leafFor 28 = .ok (.iload_n 1, 1) := by decide +kernel
theorem dX4_leafFor_29 : decode cX4_leafFor 29 = .ok (.if_icmp .ge 7, 3) := by decide +kernel
theorem dX4_leafFor_32 : decode cX4_leafFor 32 = .ok (.iload_n 2, 1) := by decide +kernel
theorem dX4_leafFor_33 : decode cX4_leafFor 33 = .ok (.goto 4, 3) := by decide +kernel
theorem dX4_leafFor_36 : decode cX4_leafFor 36 = .ok (.iconst (-1), 1) := by decide +kernel
theorem dX4_leafFor_37 : decode cX4_leafFor 37 = .ok (.ireturn, 1) := by decide +kernel
theorem dX4_addLeaf_0 : decode cX4_addLeaf 0 = .ok (.aload_n 0, 1) := by decide +kernel
theorem dX4_addLeaf_1 : decode cX4_addLeaf 1 = .ok (.iload_n 1, 1) := by decide +kernel
theorem dX4_addLeaf_2 : decode cX4_addLeaf 2 = .ok (.invokevirtual 72, 3) := by decide +kernel
theorem dX4_addLeaf_5 : decode cX4_addLeaf 5 = .ok (.aload_n 0, 1) := by decide +kernel
theorem dX4_addLeaf_6 : decode cX4_addLeaf 6 = .ok (.getfield 33, 3) := by decide +kernel
theorem dX4_addLeaf_9 : decode cX4_addLeaf 9 = .ok (.bipush 60, 2) := by decide +kernel
theorem dX4_addLeaf_11 : decode cX4_addLeaf 11 = .ok (.if_icmp .ge 26, 3) := by decide +kernel
theorem dX4_addLeaf_14 : decode cX4_addLeaf 14 = .ok (.aload_n 0, 1) := by decide +kernel
theorem dX4_addLeaf_15 : decode cX4_addLeaf 15 = .ok (.getfield 19, 3) := by decide +kernel
theorem dX4_addLeaf_18 : decode cX4_addLeaf 18 = .ok (.aload_n 0, 1) := by decide +kernel
theorem dX4_addLeaf_19 : decode cX4_addLeaf 19 = .ok (.getfield 33, 3) := by decide +kernel
theorem dX4_addLeaf_22 : decode cX4_addLeaf 22 = .ok (.iload_n 1, 1) := by decide +kernel
theorem dX4_addLeaf_23 : decode cX4_addLeaf 23 = .ok (.invokestatic 75, 3) := by decide +kernel
theorem dX4_addLeaf_26 : decode cX4_addLeaf 26 = .ok (.lastore, 1) := by decide +kernel
theorem dX4_addLeaf_27 : decode cX4_addLeaf 27 = .ok (.aload_n 0, 1) := by decide +kernel
theorem dX4_addLeaf_28 : decode cX4_addLeaf 28 = .ok (.dup, 1) := by decide +kernel
theorem dX4_addLeaf_29 : decode cX4_addLeaf 29 = .ok (.getfield 33, 3) := by decide +kernel
theorem dX4_addLeaf_32 : decode cX4_addLeaf 32 = .ok (.iconst 1, 1) := by decide +kernel
theorem dX4_addLeaf_33 : decode cX4_addLeaf 33 = .ok (.iadd, 1) := by decide +kernel
theorem dX4_addLeaf_34 : decode cX4_addLeaf 34 = .ok (.putfield 33, 3) := by decide +kernel
theorem dX4_addLeaf_37 : decode cX4_addLeaf 37 = .ok (.return_, 1) := by decide +kernel
theorem dX4_leafTable_0 : decode cX4_leafTable 0 = .ok (.iload_n 0, 1) := by decide +kernel
theorem dX4_leafTable_1 : decode cX4_leafTable 1 = .ok (.ifCond .lt 15, 3) := by decide +kernel
theorem dX4_leafTable_4 : decode cX4_leafTable 4 = .ok (.iload_n 0, 1) := by decide +kernel
theorem dX4_leafTable_5 : decode cX4_leafTable 5 = .ok (.bipush 6, 2) := by decide +kernel
theorem dX4_leafTable_7 : decode cX4_leafTable 7 = .ok (.if_icmp .ge 9, 3) := by decide +kernel
theorem dX4_leafTable_10 : decode cX4_leafTable 10 = .ok (.getstatic 79, 3) := by decide +kernel
theorem dX4_leafTable_13 : decode cX4_leafTable 13 = .ok (.iload_n 0, 1) := by decide +kernel
theorem dX4_leafTable_14 : decode cX4_leafTable 14 = .ok (.laload, 1) := by decide +kernel
theorem dX4_leafTable_15 : decode cX4_leafTable 15 = .ok (.lreturn, 1) := by decide +kernel
theorem dX4_leafTable_16 : decode cX4_leafTable 16 = .ok (.iload_n 0, 1) := by decide +kernel
theorem dX4_leafTable_17 : decode cX4_leafTable 17 = .ok (.bipush 6, 2) := by decide +kernel
theorem dX4_leafTable_19 : decode cX4_leafTable 19 = .ok (.if_icmp .ne 9, 3) := by decide +kernel
theorem dX4_leafTable_22 : decode cX4_leafTable 22 = .ok (.ldc2_w 82, 3) := by decide +kernel
theorem dX4_leafTable_25 : decode cX4_leafTable 25 = .ok (.goto 4, 3) := by decide +kernel
theorem dX4_leafTable_28 : decode cX4_leafTable 28 = .ok (.lconst 0, 1) := by decide +kernel
theorem dX4_leafTable_29 : decode cX4_leafTable 29 = .ok (.lreturn, 1) := by decide +kernel
theorem dX4_addNode_0 : decode cX4_addNode 0 = .ok (.aload_n 0, 1) := by decide +kernel
theorem dX4_addNode_1 : decode cX4_addNode 1 = .ok (.getfield 30, 3) := by decide +kernel
theorem dX4_addNode_4 : decode cX4_addNode 4 = .ok (.bipush 60, 2) := by decide +kernel
theorem dX4_addNode_6 : decode cX4_addNode 6 = .ok (.if_icmp .ge 24, 3) := by decide +kernel
theorem dX4_addNode_9 : decode cX4_addNode 9 = .ok (.aload_n 0, 1) := by decide +kernel
theorem dX4_addNode_10 : decode cX4_addNode 10 = .ok (.getfield 15, 3) := by decide +kernel
theorem dX4_addNode_13 : decode cX4_addNode 13 = .ok (.aload_n 0, 1) := by decide +kernel
theorem dX4_addNode_14 : decode cX4_addNode 14 = .ok (.getfield 30, 3) := by decide +kernel
theorem dX4_addNode_17 : decode cX4_addNode 17 = .ok (.iload_n 1, 1) := by decide +kernel
theorem dX4_addNode_18 : decode cX4_addNode 18 = .ok (.i2b, 1) := by decide +kernel
theorem dX4_addNode_19 : decode cX4_addNode 19 = .ok (.bastore, 1) := by decide +kernel
theorem dX4_addNode_20 : decode cX4_addNode 20 = .ok (.aload_n 0, 1) := by decide +kernel
theorem dX4_addNode_21 : decode cX4_addNode 21 = .ok (.dup, 1) := by decide +kernel
theorem dX4_addNode_22 : decode cX4_addNode 22 = .ok (.getfield 30, 3) := by decide +kernel
theorem dX4_addNode_25 : decode cX4_addNode 25 = .ok (.iconst 1, 1) := by decide +kernel
theorem dX4_addNode_26 : decode cX4_addNode 26 = .ok (.iadd, 1) := by decide +kernel
theorem dX4_addNode_27 : decode cX4_addNode 27 = .ok (.putfield 30, 3) := by decide +kernel
theorem dX4_addNode_30 : decode cX4_addNode 30 = .ok (.return_, 1) := by decide +kernel
theorem dX4_addOperator_0 : decode cX4_addOperator 0 = .ok (.aload_n 0, 1) := by decide +kernel
theorem dX4_addOperator_1 : decode cX4_addOperator 1 = .ok (.iload_n 1, 1) := by decide +kernel
theorem dX4_addOperator_2 : decode cX4_addOperator 2 = .ok (.invokevirtual 69, 3) := by decide +kernel
theorem dX4_addOperator_5 : decode cX4_addOperator 5 = .ok (.aload_n 0, 1) := by decide +kernel
theorem dX4_addOperator_6 : decode cX4_addOperator 6 = .ok (.iload_n 1, 1) := by decide +kernel
theorem dX4_addOperator_7 : decode cX4_addOperator 7 = .ok (.invokevirtual 84, 3) := by decide +kernel
theorem dX4_addOperator_10 : decode cX4_addOperator 10 = .ok (.return_, 1) := by decide +kernel
theorem dX4_addWaiting_0 : decode cX4_addWaiting 0 = .ok (.aload_n 0, 1) := by decide +kernel
theorem dX4_addWaiting_1 : decode cX4_addWaiting 1 = .ok (.getfield 36, 3) := by decide +kernel
theorem dX4_addWaiting_4 : decode cX4_addWaiting 4 = .ok (.bipush 60, 2) := by decide +kernel
theorem dX4_addWaiting_6 : decode cX4_addWaiting 6 = .ok (.if_icmp .ge 24, 3) := by decide +kernel
theorem dX4_addWaiting_9 : decode cX4_addWaiting 9 = .ok (.aload_n 0, 1) := by decide +kernel
theorem dX4_addWaiting_10 : decode cX4_addWaiting 10 = .ok (.getfield 23, 3) := by decide +kernel
theorem dX4_addWaiting_13 : decode cX4_addWaiting 13 = .ok (.aload_n 0, 1) := by decide +kernel
theorem dX4_addWaiting_14 : decode cX4_addWaiting 14 = .ok (.getfield 36, 3) := by decide +kernel
theorem dX4_addWaiting_17 : decode cX4_addWaiting 17 = .ok (.iload_n 1, 1) := by decide +kernel
theorem dX4_addWaiting_18 : decode cX4_addWaiting 18 = .ok (.i2b, 1) := by decide +kernel
theorem dX4_addWaiting_19 : decode cX4_addWaiting 19 = .ok (.bastore, 1) := by decide +kernel
theorem dX4_addWaiting_20 : decode cX4_addWaiting 20 = .ok (.aload_n 0, 1) := by decide +kernel
theorem dX4_addWaiting_21 : decode cX4_addWaiting 21 = .ok (.dup, 1) := by decide +kernel
theorem dX4_addWaiting_22 : decode cX4_addWaiting 22 = .ok (.getfield 36, 3) := by decide +kernel
theorem dX4_addWaiting_25 : decode cX4_addWaiting 25 = .ok (.iconst 1, 1) := by decide +kernel
theorem dX4_addWaiting_26 : decode cX4_addWaiting 26 = .ok (.iadd, 1) := by decide +kernel
theorem dX4_addWaiting_27 : decode cX4_addWaiting 27 = .ok (.putfield 36, 3) := by decide +kernel
theorem dX4_addWaiting_30 : decode cX4_addWaiting 30 = .ok (.return_, 1) := by decide +kernel
theorem dX4_openGroup_0 : decode cX4_openGroup 0 = .ok (.aload_n 0, 1) := by decide +kernel
theorem dX4_openGroup_1 : decode cX4_openGroup 1 = .ok (.iconst 0, 1) := by decide +kernel
theorem dX4_openGroup_2 : decode cX4_openGroup 2 = .ok (.invokevirtual 84, 3) := by decide +kernel
theorem dX4_openGroup_5 : decode cX4_openGroup 5 = .ok (.aload_n 0, 1) := by decide +kernel
theorem dX4_openGroup_6 : decode cX4_openGroup 6 = .ok (.dup, 1) := by decide +kernel
theorem dX4_openGroup_7 : decode cX4_openGroup 7 = .ok (.getfield 39, 3) := by decide +kernel
theorem dX4_openGroup_10 : decode cX4_openGroup 10 = .ok (.iconst 1, 1) := by decide +kernel
theorem dX4_openGroup_11 : decode cX4_openGroup 11 = .ok (.iadd, 1) := by decide +kernel
theorem dX4_openGroup_12 : decode cX4_openGroup 12 = .ok (.putfield 39, 3) := by decide +kernel
theorem dX4_openGroup_15 : decode cX4_openGroup 15 = .ok (.return_, 1) := by decide +kernel
theorem dX4_closeGroup_0 : decode cX4_closeGroup 0 = .ok (.aload_n 0, 1) := by decide +kernel
theorem dX4_closeGroup_1 : decode cX4_closeGroup 1 = .ok (.bipush 8, 2) := by decide +kernel
theorem dX4_closeGroup_3 : decode cX4_closeGroup 3 = .ok (.invokevirtual 69, 3) := by decide +kernel
theorem dX4_closeGroup_6 : decode cX4_closeGroup 6 = .ok (.aload_n 0, 1) := by decide +kernel
theorem dX4_closeGroup_7 : decode cX4_closeGroup 7 = .ok (.getfield 36, 3) := by decide +kernel
theorem dX4_closeGroup_10 : decode cX4_closeGroup 10 = .ok (.ifCond .le 13, 3) := by decide +kernel
theorem dX4_closeGroup_13 : decode cX4_closeGroup 13 = .ok (.aload_n 0, 1) := by decide +kernel
theorem dX4_closeGroup_14 : decode cX4_closeGroup 14 = .ok (.dup, 1) := by decide +kernel
theorem dX4_closeGroup_15 : decode cX4_closeGroup 15 = .ok (.getfield 36, 3) := by decide +kernel
theorem dX4_closeGroup_18 : decode cX4_closeGroup 18 = .ok (.iconst 1, 1) := by decide +kernel
theorem dX4_closeGroup_19 : decode cX4_closeGroup 19 = .ok (.isub, 1) := by decide +kernel
theorem dX4_closeGroup_20 : decode cX4_closeGroup 20 = .ok (.putfield 36, 3) := by decide +kernel
theorem dX4_closeGroup_23 : decode cX4_closeGroup 23 = .ok (.aload_n 0, 1) := by decide +kernel
theorem dX4_closeGroup_24 : decode cX4_closeGroup 24 = .ok (.dup, 1) := by decide +kernel
theorem dX4_closeGroup_25 : decode cX4_closeGroup 25 = .ok (.getfield 39, 3) := by decide +kernel
theorem dX4_closeGroup_28 : decode cX4_closeGroup 28 = .ok (.iconst 1, 1) := by decide +kernel
theorem dX4_closeGroup_29 : decode cX4_closeGroup 29 = .ok (.isub, 1) := by decide +kernel
theorem dX4_closeGroup_30 : decode cX4_closeGroup 30 = .ok (.putfield 39, 3) := by decide +kernel
theorem dX4_closeGroup_33 : decode cX4_closeGroup 33 = .ok (.return_, 1) := by decide +kernel
theorem dX4_applyWaiting_0 : decode cX4_applyWaiting 0 = .ok (.aload_n 0, 1) := by decide +kernel
theorem dX4_applyWaiting_1 : decode cX4_applyWaiting 1 = .ok (.getfield 36, 3) := by decide +kernel
theorem dX4_applyWaiting_4 : decode cX4_applyWaiting 4 = .ok (.iconst 1, 1) := by decide +kernel
theorem dX4_applyWaiting_5 : decode cX4_applyWaiting 5 = .ok (.isub, 1) := by decide +kernel
theorem dX4_applyWaiting_6 : decode cX4_applyWaiting 6 = .ok (.istore_n 2, 1) := by decide +kernel
theorem dX4_applyWaiting_7 : decode cX4_applyWaiting 7 = .ok (.iload_n 2, 1) := by decide +kernel
theorem dX4_applyWaiting_8 : decode cX4_applyWaiting 8 = .ok (.ifCond .lt 34, 3) := by decide +kernel
theorem dX4_applyWaiting_11 : decode cX4_applyWaiting 11 = .ok (.aload_n 0, 1) := by decide +kernel
theorem dX4_applyWaiting_12 : decode cX4_applyWaiting 12 = .ok (.getfield 23, 3) := by decide +kernel
theorem dX4_applyWaiting_15 : decode cX4_applyWaiting 15 = .ok (.iload_n 2, 1) := by decide +kernel
theorem dX4_applyWaiting_16 : decode cX4_applyWaiting 16 = .ok (.baload, 1) := by decide +kernel
theorem dX4_applyWaiting_17 : decode cX4_applyWaiting 17 = .ok (.iload_n 1, 1) := by decide +kernel
theorem dX4_applyWaiting_18 : decode cX4_applyWaiting 18 = .ok (.if_icmp .lt 24, 3) := by decide +kernel
theorem dX4_applyWaiting_21 : decode cX4_applyWaiting 21 = .ok (.aload_n 0, 1) := by decide +kernel
theorem dX4_applyWaiting_22 : decode cX4_applyWaiting 22 = .ok (.aload_n 0, 1) := by decide +kernel
theorem dX4_applyWaiting_23 : decode cX4_applyWaiting 23 = .ok (.getfield 23, 3) := by decide +kernel
theorem dX4_applyWaiting_26 : decode cX4_applyWaiting 26 = .ok (.iload_n 2, 1) := by decide +kernel
theorem dX4_applyWaiting_27 : decode cX4_applyWaiting 27 = .ok (.baload, 1) := by decide +kernel
theorem dX4_applyWaiting_28 : decode cX4_applyWaiting 28 = .ok (.invokevirtual 87, 3) := by decide +kernel
theorem dX4_applyWaiting_31 : decode cX4_applyWaiting 31 = .ok (.aload_n 0, 1) := by decide +kernel
theorem dX4_applyWaiting_32 : decode cX4_applyWaiting 32 = .ok (.iload_n 2, 1) := by decide +kernel
theorem dX4_applyWaiting_33 : decode cX4_applyWaiting 33 = .ok (.putfield 36, 3) := by decide +kernel
theorem dX4_applyWaiting_36 : decode cX4_applyWaiting 36 = .ok (.iinc 2 (-1), 3) := by decide +kernel
theorem dX4_applyWaiting_39 : decode cX4_applyWaiting 39 = .ok (.goto (-32), 3) := by decide +kernel
theorem dX4_applyWaiting_42 : decode cX4_applyWaiting 42 = .ok (.return_, 1) := by decide +kernel
theorem dX4_applyOperator_0 : decode cX4_applyOperator 0 = .ok (.aload_n 0, 1) := by decide +kernel
theorem dX4_applyOperator_1 : decode cX4_applyOperator 1 = .ok (.iload_n 1, 1) := by decide +kernel
theorem dX4_applyOperator_2 : decode cX4_applyOperator 2 = .ok (.invokevirtual 72, 3) := by decide +kernel
theorem dX4_applyOperator_5 : decode cX4_applyOperator 5 = .ok (.aload_n 0, 1) := by decide +kernel
theorem dX4_applyOperator_6 : decode cX4_applyOperator 6 = .ok (.getfield 33, 3) := by decide +kernel
theorem dX4_applyOperator_9 : decode cX4_applyOperator 9 = .ok (.iconst 2, 1) := by decide +kernel
theorem dX4_applyOperator_10 : decode cX4_applyOperator 10 = .ok (.if_icmp .lt 48, 3) := by decide +kernel
theorem dX4_applyOperator_13 : decode cX4_applyOperator 13 = .ok (.aload_n 0, 1) := by decide +kernel
theorem dX4_applyOperator_14 : decode cX4_applyOperator 14 = .ok (.dup, 1) := by decide +kernel
theorem dX4_applyOperator_15 : decode cX4_applyOperator 15 = .ok (.getfield 33, 3) := by decide +kernel
theorem dX4_applyOperator_18 : decode cX4_applyOperator 18 = .ok (.iconst 1, 1) := by decide +kernel
theorem dX4_applyOperator_19 : decode cX4_applyOperator 19 = .ok (.isub, 1) := by decide +kernel
theorem dX4_applyOperator_20 : decode cX4_applyOperator 20 = .ok (.putfield 33, 3) := by decide +kernel
theorem dX4_applyOperator_23 : decode cX4_applyOperator 23 = .ok (.aload_n 0, 1) := by decide +kernel
theorem dX4_applyOperator_24 : decode cX4_applyOperator 24 = .ok (.getfield 19, 3) := by decide +kernel
theorem dX4_applyOperator_27 : decode cX4_applyOperator 27 = .ok (.aload_n 0, 1) := by decide +kernel
theorem dX4_applyOperator_28 : decode cX4_applyOperator 28 = .ok (.getfield 33, 3) := by decide +kernel
theorem dX4_applyOperator_31 : decode cX4_applyOperator 31 = .ok (.iconst 1, 1) := by decide +kernel
theorem dX4_applyOperator_32 : decode cX4_applyOperator 32 = .ok (.isub, 1) := by decide +kernel
theorem dX4_applyOperator_33 : decode cX4_applyOperator 33 = .ok (.iload_n 1, 1) := by decide +kernel
theorem dX4_applyOperator_34 : decode cX4_applyOperator 34 = .ok (.aload_n 0, 1) := by decide +kernel
theorem dX4_applyOperator_35 : decode cX4_applyOperator 35 = .ok (.getfield 19, 3) := by decide +kernel
theorem dX4_applyOperator_38 : decode cX4_applyOperator 38 = .ok (.aload_n 0, 1) := by decide +kernel
theorem dX4_applyOperator_39 : decode cX4_applyOperator 39 = .ok (.getfield 33, 3) := by decide +kernel
theorem dX4_applyOperator_42 : decode cX4_applyOperator 42 = .ok (.iconst 1, 1) := by decide +kernel
theorem dX4_applyOperator_43 : decode cX4_applyOperator 43 = .ok (.isub, 1) := by decide +kernel
theorem dX4_applyOperator_44 : decode cX4_applyOperator 44 = .ok (.laload, 1) := by decide +kernel
theorem dX4_applyOperator_45 : decode cX4_applyOperator 45 = .ok (.aload_n 0, 1) := by decide +kernel
theorem dX4_applyOperator_46 : decode cX4_applyOperator 46 = .ok (.getfield 19, 3) := by decide +kernel
theorem dX4_applyOperator_49 : decode cX4_applyOperator 49 = .ok (.aload_n 0, 1) := by decide +kernel
theorem dX4_applyOperator_50 : decode cX4_applyOperator 50 = .ok (.getfield 33, 3) := by decide +kernel
theorem dX4_applyOperator_53 : decode cX4_applyOperator 53 = .ok (.laload, 1) := by decide +kernel
theorem dX4_applyOperator_54 : decode cX4_applyOperator 54 = .ok (.invokestatic 90, 3) := by decide +kernel
theorem dX4_applyOperator_57 : decode cX4_applyOperator 57 = .ok (.lastore, 1) := by decide +kernel
theorem dX4_applyOperator_58 : decode cX4_applyOperator 58 = .ok (.return_, 1) := by decide +kernel
theorem dX5_init_0 : decode cX5_init 0 = .ok (.aload_n 0, 1) := by decide +kernel
theorem dX5_init_1 : decode cX5_init 1 = .ok (.invokespecial 3, 3) := by decide +kernel
theorem dX5_init_4 : decode cX5_init 4 = .ok (.aload_n 0, 1) := by decide +kernel
theorem dX5_init_5 : decode cX5_init 5 = .ok (.bipush 78, 2) := by decide +kernel
theorem dX5_init_7 : decode cX5_init 7 = .ok (.newarray .int, 2) := by decide +kernel
theorem dX5_init_9 : decode cX5_init 9 = .ok (.putfield 9, 3) := by decide +kernel
theorem dX5_init_12 : decode cX5_init 12 = .ok (.aload_n 0, 1) := by decide +kernel
theorem dX5_init_13 : decode cX5_init 13 = .ok (.bipush 40, 2) := by decide +kernel
theorem dX5_init_15 : decode cX5_init 15 = .ok (.newarray .int, 2) := by decide +kernel
theorem dX5_init_17 : decode cX5_init 17 = .ok (.putfield 15, 3) := by decide +kernel
theorem dX5_init_20 : decode cX5_init 20 = .ok (.aload_n 0, 1) := by decide +kernel
theorem dX5_init_21 : decode cX5_init 21 = .ok (.bipush 40, 2) := by decide +kernel
theorem dX5_init_23 : decode cX5_init 23 = .ok (.newarray .int, 2) := by decide +kernel
theorem dX5_init_25 : decode cX5_init 25 = .ok (.putfield 18, 3) := by decide +kernel
theorem dX5_init_28 : decode cX5_init 28 = .ok (.return_, 1) := by decide +kernel
theorem dX5_solve_0 : decode cX5_solve 0 = .ok (.iconst 0, 1) := by decide +kernel
theorem dX5_solve_1 : decode cX5_solve 1 = .ok (.istore 4, 2) := by decide +kernel
theorem dX5_solve_3 : decode cX5_solve 3 = .ok (.iload 4, 2) := by decide +kernel
theorem dX5_solve_5 : decode cX5_solve 5 = .ok (.aload_n 1, 1) := by decide +kernel
theorem dX5_solve_6 : decode cX5_solve 6 = .ok (.getfield 21, 3) := by decide +kernel
theorem dX5_solve_9 : decode cX5_solve 9 = .ok (.if_icmp .ge 50, 3) := by decide +kernel
theorem dX5_solve_12 : decode cX5_solve 12 = .ok (.aload_n 1, 1) := by decide +kernel
theorem dX5_solve_13 : decode cX5_solve 13 = .ok (.getfield 27, 3) := by decide +kernel
theorem dX5_solve_16 : decode cX5_solve 16 = .ok (.iload 4, 2) := by decide +kernel
theorem dX5_solve_18 : decode cX5_solve 18 = .ok (.ishr, 1) := by decide +kernel
theorem dX5_solve_19 : decode cX5_solve 19 = .ok (.iconst 1, 1) := by decide +kernel
theorem dX5_solve_20 : decode cX5_solve 20 = .ok (.iand, 1) := by decide +kernel
theorem dX5_solve_21 : decode cX5_solve 21 = .ok (.ifCond .eq 7, 3) := by decide +kernel
theorem dX5_solve_24 : decode cX5_solve 24 = .ok (.iconst 1, 1) := by decide +kernel
theorem dX5_solve_25 : decode cX5_solve 25 = .ok (.goto 4, 3) := by decide +kernel
theorem dX5_solve_28 : decode cX5_solve 28 = .ok (.iconst 0, 1) := by decide +kernel
theorem dX5_solve_29 : decode cX5_solve 29 = .ok (.istore 5, 2) := by decide +kernel
theorem dX5_solve_31 : decode cX5_solve 31 = .ok (.aload_n 0, 1) := by decide +kernel
theorem dX5_solve_32 : decode cX5_solve 32 = .ok (.aload_n 2, 1) := by decide +kernel
theorem dX5_solve_33 : decode cX5_solve 33 = .ok (.getfield 30, 3) := by decide +kernel
theorem dX5_solve_36 : decode cX5_solve 36 = .ok (.iload 4, 2) := by decide +kernel
theorem dX5_solve_38 : decode cX5_solve 38 = .ok (.iload 5, 2) := by decide +kernel
theorem dX5_solve_40 : decode cX5_solve 40 = .ok (.ifCond .eq 7, 3) := by decide +kernel
theorem dX5_solve_43 : decode cX5_solve 43 = .ok (.iconst 0, 1) := by decide +kernel
theorem dX5_solve_44 : decode cX5_solve 44 = .ok (.goto 6, 3) := by decide +kernel
theorem dX5_solve_47 : decode cX5_solve 47 = .ok (.sipush 10000, 3) := by decide +kernel
theorem dX5_solve_50 : decode cX5_solve 50 = .ok (.invokevirtual 35, 3) := by decide +kernel
theorem dX5_solve_53 : decode cX5_solve 53 = .ok (.iinc 4 1, 3) := by decide +kernel
theorem dX5_solve_56 : decode cX5_solve 56 = .ok (.goto (-53), 3) := by decide +kernel
theorem dX5_solve_59 : decode cX5_solve 59 = .ok (.aload_n 2, 1) := by decide +kernel
theorem dX5_solve_60 : decode cX5_solve 60 = .ok (.getfield 30, 3) := by decide +kernel
theorem dX5_solve_63 : decode cX5_solve 63 = .ok (.iconst 1, 1) := by decide +kernel
theorem dX5_solve_64 : decode cX5_solve 64 = .ok (.isub, 1) := by decide +kernel
theorem dX5_solve_65 : decode cX5_solve 65 = .ok (.istore 4, 2) := by decide +kernel
theorem dX5_solve_67 : decode cX5_solve 67 = .ok (.iload 4, 2) := by decide +kernel
theorem dX5_solve_69 : decode cX5_solve 69 = .ok (.iload_n 3, 1) := by decide +kernel
theorem dX5_solve_70 : decode cX5_solve 70 = .ok (.if_icmp .lt 68, 3) := by decide +kernel
theorem dX5_solve_73 : decode cX5_solve 73 = .ok (.iload 4, 2) := by decide +kernel
theorem dX5_solve_75 : decode cX5_solve 75 = .ok (.ifCond .lt 63, 3) := by decide +kernel
theorem dX5_solve_78 : decode cX5_solve 78 = .ok (.iconst 0, 1) := by decide +kernel
theorem dX5_solve_79 : decode cX5_solve 79 = .ok (.istore 5, 2) := by decide +kernel
theorem dX5_solve_81 : decode cX5_solve 81 = .ok (.iload 5, 2) := by decide +kernel
theorem dX5_solve_83 : decode cX5_solve 83 = .ok (.aload_n 1, 1) := by decide +kernel
theorem dX5_solve_84 : decode cX5_solve 84 = .ok (.getfield 21, 3) := by decide +kernel
theorem dX5_solve_87 : decode cX5_solve 87 = .ok (.if_icmp .ge 45, 3) := by decide +kernel
theorem dX5_solve_90 : decode cX5_solve 90 = .ok (.aload_n 0, 1) := by decide +kernel
theorem dX5_solve_91 : decode cX5_solve 91 = .ok (.aload_n 1, 1) := by decide +kernel
theorem dX5_solve_92 : decode cX5_solve 92 = .ok (.iload 5, 2) := by decide +kernel
theorem dX5_solve_94 : decode cX5_solve 94 = .ok (.aload_n 2, 1) := by decide +kernel
theorem dX5_solve_95 : decode cX5_solve 95 = .ok (.iload 4, 2) := by decide +kernel
theorem dX5_solve_97 : decode cX5_solve 97 = .ok (.invokevirtual 39, 3) := by decide +kernel
theorem dX5_solve_100 : decode cX5_solve 100 = .ok (.invokevirtual 43, 3) := by decide +kernel
theorem dX5_solve_103 : decode cX5_solve 103 = .ok (.iload 4, 2) := by decide +kernel
theorem dX5_solve_105 : decode cX5_solve 105 = .ok (.iconst 1, 1) := by decide +kernel
theorem dX5_solve_106 : decode cX5_solve 106 = .ok (.iadd, 1) := by decide +kernel
theorem dX5_solve_107 : decode cX5_solve 107 = .ok (.invokevirtual 47, 3) := by decide +kernel
theorem dX5_solve_110 : decode cX5_solve 110 = .ok (.aload_n 0, 1) := by decide +kernel
theorem dX5_solve_111 : decode cX5_solve 111 = .ok (.iload 4, 2) := by decide +kernel
theorem dX5_solve_113 : decode cX5_solve 113 = .ok (.iload 5, 2) := by decide +kernel
theorem dX5_solve_115 : decode cX5_solve 115 = .ok (.aload_n 0, 1) := by decide +kernel
theorem dX5_solve_116 : decode cX5_solve 116 = .ok (.getfield 15, 3) := by decide +kernel
theorem dX5_solve_119 : decode cX5_solve 119 = .ok (.iconst 0, 1) := by decide +kernel
theorem dX5_solve_120 : decode cX5_solve 120 = .ok (.iaload, 1) := by decide +kernel
theorem dX5_solve_121 : decode cX5_solve 121 = .ok (.iconst 1, 1) := by decide +kernel
theorem dX5_solve_122 : decode cX5_solve 122 = .ok (.iadd, 1) := by decide +kernel
theorem dX5_solve_123 : decode cX5_solve 123 = .ok (.invokevirtual 35, 3) := by decide +kernel
theorem dX5_solve_126 : decode cX5_solve 126 = .ok (.iinc 5 1, 3) := by decide +kernel
theorem dX5_solve_129 : decode cX5_solve 129 = .ok (.goto (-48), 3) := by decide +kernel
theorem dX5_solve_132 : decode cX5_solve 132 = .ok (.iinc 4 (-1), 3) := by decide +kernel
theorem dX5_solve_135 : decode cX5_solve 135 = .ok (.goto (-68), 3) := by decide +kernel
theorem dX5_solve_138 : decode cX5_solve 138 = .ok (.return_, 1) := by decide +kernel
theorem dX5_valueAt_0 : decode cX5_valueAt 0 = .ok (.iload_n 1, 1) := by decide +kernel
theorem dX5_valueAt_1 : decode cX5_valueAt 1 = .ok (.iload_n 2, 1) := by decide +kernel
theorem dX5_valueAt_2 : decode cX5_valueAt 2 = .ok (.invokestatic 51, 3) := by decide +kernel
theorem dX5_valueAt_5 : decode cX5_valueAt 5 = .ok (.ifCond .eq 17, 3) := by decide +kernel
theorem dX5_valueAt_8 : decode cX5_valueAt 8 = .ok (.aload_n 0, 1) := by decide +kernel
theorem dX5_valueAt_9 : decode cX5_valueAt 9 = .ok (.getfield 9, 3) := by decide +kernel
theorem dX5_valueAt_12 : decode cX5_valueAt 12 = .ok (.iload_n 1, 1) := by decide +kernel
theorem dX5_valueAt_13 : decode cX5_valueAt 13 = .ok (.bipush 6, 2) := by decide +kernel
theorem dX5_valueAt_15 : decode cX5_valueAt 15 = .ok (.imul, 1) := by decide +kernel
theorem dX5_valueAt_16 : decode cX5_valueAt 16 = .ok (.iload_n 2, 1) := by decide +kernel
theorem dX5_valueAt_17 : decode cX5_valueAt 17 = .ok (.iadd, 1) := by decide +kernel
theorem dX5_valueAt_18 : decode cX5_valueAt 18 = .ok (.iaload, 1) := by decide +kernel
theorem dX5_valueAt_19 : decode cX5_valueAt 19 = .ok (.goto 6, 3) := by decide +kernel
theorem dX5_valueAt_22 : decode cX5_valueAt 22 = .ok (.sipush 10000, 3) := by decide +kernel
theorem dX5_valueAt_25 : decode cX5_valueAt 25 = .ok (.ireturn, 1) := by decide +kernel
theorem dX5_setValue_0 : decode cX5_setValue 0 = .ok (.iload_n 1, 1) := by decide +kernel
theorem dX5_setValue_1 : decode cX5_setValue 1 = .ok (.iload_n 2, 1) := by decide +kernel
theorem dX5_setValue_2 : decode cX5_setValue 2 = .ok (.invokestatic 51, 3) := by decide +kernel
theorem dX5_setValue_5 : decode cX5_setValue 5 = .ok (.ifCond .eq 15, 3) := by decide +kernel
theorem dX5_setValue_8 : decode cX5_setValue 8 = .ok (.aload_n 0, 1) := by decide +kernel
theorem dX5_setValue_9 : decode cX5_setValue 9 = .ok (.getfield 9, 3) := by decide +kernel
theorem dX5_setValue_12 : decode cX5_setValue 12 = .ok (.iload_n 1, 1) := by decide +kernel
theorem dX5_setValue_13 : decode cX5_setValue 13 = .ok (.bipush 6, 2) := by decide +kernel
theorem dX5_setValue_15 : decode cX5_setValue 15 = .ok (.imul, 1) := by decide +kernel
theorem dX5_setValue_16 : decode cX5_setValue 16 = .ok (.iload_n 2, 1) := by decide +kernel
theorem dX5_setValue_17 : decode cX5_setValue 17 = .ok (.iadd, 1) := by decide +kernel
theorem dX5_setValue_18 : decode cX5_setValue 18 = .ok (.iload_n 3, 1) := by decide +kernel
theorem dX5_setValue_19 : decode cX5_setValue 19 = .ok (.iastore, 1) := by decide +kernel
theorem dX5_setValue_20 : decode cX5_setValue 20 = .ok (.return_, 1) := by decide +kernel
theorem dX5_isPosition_0 : decode cX5_isPosition 0 = .ok (.iload_n 0, 1) := by decide +kernel
theorem dX5_isPosition_1 : decode cX5_isPosition 1 = .ok (.ifCond .lt 23, 3) := by decide +kernel
theorem dX5_isPosition_4 : decode cX5_isPosition 4 = .ok (.iload_n 0, 1) := by decide +kernel
theorem dX5_isPosition_5 : decode cX5_isPosition 5 = .ok (.bipush 12, 2) := by decide +kernel
theorem dX5_isPosition_7 : decode cX5_isPosition 7 = .ok (.if_icmp .gt 17, 3) := by decide +kernel
theorem dX5_isPosition_10 : decode cX5_isPosition 10 = .ok (.iload_n 1, 1) := by decide +kernel
theorem dX5_isPosition_11 : decode cX5_isPosition 11 = .ok (.ifCond .lt 13, 3) := by decide +kernel
theorem dX5_isPosition_14 : decode cX5_isPosition 14 = .ok (.iload_n 1, 1) := by decide +kernel
theorem dX5_isPosition_15 : decode cX5_isPosition 15 = .ok (.bipush 6, 2) := by decide +kernel
theorem dX5_isPosition_17 : decode cX5_isPosition 17 = .ok (.if_icmp .ge 7, 3) := by decide +kernel
theorem dX5_isPosition_20 : decode cX5_isPosition 20 = .ok (.iconst 1, 1) := by decide +kernel
theorem dX5_isPosition_21 : decode cX5_isPosition 21 = .ok (.goto 4, 3) := by decide +kernel
theorem dX5_isPosition_24 : decode cX5_isPosition 24 = .ok (.iconst 0, 1) := by decide +kernel
theorem dX5_isPosition_25 : decode cX5_isPosition 25 = .ok (.ireturn, 1) := by decide +kernel
theorem dX5_statesLedTo_0 : decode cX5_statesLedTo 0 = .ok (.aload_n 0, 1) := by decide +kernel
theorem dX5_statesLedTo_1 : decode cX5_statesLedTo 1 = .ok (.aload_n 1, 1) := by decide +kernel
theorem dX5_statesLedTo_2 : decode cX5_statesLedTo 2 = .ok (.iload_n 2, 1) := by decide +kernel
theorem dX5_statesLedTo_3 : decode cX5_statesLedTo 3 = .ok (.invokevirtual 47, 3) := by decide +kernel
theorem dX5_statesLedTo_6 : decode cX5_statesLedTo 6 = .ok (.aload_n 0, 1) := by decide +kernel
theorem dX5_statesLedTo_7 : decode cX5_statesLedTo 7 = .ok (.getfield 18, 3) := by decide +kernel
theorem dX5_statesLedTo_10 : decode cX5_statesLedTo 10 = .ok (.iconst 0, 1) := by decide +kernel
theorem dX5_statesLedTo_11 : decode cX5_statesLedTo 11 = .ok (.iaload, 1) := by decide +kernel
theorem dX5_statesLedTo_12 : decode cX5_statesLedTo 12 = .ok (.ireturn, 1) := by decide +kernel
theorem dX5_evaluate_0 : decode cX5_evaluate 0 = .ok (.iconst 0, 1) := by decide +kernel
theorem dX5_evaluate_1 : decode cX5_evaluate 1 = .ok (.istore_n 3, 1) := by decide +kernel
theorem dX5_evaluate_2 : decode cX5_evaluate 2 = .ok (.iconst 0, 1) := by decide +kernel
theorem dX5_evaluate_3 : decode cX5_evaluate 3 = .ok (.istore 4, 2) := by decide +kernel
theorem dX5_evaluate_5 : decode cX5_evaluate 5 = .ok (.iload 4, 2) := by decide +kernel
theorem dX5_evaluate_7 : decode cX5_evaluate 7 = .ok (.aload_n 1, 1) := by decide +kernel
theorem dX5_evaluate_8 : decode cX5_evaluate 8 = .ok (.getfield 55, 3) := by decide +kernel
theorem dX5_evaluate_11 : decode cX5_evaluate 11 = .ok (.if_icmp .ge 95, 3) := by decide +kernel
theorem dX5_evaluate_14 : decode cX5_evaluate 14 = .ok (.aload_n 1, 1) := by decide +kernel
theorem dX5_evaluate_15 : decode cX5_evaluate 15 = .ok (.iload 4, 2) := by decide +kernel
theorem dX5_evaluate_17 : decode cX5_evaluate 17 = .ok (.invokevirtual 60, 3) := by decide +kernel
theorem dX5_evaluate_20 : decode cX5_evaluate 20 = .ok (.istore 5, 2) := by decide +kernel
theorem dX5_evaluate_22 : decode cX5_evaluate 22 = .ok (.iload 5, 2) := by decide +kernel
theorem dX5_evaluate_24 : decode cX5_evaluate 24 = .ok (.bipush 9, 2) := by decide +kernel
theorem dX5_evaluate_26 : decode cX5_evaluate 26 = .ok (.if_icmp .eq 56, 3) := by decide +kernel
theorem dX5_evaluate_29 : decode cX5_evaluate 29 = .ok (.iload 5, 2) := by decide +kernel
theorem dX5_evaluate_31 : decode cX5_evaluate 31 = .ok (.bipush 8, 2) := by decide +kernel
theorem dX5_evaluate_33 : decode cX5_evaluate 33 = .ok (.if_icmp .eq 49, 3) := by decide +kernel
theorem dX5_evaluate_36 : decode cX5_evaluate 36 = .ok (.iload_n 3, 1) := by decide +kernel
theorem dX5_evaluate_37 : decode cX5_evaluate 37 = .ok (.bipush 40, 2) := by decide +kernel
theorem dX5_evaluate_39 : decode cX5_evaluate 39 = .ok (.if_icmp .ge 61, 3) := by decide +kernel
theorem dX5_evaluate_42 : decode cX5_evaluate 42 = .ok (.aload_n 0, 1) := by decide +kernel
theorem dX5_evaluate_43 : decode cX5_evaluate 43 = .ok (.getfield 15, 3) := by decide +kernel
theorem dX5_evaluate_46 : decode cX5_evaluate 46 = .ok (.iload_n 3, 1) := by decide +kernel
theorem dX5_evaluate_47 : decode cX5_evaluate 47 = .ok (.aload_n 0, 1) := by decide +kernel
theorem dX5_evaluate_48 : decode cX5_evaluate 48 = .ok (.iload 5, 2) := by decide +kernel
theorem dX5_evaluate_50 : decode cX5_evaluate 50 = .ok (.iload_n 2, 1) := by decide +kernel
theorem dX5_evaluate_51 : decode cX5_evaluate 51 = .ok (.invokevirtual 63, 3) := by decide +kernel
theorem dX5_evaluate_54 : decode cX5_evaluate 54 = .ok (.iastore, 1) := by decide +kernel
theorem dX5_evaluate_55 : decode cX5_evaluate 55 = .ok (.aload_n 0, 1) := by decide +kernel
theorem dX5_evaluate_56 : decode cX5_evaluate 56 = .ok (.getfield 18, 3) := by decide +kernel
theorem dX5_evaluate_59 : decode cX5_evaluate 59 = .ok (.iload_n 3, 1) := by decide +kernel
theorem dX5_evaluate_60 : decode cX5_evaluate 60 = .ok (.iload 5, 2) := by decide +kernel
theorem dX5_evaluate_62 : decode cX5_evaluate 62 = .ok (.bipush 6, 2) := by decide +kernel
theorem dX5_evaluate_64 : decode cX5_evaluate 64 = .ok (.if_icmp .ge 10, 3) := by decide +kernel
theorem dX5_evaluate_67 : decode cX5_evaluate 67 = .ok (.iconst 1, 1) := by decide +kernel
theorem dX5_evaluate_68 : decode cX5_evaluate 68 = .ok (.iload 5, 2) := by decide +kernel
theorem dX5_evaluate_70 : decode cX5_evaluate 70 = .ok (.ishl, 1) := by decide +kernel
theorem dX5_evaluate_71 : decode cX5_evaluate 71 = .ok (.goto 4, 3) := by decide +kernel
theorem dX5_evaluate_74 : decode cX5_evaluate 74 = .ok (.iconst 0, 1) := by decide +kernel
theorem dX5_evaluate_75 : decode cX5_evaluate 75 = .ok (.iastore, 1) := by decide +kernel
theorem dX5_evaluate_76 : decode cX5_evaluate 76 = .ok (.iinc 3 1, 3) := by decide +kernel
theorem dX5_evaluate_79 : decode cX5_evaluate 79 = .ok (.goto 21, 3) := by decide +kernel
theorem dX5_evaluate_82 : decode cX5_evaluate 82 = .ok (.iload_n 3, 1) := by decide +kernel
theorem dX5_evaluate_83 : decode cX5_evaluate 83 = .ok (.iconst 2, 1) := by decide +kernel
theorem dX5_evaluate_84 : decode cX5_evaluate 84 = .ok (.if_icmp .lt 16, 3) := by decide +kernel
theorem dX5_evaluate_87 : decode cX5_evaluate 87 = .ok (.iinc 3 (-1), 3) := by decide +kernel
theorem dX5_evaluate_90 : decode cX5_evaluate 90 = .ok (.aload_n 0, 1) := by decide +kernel
theorem dX5_evaluate_91 : decode cX5_evaluate 91 = .ok (.iload 5, 2) := by decide +kernel
theorem dX5_evaluate_93 : decode cX5_evaluate 93 = .ok (.iload_n 3, 1) := by decide +kernel
theorem dX5_evaluate_94 : decode cX5_evaluate 94 = .ok (.iconst 1, 1) := by decide +kernel
theorem dX5_evaluate_95 : decode cX5_evaluate 95 = .ok (.isub, 1) := by decide +kernel
theorem dX5_evaluate_96 : decode cX5_evaluate 96 = .ok (.iload_n 3, 1) := by decide +kernel
theorem dX5_evaluate_97 : decode cX5_evaluate 97 = .ok (.invokevirtual 67, 3) := by decide +kernel
theorem dX5_evaluate_100 : decode cX5_evaluate 100 = .ok (.iinc 4 1, 3) := by decide +kernel
theorem dX5_evaluate_103 : decode cX5_evaluate 103 = .ok (.goto (-98), 3) := by decide +kernel
theorem dX5_evaluate_106 : decode cX5_evaluate 106 = .ok (.return_, 1) := by decide +kernel
theorem dX5_leafValue_0 : decode cX5_leafValue 0 = .ok (.iload_n 1, 1) := by decide +kernel
theorem dX5_leafValue_1 : decode cX5_leafValue 1 = .ok (.bipush 6, 2) := by decide +kernel
theorem dX5_leafValue_3 : decode cX5_leafValue 3 = .ok (.if_icmp .ge 10, 3) := by decide +kernel
theorem dX5_leafValue_6 : decode cX5_leafValue 6 = .ok (.aload_n 0, 1) := by decide +kernel
theorem dX5_leafValue_7 : decode cX5_leafValue 7 = .ok (.iload_n 2, 1) := by decide +kernel
theorem dX5_leafValue_8 : decode cX5_leafValue 8 = .ok (.iload_n 1, 1) := by decide +kernel
theorem dX5_leafValue_9 : decode cX5_leafValue 9 = .ok (.invokevirtual 70, 3) := by decide +kernel
theorem dX5_leafValue_12 : decode cX5_leafValue 12 = .ok (.ireturn, 1) := by decide +kernel
theorem dX5_leafValue_13 : decode cX5_leafValue 13 = .ok (.iload_n 1, 1) := by decide +kernel
theorem dX5_leafValue_14 : decode cX5_leafValue 14 = .ok (.bipush 6, 2) := by decide +kernel
theorem dX5_leafValue_16 : decode cX5_leafValue 16 = .ok (.if_icmp .ne 7, 3) := by decide +kernel
theorem dX5_leafValue_19 : decode cX5_leafValue 19 = .ok (.iconst 0, 1) := by decide +kernel
theorem dX5_leafValue_20 : decode cX5_leafValue 20 = .ok (.goto 6, 3) := by decide +kernel
theorem dX5_leafValue_23 : decode cX5_leafValue 23 = .ok (.sipush 10000, 3) := by decide +kernel
theorem dX5_leafValue_26 : decode cX5_leafValue 26 = .ok (.ireturn, 1) := by decide +kernel
theorem dX5_joinParts_0 : decode cX5_joinParts 0 = .ok (.aload_n 0, 1) := by decide +kernel
theorem dX5_joinParts_1 : decode cX5_joinParts 1 = .ok (.getfield 15, 3) := by decide +kernel
theorem dX5_joinParts_4 : decode cX5_joinParts 4 = .ok (.iload_n 2, 1) := by decide +kernel
theorem dX5_joinParts_5 : decode cX5_joinParts 5 = .ok (.iaload, 1) := by decide +kernel
theorem dX5_joinParts_6 : decode cX5_joinParts 6 = .ok (.aload_n 0, 1) := by decide +kernel
theorem dX5_joinParts_7 : decode cX5_joinParts 7 = .ok (.getfield 15, 3) := by decide +kernel
theorem dX5_joinParts_10 : decode cX5_joinParts 10 = .ok (.iload_n 3, 1) := by decide +kernel
theorem dX5_joinParts_11 : decode cX5_joinParts 11 = .ok (.iaload, 1) := by decide +kernel
theorem dX5_joinParts_12 : decode cX5_joinParts 12 = .ok (.invokestatic 73, 3) := by decide +kernel
theorem dX5_joinParts_15 : decode cX5_joinParts 15 = .ok (.istore 4, 2) := by decide +kernel
theorem dX5_joinParts_17 : decode cX5_joinParts 17 = .ok (.aload_n 0, 1) := by decide +kernel
theorem dX5_joinParts_18 : decode cX5_joinParts 18 = .ok (.getfield 15, 3) := by decide +kernel
theorem dX5_joinParts_21 : decode cX5_joinParts 21 = .ok (.iload_n 2, 1) := by decide +kernel
theorem dX5_joinParts_22 : decode cX5_joinParts 22 = .ok (.iaload, 1) := by decide +kernel
theorem dX5_joinParts_23 : decode cX5_joinParts 23 = .ok (.aload_n 0, 1) := by decide +kernel
theorem dX5_joinParts_24 : decode cX5_joinParts 24 = .ok (.getfield 15, 3) := by decide +kernel
theorem dX5_joinParts_27 : decode cX5_joinParts 27 = .ok (.iload_n 3, 1) := by decide +kernel
theorem dX5_joinParts_28 : decode cX5_joinParts 28 = .ok (.iaload, 1) := by decide +kernel
theorem dX5_joinParts_29 : decode cX5_joinParts 29 = .ok (.invokestatic 78, 3) := by decide +kernel
theorem dX5_joinParts_32 : decode cX5_joinParts 32 = .ok (.istore 5, 2) := by decide +kernel
theorem dX5_joinParts_34 : decode cX5_joinParts 34 = .ok (.iload 4, 2) := by decide +kernel
theorem dX5_joinParts_36 : decode cX5_joinParts 36 = .ok (.sipush 10000, 3) := by decide +kernel
theorem dX5_joinParts_39 : decode cX5_joinParts 39 = .ok (.if_icmp .lt 7, 3) := by decide +kernel
theorem dX5_joinParts_42 : decode cX5_joinParts 42 = .ok (.iconst 1, 1) := by decide +kernel
theorem dX5_joinParts_43 : decode cX5_joinParts 43 = .ok (.goto 4, 3) := by decide +kernel
theorem dX5_joinParts_46 : decode cX5_joinParts 46 = .ok (.iconst 0, 1) := by decide +kernel
theorem dX5_joinParts_47 : decode cX5_joinParts 47 = .ok (.istore 6, 2) := by decide +kernel
theorem dX5_joinParts_49 : decode cX5_joinParts 49 = .ok (.iload_n 1, 1) := by decide +kernel
theorem dX5_joinParts_50 : decode cX5_joinParts 50 = .ok (.bipush 9, 2) := by decide +kernel
theorem dX5_joinParts_52 : decode cX5_joinParts 52 = .ok (.if_icmp .ne 41, 3) := by decide +kernel
theorem dX5_joinParts_55 : decode cX5_joinParts 55 = .ok (.aload_n 0, 1) := by decide +kernel
theorem dX5_joinParts_56 : decode cX5_joinParts 56 = .ok (.getfield 18, 3) := by decide +kernel
theorem dX5_joinParts_59 : decode cX5_joinParts 59 = .ok (.iload_n 2, 1) := by decide +kernel
theorem dX5_joinParts_60 : decode cX5_joinParts 60 = .ok (.dup2, 1) := by decide +kernel
theorem dX5_joinParts_61 : decode cX5_joinParts 61 = .ok (.iaload, 1) := by decide +kernel
theorem dX5_joinParts_62 : decode cX5_joinParts 62 = .ok (.aload_n 0, 1) := by decide +kernel
theorem dX5_joinParts_63 : decode cX5_joinParts 63 = .ok (.getfield 18, 3) := by decide +kernel
theorem dX5_joinParts_66 : decode cX5_joinParts 66 = .ok (.iload_n 3, 1) := by decide +kernel
theorem dX5_joinParts_67 : decode cX5_joinParts 67 = .ok (.iaload, 1) := by decide +kernel
theorem dX5_joinParts_68 : decode cX5_joinParts 68 = .ok (.ior, 1) := by decide +kernel
theorem dX5_joinParts_69 : decode cX5_joinParts 69 = .ok (.iastore, 1) := by decide +kernel
theorem dX5_joinParts_70 : decode cX5_joinParts 70 = .ok (.aload_n 0, 1) := by decide +kernel
theorem dX5_joinParts_71 : decode cX5_joinParts 71 = .ok (.getfield 15, 3) := by decide +kernel
theorem dX5_joinParts_74 : decode cX5_joinParts 74 = .ok (.iload_n 2, 1) := by decide +kernel
theorem dX5_joinParts_75 : decode cX5_joinParts 75 = .ok (.iload 6, 2) := by decide +kernel
theorem dX5_joinParts_77 : decode cX5_joinParts 77 = .ok (.ifCond .eq 8, 3) := by decide +kernel
theorem dX5_joinParts_80 : decode cX5_joinParts 80 = .ok (.iload 4, 2) := by decide +kernel
theorem dX5_joinParts_82 : decode cX5_joinParts 82 = .ok (.goto 5, 3) := by decide +kernel
theorem dX5_joinParts_85 : decode cX5_joinParts 85 = .ok (.iload 5, 2) := by decide +kernel
theorem dX5_joinParts_87 : decode cX5_joinParts 87 = .ok (.iconst 1, 1) := by decide +kernel
theorem dX5_joinParts_88 : decode cX5_joinParts 88 = .ok (.iadd, 1) := by decide +kernel
theorem dX5_joinParts_89 : decode cX5_joinParts 89 = .ok (.iastore, 1) := by decide +kernel
theorem dX5_joinParts_90 : decode cX5_joinParts 90 = .ok (.goto 50, 3) := by decide +kernel
theorem dX5_joinParts_93 : decode cX5_joinParts 93 = .ok (.aload_n 0, 1) := by decide +kernel
theorem dX5_joinParts_94 : decode cX5_joinParts 94 = .ok (.getfield 15, 3) := by decide +kernel
theorem dX5_joinParts_97 : decode cX5_joinParts 97 = .ok (.iload_n 3, 1) := by decide +kernel
theorem dX5_joinParts_98 : decode cX5_joinParts 98 = .ok (.iaload, 1) := by decide +kernel
theorem dX5_joinParts_99 : decode cX5_joinParts 99 = .ok (.aload_n 0, 1) := by decide +kernel
theorem dX5_joinParts_100 : decode cX5_joinParts 100 = .ok (.getfield 15, 3) := by decide +kernel
theorem dX5_joinParts_103 : decode cX5_joinParts 103 = .ok (.iload_n 2, 1) := by decide +kernel
theorem dX5_joinParts_104 : decode cX5_joinParts 104 = .ok (.iaload, 1) := by decide +kernel
theorem dX5_joinParts_105 : decode cX5_joinParts 105 = .ok (.if_icmp .ge 15, 3) := by decide +kernel
theorem dX5_joinParts_108 : decode cX5_joinParts 108 = .ok (.aload_n 0, 1) := by decide +kernel
theorem dX5_joinParts_109 : decode cX5_joinParts 109 = .ok (.getfield 18, 3) := by decide +kernel
theorem dX5_joinParts_112 : decode cX5_joinParts 112 = .ok (.iload_n 2, 1) := by decide +kernel
theorem dX5_joinParts_113 : decode cX5_joinParts 113 = .ok (.aload_n 0, 1) := by decide +kernel
theorem dX5_joinParts_114 : decode cX5_joinParts 114 = .ok (.getfield 18, 3) := by decide +kernel
theorem dX5_joinParts_117 : decode cX5_joinParts 117 = .ok (.iload_n 3, 1) := by decide +kernel
theorem dX5_joinParts_118 : decode cX5_joinParts 118 = .ok (.iaload, 1) := by decide +kernel
theorem dX5_joinParts_119 : decode cX5_joinParts 119 = .ok (.iastore, 1) := by decide +kernel
theorem dX5_joinParts_120 : decode cX5_joinParts 120 = .ok (.aload_n 0, 1) := by decide +kernel
theorem dX5_joinParts_121 : decode cX5_joinParts 121 = .ok (.getfield 15, 3) := by decide +kernel
theorem dX5_joinParts_124 : decode cX5_joinParts 124 = .ok (.iload_n 2, 1) := by decide +kernel
theorem dX5_joinParts_125 : decode cX5_joinParts 125 = .ok (.iload 6, 2) := by decide +kernel
theorem dX5_joinParts_127 : decode cX5_joinParts 127 = .ok (.ifCond .eq 8, 3) := by decide +kernel
theorem dX5_joinParts_130 : decode cX5_joinParts 130 = .ok (.iload 5, 2) := by decide +kernel
theorem dX5_joinParts_132 : decode cX5_joinParts 132 = .ok (.goto 5, 3) := by decide +kernel
theorem dX5_joinParts_135 : decode cX5_joinParts 135 = .ok (.iload 4, 2) := by decide +kernel
theorem dX5_joinParts_137 : decode cX5_joinParts 137 = .ok (.iconst 1, 1) := by decide +kernel
theorem dX5_joinParts_138 : decode cX5_joinParts 138 = .ok (.iadd, 1) := by decide +kernel
theorem dX5_joinParts_139 : decode cX5_joinParts 139 = .ok (.iastore, 1) := by decide +kernel
theorem dX5_joinParts_140 : decode cX5_joinParts 140 = .ok (.return_, 1) := by decide +kernel
theorem dX6_init_0 : decode cX6_init 0 = .ok (.aload_n 0, 1) := by decide +kernel
theorem dX6_init_1 : decode cX6_init 1 = .ok (.invokespecial 3, 3) := by decide +kernel
theorem dX6_init_4 : decode cX6_init 4 = .ok (.aload_n 0, 1) := by decide +kernel
theorem dX6_init_5 : decode cX6_init 5 = .ok (.sipush 4096, 3) := by decide +kernel
theorem dX6_init_8 : decode cX6_init 8 = .ok (.newarray .short, 2) := by decide +kernel
theorem dX6_init_10 : decode cX6_init 10 = .ok (.putfield 9, 3) := by decide +kernel
theorem dX6_init_13 : decode cX6_init 13 = .ok (.aload_n 0, 1) := by decide +kernel
theorem dX6_init_14 : decode cX6_init 14 = .ok (.sipush 4096, 3) := by decide +kernel
theorem dX6_init_17 : decode cX6_init 17 = .ok (.newarray .short, 2) := by decide +kernel
theorem dX6_init_19 : decode cX6_init 19 = .ok (.putfield 15, 3) := by decide +kernel
theorem dX6_init_22 : decode cX6_init 22 = .ok (.aload_n 0, 1) := by decide +kernel
theorem dX6_init_23 : decode cX6_init 23 = .ok (.sipush 4096, 3) := by decide +kernel
theorem dX6_init_26 : decode cX6_init 26 = .ok (.newarray .boolean, 2) := by decide +kernel
theorem dX6_init_28 : decode cX6_init 28 = .ok (.putfield 18, 3) := by decide +kernel
theorem dX6_init_31 : decode cX6_init 31 = .ok (.aload_n 0, 1) := by decide +kernel
theorem dX6_init_32 : decode cX6_init 32 = .ok (.iconst 0, 1) := by decide +kernel
theorem dX6_init_33 : decode cX6_init 33 = .ok (.putfield 22, 3) := by decide +kernel
theorem dX6_init_36 : decode cX6_init 36 = .ok (.aload_n 0, 1) := by decide +kernel
theorem dX6_init_37 : decode cX6_init 37 = .ok (.iconst 0, 1) := by decide +kernel
theorem dX6_init_38 : decode cX6_init 38 = .ok (.putfield 26, 3) := by decide +kernel
theorem dX6_init_41 : decode cX6_init 41 = .ok (.aload_n 0, 1) := by decide +kernel
theorem dX6_init_42 : decode cX6_init 42 = .ok (.getfield 15, 3) := by decide +kernel
theorem dX6_init_45 : decode cX6_init 45 = .ok (.iconst (-1), 1) := by decide +kernel
theorem dX6_init_46 : decode cX6_init 46 = .ok (.invokestatic 29, 3) := by decide +kernel
theorem dX6_init_49 : decode cX6_init 49 = .ok (.return_, 1) := by decide +kernel
theorem dX6_search_0 : decode cX6_search 0 = .ok (.aload_n 0, 1) := by decide +kernel
theorem dX6_search_1 : decode cX6_search 1 = .ok (.invokevirtual 35, 3) := by decide +kernel
theorem dX6_search_4 : decode cX6_search 4 = .ok (.aload_n 0, 1) := by decide +kernel
theorem dX6_search_5 : decode cX6_search 5 = .ok (.aload_n 1, 1) := by decide +kernel
theorem dX6_search_6 : decode cX6_search 6 = .ok (.getfield 38, 3) := by decide +kernel
theorem dX6_search_9 : decode cX6_search 9 = .ok (.bipush 64, 2) := by decide +kernel
theorem dX6_search_11 : decode cX6_search 11 = .ok (.imul, 1) := by decide +kernel
theorem dX6_search_12 : decode cX6_search 12 = .ok (.aload_n 2, 1) := by decide +kernel
theorem dX6_search_13 : decode cX6_search 13 = .ok (.getfield 38, 3) := by decide +kernel
theorem dX6_search_16 : decode cX6_search 16 = .ok (.iadd, 1) := by decide +kernel
theorem dX6_search_17 : decode cX6_search 17 = .ok (.iconst 0, 1) := by decide +kernel
theorem dX6_search_18 : decode cX6_search 18 = .ok (.invokevirtual 43, 3) := by decide +kernel
theorem dX6_search_21 : decode cX6_search 21 = .ok (.iconst 0, 1) := by decide +kernel
theorem dX6_search_22 : decode cX6_search 22 = .ok (.istore 4, 2) := by decide +kernel
theorem dX6_search_24 : decode cX6_search 24 = .ok (.iload 4, 2) := by decide +kernel
theorem dX6_search_26 : decode cX6_search 26 = .ok (.aload_n 0, 1) := by decide +kernel
theorem dX6_search_27 : decode cX6_search 27 = .ok (.getfield 22, 3) := by decide +kernel
theorem dX6_search_30 : decode cX6_search 30 = .ok (.if_icmp .ge 100, 3) := by decide +kernel
theorem dX6_search_33 : decode cX6_search 33 = .ok (.iload 4, 2) := by decide +kernel
theorem dX6_search_35 : decode cX6_search 35 = .ok (.sipush 4096, 3) := by decide +kernel
theorem dX6_search_38 : decode cX6_search 38 = .ok (.if_icmp .ge 92, 3) := by decide +kernel
theorem dX6_search_41 : decode cX6_search 41 = .ok (.aload_n 0, 1) := by decide +kernel
theorem dX6_search_42 : decode cX6_search 42 = .ok (.getfield 9, 3) := by decide +kernel
theorem dX6_search_45 : decode cX6_search 45 = .ok (.iload 4, 2) := by decide +kernel
theorem dX6_search_47 : decode cX6_search 47 = .ok (.saload, 1) := by decide +kernel
theorem dX6_search_48 : decode cX6_search 48 = .ok (.istore 5, 2) := by decide +kernel
theorem dX6_search_50 : decode cX6_search 50 = .ok (.aload_n 1, 1) := by decide +kernel
theorem dX6_search_51 : decode cX6_search 51 = .ok (.aload_n 2, 1) := by decide +kernel
theorem dX6_search_52 : decode cX6_search 52 = .ok (.iload 5, 2) := by decide +kernel
theorem dX6_search_54 : decode cX6_search 54 = .ok (.invokestatic 47, 3) := by decide +kernel
theorem dX6_search_57 : decode cX6_search 57 = .ok (.ifCond .eq 27, 3) := by decide +kernel
theorem dX6_search_60 : decode cX6_search 60 = .ok (.iload_n 3, 1) := by decide +kernel
theorem dX6_search_61 : decode cX6_search 61 = .ok (.ifCond .eq 15, 3) := by decide +kernel
theorem dX6_search_64 : decode cX6_search 64 = .ok (.aload_n 1, 1) := by decide +kernel
theorem dX6_search_65 : decode cX6_search 65 = .ok (.iload 5, 2) := by decide +kernel
theorem dX6_search_67 : decode cX6_search 67 = .ok (.bipush 64, 2) := by decide +kernel
theorem dX6_search_69 : decode cX6_search 69 = .ok (.idiv, 1) := by decide +kernel
theorem dX6_search_70 : decode cX6_search 70 = .ok (.invokevirtual 51, 3) := by decide +kernel
theorem dX6_search_73 : decode cX6_search 73 = .ok (.ifCond .eq 11, 3) := by decide +kernel
theorem dX6_search_76 : decode cX6_search 76 = .ok (.aload_n 0, 1) := by decide +kernel
theorem dX6_search_77 : decode cX6_search 77 = .ok (.iload 4, 2) := by decide +kernel
theorem dX6_search_79 : decode cX6_search 79 = .ok (.putfield 26, 3) := by decide +kernel
theorem dX6_search_82 : decode cX6_search 82 = .ok (.iconst 1, 1) := by decide +kernel
theorem dX6_search_83 : decode cX6_search 83 = .ok (.ireturn, 1) := by decide +kernel
theorem dX6_search_84 : decode cX6_search 84 = .ok (.iconst 0, 1) := by decide +kernel
theorem dX6_search_85 : decode cX6_search 85 = .ok (.istore 6, 2) := by decide +kernel
theorem dX6_search_87 : decode cX6_search 87 = .ok (.iload 6, 2) := by decide +kernel
theorem dX6_search_89 : decode cX6_search 89 = .ok (.aload_n 1, 1) := by decide +kernel
theorem dX6_search_90 : decode cX6_search 90 = .ok (.getfield 55, 3) := by decide +kernel
theorem dX6_search_93 : decode cX6_search 93 = .ok (.if_icmp .ge 31, 3) := by decide +kernel
theorem dX6_search_96 : decode cX6_search 96 = .ok (.aload_n 0, 1) := by decide +kernel
theorem dX6_search_97 : decode cX6_search 97 = .ok (.aload_n 1, 1) := by decide +kernel
theorem dX6_search_98 : decode cX6_search 98 = .ok (.aload_n 2, 1) := by decide +kernel
theorem dX6_search_99 : decode cX6_search 99 = .ok (.iload 5, 2) := by decide +kernel
theorem dX6_search_101 : decode cX6_search 101 = .ok (.iload 6, 2) := by decide +kernel
theorem dX6_search_103 : decode cX6_search 103 = .ok (.invokestatic 58, 3) := by decide +kernel
theorem dX6_search_106 : decode cX6_search 106 = .ok (.aload_n 0, 1) := by decide +kernel
theorem dX6_search_107 : decode cX6_search 107 = .ok (.getfield 15, 3) := by decide +kernel
theorem dX6_search_110 : decode cX6_search 110 = .ok (.iload 5, 2) := by decide +kernel
theorem dX6_search_112 : decode cX6_search 112 = .ok (.saload, 1) := by decide +kernel
theorem dX6_search_113 : decode cX6_search 113 = .ok (.iconst 1, 1) := by decide +kernel
theorem dX6_search_114 : decode cX6_search 114 = .ok (.iadd, 1) := by decide +kernel
theorem dX6_search_115 : decode cX6_search 115 = .ok (.invokevirtual 43, 3) := by decide +kernel
theorem dX6_search_118 : decode cX6_search 118 = .ok (.iinc 6 1, 3) := by decide +kernel
theorem dX6_search_121 : decode cX6_search 121 = .ok (.goto (-34), 3) := by decide +kernel
theorem dX6_search_124 : decode cX6_search 124 = .ok (.iinc 4 1, 3) := by decide +kernel
theorem dX6_search_127 : decode cX6_search 127 = .ok (.goto (-103), 3) := by decide +kernel
theorem dX6_search_130 : decode cX6_search 130 = .ok (.iconst 0, 1) := by decide +kernel
theorem dX6_search_131 : decode cX6_search 131 = .ok (.ireturn, 1) := by decide +kernel
theorem dX6_forgetLast_0 : decode cX6_forgetLast 0 = .ok (.iconst 0, 1) := by decide +kernel
theorem dX6_forgetLast_1 : decode cX6_forgetLast 1 = .ok (.istore_n 1, 1) := by decide +kernel
theorem dX6_forgetLast_2 : decode cX6_forgetLast 2 = .ok (.iload_n 1, 1) := by decide +kernel
theorem dX6_forgetLast_3 : decode cX6_forgetLast 3 = .ok (.aload_n 0, 1) := by decide +kernel
theorem dX6_forgetLast_4 : decode cX6_forgetLast 4 = .ok (.getfield 22, 3) := by decide +kernel
theorem dX6_forgetLast_7 : decode cX6_forgetLast 7 = .ok (.if_icmp .ge 40, 3) := by decide +kernel
theorem dX6_forgetLast_10 : decode cX6_forgetLast 10 = .ok (.iload_n 1, 1) := by decide +kernel
theorem dX6_forgetLast_11 : decode cX6_forgetLast 11 = .ok (.sipush 4096, 3) := by decide +kernel
theorem dX6_forgetLast_14 : decode cX6_forgetLast 14 = .ok (.if_icmp .ge 33, 3) := by decide +kernel
theorem dX6_forgetLast_17 : decode cX6_forgetLast 17 = .ok (.aload_n 0, 1) := by decide +kernel
theorem dX6_forgetLast_18 : decode cX6_forgetLast 18 = .ok (.getfield 15, 3) := by decide +kernel
theorem dX6_forgetLast_21 : decode cX6_forgetLast 21 = .ok (.aload_n 0, 1) := by decide +kernel
theorem dX6_forgetLast_22 : decode cX6_forgetLast 22 = .ok (.getfield 9, 3) := by decide +kernel
theorem dX6_forgetLast_25 : decode cX6_forgetLast 25 = .ok (.iload_n 1, 1) := by decide +kernel
theorem dX6_forgetLast_26 : decode cX6_forgetLast 26 = .ok (.saload, 1) := by decide +kernel
theorem dX6_forgetLast_27 : decode cX6_forgetLast 27 = .ok (.iconst (-1), 1) := by decide +kernel
theorem dX6_forgetLast_28 : decode cX6_forgetLast 28 = .ok (.sastore, 1) := by decide +kernel
theorem dX6_forgetLast_29 : decode cX6_forgetLast 29 = .ok (.aload_n 0, 1) := by decide +kernel
theorem dX6_forgetLast_30 : decode cX6_forgetLast 30 = .ok (.getfield 18, 3) := by decide +kernel
theorem dX6_forgetLast_33 : decode cX6_forgetLast 33 = .ok (.aload_n 0, 1) := by decide +kernel
theorem dX6_forgetLast_34 : decode cX6_forgetLast 34 = .ok (.getfield 9, 3) := by decide +kernel
theorem dX6_forgetLast_37 : decode cX6_forgetLast 37 = .ok (.iload_n 1, 1) := by decide +kernel
theorem dX6_forgetLast_38 : decode cX6_forgetLast 38 = .ok (.saload, 1) := by decide +kernel
theorem dX6_forgetLast_39 : decode cX6_forgetLast 39 = .ok (.iconst 0, 1) := by decide +kernel
theorem dX6_forgetLast_40 : decode cX6_forgetLast 40 = .ok (.bastore, 1) := by decide +kernel
theorem dX6_forgetLast_41 : decode cX6_forgetLast 41 = .ok (.iinc 1 1, 3) := by decide +kernel
theorem dX6_forgetLast_44 : decode cX6_forgetLast 44 = .ok (.goto (-42), 3) := by decide +kernel
theorem dX6_forgetLast_47 : decode cX6_forgetLast 47 = .ok (.aload_n 0, 1) := by decide +kernel
theorem dX6_forgetLast_48 : decode cX6_forgetLast 48 = .ok (.iconst 0, 1) := by decide +kernel
theorem dX6_forgetLast_49 : decode cX6_forgetLast 49 = .ok (.putfield 22, 3) := by decide +kernel
theorem dX6_forgetLast_52 : decode cX6_forgetLast 52 = .ok (.return_, 1) := by decide +kernel
theorem dX6_reach_0 : decode cX6_reach 0 = .ok (.iload_n 1, 1) := by decide +kernel
theorem dX6_reach_1 : decode cX6_reach 1 = .ok (.ifCond .lt 59, 3) := by decide +kernel
theorem dX6_reach_4 : decode cX6_reach 4 = .ok (.iload_n 1, 1) := by decide +kernel
theorem dX6_reach_5 : decode cX6_reach 5 = .ok (.sipush 4096, 3) := by decide +kernel
theorem dX6_reach_8 : decode cX6_reach 8 = .ok (.if_icmp .ge 52, 3) := by decide +kernel
theorem dX6_reach_11 : decode cX6_reach 11 = .ok (.aload_n 0, 1) := by decide +kernel
theorem dX6_reach_12 : decode cX6_reach 12 = .ok (.getfield 22, 3) := by decide +kernel
theorem dX6_reach_15 : decode cX6_reach 15 = .ok (.sipush 4096, 3) := by decide +kernel
theorem dX6_reach_18 : decode cX6_reach 18 = .ok (.if_icmp .ge 42, 3) := by decide +kernel
theorem dX6_reach_21 : decode cX6_reach 21 = .ok (.aload_n 0, 1) := by decide +kernel
theorem dX6_reach_22 : decode cX6_reach 22 = .ok (.getfield 15, 3) := by decide +kernel
theorem dX6_reach_25 : decode cX6_reach 25 = .ok (.iload_n 1, 1) := by decide +kernel
theorem dX6_reach_26 : decode cX6_reach 26 = .ok (.saload, 1) := by decide +kernel
theorem dX6_reach_27 : decode cX6_reach 27 = .ok (.iconst (-1), 1) := by decide +kernel
theorem dX6_reach_28 : decode cX6_reach 28 = .ok (.if_icmp .ne 32, 3) := by decide +kernel
theorem dX6_reach_31 : decode cX6_reach 31 = .ok (.aload_n 0, 1) := by decide +kernel
theorem dX6_reach_32 : decode cX6_reach 32 = .ok (.getfield 15, 3) := by decide +kernel
theorem dX6_reach_35 : decode cX6_reach 35 = .ok (.iload_n 1, 1) := by decide +kernel
theorem dX6_reach_36 : decode cX6_reach 36 = .ok (.iload_n 2, 1) := by decide +kernel
theorem dX6_reach_37 : decode cX6_reach 37 = .ok (.i2s, 1) := by decide +kernel
theorem dX6_reach_38 : decode cX6_reach 38 = .ok (.sastore, 1) := by decide +kernel
theorem dX6_reach_39 : decode cX6_reach 39 = .ok (.aload_n 0, 1) := by decide +kernel
theorem dX6_reach_40 : decode cX6_reach 40 = .ok (.getfield 9, 3) := by decide +kernel
theorem dX6_reach_43 : decode cX6_reach 43 = .ok (.aload_n 0, 1) := by decide +kernel
theorem dX6_reach_44 : decode cX6_reach 44 = .ok (.getfield 22, 3) := by decide +kernel
theorem dX6_reach_47 : decode cX6_reach 47 = .ok (.iload_n 1, 1) := by decide +kernel
theorem dX6_reach_48 : decode cX6_reach 48 = .ok (.i2s, 1) := by decide +kernel
theorem dX6_reach_49 : decode cX6_reach 49 = .ok (.sastore, 1) := by decide +kernel
theorem dX6_reach_50 : decode cX6_reach 50 = .ok (.aload_n 0, 1) := by decide +kernel
theorem dX6_reach_51 : decode cX6_reach 51 = .ok (.dup, 1) := by decide +kernel
theorem dX6_reach_52 : decode cX6_reach 52 = .ok (.getfield 22, 3) := by decide +kernel
theorem dX6_reach_55 : decode cX6_reach 55 = .ok (.iconst 1, 1) := by decide +kernel
theorem dX6_reach_56 : decode cX6_reach 56 = .ok (.iadd, 1) := by decide +kernel
theorem dX6_reach_57 : decode cX6_reach 57 = .ok (.putfield 22, 3) := by decide +kernel
theorem dX6_reach_60 : decode cX6_reach 60 = .ok (.return_, 1) := by decide +kernel
theorem dX6_differs_0 : decode cX6_differs 0 = .ok (.aload_n 0, 1) := by decide +kernel
theorem dX6_differs_1 : decode cX6_differs 1 = .ok (.iload_n 2, 1) := by decide +kernel
theorem dX6_differs_2 : decode cX6_differs 2 = .ok (.bipush 64, 2) := by decide +kernel
theorem dX6_differs_4 : decode cX6_differs 4 = .ok (.idiv, 1) := by decide +kernel
theorem dX6_differs_5 : decode cX6_differs 5 = .ok (.invokevirtual 51, 3) := by decide +kernel
theorem dX6_differs_8 : decode cX6_differs 8 = .ok (.aload_n 1, 1) := by decide +kernel
theorem dX6_differs_9 : decode cX6_differs 9 = .ok (.iload_n 2, 1) := by decide +kernel
theorem dX6_differs_10 : decode cX6_differs 10 = .ok (.bipush 64, 2) := by decide +kernel
theorem dX6_differs_12 : decode cX6_differs 12 = .ok (.irem, 1) := by decide +kernel
theorem dX6_differs_13 : decode cX6_differs 13 = .ok (.invokevirtual 51, 3) := by decide +kernel
theorem dX6_differs_16 : decode cX6_differs 16 = .ok (.if_icmp .eq 7, 3) := by decide +kernel
theorem dX6_differs_19 : decode cX6_differs 19 = .ok (.iconst 1, 1) := by decide +kernel
theorem dX6_differs_20 : decode cX6_differs 20 = .ok (.goto 4, 3) := by decide +kernel
theorem dX6_differs_23 : decode cX6_differs 23 = .ok (.iconst 0, 1) := by decide +kernel
theorem dX6_differs_24 : decode cX6_differs 24 = .ok (.ireturn, 1) := by decide +kernel
theorem dX6_stepPair_0 : decode cX6_stepPair 0 = .ok (.aload_n 0, 1) := by decide +kernel
theorem dX6_stepPair_1 : decode cX6_stepPair 1 = .ok (.iload_n 2, 1) := by decide +kernel
theorem dX6_stepPair_2 : decode cX6_stepPair 2 = .ok (.bipush 64, 2) := by decide +kernel
theorem dX6_stepPair_4 : decode cX6_stepPair 4 = .ok (.idiv, 1) := by decide +kernel
theorem dX6_stepPair_5 : decode cX6_stepPair 5 = .ok (.iload_n 3, 1) := by decide +kernel
theorem dX6_stepPair_6 : decode cX6_stepPair 6 = .ok (.invokevirtual 62, 3) := by decide +kernel
theorem dX6_stepPair_9 : decode cX6_stepPair 9 = .ok (.bipush 64, 2) := by decide +kernel
theorem dX6_stepPair_11 : decode cX6_stepPair 11 = .ok (.imul, 1) := by decide +kernel
theorem dX6_stepPair_12 : decode cX6_stepPair 12 = .ok (.aload_n 1, 1) := by decide +kernel
theorem dX6_stepPair_13 : decode cX6_stepPair 13 = .ok (.iload_n 2, 1) := by decide +kernel
theorem dX6_stepPair_14 : decode cX6_stepPair 14 = .ok (.bipush 64, 2) := by decide +kernel
theorem dX6_stepPair_16 : decode cX6_stepPair 16 = .ok (.irem, 1) := by decide +kernel
theorem dX6_stepPair_17 : decode cX6_stepPair 17 = .ok (.iload_n 3, 1) := by decide +kernel
theorem dX6_stepPair_18 : decode cX6_stepPair 18 = .ok (.invokevirtual 62, 3) := by decide +kernel
theorem dX6_stepPair_21 : decode cX6_stepPair 21 = .ok (.iadd, 1) := by decide +kernel
theorem dX6_stepPair_22 : decode cX6_stepPair 22 = .ok (.ireturn, 1) := by decide +kernel
theorem dX6_spell_0 : decode cX6_spell 0 = .ok (.aload_n 3, 1) := by decide +kernel
theorem dX6_spell_1 : decode cX6_spell 1 = .ok (.iconst 0, 1) := by decide +kernel
theorem dX6_spell_2 : decode cX6_spell 2 = .ok (.putfield 66, 3) := by decide +kernel
theorem dX6_spell_5 : decode cX6_spell 5 = .ok (.aload_n 0, 1) := by decide +kernel
theorem dX6_spell_6 : decode cX6_spell 6 = .ok (.getfield 15, 3) := by decide +kernel
theorem dX6_spell_9 : decode cX6_spell 9 = .ok (.aload_n 0, 1) := by decide +kernel
theorem dX6_spell_10 : decode cX6_spell 10 = .ok (.getfield 9, 3) := by decide +kernel
theorem dX6_spell_13 : decode cX6_spell 13 = .ok (.aload_n 0, 1) := by decide +kernel
theorem dX6_spell_14 : decode cX6_spell 14 = .ok (.getfield 26, 3) := by decide +kernel
theorem dX6_spell_17 : decode cX6_spell 17 = .ok (.saload, 1) := by decide +kernel
theorem dX6_spell_18 : decode cX6_spell 18 = .ok (.saload, 1) := by decide +kernel
theorem dX6_spell_19 : decode cX6_spell 19 = .ok (.istore 4, 2) := by decide +kernel
theorem dX6_spell_21 : decode cX6_spell 21 = .ok (.aload_n 0, 1) := by decide +kernel
theorem dX6_spell_22 : decode cX6_spell 22 = .ok (.getfield 26, 3) := by decide +kernel
theorem dX6_spell_25 : decode cX6_spell 25 = .ok (.istore 5, 2) := by decide +kernel
theorem dX6_spell_27 : decode cX6_spell 27 = .ok (.iload 5, 2) := by decide +kernel
theorem dX6_spell_29 : decode cX6_spell 29 = .ok (.aload_n 0, 1) := by decide +kernel
theorem dX6_spell_30 : decode cX6_spell 30 = .ok (.getfield 22, 3) := by decide +kernel
theorem dX6_spell_33 : decode cX6_spell 33 = .ok (.if_icmp .ge 50, 3) := by decide +kernel
theorem dX6_spell_36 : decode cX6_spell 36 = .ok (.aload_n 0, 1) := by decide +kernel
theorem dX6_spell_37 : decode cX6_spell 37 = .ok (.getfield 15, 3) := by decide +kernel
theorem dX6_spell_40 : decode cX6_spell 40 = .ok (.aload_n 0, 1) := by decide +kernel
theorem dX6_spell_41 : decode cX6_spell 41 = .ok (.getfield 9, 3) := by decide +kernel
theorem dX6_spell_44 : decode cX6_spell 44 = .ok (.iload 5, 2) := by decide +kernel
theorem dX6_spell_46 : decode cX6_spell 46 = .ok (.saload, 1) := by decide +kernel
theorem dX6_spell_47 : decode cX6_spell 47 = .ok (.saload, 1) := by decide +kernel
theorem dX6_spell_48 : decode cX6_spell 48 = .ok (.iload 4, 2) := by decide +kernel
theorem dX6_spell_50 : decode cX6_spell 50 = .ok (.if_icmp .ne 33, 3) := by decide +kernel
theorem dX6_spell_53 : decode cX6_spell 53 = .ok (.aload_n 0, 1) := by decide +kernel
theorem dX6_spell_54 : decode cX6_spell 54 = .ok (.getfield 18, 3) := by decide +kernel
theorem dX6_spell_57 : decode cX6_spell 57 = .ok (.aload_n 0, 1) := by decide +kernel
theorem dX6_spell_58 : decode cX6_spell 58 = .ok (.getfield 9, 3) := by decide +kernel
theorem dX6_spell_61 : decode cX6_spell 61 = .ok (.iload 5, 2) := by decide +kernel
theorem dX6_spell_63 : decode cX6_spell 63 = .ok (.saload, 1) := by decide +kernel
theorem dX6_spell_64 : decode cX6_spell 64 = .ok (.aload_n 1, 1) := by decide +kernel
theorem dX6_spell_65 : decode cX6_spell 65 = .ok (.aload_n 2, 1) := by decide +kernel
theorem dX6_spell_66 : decode cX6_spell 66 = .ok (.aload_n 0, 1) := by decide +kernel
theorem dX6_spell_67 : decode cX6_spell 67 = .ok (.getfield 9, 3) := by decide +kernel
theorem dX6_spell_70 : decode cX6_spell 70 = .ok (.iload 5, 2) := by decide +kernel
theorem dX6_spell_72 : decode cX6_spell 72 = .ok (.saload, 1) := by decide +kernel
theorem dX6_spell_73 : decode cX6_spell 73 = .ok (.invokestatic 47, 3) := by decide +kernel
theorem dX6_spell_76 : decode cX6_spell 76 = .ok (.bastore, 1) := by decide +kernel
theorem dX6_spell_77 : decode cX6_spell 77 = .ok (.iinc 5 1, 3) := by decide +kernel
theorem dX6_spell_80 : decode cX6_spell 80 = .ok (.goto (-53), 3) := by decide +kernel
theorem dX6_spell_83 : decode cX6_spell 83 = .ok (.aload_n 0, 1) := by decide +kernel
theorem dX6_spell_84 : decode cX6_spell 84 = .ok (.aload_n 0, 1) := by decide +kernel
theorem dX6_spell_85 : decode cX6_spell 85 = .ok (.getfield 26, 3) := by decide +kernel
theorem dX6_spell_88 : decode cX6_spell 88 = .ok (.iload 4, 2) := by decide +kernel
theorem dX6_spell_90 : decode cX6_spell 90 = .ok (.invokevirtual 71, 3) := by decide +kernel
theorem dX6_spell_93 : decode cX6_spell 93 = .ok (.istore 5, 2) := by decide +kernel
theorem dX6_spell_95 : decode cX6_spell 95 = .ok (.iload 4, 2) := by decide +kernel
theorem dX6_spell_97 : decode cX6_spell 97 = .ok (.iconst 1, 1) := by decide +kernel
theorem dX6_spell_98 : decode cX6_spell 98 = .ok (.isub, 1) := by decide +kernel
theorem dX6_spell_99 : decode cX6_spell 99 = .ok (.istore 6, 2) := by decide +kernel
theorem dX6_spell_101 : decode cX6_spell 101 = .ok (.iload 6, 2) := by decide +kernel
theorem dX6_spell_103 : decode cX6_spell 103 = .ok (.ifCond .lt 74, 3) := by decide +kernel
theorem dX6_spell_106 : decode cX6_spell 106 = .ok (.aload_n 0, 1) := by decide +kernel
theorem dX6_spell_107 : decode cX6_spell 107 = .ok (.iload 5, 2) := by decide +kernel
theorem dX6_spell_109 : decode cX6_spell 109 = .ok (.iload 6, 2) := by decide +kernel
theorem dX6_spell_111 : decode cX6_spell 111 = .ok (.invokevirtual 71, 3) := by decide +kernel
theorem dX6_spell_114 : decode cX6_spell 114 = .ok (.istore 7, 2) := by decide +kernel
theorem dX6_spell_116 : decode cX6_spell 116 = .ok (.iconst 0, 1) := by decide +kernel
theorem dX6_spell_117 : decode cX6_spell 117 = .ok (.istore 8, 2) := by decide +kernel
theorem dX6_spell_119 : decode cX6_spell 119 = .ok (.iconst 0, 1) := by decide +kernel
theorem dX6_spell_120 : decode cX6_spell 120 = .ok (.istore 9, 2) := by decide +kernel
theorem dX6_spell_122 : decode cX6_spell 122 = .ok (.iload 9, 2) := by decide +kernel
theorem dX6_spell_124 : decode cX6_spell 124 = .ok (.aload_n 1, 1) := by decide +kernel
theorem dX6_spell_125 : decode cX6_spell 125 = .ok (.getfield 55, 3) := by decide +kernel
theorem dX6_spell_128 : decode cX6_spell 128 = .ok (.if_icmp .ge 39, 3) := by decide +kernel
theorem dX6_spell_131 : decode cX6_spell 131 = .ok (.iload 8, 2) := by decide +kernel
theorem dX6_spell_133 : decode cX6_spell 133 = .ok (.ifCond .ne 34, 3) := by decide +kernel
theorem dX6_spell_136 : decode cX6_spell 136 = .ok (.aload_n 0, 1) := by decide +kernel
theorem dX6_spell_137 : decode cX6_spell 137 = .ok (.aload_n 1, 1) := by decide +kernel
theorem dX6_spell_138 : decode cX6_spell 138 = .ok (.aload_n 2, 1) := by decide +kernel
theorem dX6_spell_139 : decode cX6_spell 139 = .ok (.iload 9, 2) := by decide +kernel
theorem dX6_spell_141 : decode cX6_spell 141 = .ok (.iload 7, 2) := by decide +kernel
theorem dX6_spell_143 : decode cX6_spell 143 = .ok (.iload 5, 2) := by decide +kernel
theorem dX6_spell_145 : decode cX6_spell 145 = .ok (.invokevirtual 74, 3) := by decide +kernel
theorem dX6_spell_148 : decode cX6_spell 148 = .ok (.istore 8, 2) := by decide +kernel
theorem dX6_spell_150 : decode cX6_spell 150 = .ok (.iload 8, 2) := by decide +kernel
theorem dX6_spell_152 : decode cX6_spell 152 = .ok (.ifCond .eq 9, 3) := by decide +kernel
theorem dX6_spell_155 : decode cX6_spell 155 = .ok (.aload_n 3, 1) := by decide +kernel
theorem dX6_spell_156 : decode cX6_spell 156 = .ok (.iload 9, 2) := by decide +kernel
theorem dX6_spell_158 : decode cX6_spell 158 = .ok (.invokevirtual 78, 3) := by decide +kernel
theorem dX6_spell_161 : decode cX6_spell 161 = .ok (.iinc 9 1, 3) := by decide +kernel
theorem dX6_spell_164 : decode cX6_spell 164 = .ok (.goto (-42), 3) := by decide +kernel
theorem dX6_spell_167 : decode cX6_spell 167 = .ok (.iload 7, 2) := by decide +kernel
theorem dX6_spell_169 : decode cX6_spell 169 = .ok (.istore 5, 2) := by decide +kernel
theorem dX6_spell_171 : decode cX6_spell 171 = .ok (.iinc 6 (-1), 3) := by decide +kernel
theorem dX6_spell_174 : decode cX6_spell 174 = .ok (.goto (-73), 3) := by decide +kernel
theorem dX6_spell_177 : decode cX6_spell 177 = .ok (.return_, 1) := by decide +kernel
theorem dX6_levelBegin_0 : decode cX6_levelBegin 0 = .ok (.iload_n 1, 1) := by decide +kernel
theorem dX6_levelBegin_1 : decode cX6_levelBegin 1 = .ok (.istore_n 3, 1) := by decide +kernel
theorem dX6_levelBegin_2 : decode cX6_levelBegin 2 = .ok (.iload_n 1, 1) := by decide +kernel
theorem dX6_levelBegin_3 : decode cX6_levelBegin 3 = .ok (.iconst 1, 1) := by decide +kernel
theorem dX6_levelBegin_4 : decode cX6_levelBegin 4 = .ok (.isub, 1) := by decide +kernel
theorem dX6_levelBegin_5 : decode cX6_levelBegin 5 = .ok (.istore 4, 2) := by decide +kernel
theorem dX6_levelBegin_7 : decode cX6_levelBegin 7 = .ok (.iload 4, 2) := by decide +kernel
theorem dX6_levelBegin_9 : decode cX6_levelBegin 9 = .ok (.ifCond .lt 28, 3) := by decide +kernel
theorem dX6_levelBegin_12 : decode cX6_levelBegin 12 = .ok (.aload_n 0, 1) := by decide +kernel
theorem dX6_levelBegin_13 : decode cX6_levelBegin 13 = .ok (.getfield 15, 3) := by decide +kernel
theorem dX6_levelBegin_16 : decode cX6_levelBegin 16 = .ok (.aload_n 0, 1) := by decide +kernel
theorem dX6_levelBegin_17 : decode cX6_levelBegin 17 = .ok (.getfield 9, 3) := by decide +kernel
theorem dX6_levelBegin_20 : decode cX6_levelBegin 20 = .ok (.iload 4, 2) := by decide +kernel
theorem dX6_levelBegin_22 : decode cX6_levelBegin 22 = .ok (.saload, 1) := by decide +kernel
theorem dX6_levelBegin_23 : decode cX6_levelBegin 23 = .ok (.saload, 1) := by decide +kernel
theorem dX6_levelBegin_24 : decode cX6_levelBegin 24 = .ok (.iload_n 2, 1) := by decide +kernel
theorem dX6_levelBegin_25 : decode cX6_levelBegin 25 = .ok (.if_icmp .ne 12, 3) := by decide +kernel
theorem dX6_levelBegin_28 : decode cX6_levelBegin 28 = .ok (.iload 4, 2) := by decide +kernel
theorem dX6_levelBegin_30 : decode cX6_levelBegin 30 = .ok (.istore_n 3, 1) := by decide +kernel
theorem dX6_levelBegin_31 : decode cX6_levelBegin 31 = .ok (.iinc 4 (-1), 3) := by decide +kernel
theorem dX6_levelBegin_34 : decode cX6_levelBegin 34 = .ok (.goto (-27), 3) := by decide +kernel
theorem dX6_levelBegin_37 : decode cX6_levelBegin 37 = .ok (.iload_n 3, 1) := by decide +kernel
theorem dX6_levelBegin_38 : decode cX6_levelBegin 38 = .ok (.ireturn, 1) := by decide +kernel
theorem dX6_markLeading_0 : decode cX6_markLeading 0 = .ok (.iconst 0, 1) := by decide +kernel
theorem dX6_markLeading_1 : decode cX6_markLeading 1 = .ok (.istore 6, 2) := by decide +kernel
theorem dX6_markLeading_3 : decode cX6_markLeading 3 = .ok (.iload 4, 2) := by decide +kernel
theorem dX6_markLeading_5 : decode cX6_markLeading 5 = .ok (.istore 7, 2) := by decide +kernel
theorem dX6_markLeading_7 : decode cX6_markLeading 7 = .ok (.iload 7, 2) := by decide +kernel
theorem dX6_markLeading_9 : decode cX6_markLeading 9 = .ok (.iload 5, 2) := by decide +kernel
theorem dX6_markLeading_11 : decode cX6_markLeading 11 = .ok (.if_icmp .ge 77, 3) := by decide +kernel
theorem dX6_markLeading_14 : decode cX6_markLeading 14 = .ok (.iload 7, 2) := by decide +kernel
theorem dX6_markLeading_16 : decode cX6_markLeading 16 = .ok (.aload_n 0, 1) := by decide +kernel
theorem dX6_markLeading_17 : decode cX6_markLeading 17 = .ok (.getfield 22, 3) := by decide +kernel
theorem dX6_markLeading_20 : decode cX6_markLeading 20 = .ok (.if_icmp .ge 68, 3) := by decide +kernel
theorem dX6_markLeading_23 : decode cX6_markLeading 23 = .ok (.aload_n 0, 1) := by decide +kernel
theorem dX6_markLeading_24 : decode cX6_markLeading 24 = .ok (.getfield 9, 3) := by decide +kernel
theorem dX6_markLeading_27 : decode cX6_markLeading 27 = .ok (.iload 7, 2) := by decide +kernel
theorem dX6_markLeading_29 : decode cX6_markLeading 29 = .ok (.saload, 1) := by decide +kernel
theorem dX6_markLeading_30 : decode cX6_markLeading 30 = .ok (.istore 8, 2) := by decide +kernel
theorem dX6_markLeading_32 : decode cX6_markLeading 32 = .ok (.aload_n 1, 1) := by decide +kernel
theorem dX6_markLeading_33 : decode cX6_markLeading 33 = .ok (.aload_n 2, 1) := by decide +kernel
theorem dX6_markLeading_34 : decode cX6_markLeading 34 = .ok (.iload 8, 2) := by decide +kernel
theorem dX6_markLeading_36 : decode cX6_markLeading 36 = .ok (.iload_n 3, 1) := by decide +kernel
theorem dX6_markLeading_37 : decode cX6_markLeading 37 = .ok (.invokestatic 58, 3) := by decide +kernel
theorem dX6_markLeading_40 : decode cX6_markLeading 40 = .ok (.istore 9, 2) := by decide +kernel
theorem dX6_markLeading_42 : decode cX6_markLeading 42 = .ok (.aload_n 0, 1) := by decide +kernel
theorem dX6_markLeading_43 : decode cX6_markLeading 43 = .ok (.getfield 18, 3) := by decide +kernel
theorem dX6_markLeading_46 : decode cX6_markLeading 46 = .ok (.iload 9, 2) := by decide +kernel
theorem dX6_markLeading_48 : decode cX6_markLeading 48 = .ok (.baload, 1) := by decide +kernel
theorem dX6_markLeading_49 : decode cX6_markLeading 49 = .ok (.ifCond .eq 33, 3) := by decide +kernel
theorem dX6_markLeading_52 : decode cX6_markLeading 52 = .ok (.aload_n 0, 1) := by decide +kernel
theorem dX6_markLeading_53 : decode cX6_markLeading 53 = .ok (.getfield 15, 3) := by decide +kernel
theorem dX6_markLeading_56 : decode cX6_markLeading 56 = .ok (.iload 9, 2) := by decide +kernel
theorem dX6_markLeading_58 : decode cX6_markLeading 58 = .ok (.saload, 1) := by decide +kernel
theorem dX6_markLeading_59 : decode cX6_markLeading 59 = .ok (.aload_n 0, 1) := by decide +kernel
theorem dX6_markLeading_60 : decode cX6_markLeading 60 = .ok (.getfield 15, 3) := by decide +kernel
theorem dX6_markLeading_63 : decode cX6_markLeading 63 = .ok (.iload 8, 2) := by decide +kernel
theorem dX6_markLeading_65 : decode cX6_markLeading 65 = .ok (.saload, 1) := by decide +kernel
theorem dX6_markLeading_66 : decode cX6_markLeading 66 = .ok (.iconst 1, 1) := by decide +kernel
theorem dX6_markLeading_67 : decode cX6_markLeading 67 = .ok (.iadd, 1) := by decide +kernel
theorem dX6_markLeading_68 : decode cX6_markLeading 68 = .ok (.if_icmp .ne 14, 3) := by decide +kernel
theorem dX6_markLeading_71 : decode cX6_markLeading 71 = .ok (.aload_n 0, 1) := by decide +kernel
theorem dX6_markLeading_72 : decode cX6_markLeading 72 = .ok (.getfield 18, 3) := by decide +kernel
theorem dX6_markLeading_75 : decode cX6_markLeading 75 = .ok (.iload 8, 2) := by decide +kernel
theorem dX6_markLeading_77 : decode cX6_markLeading 77 = .ok (.iconst 1, 1) := by decide +kernel
theorem dX6_markLeading_78 : decode cX6_markLeading 78 = .ok (.bastore, 1) := by decide +kernel
theorem dX6_markLeading_79 : decode cX6_markLeading 79 = .ok (.iconst 1, 1) := by decide +kernel
theorem dX6_markLeading_80 : decode cX6_markLeading 80 = .ok (.istore 6, 2) := by decide +kernel
theorem dX6_markLeading_82 : decode cX6_markLeading 82 = .ok (.iinc 7 1, 3) := by decide +kernel
theorem dX6_markLeading_85 : decode cX6_markLeading 85 = .ok (.goto (-78), 3) := by decide +kernel
theorem dX6_markLeading_88 : decode cX6_markLeading 88 = .ok (.iload 6, 2) := by decide +kernel
theorem dX6_markLeading_90 : decode cX6_markLeading 90 = .ok (.ireturn, 1) := by decide +kernel
theorem dX7_init_0 : decode cX7_init 0 = .ok (.aload_n 0, 1) := by decide +kernel
theorem dX7_init_1 : decode cX7_init 1 = .ok (.invokespecial 3, 3) := by decide +kernel
theorem dX7_init_4 : decode cX7_init 4 = .ok (.aload_n 0, 1) := by decide +kernel
theorem dX7_init_5 : decode cX7_init 5 = .ok (.sipush 192, 3) := by decide +kernel
theorem dX7_init_8 : decode cX7_init 8 = .ok (.newarray .int, 2) := by decide +kernel
theorem dX7_init_10 : decode cX7_init 10 = .ok (.putfield 9, 3) := by decide +kernel
theorem dX7_init_13 : decode cX7_init 13 = .ok (.aload_n 0, 1) := by decide +kernel
theorem dX7_init_14 : decode cX7_init 14 = .ok (.bipush 64, 2) := by decide +kernel
theorem dX7_init_16 : decode cX7_init 16 = .ok (.newarray .int, 2) := by decide +kernel
theorem dX7_init_18 : decode cX7_init 18 = .ok (.putfield 15, 3) := by decide +kernel
theorem dX7_init_21 : decode cX7_init 21 = .ok (.aload_n 0, 1) := by decide +kernel
theorem dX7_init_22 : decode cX7_init 22 = .ok (.bipush 64, 2) := by decide +kernel
theorem dX7_init_24 : decode cX7_init 24 = .ok (.newarray .int, 2) := by decide +kernel
theorem dX7_init_26 : decode cX7_init 26 = .ok (.putfield 18, 3) := by decide +kernel
theorem dX7_init_29 : decode cX7_init 29 = .ok (.aload_n 0, 1) := by decide +kernel
theorem dX7_init_30 : decode cX7_init 30 = .ok (.bipush 64, 2) := by decide +kernel
theorem dX7_init_32 : decode cX7_init 32 = .ok (.newarray .long, 2) := by decide +kernel
theorem dX7_init_34 : decode cX7_init 34 = .ok (.putfield 21, 3) := by decide +kernel
theorem dX7_init_37 : decode cX7_init 37 = .ok (.aload_n 0, 1) := by decide +kernel
theorem dX7_init_38 : decode cX7_init 38 = .ok (.bipush 64, 2) := by decide +kernel
theorem dX7_init_40 : decode cX7_init 40 = .ok (.newarray .long, 2) := by decide +kernel
theorem dX7_init_42 : decode cX7_init 42 = .ok (.putfield 25, 3) := by decide +kernel
theorem dX7_init_45 : decode cX7_init 45 = .ok (.aload_n 0, 1) := by decide +kernel
theorem dX7_init_46 : decode cX7_init 46 = .ok (.iconst 0, 1) := by decide +kernel
theorem dX7_init_47 : decode cX7_init 47 = .ok (.putfield 28, 3) := by decide +kernel
theorem dX7_init_50 : decode cX7_init 50 = .ok (.aload_n 0, 1) := by decide +kernel
theorem dX7_init_51 : decode cX7_init 51 = .ok (.iconst 0, 1) := by decide +kernel
theorem dX7_init_52 : decode cX7_init 52 = .ok (.putfield 32, 3) := by decide +kernel
theorem dX7_init_55 : decode cX7_init 55 = .ok (.aload_n 0, 1) := by decide +kernel
theorem dX7_init_56 : decode cX7_init 56 = .ok (.lconst 0, 1) := by decide +kernel
theorem dX7_init_57 : decode cX7_init 57 = .ok (.putfield 35, 3) := by decide +kernel
theorem dX7_init_60 : decode cX7_init 60 = .ok (.return_, 1) := by decide +kernel
theorem dX7_load_0 : decode cX7_load 0 = .ok (.aload_n 0, 1) := by decide +kernel
theorem dX7_load_1 : decode cX7_load 1 = .ok (.aload_n 1, 1) := by decide +kernel
theorem dX7_load_2 : decode cX7_load 2 = .ok (.getfield 39, 3) := by decide +kernel
theorem dX7_load_5 : decode cX7_load 5 = .ok (.putfield 28, 3) := by decide +kernel
theorem dX7_load_8 : decode cX7_load 8 = .ok (.aload_n 0, 1) := by decide +kernel
theorem dX7_load_9 : decode cX7_load 9 = .ok (.aload_n 1, 1) := by decide +kernel
theorem dX7_load_10 : decode cX7_load 10 = .ok (.getfield 42, 3) := by decide +kernel
theorem dX7_load_13 : decode cX7_load 13 = .ok (.bipush 63, 2) := by decide +kernel
theorem dX7_load_15 : decode cX7_load 15 = .ok (.iand, 1) := by decide +kernel
theorem dX7_load_16 : decode cX7_load 16 = .ok (.putfield 32, 3) := by decide +kernel
theorem dX7_load_19 : decode cX7_load 19 = .ok (.aload_n 0, 1) := by decide +kernel
theorem dX7_load_20 : decode cX7_load 20 = .ok (.aload_n 1, 1) := by decide +kernel
theorem dX7_load_21 : decode cX7_load 21 = .ok (.getfield 45, 3) := by decide +kernel
theorem dX7_load_24 : decode cX7_load 24 = .ok (.getfield 49, 3) := by decide +kernel
theorem dX7_load_27 : decode cX7_load 27 = .ok (.putfield 35, 3) := by decide +kernel
theorem dX7_load_30 : decode cX7_load 30 = .ok (.iconst 1, 1) := by decide +kernel
theorem dX7_load_31 : decode cX7_load 31 = .ok (.aload_n 1, 1) := by decide +kernel
theorem dX7_load_32 : decode cX7_load 32 = .ok (.getfield 54, 3) := by decide +kernel
theorem dX7_load_35 : decode cX7_load 35 = .ok (.ishl, 1) := by decide +kernel
theorem dX7_load_36 : decode cX7_load 36 = .ok (.istore_n 2, 1) := by decide +kernel
theorem dX7_load_37 : decode cX7_load 37 = .ok (.iconst 0, 1) := by decide +kernel
theorem dX7_load_38 : decode cX7_load 38 = .ok (.istore_n 3, 1) := by decide +kernel
theorem dX7_load_39 : decode cX7_load 39 = .ok (.iload_n 3, 1) := by decide +kernel
theorem dX7_load_40 : decode cX7_load 40 = .ok (.aload_n 0, 1) := by decide +kernel
theorem dX7_load_41 : decode cX7_load 41 = .ok (.getfield 28, 3) := by decide +kernel
theorem dX7_load_44 : decode cX7_load 44 = .ok (.if_icmp .ge 50, 3) := by decide +kernel
theorem dX7_load_47 : decode cX7_load 47 = .ok (.iconst 0, 1) := by decide +kernel
theorem dX7_load_48 : decode cX7_load 48 = .ok (.istore 4, 2) := by decide +kernel
theorem dX7_load_50 : decode cX7_load 50 = .ok (.iload 4, 2) := by decide +kernel
theorem dX7_load_52 : decode cX7_load 52 = .ok (.iload_n 2, 1) := by decide +kernel
theorem dX7_load_53 : decode cX7_load 53 = .ok (.if_icmp .ge 35, 3) := by decide +kernel
theorem dX7_load_56 : decode cX7_load 56 = .ok (.iload 4, 2) := by decide +kernel
theorem dX7_load_58 : decode cX7_load 58 = .ok (.bipush 64, 2) := by decide +kernel
theorem dX7_load_60 : decode cX7_load 60 = .ok (.if_icmp .ge 28, 3) := by decide +kernel
theorem dX7_load_63 : decode cX7_load 63 = .ok (.aload_n 0, 1) := by decide +kernel
theorem dX7_load_64 : decode cX7_load 64 = .ok (.getfield 9, 3) := by decide +kernel
theorem dX7_load_67 : decode cX7_load 67 = .ok (.iload_n 3, 1) := by decide +kernel
theorem dX7_load_68 : decode cX7_load 68 = .ok (.bipush 64, 2) := by decide +kernel
theorem dX7_load_70 : decode cX7_load 70 = .ok (.imul, 1) := by decide +kernel
theorem dX7_load_71 : decode cX7_load 71 = .ok (.iload 4, 2) := by decide +kernel
theorem dX7_load_73 : decode cX7_load 73 = .ok (.iadd, 1) := by decide +kernel
theorem dX7_load_74 : decode cX7_load 74 = .ok (.aload_n 1, 1) := by decide +kernel
theorem dX7_load_75 : decode cX7_load 75 = .ok (.iload_n 3, 1) := by decide +kernel
theorem dX7_load_76 : decode cX7_load 76 = .ok (.iload 4, 2) := by decide +kernel
theorem dX7_load_78 : decode cX7_load 78 = .ok (.invokevirtual 57, 3) := by decide +kernel
theorem dX7_load_81 : decode cX7_load 81 = .ok (.iastore, 1) := by decide +kernel
theorem dX7_load_82 : decode cX7_load 82 = .ok (.iinc 4 1, 3) := by decide +kernel
theorem dX7_load_85 : decode cX7_load 85 = .ok (.goto (-35), 3) := by decide +kernel
theorem dX7_load_88 : decode cX7_load 88 = .ok (.iinc 3 1, 3) := by decide +kernel
theorem dX7_load_91 : decode cX7_load 91 = .ok (.goto (-52), 3) := by decide +kernel
theorem dX7_load_94 : decode cX7_load 94 = .ok (.return_, 1) := by decide +kernel
theorem dX7_step_0 : decode cX7_step 0 = .ok (.iload_n 2, 1) := by decide +kernel
theorem dX7_step_1 : decode cX7_step 1 = .ok (.bipush 64, 2) := by decide +kernel
theorem dX7_step_3 : decode cX7_step 3 = .ok (.imul, 1) := by decide +kernel
theorem dX7_step_4 : decode cX7_step 4 = .ok (.iload_n 1, 1) := by decide +kernel
theorem dX7_step_5 : decode cX7_step 5 = .ok (.iadd, 1) := by decide +kernel
theorem dX7_step_6 : decode cX7_step 6 = .ok (.istore_n 3, 1) := by decide +kernel
theorem dX7_step_7 : decode cX7_step 7 = .ok (.iload_n 3, 1) := by decide +kernel
theorem dX7_step_8 : decode cX7_step 8 = .ok (.ifCond .lt 24, 3) := by decide +kernel
theorem dX7_step_11 : decode cX7_step 11 = .ok (.iload_n 3, 1) := by decide +kernel
theorem dX7_step_12 : decode cX7_step 12 = .ok (.aload_n 0, 1) := by decide +kernel
theorem dX7_step_13 : decode cX7_step 13 = .ok (.getfield 9, 3) := by decide +kernel
theorem dX7_step_16 : decode cX7_step 16 = .ok (.arraylength, 1) := by decide +kernel
theorem dX7_step_17 : decode cX7_step 17 = .ok (.if_icmp .ge 15, 3) := by decide +kernel
theorem dX7_step_20 : decode cX7_step 20 = .ok (.aload_n 0, 1) := by decide +kernel
theorem dX7_step_21 : decode cX7_step 21 = .ok (.getfield 9, 3) := by decide +kernel
theorem dX7_step_24 : decode cX7_step 24 = .ok (.iload_n 3, 1) := by decide +kernel
theorem dX7_step_25 : decode cX7_step 25 = .ok (.iaload, 1) := by decide +kernel
theorem dX7_step_26 : decode cX7_step 26 = .ok (.bipush 63, 2) := by decide +kernel
theorem dX7_step_28 : decode cX7_step 28 = .ok (.iand, 1) := by decide +kernel
theorem dX7_step_29 : decode cX7_step 29 = .ok (.goto 4, 3) := by decide +kernel
theorem dX7_step_32 : decode cX7_step 32 = .ok (.iconst 0, 1) := by decide +kernel
theorem dX7_step_33 : decode cX7_step 33 = .ok (.ireturn, 1) := by decide +kernel
theorem dX7_isAccepting_0 : decode cX7_isAccepting 0 = .ok (.aload_n 0, 1) := by decide +kernel
theorem dX7_isAccepting_1 : decode cX7_isAccepting 1 = .ok (.getfield 35, 3) := by decide +kernel
theorem dX7_isAccepting_4 : decode cX7_isAccepting 4 = .ok (.iload_n 1, 1) := by decide +kernel
theorem dX7_isAccepting_5 : decode cX7_isAccepting 5 = .ok (.invokestatic 61, 3) := by decide +kernel
theorem dX7_isAccepting_8 : decode cX7_isAccepting 8 = .ok (.ireturn, 1) := by decide +kernel
theorem dX7_reachable_0 : decode cX7_reachable 0 = .ok (.lconst 0, 1) := by decide +kernel
theorem dX7_reachable_1 : decode cX7_reachable 1 = .ok (.lstore_n 1, 1) := by decide +kernel
theorem dX7_reachable_2 : decode cX7_reachable 2 = .ok (.lconst 1, 1) := by decide +kernel
theorem dX7_reachable_3 : decode cX7_reachable 3 = .ok (.aload_n 0, 1) := by decide +kernel
theorem dX7_reachable_4 : decode cX7_reachable 4 = .ok (.getfield 32, 3) := by decide +kernel
theorem dX7_reachable_7 : decode cX7_reachable 7 = .ok (.lshl, 1) := by decide +kernel
theorem dX7_reachable_8 : decode cX7_reachable 8 = .ok (.lstore_n 3, 1) := by decide +kernel
theorem dX7_reachable_9 : decode cX7_reachable 9 = .ok (.iconst 0, 1) := by decide +kernel
theorem dX7_reachable_10 : decode cX7_reachable 10 = .ok (.istore 5, 2) := by decide +kernel
theorem dX7_reachable_12 : decode cX7_reachable 12 = .ok (.iload 5, 2) := by decide +kernel
theorem dX7_reachable_14 : decode cX7_reachable 14 = .ok (.bipush 64, 2) := by decide +kernel
theorem dX7_reachable_16 : decode cX7_reachable 16 = .ok (.if_icmp .gt 31, 3) := by decide +kernel
theorem dX7_reachable_19 : decode cX7_reachable 19 = .ok (.lload_n 3, 1) := by decide +kernel
theorem dX7_reachable_20 : decode cX7_reachable 20 = .ok (.lconst 0, 1) := by decide +kernel
theorem dX7_reachable_21 : decode cX7_reachable 21 = .ok (.lcmp, 1) := by decide +kernel
theorem dX7_reachable_22 : decode cX7_reachable 22 = .ok (.ifCond .eq 25, 3) := by decide +kernel
theorem dX7_reachable_25 : decode cX7_reachable 25 = .ok (.lload_n 1, 1) := by decide +kernel
theorem dX7_reachable_26 : decode cX7_reachable 26 = .ok (.lload_n 3, 1) := by decide +kernel
theorem dX7_reachable_27 : decode cX7_reachable 27 = .ok (.lor, 1) := by decide +kernel
theorem dX7_reachable_28 : decode cX7_reachable 28 = .ok (.lstore_n 1, 1) := by decide +kernel
theorem dX7_reachable_29 : decode cX7_reachable 29 = .ok (.aload_n 0, 1) := by decide +kernel
theorem dX7_reachable_30 : decode cX7_reachable 30 = .ok (.lload_n 3, 1) := by decide +kernel
theorem dX7_reachable_31 : decode cX7_reachable 31 = .ok (.invokevirtual 65, 3) := by decide +kernel
theorem dX7_reachable_34 : decode cX7_reachable 34 = .ok (.lload_n 1, 1) := by decide +kernel
theorem dX7_reachable_35 : decode cX7_reachable 35 = .ok (.ldc2_w 69, 3) := by decide +kernel
theorem dX7_reachable_38 : decode cX7_reachable 38 = .ok (.lxor, 1) := by decide +kernel
theorem dX7_reachable_39 : decode cX7_reachable 39 = .ok (.land, 1) := by decide +kernel
theorem dX7_reachable_40 : decode cX7_reachable 40 = .ok (.lstore_n 3, 1) := by decide +kernel
theorem dX7_reachable_41 : decode cX7_reachable 41 = .ok (.iinc 5 1, 3) := by decide +kernel
theorem dX7_reachable_44 : decode cX7_reachable 44 = .ok (.goto (-32), 3) := by decide +kernel
theorem dX7_reachable_47 : decode cX7_reachable 47 = .ok (.lload_n 1, 1) := by decide +kernel
theorem dX7_reachable_48 : decode cX7_reachable 48 = .ok (.lreturn, 1) := by decide +kernel
theorem dX7_stepAll_0 : decode cX7_stepAll 0 = .ok (.lconst 0, 1) := by decide +kernel
theorem dX7_stepAll_1 : decode cX7_stepAll 1 = .ok (.lstore_n 3, 1) := by decide +kernel
theorem dX7_stepAll_2 : decode cX7_stepAll 2 = .ok (.iconst 0, 1) := by decide +kernel
theorem dX7_stepAll_3 : decode cX7_stepAll 3 = .ok (.istore 5, 2) := by decide +kernel
theorem dX7_stepAll_5 : decode cX7_stepAll 5 = .ok (.iload 5, 2) := by decide +kernel
theorem dX7_stepAll_7 : decode cX7_stepAll 7 = .ok (.bipush 64, 2) := by decide +kernel
theorem dX7_stepAll_9 : decode cX7_stepAll 9 = .ok (.if_icmp .ge 49, 3) := by decide +kernel
theorem dX7_stepAll_12 : decode cX7_stepAll 12 = .ok (.lload_n 1, 1) := by decide +kernel
theorem dX7_stepAll_13 : decode cX7_stepAll 13 = .ok (.iload 5, 2) := by decide +kernel
theorem dX7_stepAll_15 : decode cX7_stepAll 15 = .ok (.invokestatic 61, 3) := by decide +kernel
theorem dX7_stepAll_18 : decode cX7_stepAll 18 = .ok (.ifCond .eq 34, 3) := by decide +kernel
theorem dX7_stepAll_21 : decode cX7_stepAll 21 = .ok (.iconst 0, 1) := by decide +kernel
theorem dX7_stepAll_22 : decode cX7_stepAll 22 = .ok (.istore 6, 2) := by decide +kernel
theorem dX7_stepAll_24 : decode cX7_stepAll 24 = .ok (.iload 6, 2) := by decide +kernel
theorem dX7_stepAll_26 : decode cX7_stepAll 26 = .ok (.aload_n 0, 1) := by decide +kernel
theorem dX7_stepAll_27 : decode cX7_stepAll 27 = .ok (.getfield 28, 3) := by decide +kernel
theorem dX7_stepAll_30 : decode cX7_stepAll 30 = .ok (.if_icmp .ge 22, 3) := by decide +kernel
theorem dX7_stepAll_33 : decode cX7_stepAll 33 = .ok (.lload_n 3, 1) := by decide +kernel
theorem dX7_stepAll_34 : decode cX7_stepAll 34 = .ok (.lconst 1, 1) := by decide +kernel
theorem dX7_stepAll_35 : decode cX7_stepAll 35 = .ok (.aload_n 0, 1) := by decide +kernel
theorem dX7_stepAll_36 : decode cX7_stepAll 36 = .ok (.iload 5, 2) := by decide +kernel
theorem dX7_stepAll_38 : decode cX7_stepAll 38 = .ok (.iload 6, 2) := by decide +kernel
theorem dX7_stepAll_40 : decode cX7_stepAll 40 = .ok (.invokevirtual 71, 3) := by decide +kernel
theorem dX7_stepAll_43 : decode cX7_stepAll 43 = .ok (.lshl, 1) := by decide +kernel
theorem dX7_stepAll_44 : decode cX7_stepAll 44 = .ok (.lor, 1) := by decide +kernel
theorem dX7_stepAll_45 : decode cX7_stepAll 45 = .ok (.lstore_n 3, 1) := by decide +kernel
theorem dX7_stepAll_46 : decode cX7_stepAll 46 = .ok (.iinc 6 1, 3) := by decide +kernel
theorem dX7_stepAll_49 : decode cX7_stepAll 49 = .ok (.goto (-25), 3) := by decide +kernel
theorem dX7_stepAll_52 : decode cX7_stepAll 52 = .ok (.iinc 5 1, 3) := by decide +kernel
theorem dX7_stepAll_55 : decode cX7_stepAll 55 = .ok (.goto (-50), 3) := by decide +kernel
theorem dX7_stepAll_58 : decode cX7_stepAll 58 = .ok (.lload_n 3, 1) := by decide +kernel
theorem dX7_stepAll_59 : decode cX7_stepAll 59 = .ok (.lreturn, 1) := by decide +kernel
theorem dX7_countClasses_0 : decode cX7_countClasses 0 = .ok (.aload_n 0, 1) := by decide +kernel
theorem dX7_countClasses_1 : decode cX7_countClasses 1 = .ok (.invokevirtual 74, 3) := by decide +kernel
theorem dX7_countClasses_4 : decode cX7_countClasses 4 = .ok (.lstore_n 1, 1) := by decide +kernel
theorem dX7_countClasses_5 : decode cX7_countClasses 5 = .ok (.iconst 0, 1) := by decide +kernel
theorem dX7_countClasses_6 : decode cX7_countClasses 6 = .ok (.istore_n 3, 1) := by decide +kernel
theorem dX7_countClasses_7 : decode cX7_countClasses 7 = .ok (.iload_n 3, 1) := by decide +kernel
theorem dX7_countClasses_8 : decode cX7_countClasses 8 = .ok (.bipush 64, 2) := by decide +kernel
theorem dX7_countClasses_10 : decode cX7_countClasses 10 = .ok (.if_icmp .ge 31, 3) := by decide +kernel
theorem dX7_countClasses_13 : decode cX7_countClasses 13 = .ok (.aload_n 0, 1) := by decide +kernel
theorem dX7_countClasses_14 : decode cX7_countClasses 14 = .ok (.getfield 15, 3) := by decide +kernel
theorem dX7_countClasses_17 : decode cX7_countClasses 17 = .ok (.iload_n 3, 1) := by decide +kernel
theorem dX7_countClasses_18 : decode cX7_countClasses 18 = .ok (.aload_n 0, 1) := by decide +kernel
theorem dX7_countClasses_19 : decode cX7_countClasses 19 = .ok (.getfield 35, 3) := by decide +kernel
theorem dX7_countClasses_22 : decode cX7_countClasses 22 = .ok (.iload_n 3, 1) := by decide +kernel
theorem dX7_countClasses_23 : decode cX7_countClasses 23 = .ok (.invokestatic 61, 3) := by decide +kernel
theorem dX7_countClasses_26 : decode cX7_countClasses 26 = .ok (.ifCond .eq 7, 3) := by decide +kernel
theorem dX7_countClasses_29 : decode cX7_countClasses 29 = .ok (.iconst 1, 1) := by decide +kernel
theorem dX7_countClasses_30 : decode cX7_countClasses 30 = .ok (.goto 4, 3) := by decide +kernel
theorem dX7_countClasses_33 : decode cX7_countClasses 33 = .ok (.iconst 0, 1) := by decide +kernel
theorem dX7_countClasses_34 : decode cX7_countClasses 34 = .ok (.iastore, 1) := by decide +kernel
theorem dX7_countClasses_35 : decode cX7_countClasses 35 = .ok (.iinc 3 1, 3) := by decide +kernel
theorem dX7_countClasses_38 : decode cX7_countClasses 38 = .ok (.goto (-31), 3) := by decide +kernel
theorem dX7_countClasses_41 : decode cX7_countClasses 41 = .ok (.iconst 0, 1) := by decide +kernel
theorem dX7_countClasses_42 : decode cX7_countClasses 42 = .ok (.istore_n 3, 1) := by decide +kernel
theorem dX7_countClasses_43 : decode cX7_countClasses 43 = .ok (.iconst 1, 1) := by decide +kernel
theorem dX7_countClasses_44 : decode cX7_countClasses 44 = .ok (.istore 4, 2) := by decide +kernel
theorem dX7_countClasses_46 : decode cX7_countClasses 46 = .ok (.iconst 0, 1) := by decide +kernel
theorem dX7_countClasses_47 : decode cX7_countClasses 47 = .ok (.istore 5, 2) := by decide +kernel
theorem dX7_countClasses_49 : decode cX7_countClasses 49 = .ok (.iload 5, 2) := by decide +kernel
theorem dX7_countClasses_51 : decode cX7_countClasses 51 = .ok (.bipush 64, 2) := by decide +kernel
theorem dX7_countClasses_53 : decode cX7_countClasses 53 = .ok (.if_icmp .gt 25, 3) := by decide +kernel
theorem dX7_countClasses_56 : decode cX7_countClasses 56 = .ok (.iload 4, 2) := by decide +kernel
theorem dX7_countClasses_58 : decode cX7_countClasses 58 = .ok (.iload_n 3, 1) := by decide +kernel
theorem dX7_countClasses_59 : decode cX7_countClasses 59 = .ok (.if_icmp .eq 19, 3) := by decide +kernel
theorem dX7_countClasses_62 : decode cX7_countClasses 62 = .ok (.iload 4, 2) := by decide +kernel
theorem dX7_countClasses_64 : decode cX7_countClasses 64 = .ok (.istore_n 3, 1) := by decide +kernel
theorem dX7_countClasses_65 : decode cX7_countClasses 65 = .ok (.aload_n 0, 1) := by decide +kernel
theorem dX7_countClasses_66 : decode cX7_countClasses 66 = .ok (.lload_n 1, 1) := by decide +kernel
theorem dX7_countClasses_67 : decode cX7_countClasses 67 = .ok (.invokevirtual 78, 3) := by decide +kernel
theorem dX7_countClasses_70 : decode cX7_countClasses 70 = .ok (.istore 4, 2) := by decide +kernel
theorem dX7_countClasses_72 : decode cX7_countClasses 72 = .ok (.iinc 5 1, 3) := by decide +kernel
theorem dX7_countClasses_75 : decode cX7_countClasses 75 = .ok (.goto (-26), 3) := by decide +kernel
theorem dX7_countClasses_78 : decode cX7_countClasses 78 = .ok (.iload 4, 2) := by decide +kernel
theorem dX7_countClasses_80 : decode cX7_countClasses 80 = .ok (.ireturn, 1) := by decide +kernel
theorem dX7_refine_0 : decode cX7_refine 0 = .ok (.iconst 0, 1) := by decide +kernel
theorem dX7_refine_1 : decode cX7_refine 1 = .ok (.istore_n 3, 1) := by decide +kernel
theorem dX7_refine_2 : decode cX7_refine 2 = .ok (.iconst 0, 1) := by decide +kernel
theorem dX7_refine_3 : decode cX7_refine 3 = .ok (.istore 4, 2) := by decide +kernel
theorem dX7_refine_5 : decode cX7_refine 5 = .ok (.iload 4, 2) := by decide +kernel
theorem dX7_refine_7 : decode cX7_refine 7 = .ok (.bipush 64, 2) := by decide +kernel
theorem dX7_refine_9 : decode cX7_refine 9 = .ok (.if_icmp .ge 61, 3) := by decide +kernel
theorem dX7_refine_12 : decode cX7_refine 12 = .ok (.lload_n 1, 1) := by decide +kernel
theorem dX7_refine_13 : decode cX7_refine 13 = .ok (.iload 4, 2) := by decide +kernel
theorem dX7_refine_15 : decode cX7_refine 15 = .ok (.invokestatic 61, 3) := by decide +kernel
theorem dX7_refine_18 : decode cX7_refine 18 = .ok (.ifCond .eq 46, 3) := by decide +kernel
theorem dX7_refine_21 : decode cX7_refine 21 = .ok (.aload_n 0, 1) := by decide +kernel
theorem dX7_refine_22 : decode cX7_refine 22 = .ok (.lload_n 1, 1) := by decide +kernel
theorem dX7_refine_23 : decode cX7_refine 23 = .ok (.iload 4, 2) := by decide +kernel
theorem dX7_refine_25 : decode cX7_refine 25 = .ok (.invokevirtual 82, 3) := by decide +kernel
theorem dX7_refine_28 : decode cX7_refine 28 = .ok (.istore 5, 2) := by decide +kernel
theorem dX7_refine_30 : decode cX7_refine 30 = .ok (.iload 5, 2) := by decide +kernel
theorem dX7_refine_32 : decode cX7_refine 32 = .ok (.iconst (-1), 1) := by decide +kernel
theorem dX7_refine_33 : decode cX7_refine 33 = .ok (.if_icmp .ne 17, 3) := by decide +kernel
theorem dX7_refine_36 : decode cX7_refine 36 = .ok (.aload_n 0, 1) := by decide +kernel
theorem dX7_refine_37 : decode cX7_refine 37 = .ok (.getfield 18, 3) := by decide +kernel
theorem dX7_refine_40 : decode cX7_refine 40 = .ok (.iload 4, 2) := by decide +kernel
theorem dX7_refine_42 : decode cX7_refine 42 = .ok (.iload_n 3, 1) := by decide +kernel
theorem dX7_refine_43 : decode cX7_refine 43 = .ok (.iastore, 1) := by decide +kernel
theorem dX7_refine_44 : decode cX7_refine 44 = .ok (.iinc 3 1, 3) := by decide +kernel
theorem dX7_refine_47 : decode cX7_refine 47 = .ok (.goto 17, 3) := by decide +kernel
theorem dX7_refine_50 : decode cX7_refine 50 = .ok (.aload_n 0, 1) := by decide +kernel
theorem dX7_refine_51 : decode cX7_refine 51 = .ok (.getfield 18, 3) := by decide +kernel
theorem dX7_refine_54 : decode cX7_refine 54 = .ok (.iload 4, 2) := by decide +kernel
theorem dX7_refine_56 : decode cX7_refine 56 = .ok (.aload_n 0, 1) := by decide +kernel
theorem dX7_refine_57 : decode cX7_refine 57 = .ok (.getfield 18, 3) := by decide +kernel
theorem dX7_refine_60 : decode cX7_refine 60 = .ok (.iload 5, 2) := by decide +kernel
theorem dX7_refine_62 : decode cX7_refine 62 = .ok (.iaload, 1) := by decide +kernel
theorem dX7_refine_63 : decode cX7_refine 63 = .ok (.iastore, 1) := by decide +kernel
theorem dX7_refine_64 : decode cX7_refine 64 = .ok (.iinc 4 1, 3) := by decide +kernel
theorem dX7_refine_67 : decode cX7_refine 67 = .ok (.goto (-62), 3) := by decide +kernel
theorem dX7_refine_70 : decode cX7_refine 70 = .ok (.aload_n 0, 1) := by decide +kernel
theorem dX7_refine_71 : decode cX7_refine 71 = .ok (.getfield 18, 3) := by decide +kernel
theorem dX7_refine_74 : decode cX7_refine 74 = .ok (.iconst 0, 1) := by decide +kernel
theorem dX7_refine_75 : decode cX7_refine 75 = .ok (.aload_n 0, 1) := by decide +kernel
theorem dX7_refine_76 : decode cX7_refine 76 = .ok (.getfield 15, 3) := by decide +kernel
theorem dX7_refine_79 : decode cX7_refine 79 = .ok (.iconst 0, 1) := by decide +kernel
theorem dX7_refine_80 : decode cX7_refine 80 = .ok (.bipush 64, 2) := by decide +kernel
theorem dX7_refine_82 : decode cX7_refine 82 = .ok (.invokestatic 86, 3) := by decide +kernel
theorem dX7_refine_85 : decode cX7_refine 85 = .ok (.iload_n 3, 1) := by decide +kernel
theorem dX7_refine_86 : decode cX7_refine 86 = .ok (.ireturn, 1) := by decide +kernel
theorem dX7_earlierTwin_0 : decode cX7_earlierTwin 0 = .ok (.iconst 0, 1) := by decide +kernel
theorem dX7_earlierTwin_1 : decode cX7_earlierTwin 1 = .ok (.istore 4, 2) := by decide +kernel
theorem dX7_earlierTwin_3 : decode cX7_earlierTwin 3 = .ok (.iload 4, 2) := by decide +kernel
theorem dX7_earlierTwin_5 : decode cX7_earlierTwin 5 = .ok (.iload_n 3, 1) := by decide +kernel
theorem dX7_earlierTwin_6 : decode cX7_earlierTwin 6 = .ok (.if_icmp .ge 31, 3) := by decide +kernel
theorem dX7_earlierTwin_9 : decode cX7_earlierTwin 9 = .ok (.lload_n 1, 1) := by decide +kernel
theorem dX7_earlierTwin_10 : decode cX7_earlierTwin 10 = .ok (.iload 4, 2) := by decide +kernel
theorem dX7_earlierTwin_12 : decode cX7_earlierTwin 12 = .ok (.invokestatic 61, 3) := by decide +kernel
theorem dX7_earlierTwin_15 : decode cX7_earlierTwin 15 = .ok (.ifCond .eq 16, 3) := by decide +kernel
theorem dX7_earlierTwin_18 : decode cX7_earlierTwin 18 = .ok (.aload_n 0, 1) := by decide +kernel
theorem dX7_earlierTwin_19 : decode cX7_earlierTwin 19 = .ok (.iload 4, 2) := by decide +kernel
theorem dX7_earlierTwin_21 : decode cX7_earlierTwin 21 = .ok (.iload_n 3, 1) := by decide +kernel
theorem dX7_earlierTwin_22 : decode cX7_earlierTwin 22 = .ok (.invokevirtual 92, 3) := by decide +kernel
theorem dX7_earlierTwin_25 : decode cX7_earlierTwin 25 = .ok (.ifCond .eq 6, 3) := by decide +kernel
theorem dX7_earlierTwin_28 : decode cX7_earlierTwin 28 = .ok (.iload 4, 2) := by decide +kernel
theorem dX7_earlierTwin_30 : decode cX7_earlierTwin 30 = .ok (.ireturn, 1) := by decide +kernel
theorem dX7_earlierTwin_31 : decode cX7_earlierTwin 31 = .ok (.iinc 4 1, 3) := by decide +kernel
theorem dX7_earlierTwin_34 : decode cX7_earlierTwin 34 = .ok (.goto (-31), 3) := by decide +kernel
theorem dX7_earlierTwin_37 : decode cX7_earlierTwin 37 = .ok (.iconst (-1), 1) := by decide +kernel
theorem dX7_earlierTwin_38 : decode cX7_earlierTwin 38 = .ok (.ireturn, 1) := by decide +kernel
theorem dX7_areTwins_0 : decode cX7_areTwins 0 = .ok (.aload_n 0, 1) := by decide +kernel
theorem dX7_areTwins_1 : decode cX7_areTwins 1 = .ok (.getfield 15, 3) := by decide +kernel
theorem dX7_areTwins_4 : decode cX7_areTwins 4 = .ok (.iload_n 1, 1) := by decide +kernel
theorem dX7_areTwins_5 : decode cX7_areTwins 5 = .ok (.iaload, 1) := by decide +kernel
theorem dX7_areTwins_6 : decode cX7_areTwins 6 = .ok (.aload_n 0, 1) := by decide +kernel
theorem dX7_areTwins_7 : decode cX7_areTwins 7 = .ok (.getfield 15, 3) := by decide +kernel
theorem dX7_areTwins_10 : decode cX7_areTwins 10 = .ok (.iload_n 2, 1) := by decide +kernel
theorem dX7_areTwins_11 : decode cX7_areTwins 11 = .ok (.iaload, 1) := by decide +kernel
theorem dX7_areTwins_12 : decode cX7_areTwins 12 = .ok (.if_icmp .ne 7, 3) := by decide +kernel
theorem dX7_areTwins_15 : decode cX7_areTwins 15 = .ok (.iconst 1, 1) := by decide +kernel
theorem dX7_areTwins_16 : decode cX7_areTwins 16 = .ok (.goto 4, 3) := by decide +kernel
theorem dX7_areTwins_19 : decode cX7_areTwins 19 = .ok (.iconst 0, 1) := by decide +kernel
theorem dX7_areTwins_20 : decode cX7_areTwins 20 = .ok (.istore_n 3, 1) := by decide +kernel
theorem dX7_areTwins_21 : decode cX7_areTwins 21 = .ok (.iconst 0, 1) := by decide +kernel
theorem dX7_areTwins_22 : decode cX7_areTwins 22 = .ok (.istore 4, 2) := by decide +kernel
theorem dX7_areTwins_24 : decode cX7_areTwins 24 = .ok (.iload 4, 2) := by decide +kernel
theorem dX7_areTwins_26 : decode cX7_areTwins 26 = .ok (.aload_n 0, 1) := by decide +kernel
theorem dX7_areTwins_27 : decode cX7_areTwins 27 = .ok (.getfield 28, 3) := by decide +kernel
theorem dX7_areTwins_30 : decode cX7_areTwins 30 = .ok (.if_icmp .ge 46, 3) := by decide +kernel
theorem dX7_areTwins_33 : decode cX7_areTwins 33 = .ok (.iload_n 3, 1) := by decide +kernel
theorem dX7_areTwins_34 : decode cX7_areTwins 34 = .ok (.ifCond .eq 42, 3) := by decide +kernel
theorem dX7_areTwins_37 : decode cX7_areTwins 37 = .ok (.aload_n 0, 1) := by decide +kernel
theorem dX7_areTwins_38 : decode cX7_areTwins 38 = .ok (.getfield 15, 3) := by decide +kernel
theorem dX7_areTwins_41 : decode cX7_areTwins 41 = .ok (.aload_n 0, 1) := by decide +kernel
theorem dX7_areTwins_42 : decode cX7_areTwins 42 = .ok (.iload_n 1, 1) := by decide +kernel
theorem dX7_areTwins_43 : decode cX7_areTwins 43 = .ok (.iload 4, 2) := by decide +kernel
theorem dX7_areTwins_45 : decode cX7_areTwins 45 = .ok (.invokevirtual 71, 3) := by decide +kernel
theorem dX7_areTwins_48 : decode cX7_areTwins 48 = .ok (.iaload, 1) := by decide +kernel
theorem dX7_areTwins_49 : decode cX7_areTwins 49 = .ok (.aload_n 0, 1) := by decide +kernel
theorem dX7_areTwins_50 : decode cX7_areTwins 50 = .ok (.getfield 15, 3) := by decide +kernel
theorem dX7_areTwins_53 : decode cX7_areTwins 53 = .ok (.aload_n 0, 1) := by decide +kernel
theorem dX7_areTwins_54 : decode cX7_areTwins 54 = .ok (.iload_n 2, 1) := by decide +kernel
theorem dX7_areTwins_55 : decode cX7_areTwins 55 = .ok (.iload 4, 2) := by decide +kernel
theorem dX7_areTwins_57 : decode cX7_areTwins 57 = .ok (.invokevirtual 71, 3) := by decide +kernel
theorem dX7_areTwins_60 : decode cX7_areTwins 60 = .ok (.iaload, 1) := by decide +kernel
theorem dX7_areTwins_61 : decode cX7_areTwins 61 = .ok (.if_icmp .ne 7, 3) := by decide +kernel
theorem dX7_areTwins_64 : decode cX7_areTwins 64 = .ok (.iconst 1, 1) := by decide +kernel
theorem dX7_areTwins_65 : decode cX7_areTwins 65 = .ok (.goto 4, 3) := by decide +kernel
theorem dX7_areTwins_68 : decode cX7_areTwins 68 = .ok (.iconst 0, 1) := by decide +kernel
theorem dX7_areTwins_69 : decode cX7_areTwins 69 = .ok (.istore_n 3, 1) := by decide +kernel
theorem dX7_areTwins_70 : decode cX7_areTwins 70 = .ok (.iinc 4 1, 3) := by decide +kernel
theorem dX7_areTwins_73 : decode cX7_areTwins 73 = .ok (.goto (-49), 3) := by decide +kernel
theorem dX7_areTwins_76 : decode cX7_areTwins 76 = .ok (.iload_n 3, 1) := by decide +kernel
theorem dX7_areTwins_77 : decode cX7_areTwins 77 = .ok (.ireturn, 1) := by decide +kernel
theorem dX7_countAccepted_0 : decode cX7_countAccepted 0 = .ok (.aload_n 0, 1) := by decide +kernel
theorem dX7_countAccepted_1 : decode cX7_countAccepted 1 = .ok (.getfield 21, 3) := by decide +kernel
theorem dX7_countAccepted_4 : decode cX7_countAccepted 4 = .ok (.lconst 0, 1) := by decide +kernel
theorem dX7_countAccepted_5 : decode cX7_countAccepted 5 = .ok (.invokestatic 96, 3) := by decide +kernel
theorem dX7_countAccepted_8 : decode cX7_countAccepted 8 = .ok (.aload_n 0, 1) := by decide +kernel
theorem dX7_countAccepted_9 : decode cX7_countAccepted 9 = .ok (.getfield 21, 3) := by decide +kernel
theorem dX7_countAccepted_12 : decode cX7_countAccepted 12 = .ok (.aload_n 0, 1) := by decide +kernel
theorem dX7_countAccepted_13 : decode cX7_countAccepted 13 = .ok (.getfield 32, 3) := by decide +kernel
theorem dX7_countAccepted_16 : decode cX7_countAccepted 16 = .ok (.lconst 1, 1) := by decide +kernel
theorem dX7_countAccepted_17 : decode cX7_countAccepted 17 = .ok (.lastore, 1) := by decide +kernel
theorem dX7_countAccepted_18 : decode cX7_countAccepted 18 = .ok (.iconst 0, 1) := by decide +kernel
theorem dX7_countAccepted_19 : decode cX7_countAccepted 19 = .ok (.istore_n 2, 1) := by decide +kernel
theorem dX7_countAccepted_20 : decode cX7_countAccepted 20 = .ok (.iload_n 2, 1) := by decide +kernel
theorem dX7_countAccepted_21 : decode cX7_countAccepted 21 = .ok (.iload_n 1, 1) := by decide +kernel
theorem dX7_countAccepted_22 : decode cX7_countAccepted 22 = .ok (.if_icmp .ge 13, 3) := by decide +kernel
theorem dX7_countAccepted_25 : decode cX7_countAccepted 25 = .ok (.aload_n 0, 1) := by decide +kernel
theorem dX7_countAccepted_26 : decode cX7_countAccepted 26 = .ok (.invokevirtual 102, 3) := by decide +kernel
theorem dX7_countAccepted_29 : decode cX7_countAccepted 29 = .ok (.iinc 2 1, 3) := by decide +kernel
theorem dX7_countAccepted_32 : decode cX7_countAccepted 32 = .ok (.goto (-12), 3) := by decide +kernel
theorem dX7_countAccepted_35 : decode cX7_countAccepted 35 = .ok (.lconst 0, 1) := by decide +kernel
theorem dX7_countAccepted_36 : decode cX7_countAccepted 36 = .ok (.lstore_n 2, 1) := by decide +kernel
theorem dX7_countAccepted_37 : decode cX7_countAccepted 37 = .ok (.iconst 0, 1) := by decide +kernel
theorem dX7_countAccepted_38 : decode cX7_countAccepted 38 = .ok (.istore 4, 2) := by decide +kernel
theorem dX7_countAccepted_40 : decode cX7_countAccepted 40 = .ok (.iload 4, 2) := by decide +kernel
theorem dX7_countAccepted_42 : decode cX7_countAccepted 42 = .ok (.bipush 64, 2) := by decide +kernel
theorem dX7_countAccepted_44 : decode cX7_countAccepted 44 = .ok (.if_icmp .ge 31, 3) := by decide +kernel
theorem dX7_countAccepted_47 : decode cX7_countAccepted 47 = .ok (.aload_n 0, 1) := by decide +kernel
theorem dX7_countAccepted_48 : decode cX7_countAccepted 48 = .ok (.getfield 35, 3) := by decide +kernel
theorem dX7_countAccepted_51 : decode cX7_countAccepted 51 = .ok (.iload 4, 2) := by decide +kernel
theorem dX7_countAccepted_53 : decode cX7_countAccepted 53 = .ok (.invokestatic 61, 3) := by decide +kernel
theorem dX7_countAccepted_56 : decode cX7_countAccepted 56 = .ok (.ifCond .eq 13, 3) := by decide +kernel
theorem dX7_countAccepted_59 : decode cX7_countAccepted 59 = .ok (.lload_n 2, 1) := by decide +kernel
theorem dX7_countAccepted_60 : decode cX7_countAccepted 60 = .ok (.aload_n 0, 1) := by decide +kernel
theorem dX7_countAccepted_61 : decode cX7_countAccepted 61 = .ok (.getfield 21, 3) := by decide +kernel
theorem dX7_countAccepted_64 : decode cX7_countAccepted 64 = .ok (.iload 4, 2) := by decide +kernel
theorem dX7_countAccepted_66 : decode cX7_countAccepted 66 = .ok (.laload, 1) := by decide +kernel
theorem dX7_countAccepted_67 : decode cX7_countAccepted 67 = .ok (.ladd, 1) := by decide +kernel
theorem dX7_countAccepted_68 : decode cX7_countAccepted 68 = .ok (.lstore_n 2, 1) := by decide +kernel
theorem dX7_countAccepted_69 : decode cX7_countAccepted 69 = .ok (.iinc 4 1, 3) := by decide +kernel
theorem dX7_countAccepted_72 : decode cX7_countAccepted 72 = .ok (.goto (-32), 3) := by decide +kernel
theorem dX7_countAccepted_75 : decode cX7_countAccepted 75 = .ok (.lload_n 2, 1) := by decide +kernel
theorem dX7_countAccepted_76 : decode cX7_countAccepted 76 = .ok (.lreturn, 1) := by decide +kernel
theorem dX7_countOneLetterMore_0 : decode cX7_countOneLetterMore 0 = .ok (.aload_n 0, 1) := by decide +kernel
theorem dX7_countOneLetterMore_1 : decode cX7_countOneLetterMore 1 = .ok (.getfield 25, 3) := by decide +kernel
theorem dX7_countOneLetterMore_4 : decode cX7_countOneLetterMore 4 = .ok (.lconst 0, 1) := by decide +kernel
theorem dX7_countOneLetterMore_5 : decode cX7_countOneLetterMore 5 = .ok (.invokestatic 96, 3) := by decide +kernel
theorem dX7_countOneLetterMore_8 : decode cX7_countOneLetterMore 8 = .ok (.iconst 0, 1) := by decide +kernel
theorem dX7_countOneLetterMore_9 : decode cX7_countOneLetterMore 9 = .ok (.istore_n 1, 1) := by decide +kernel
theorem dX7_countOneLetterMore_10 : decode cX7_countOneLetterMore 10 = .ok (.iload_n 1, 1) := by decide +kernel
theorem dX7_countOneLetterMore_11 : decode cX7_countOneLetterMore 11 = .ok (.bipush 64, 2) := by decide +kernel
theorem dX7_countOneLetterMore_13 : decode cX7_countOneLetterMore 13 = .ok (.if_icmp .ge 56, 3) := by decide +kernel
theorem dX7_countOneLetterMore_16 : decode cX7_countOneLetterMore 16 = .ok (.aload_n 0, 1) := by decide +kernel
theorem dX7_countOneLetterMore_17 : decode cX7_countOneLetterMore 17 = .ok (.getfield 21, 3) := by decide +kernel
theorem dX7_countOneLetterMore_20 : decode cX7_countOneLetterMore 20 = .ok (.iload_n 1, 1) := by decide +kernel
theorem dX7_countOneLetterMore_21 : decode cX7_countOneLetterMore 21 = .ok (.laload, 1) := by decide +kernel
theorem dX7_countOneLetterMore_22 : decode cX7_countOneLetterMore 22 = .ok (.lconst 0, 1) := by decide +kernel
theorem dX7_countOneLetterMore_23 : decode cX7_countOneLetterMore 23 = .ok (.lcmp, 1) := by decide +kernel
theorem dX7_countOneLetterMore_24 : decode cX7_countOneLetterMore 24 = .ok (.ifCond .eq 39, 3) := by decide +kernel
theorem dX7_countOneLetterMore_27 : decode cX7_countOneLetterMore 27 = .ok (.iconst 0, 1) := by decide +kernel
theorem dX7_countOneLetterMore_28 : decode cX7_countOneLetterMore 28 = .ok (.istore_n 2, 1) := by decide +kernel
theorem dX7_countOneLetterMore_29 : decode cX7_countOneLetterMore 29 = .ok (.iload_n 2, 1) := by decide +kernel
theorem dX7_countOneLetterMore_30 : decode cX7_countOneLetterMore 30 = .ok (.aload_n 0, 1) := by decide +kernel
theorem dX7_countOneLetterMore_31 : decode cX7_countOneLetterMore 31 = .ok (.getfield 28, 3) := by decide +kernel
theorem dX7_countOneLetterMore_34 : decode cX7_countOneLetterMore 34 = .ok (.if_icmp .ge 29, 3) := by decide +kernel
theorem dX7_countOneLetterMore_37 : decode cX7_countOneLetterMore 37 = .ok (.aload_n 0, 1) := by decide +kernel
theorem dX7_countOneLetterMore_38 : decode cX7_countOneLetterMore 38 = .ok (.getfield 25, 3) := by decide +kernel
theorem dX7_countOneLetterMore_41 : decode cX7_countOneLetterMore 41 = .ok (.aload_n 0, 1) := by decide +kernel
theorem dX7_countOneLetterMore_42 : decode cX7_countOneLetterMore 42 = .ok (.iload_n 1, 1) := by decide +kernel
theorem dX7_countOneLetterMore_43 : decode cX7_countOneLetterMore 43 = .ok (.iload_n 2, 1) := by decide +kernel
theorem dX7_countOneLetterMore_44 : decode cX7_countOneLetterMore 44 = .ok (.invokevirtual 71, 3) := by decide +kernel
theorem dX7_countOneLetterMore_47 : decode cX7_countOneLetterMore 47 = .ok (.dup2, 1) := by decide +kernel
theorem dX7_countOneLetterMore_48 : decode cX7_countOneLetterMore 48 = .ok (.laload, 1) := by decide +kernel
theorem dX7_countOneLetterMore_49 : decode cX7_countOneLetterMore 49 = .ok (.aload_n 0, 1) := by decide +kernel
theorem dX7_countOneLetterMore_50 : decode cX7_countOneLetterMore 50 = .ok (.getfield 21, 3) := by decide +kernel
theorem dX7_countOneLetterMore_53 : decode cX7_countOneLetterMore 53 = .ok (.iload_n 1, 1) := by decide +kernel
theorem dX7_countOneLetterMore_54 : decode cX7_countOneLetterMore 54 = .ok (.laload, 1) := by decide +kernel
theorem dX7_countOneLetterMore_55 : decode cX7_countOneLetterMore 55 = .ok (.ladd, 1) := by decide +kernel
theorem dX7_countOneLetterMore_56 : decode cX7_countOneLetterMore 56 = .ok (.lastore, 1) := by decide +kernel
theorem dX7_countOneLetterMore_57 : decode cX7_countOneLetterMore 57 = .ok (.iinc 2 1, 3) := by decide +kernel
theorem dX7_countOneLetterMore_60 : decode cX7_countOneLetterMore 60 = .ok (.goto (-31), 3) := by decide +kernel
theorem dX7_countOneLetterMore_63 : decode cX7_countOneLetterMore 63 = .ok (.iinc 1 1, 3) := by decide +kernel
theorem dX7_countOneLetterMore_66 : decode cX7_countOneLetterMore 66 = .ok (.goto (-56), 3) := by decide +kernel
theorem dX7_countOneLetterMore_69 : decode cX7_countOneLetterMore 69 = .ok (.aload_n 0, 1) := by decide +kernel
theorem dX7_countOneLetterMore_70 : decode cX7_countOneLetterMore 70 = .ok (.getfield 25, 3) := by decide +kernel
theorem dX7_countOneLetterMore_73 : decode cX7_countOneLetterMore 73 = .ok (.iconst 0, 1) := by decide +kernel
theorem dX7_countOneLetterMore_74 : decode cX7_countOneLetterMore 74 = .ok (.aload_n 0, 1) := by decide +kernel
theorem dX7_countOneLetterMore_75 : decode cX7_countOneLetterMore 75 = .ok (.getfield 21, 3) := by decide +kernel
theorem dX7_countOneLetterMore_78 : decode cX7_countOneLetterMore 78 = .ok (.iconst 0, 1) := by decide +kernel
theorem dX7_countOneLetterMore_79 : decode cX7_countOneLetterMore 79 = .ok (.bipush 64, 2) := by decide +kernel
theorem dX7_countOneLetterMore_81 : decode cX7_countOneLetterMore 81 = .ok (.invokestatic 86, 3) := by decide +kernel
theorem dX7_countOneLetterMore_84 : decode cX7_countOneLetterMore 84 = .ok (.return_, 1) := by decide +kernel
theorem dX8_init_0 : decode cX8_init 0 = .ok (.aload_n 0, 1) := by decide +kernel
theorem dX8_init_1 : decode cX8_init 1 = .ok (.invokespecial 1, 3) := by decide +kernel
theorem dX8_init_4 : decode cX8_init 4 = .ok (.aload_n 0, 1) := by decide +kernel
theorem dX8_init_5 : decode cX8_init 5 = .ok (.iconst 0, 1) := by decide +kernel
theorem dX8_init_6 : decode cX8_init 6 = .ok (.putfield 7, 3) := by decide +kernel
theorem dX8_init_9 : decode cX8_init 9 = .ok (.aload_n 0, 1) := by decide +kernel
theorem dX8_init_10 : decode cX8_init 10 = .ok (.iload_n 1, 1) := by decide +kernel
theorem dX8_init_11 : decode cX8_init 11 = .ok (.iconst 0, 1) := by decide +kernel
theorem dX8_init_12 : decode cX8_init 12 = .ok (.invokestatic 13, 3) := by decide +kernel
theorem dX8_init_15 : decode cX8_init 15 = .ok (.newarray .byte, 2) := by decide +kernel
theorem dX8_init_17 : decode cX8_init 17 = .ok (.putfield 19, 3) := by decide +kernel
theorem dX8_init_20 : decode cX8_init 20 = .ok (.return_, 1) := by decide +kernel
theorem dX8_add_0 : decode cX8_add 0 = .ok (.aload_n 0, 1) := by decide +kernel
theorem dX8_add_1 : decode cX8_add 1 = .ok (.getfield 7, 3) := by decide +kernel
theorem dX8_add_4 : decode cX8_add 4 = .ok (.aload_n 0, 1) := by decide +kernel
theorem dX8_add_5 : decode cX8_add 5 = .ok (.getfield 19, 3) := by decide +kernel
theorem dX8_add_8 : decode cX8_add 8 = .ok (.arraylength, 1) := by decide +kernel
theorem dX8_add_9 : decode cX8_add 9 = .ok (.if_icmp .ge 24, 3) := by decide +kernel
theorem dX8_add_12 : decode cX8_add 12 = .ok (.aload_n 0, 1) := by decide +kernel
theorem dX8_add_13 : decode cX8_add 13 = .ok (.getfield 19, 3) := by decide +kernel
theorem dX8_add_16 : decode cX8_add 16 = .ok (.aload_n 0, 1) := by decide +kernel
theorem dX8_add_17 : decode cX8_add 17 = .ok (.getfield 7, 3) := by decide +kernel
theorem dX8_add_20 : decode cX8_add 20 = .ok (.iload_n 1, 1) := by decide +kernel
theorem dX8_add_21 : decode cX8_add 21 = .ok (.i2b, 1) := by decide +kernel
theorem dX8_add_22 : decode cX8_add 22 = .ok (.bastore, 1) := by decide +kernel
theorem dX8_add_23 : decode cX8_add 23 = .ok (.aload_n 0, 1) := by decide +kernel
theorem dX8_add_24 : decode cX8_add 24 = .ok (.dup, 1) := by decide +kernel
theorem dX8_add_25 : decode cX8_add 25 = .ok (.getfield 7, 3) := by decide +kernel
theorem dX8_add_28 : decode cX8_add 28 = .ok (.iconst 1, 1) := by decide +kernel
theorem dX8_add_29 : decode cX8_add 29 = .ok (.iadd, 1) := by decide +kernel
theorem dX8_add_30 : decode cX8_add 30 = .ok (.putfield 7, 3) := by decide +kernel
theorem dX8_add_33 : decode cX8_add 33 = .ok (.return_, 1) := by decide +kernel
theorem dX8_letterAt_0 : decode cX8_letterAt 0 = .ok (.iload_n 1, 1) := by decide +kernel
theorem dX8_letterAt_1 : decode cX8_letterAt 1 = .ok (.ifCond .lt 20, 3) := by decide +kernel
theorem dX8_letterAt_4 : decode cX8_letterAt 4 = .ok (.iload_n 1, 1) := by decide +kernel
theorem dX8_letterAt_5 : decode cX8_letterAt 5 = .ok (.aload_n 0, 1) := by decide +kernel
theorem dX8_letterAt_6 : decode cX8_letterAt 6 = .ok (.getfield 7, 3) := by decide +kernel
theorem dX8_letterAt_9 : decode cX8_letterAt 9 = .ok (.if_icmp .ge 12, 3) := by decide +kernel
theorem dX8_letterAt_12 : decode cX8_letterAt 12 = .ok (.aload_n 0, 1) := by decide +kernel
theorem dX8_letterAt_13 : decode cX8_letterAt 13 = .ok (.getfield 19, 3) := by decide +kernel
theorem dX8_letterAt_16 : decode cX8_letterAt 16 = .ok (.iload_n 1, 1) := by decide +kernel
theorem dX8_letterAt_17 : decode cX8_letterAt 17 = .ok (.baload, 1) := by decide +kernel
theorem dX8_letterAt_18 : decode cX8_letterAt 18 = .ok (.goto 4, 3) := by decide +kernel
theorem dX8_letterAt_21 : decode cX8_letterAt 21 = .ok (.iconst 0, 1) := by decide +kernel
theorem dX8_letterAt_22 : decode cX8_letterAt 22 = .ok (.ireturn, 1) := by decide +kernel
theorem dX8_fits_0 : decode cX8_fits 0 = .ok (.iconst 0, 1) := by decide +kernel
theorem dX8_fits_1 : decode cX8_fits 1 = .ok (.istore_n 2, 1) := by decide +kernel
theorem dX8_fits_2 : decode cX8_fits 2 = .ok (.iload_n 2, 1) := by decide +kernel
theorem dX8_fits_3 : decode cX8_fits 3 = .ok (.aload_n 0, 1) := by decide +kernel
theorem dX8_fits_4 : decode cX8_fits 4 = .ok (.getfield 7, 3) := by decide +kernel
theorem dX8_fits_7 : decode cX8_fits 7 = .ok (.if_icmp .ge 24, 3) := by decide +kernel
theorem dX8_fits_10 : decode cX8_fits 10 = .ok (.aload_n 1, 1) := by decide +kernel
theorem dX8_fits_11 : decode cX8_fits 11 = .ok (.aload_n 0, 1) := by decide +kernel
theorem dX8_fits_12 : decode cX8_fits 12 = .ok (.getfield 19, 3) := by decide +kernel
theorem dX8_fits_15 : decode cX8_fits 15 = .ok (.iload_n 2, 1) := by decide +kernel
theorem dX8_fits_16 : decode cX8_fits 16 = .ok (.baload, 1) := by decide +kernel
theorem dX8_fits_17 : decode cX8_fits 17 = .ok (.invokevirtual 23, 3) := by decide +kernel
theorem dX8_fits_20 : decode cX8_fits 20 = .ok (.ifCond .ne 5, 3) := by decide +kernel
theorem dX8_fits_23 : decode cX8_fits 23 = .ok (.iconst 0, 1) := by decide +kernel
theorem dX8_fits_24 : decode cX8_fits 24 = .ok (.ireturn, 1) := by decide +kernel
theorem dX8_fits_25 : decode cX8_fits 25 = .ok (.iinc 2 1, 3) := by decide +kernel
theorem dX8_fits_28 : decode cX8_fits 28 = .ok (.goto (-26), 3) := by decide +kernel
theorem dX8_fits_31 : decode cX8_fits 31 = .ok (.iconst 1, 1) := by decide +kernel
theorem dX8_fits_32 : decode cX8_fits 32 = .ok (.ireturn, 1) := by decide +kernel
theorem dX8_acceptedFrom_0 : decode cX8_acceptedFrom 0 = .ok (.aload_n 1, 1) := by decide +kernel
theorem dX8_acceptedFrom_1 : decode cX8_acceptedFrom 1 = .ok (.getfield 29, 3) := by decide +kernel
theorem dX8_acceptedFrom_4 : decode cX8_acceptedFrom 4 = .ok (.istore_n 3, 1) := by decide +kernel
theorem dX8_acceptedFrom_5 : decode cX8_acceptedFrom 5 = .ok (.aload_n 0, 1) := by decide +kernel
theorem dX8_acceptedFrom_6 : decode cX8_acceptedFrom 6 = .ok (.getfield 7, 3) := by decide +kernel
theorem dX8_acceptedFrom_9 : decode cX8_acceptedFrom 9 = .ok (.iconst 1, 1) := by decide +kernel
theorem dX8_acceptedFrom_10 : decode cX8_acceptedFrom 10 = .ok (.isub, 1) := by decide +kernel
theorem dX8_acceptedFrom_11 : decode cX8_acceptedFrom 11 = .ok (.istore 4, 2) := by decide +kernel
theorem dX8_acceptedFrom_13 : decode cX8_acceptedFrom 13 = .ok (.iload 4, 2) := by decide +kernel
theorem dX8_acceptedFrom_15 : decode cX8_acceptedFrom 15 = .ok (.iload_n 2, 1) := by decide +kernel
theorem dX8_acceptedFrom_16 : decode cX8_acceptedFrom 16 = .ok (.if_icmp .lt 27, 3) := by decide +kernel
theorem dX8_acceptedFrom_19 : decode cX8_acceptedFrom 19 = .ok (.iload 4, 2) := by decide +kernel
theorem dX8_acceptedFrom_21 : decode cX8_acceptedFrom 21 = .ok (.ifCond .lt 22, 3) := by decide +kernel
theorem dX8_acceptedFrom_24 : decode cX8_acceptedFrom 24 = .ok (.aload_n 1, 1) := by decide +kernel
theorem dX8_acceptedFrom_25 : decode cX8_acceptedFrom 25 = .ok (.aload_n 0, 1) := by decide +kernel
theorem dX8_acceptedFrom_26 : decode cX8_acceptedFrom 26 = .ok (.getfield 19, 3) := by decide +kernel
theorem dX8_acceptedFrom_29 : decode cX8_acceptedFrom 29 = .ok (.iload 4, 2) := by decide +kernel
theorem dX8_acceptedFrom_31 : decode cX8_acceptedFrom 31 = .ok (.baload, 1) := by decide +kernel
theorem dX8_acceptedFrom_32 : decode cX8_acceptedFrom 32 = .ok (.iload_n 3, 1) := by decide +kernel
theorem dX8_acceptedFrom_33 : decode cX8_acceptedFrom 33 = .ok (.invokevirtual 32, 3) := by decide +kernel
theorem dX8_acceptedFrom_36 : decode cX8_acceptedFrom 36 = .ok (.istore_n 3, 1) := by decide +kernel
theorem dX8_acceptedFrom_37 : decode cX8_acceptedFrom 37 = .ok (.iinc 4 (-1), 3) := by decide +kernel
theorem dX8_acceptedFrom_40 : decode cX8_acceptedFrom 40 = .ok (.goto (-27), 3) := by decide +kernel
theorem dX8_acceptedFrom_43 : decode cX8_acceptedFrom 43 = .ok (.iload_n 3, 1) := by decide +kernel
theorem dX8_acceptedFrom_44 : decode cX8_acceptedFrom 44 = .ok (.ireturn, 1) := by decide +kernel
theorem dX8_costIn_0 : decode cX8_costIn 0 = .ok (.iconst 0, 1) := by decide +kernel
theorem dX8_costIn_1 : decode cX8_costIn 1 = .ok (.istore_n 2, 1) := by decide +kernel
theorem dX8_costIn_2 : decode cX8_costIn 2 = .ok (.iconst 0, 1) := by decide +kernel
theorem dX8_costIn_3 : decode cX8_costIn 3 = .ok (.istore_n 3, 1) := by decide +kernel
theorem dX8_costIn_4 : decode cX8_costIn 4 = .ok (.iload_n 3, 1) := by decide +kernel
theorem dX8_costIn_5 : decode cX8_costIn 5 = .ok (.aload_n 0, 1) := by decide +kernel
theorem dX8_costIn_6 : decode cX8_costIn 6 = .ok (.getfield 7, 3) := by decide +kernel
theorem dX8_costIn_9 : decode cX8_costIn 9 = .ok (.if_icmp .ge 36, 3) := by decide +kernel
theorem dX8_costIn_12 : decode cX8_costIn 12 = .ok (.aload_n 1, 1) := by decide +kernel
theorem dX8_costIn_13 : decode cX8_costIn 13 = .ok (.aload_n 0, 1) := by decide +kernel
theorem dX8_costIn_14 : decode cX8_costIn 14 = .ok (.getfield 19, 3) := by decide +kernel
theorem dX8_costIn_17 : decode cX8_costIn 17 = .ok (.iload_n 3, 1) := by decide +kernel
theorem dX8_costIn_18 : decode cX8_costIn 18 = .ok (.baload, 1) := by decide +kernel
theorem dX8_costIn_19 : decode cX8_costIn 19 = .ok (.invokevirtual 23, 3) := by decide +kernel
theorem dX8_costIn_22 : decode cX8_costIn 22 = .ok (.ifCond .eq 17, 3) := by decide +kernel
theorem dX8_costIn_25 : decode cX8_costIn 25 = .ok (.iload_n 2, 1) := by decide +kernel
theorem dX8_costIn_26 : decode cX8_costIn 26 = .ok (.aload_n 1, 1) := by decide +kernel
theorem dX8_costIn_27 : decode cX8_costIn 27 = .ok (.getfield 35, 3) := by decide +kernel
theorem dX8_costIn_30 : decode cX8_costIn 30 = .ok (.aload_n 0, 1) := by decide +kernel
theorem dX8_costIn_31 : decode cX8_costIn 31 = .ok (.getfield 19, 3) := by decide +kernel
theorem dX8_costIn_34 : decode cX8_costIn 34 = .ok (.iload_n 3, 1) := by decide +kernel
theorem dX8_costIn_35 : decode cX8_costIn 35 = .ok (.baload, 1) := by decide +kernel
theorem dX8_costIn_36 : decode cX8_costIn 36 = .ok (.iaload, 1) := by decide +kernel
theorem dX8_costIn_37 : decode cX8_costIn 37 = .ok (.iadd, 1) := by decide +kernel
theorem dX8_costIn_38 : decode cX8_costIn 38 = .ok (.istore_n 2, 1) := by decide +kernel
theorem dX8_costIn_39 : decode cX8_costIn 39 = .ok (.iinc 3 1, 3) := by decide +kernel
theorem dX8_costIn_42 : decode cX8_costIn 42 = .ok (.goto (-38), 3) := by decide +kernel
theorem dX8_costIn_45 : decode cX8_costIn 45 = .ok (.iload_n 2, 1) := by decide +kernel
theorem dX8_costIn_46 : decode cX8_costIn 46 = .ok (.ireturn, 1) := by decide +kernel
theorem dX9_init_0 : decode cX9_init 0 = .ok (.aload_n 0, 1) := by decide +kernel
theorem dX9_init_1 : decode cX9_init 1 = .ok (.invokespecial 3, 3) := by decide +kernel
theorem dX9_init_4 : decode cX9_init 4 = .ok (.aload_n 0, 1) := by decide +kernel
theorem dX9_init_5 : decode cX9_init 5 = .ok (.iconst 3, 1) := by decide +kernel
theorem dX9_init_6 : decode cX9_init 6 = .ok (.anewarray 9, 3) := by decide +kernel
theorem dX9_init_9 : decode cX9_init 9 = .ok (.putfield 11, 3) := by decide +kernel
theorem dX9_init_12 : decode cX9_init 12 = .ok (.aload_n 0, 1) := by decide +kernel
theorem dX9_init_13 : decode cX9_init 13 = .ok (.iconst 3, 1) := by decide +kernel
theorem dX9_init_14 : decode cX9_init 14 = .ok (.anewarray 9, 3) := by decide +kernel
theorem dX9_init_17 : decode cX9_init 17 = .ok (.putfield 15, 3) := by decide +kernel
theorem dX9_init_20 : decode cX9_init 20 = .ok (.aload_n 0, 1) := by decide +kernel
theorem dX9_init_21 : decode cX9_init 21 = .ok (.new 9, 3) := by decide +kernel
theorem dX9_init_24 : decode cX9_init 24 = .ok (.dup, 1) := by decide +kernel
theorem dX9_init_25 : decode cX9_init 25 = .ok (.invokespecial 18, 3) := by decide +kernel
theorem dX9_init_28 : decode cX9_init 28 = .ok (.putfield 19, 3) := by decide +kernel
theorem dX9_init_31 : decode cX9_init 31 = .ok (.aload_n 0, 1) := by decide +kernel
theorem dX9_init_32 : decode cX9_init 32 = .ok (.new 23, 3) := by decide +kernel
theorem dX9_init_35 : decode cX9_init 35 = .ok (.dup, 1) := by decide +kernel
theorem dX9_init_36 : decode cX9_init 36 = .ok (.invokespecial 25, 3) := by decide +kernel
theorem dX9_init_39 : decode cX9_init 39 = .ok (.putfield 26, 3) := by decide +kernel
theorem dX9_init_42 : decode cX9_init 42 = .ok (.aload_n 0, 1) := by decide +kernel
theorem dX9_init_43 : decode cX9_init 43 = .ok (.new 30, 3) := by decide +kernel
theorem dX9_init_46 : decode cX9_init 46 = .ok (.dup, 1) := by decide +kernel
theorem dX9_init_47 : decode cX9_init 47 = .ok (.invokespecial 32, 3) := by decide +kernel
theorem dX9_init_50 : decode cX9_init 50 = .ok (.putfield 33, 3) := by decide +kernel
theorem dX9_init_53 : decode cX9_init 53 = .ok (.aload_n 0, 1) := by decide +kernel
theorem dX9_init_54 : decode cX9_init 54 = .ok (.new 37, 3) := by decide +kernel
theorem dX9_init_57 : decode cX9_init 57 = .ok (.dup, 1) := by decide +kernel
theorem dX9_init_58 : decode cX9_init 58 = .ok (.bipush 12, 2) := by decide +kernel
theorem dX9_init_60 : decode cX9_init 60 = .ok (.invokespecial 39, 3) := by decide +kernel
theorem dX9_init_63 : decode cX9_init 63 = .ok (.putfield 42, 3) := by decide +kernel
theorem dX9_init_66 : decode cX9_init 66 = .ok (.aload_n 0, 1) := by decide +kernel
theorem dX9_init_67 : decode cX9_init 67 = .ok (.new 37, 3) := by decide +kernel
theorem dX9_init_70 : decode cX9_init 70 = .ok (.dup, 1) := by decide +kernel
theorem dX9_init_71 : decode cX9_init 71 = .ok (.sipush 128, 3) := by decide +kernel
theorem dX9_init_74 : decode cX9_init 74 = .ok (.invokespecial 39, 3) := by decide +kernel
theorem dX9_init_77 : decode cX9_init 77 = .ok (.putfield 46, 3) := by decide +kernel
theorem dX9_init_80 : decode cX9_init 80 = .ok (.aload_n 0, 1) := by decide +kernel
theorem dX9_init_81 : decode cX9_init 81 = .ok (.new 49, 3) := by decide +kernel
theorem dX9_init_84 : decode cX9_init 84 = .ok (.dup, 1) := by decide +kernel
theorem dX9_init_85 : decode cX9_init 85 = .ok (.invokespecial 51, 3) := by decide +kernel
theorem dX9_init_88 : decode cX9_init 88 = .ok (.putfield 52, 3) := by decide +kernel
theorem dX9_init_91 : decode cX9_init 91 = .ok (.aload_n 0, 1) := by decide +kernel
theorem dX9_init_92 : decode cX9_init 92 = .ok (.new 56, 3) := by decide +kernel
theorem dX9_init_95 : decode cX9_init 95 = .ok (.dup, 1) := by decide +kernel
theorem dX9_init_96 : decode cX9_init 96 = .ok (.invokespecial 58, 3) := by decide +kernel
theorem dX9_init_99 : decode cX9_init 99 = .ok (.putfield 59, 3) := by decide +kernel
theorem dX9_init_102 : decode cX9_init 102 = .ok (.aload_n 0, 1) := by decide +kernel
theorem dX9_init_103 : decode cX9_init 103 = .ok (.new 56, 3) := by decide +kernel
theorem dX9_init_106 : decode cX9_init 106 = .ok (.dup, 1) := by decide +kernel
theorem dX9_init_107 : decode cX9_init 107 = .ok (.invokespecial 58, 3) := by decide +kernel
theorem dX9_init_110 : decode cX9_init 110 = .ok (.putfield 63, 3) := by decide +kernel
theorem dX9_init_113 : decode cX9_init 113 = .ok (.aload_n 0, 1) := by decide +kernel
theorem dX9_init_114 : decode cX9_init 114 = .ok (.new 66, 3) := by decide +kernel
theorem dX9_init_117 : decode cX9_init 117 = .ok (.dup, 1) := by decide +kernel
theorem dX9_init_118 : decode cX9_init 118 = .ok (.invokespecial 68, 3) := by decide +kernel
theorem dX9_init_121 : decode cX9_init 121 = .ok (.putfield 69, 3) := by decide +kernel
theorem dX9_init_124 : decode cX9_init 124 = .ok (.aload_n 0, 1) := by decide +kernel
theorem dX9_init_125 : decode cX9_init 125 = .ok (.new 73, 3) := by decide +kernel
theorem dX9_init_128 : decode cX9_init 128 = .ok (.dup, 1) := by decide +kernel
theorem dX9_init_129 : decode cX9_init 129 = .ok (.invokespecial 75, 3) := by decide +kernel
theorem dX9_init_132 : decode cX9_init 132 = .ok (.putfield 76, 3) := by decide +kernel
theorem dX9_init_135 : decode cX9_init 135 = .ok (.aload_n 0, 1) := by decide +kernel
theorem dX9_init_136 : decode cX9_init 136 = .ok (.iconst 0, 1) := by decide +kernel
theorem dX9_init_137 : decode cX9_init 137 = .ok (.putfield 80, 3) := by decide +kernel
theorem dX9_init_140 : decode cX9_init 140 = .ok (.aload_n 0, 1) := by decide +kernel
theorem dX9_init_141 : decode cX9_init 141 = .ok (.iconst 0, 1) := by decide +kernel
theorem dX9_init_142 : decode cX9_init 142 = .ok (.putfield 84, 3) := by decide +kernel
theorem dX9_init_145 : decode cX9_init 145 = .ok (.iconst 0, 1) := by decide +kernel
theorem dX9_init_146 : decode cX9_init 146 = .ok (.istore_n 1, 1) := by decide +kernel
theorem dX9_init_147 : decode cX9_init 147 = .ok (.iload_n 1, 1) := by decide +kernel
theorem dX9_init_148 : decode cX9_init 148 = .ok (.iconst 3, 1) := by decide +kernel
theorem dX9_init_149 : decode cX9_init 149 = .ok (.if_icmp .ge 35, 3) := by decide +kernel
theorem dX9_init_152 : decode cX9_init 152 = .ok (.aload_n 0, 1) := by decide +kernel
theorem dX9_init_153 : decode cX9_init 153 = .ok (.getfield 11, 3) := by decide +kernel
theorem dX9_init_156 : decode cX9_init 156 = .ok (.iload_n 1, 1) := by decide +kernel
theorem dX9_init_157 : decode cX9_init 157 = .ok (.new 9, 3) := by decide +kernel
theorem dX9_init_160 : decode cX9_init 160 = .ok (.dup, 1) := by decide +kernel
theorem dX9_init_161 : decode cX9_init 161 = .ok (.invokespecial 18, 3) := by decide +kernel
theorem dX9_init_164 : decode cX9_init 164 = .ok (.aastore, 1) := by decide +kernel
theorem dX9_init_165 : decode cX9_init 165 = .ok (.aload_n 0, 1) := by decide +kernel
theorem dX9_init_166 : decode cX9_init 166 = .ok (.getfield 15, 3) := by decide +kernel
theorem dX9_init_169 : decode cX9_init 169 = .ok (.iload_n 1, 1) := by decide +kernel
theorem dX9_init_170 : decode cX9_init 170 = .ok (.new 9, 3) := by decide +kernel
theorem dX9_init_173 : decode cX9_init 173 = .ok (.dup, 1) := by decide +kernel
theorem dX9_init_174 : decode cX9_init 174 = .ok (.invokespecial 18, 3) := by decide +kernel
theorem dX9_init_177 : decode cX9_init 177 = .ok (.aastore, 1) := by decide +kernel
theorem dX9_init_178 : decode cX9_init 178 = .ok (.iinc 1 1, 3) := by decide +kernel
theorem dX9_init_181 : decode cX9_init 181 = .ok (.goto (-34), 3) := by decide +kernel
theorem dX9_init_184 : decode cX9_init 184 = .ok (.return_, 1) := by decide +kernel
theorem dX9_create_0 : decode cX9_create 0 = .ok (.aload_n 0, 1) := by decide +kernel
theorem dX9_create_1 : decode cX9_create 1 = .ok (.iload_n 1, 1) := by decide +kernel
theorem dX9_create_2 : decode cX9_create 2 = .ok (.invokevirtual 88, 3) := by decide +kernel
theorem dX9_create_5 : decode cX9_create 5 = .ok (.astore 4, 2) := by decide +kernel
theorem dX9_create_7 : decode cX9_create 7 = .ok (.aload 4, 2) := by decide +kernel
theorem dX9_create_9 : decode cX9_create 9 = .ok (.ifnull 22, 3) := by decide +kernel
theorem dX9_create_12 : decode cX9_create 12 = .ok (.iload_n 2, 1) := by decide +kernel
theorem dX9_create_13 : decode cX9_create 13 = .ok (.iconst 1, 1) := by decide +kernel
theorem dX9_create_14 : decode cX9_create 14 = .ok (.bipush 6, 2) := by decide +kernel
theorem dX9_create_16 : decode cX9_create 16 = .ok (.invokestatic 92, 3) := by decide +kernel
theorem dX9_create_19 : decode cX9_create 19 = .ok (.ifCond .eq 12, 3) := by decide +kernel
theorem dX9_create_22 : decode cX9_create 22 = .ok (.iload_n 3, 1) := by decide +kernel
theorem dX9_create_23 : decode cX9_create 23 = .ok (.iconst 1, 1) := by decide +kernel
theorem dX9_create_24 : decode cX9_create 24 = .ok (.iconst 3, 1) := by decide +kernel
theorem dX9_create_25 : decode cX9_create 25 = .ok (.invokestatic 92, 3) := by decide +kernel
theorem dX9_create_28 : decode cX9_create 28 = .ok (.ifCond .ne 6, 3) := by decide +kernel
theorem dX9_create_31 : decode cX9_create 31 = .ok (.bipush (-2), 2) := by decide +kernel
theorem dX9_create_33 : decode cX9_create 33 = .ok (.ireturn, 1) := by decide +kernel
theorem dX9_create_34 : decode cX9_create 34 = .ok (.aload 4, 2) := by decide +kernel
theorem dX9_create_36 : decode cX9_create 36 = .ok (.getfield 96, 3) := by decide +kernel
theorem dX9_create_39 : decode cX9_create 39 = .ok (.istore 5, 2) := by decide +kernel
theorem dX9_create_41 : decode cX9_create 41 = .ok (.aload 4, 2) := by decide +kernel
theorem dX9_create_43 : decode cX9_create 43 = .ok (.iload_n 2, 1) := by decide +kernel
theorem dX9_create_44 : decode cX9_create 44 = .ok (.iload_n 3, 1) := by decide +kernel
theorem dX9_create_45 : decode cX9_create 45 = .ok (.invokevirtual 99, 3) := by decide +kernel
theorem dX9_create_48 : decode cX9_create 48 = .ok (.iload 5, 2) := by decide +kernel
theorem dX9_create_50 : decode cX9_create 50 = .ok (.ireturn, 1) := by decide +kernel
theorem dX9_setFinal_0 : decode cX9_setFinal 0 = .ok (.aload_n 0, 1) := by decide +kernel
theorem dX9_setFinal_1 : decode cX9_setFinal 1 = .ok (.iload_n 1, 1) := by decide +kernel
theorem dX9_setFinal_2 : decode cX9_setFinal 2 = .ok (.invokevirtual 88, 3) := by decide +kernel
theorem dX9_setFinal_5 : decode cX9_setFinal 5 = .ok (.astore 4, 2) := by decide +kernel
theorem dX9_setFinal_7 : decode cX9_setFinal 7 = .ok (.aload 4, 2) := by decide +kernel
theorem dX9_setFinal_9 : decode cX9_setFinal 9 = .ok (.ifnull 21, 3) := by decide +kernel
theorem dX9_setFinal_12 : decode cX9_setFinal 12 = .ok (.aload 4, 2) := by decide +kernel
theorem dX9_setFinal_14 : decode cX9_setFinal 14 = .ok (.iload_n 2, 1) := by decide +kernel
theorem dX9_setFinal_15 : decode cX9_setFinal 15 = .ok (.invokevirtual 103, 3) := by decide +kernel
theorem dX9_setFinal_18 : decode cX9_setFinal 18 = .ok (.ifCond .eq 12, 3) := by decide +kernel
theorem dX9_setFinal_21 : decode cX9_setFinal 21 = .ok (.iload_n 3, 1) := by decide +kernel
theorem dX9_setFinal_22 : decode cX9_setFinal 22 = .ok (.iconst 0, 1) := by decide +kernel
theorem dX9_setFinal_23 : decode cX9_setFinal 23 = .ok (.iconst 1, 1) := by decide +kernel
theorem dX9_setFinal_24 : decode cX9_setFinal 24 = .ok (.invokestatic 92, 3) := by decide +kernel
theorem dX9_setFinal_27 : decode cX9_setFinal 27 = .ok (.ifCond .ne 6, 3) := by decide +kernel
theorem dX9_setFinal_30 : decode cX9_setFinal 30 = .ok (.bipush (-2), 2) := by decide +kernel
theorem dX9_setFinal_32 : decode cX9_setFinal 32 = .ok (.ireturn, 1) := by decide +kernel
theorem dX9_setFinal_33 : decode cX9_setFinal 33 = .ok (.aload 4, 2) := by decide +kernel
theorem dX9_setFinal_35 : decode cX9_setFinal 35 = .ok (.getfield 107, 3) := by decide +kernel
theorem dX9_setFinal_38 : decode cX9_setFinal 38 = .ok (.iconst 1, 1) := by decide +kernel
theorem dX9_setFinal_39 : decode cX9_setFinal 39 = .ok (.iload_n 2, 1) := by decide +kernel
theorem dX9_setFinal_40 : decode cX9_setFinal 40 = .ok (.ishl, 1) := by decide +kernel
theorem dX9_setFinal_41 : decode cX9_setFinal 41 = .ok (.iconst (-1), 1) := by decide +kernel
theorem dX9_setFinal_42 : decode cX9_setFinal 42 = .ok (.ixor, 1) := by decide +kernel
theorem dX9_setFinal_43 : decode cX9_setFinal 43 = .ok (.iand, 1) := by decide +kernel
theorem dX9_setFinal_44 : decode cX9_setFinal 44 = .ok (.istore 5, 2) := by decide +kernel
theorem dX9_setFinal_46 : decode cX9_setFinal 46 = .ok (.aload 4, 2) := by decide +kernel
theorem dX9_setFinal_48 : decode cX9_setFinal 48 = .ok (.iload 5, 2) := by decide +kernel
theorem dX9_setFinal_50 : decode cX9_setFinal 50 = .ok (.iload_n 3, 1) := by decide +kernel
theorem dX9_setFinal_51 : decode cX9_setFinal 51 = .ok (.iload_n 2, 1) := by decide +kernel
theorem dX9_setFinal_52 : decode cX9_setFinal 52 = .ok (.ishl, 1) := by decide +kernel
theorem dX9_setFinal_53 : decode cX9_setFinal 53 = .ok (.ior, 1) := by decide +kernel
theorem dX9_setFinal_54 : decode cX9_setFinal 54 = .ok (.putfield 107, 3) := by decide +kernel
theorem dX9_setFinal_57 : decode cX9_setFinal 57 = .ok (.aload 4, 2) := by decide +kernel
theorem dX9_setFinal_59 : decode cX9_setFinal 59 = .ok (.getfield 107, 3) := by decide +kernel
theorem dX9_setFinal_62 : decode cX9_setFinal 62 = .ok (.ireturn, 1) := by decide +kernel
theorem dX9_setWeight_0 : decode cX9_setWeight 0 = .ok (.aload_n 0, 1) := by decide +kernel
theorem dX9_setWeight_1 : decode cX9_setWeight 1 = .ok (.iload_n 1, 1) := by decide +kernel
theorem dX9_setWeight_2 : decode cX9_setWeight 2 = .ok (.invokevirtual 88, 3) := by decide +kernel
theorem dX9_setWeight_5 : decode cX9_setWeight 5 = .ok (.astore 4, 2) := by decide +kernel
theorem dX9_setWeight_7 : decode cX9_setWeight 7 = .ok (.aload 4, 2) := by decide +kernel
theorem dX9_setWeight_9 : decode cX9_setWeight 9 = .ok (.ifnull 22, 3) := by decide +kernel
theorem dX9_setWeight_12 : decode cX9_setWeight 12 = .ok (.aload 4, 2) := by decide +kernel
theorem dX9_setWeight_14 : decode cX9_setWeight 14 = .ok (.iload_n 2, 1) := by decide +kernel
theorem dX9_setWeight_15 : decode cX9_setWeight 15 = .ok (.invokevirtual 110, 3) := by decide +kernel
theorem dX9_setWeight_18 : decode cX9_setWeight 18 = .ok (.ifCond .eq 13, 3) := by decide +kernel
theorem dX9_setWeight_21 : decode cX9_setWeight 21 = .ok (.iload_n 3, 1) := by decide +kernel
theorem dX9_setWeight_22 : decode cX9_setWeight 22 = .ok (.iconst 1, 1) := by decide +kernel
theorem dX9_setWeight_23 : decode cX9_setWeight 23 = .ok (.bipush 9, 2) := by decide +kernel
theorem dX9_setWeight_25 : decode cX9_setWeight 25 = .ok (.invokestatic 92, 3) := by decide +kernel
theorem dX9_setWeight_28 : decode cX9_setWeight 28 = .ok (.ifCond .ne 6, 3) := by decide +kernel
theorem dX9_setWeight_31 : decode cX9_setWeight 31 = .ok (.bipush (-2), 2) := by decide +kernel
theorem dX9_setWeight_33 : decode cX9_setWeight 33 = .ok (.ireturn, 1) := by decide +kernel
theorem dX9_setWeight_34 : decode cX9_setWeight 34 = .ok (.aload 4, 2) := by decide +kernel
theorem dX9_setWeight_36 : decode cX9_setWeight 36 = .ok (.getfield 113, 3) := by decide +kernel
theorem dX9_setWeight_39 : decode cX9_setWeight 39 = .ok (.iload_n 2, 1) := by decide +kernel
theorem dX9_setWeight_40 : decode cX9_setWeight 40 = .ok (.iaload, 1) := by decide +kernel
theorem dX9_setWeight_41 : decode cX9_setWeight 41 = .ok (.istore 5, 2) := by decide +kernel
theorem dX9_setWeight_43 : decode cX9_setWeight 43 = .ok (.aload 4, 2) := by decide +kernel
theorem dX9_setWeight_45 : decode cX9_setWeight 45 = .ok (.getfield 113, 3) := by decide +kernel
theorem dX9_setWeight_48 : decode cX9_setWeight 48 = .ok (.iload_n 2, 1) := by decide +kernel
theorem dX9_setWeight_49 : decode cX9_setWeight 49 = .ok (.iload_n 3, 1) := by decide +kernel
theorem dX9_setWeight_50 : decode cX9_setWeight 50 = .ok (.iastore, 1) := by decide +kernel
theorem dX9_setWeight_51 : decode cX9_setWeight 51 = .ok (.iload 5, 2) := by decide +kernel
theorem dX9_setWeight_53 : decode cX9_setWeight 53 = .ok (.ireturn, 1) := by decide +kernel
theorem dX9_append_0 : decode cX9_append 0 = .ok (.iload_n 1, 1) := by decide +kernel
theorem dX9_append_1 : decode cX9_append 1 = .ok (.iconst 0, 1) := by decide +kernel
theorem dX9_append_2 : decode cX9_append 2 = .ok (.bipush 127, 2) := by decide +kernel
theorem dX9_append_4 : decode cX9_append 4 = .ok (.invokestatic 92, 3) := by decide +kernel
theorem dX9_append_7 : decode cX9_append 7 = .ok (.ifCond .eq 13, 3) := by decide +kernel
theorem dX9_append_10 : decode cX9_append 10 = .ok (.iload_n 2, 1) := by decide +kernel
theorem dX9_append_11 : decode cX9_append 11 = .ok (.iconst 1, 1) := by decide +kernel
theorem dX9_append_12 : decode cX9_append 12 = .ok (.bipush 60, 2) := by decide +kernel
theorem dX9_append_14 : decode cX9_append 14 = .ok (.invokestatic 92, 3) := by decide +kernel
theorem dX9_append_17 : decode cX9_append 17 = .ok (.ifCond .ne 6, 3) := by decide +kernel
theorem dX9_append_20 : decode cX9_append 20 = .ok (.bipush (-2), 2) := by decide +kernel
theorem dX9_append_22 : decode cX9_append 22 = .ok (.ireturn, 1) := by decide +kernel
theorem dX9_append_23 : decode cX9_append 23 = .ok (.aload_n 0, 1) := by decide +kernel
theorem dX9_append_24 : decode cX9_append 24 = .ok (.getfield 26, 3) := by decide +kernel
theorem dX9_append_27 : decode cX9_append 27 = .ok (.getfield 117, 3) := by decide +kernel
theorem dX9_append_30 : decode cX9_append 30 = .ok (.iload_n 2, 1) := by decide +kernel
theorem dX9_append_31 : decode cX9_append 31 = .ok (.iadd, 1) := by decide +kernel
theorem dX9_append_32 : decode cX9_append 32 = .ok (.bipush 60, 2) := by decide +kernel
theorem dX9_append_34 : decode cX9_append 34 = .ok (.if_icmp .le 6, 3) := by decide +kernel
theorem dX9_append_37 : decode cX9_append 37 = .ok (.bipush (-3), 2) := by decide +kernel
theorem dX9_append_39 : decode cX9_append 39 = .ok (.ireturn, 1) := by decide +kernel
theorem dX9_append_40 : decode cX9_append 40 = .ok (.aload_n 0, 1) := by decide +kernel
theorem dX9_append_41 : decode cX9_append 41 = .ok (.getfield 26, 3) := by decide +kernel
theorem dX9_append_44 : decode cX9_append 44 = .ok (.iload_n 1, 1) := by decide +kernel
theorem dX9_append_45 : decode cX9_append 45 = .ok (.i2c, 1) := by decide +kernel
theorem dX9_append_46 : decode cX9_append 46 = .ok (.iload_n 2, 1) := by decide +kernel
theorem dX9_append_47 : decode cX9_append 47 = .ok (.invokevirtual 120, 3) := by decide +kernel
theorem dX9_append_50 : decode cX9_append 50 = .ok (.aload_n 0, 1) := by decide +kernel
theorem dX9_append_51 : decode cX9_append 51 = .ok (.getfield 26, 3) := by decide +kernel
theorem dX9_append_54 : decode cX9_append 54 = .ok (.getfield 117, 3) := by decide +kernel
theorem dX9_append_57 : decode cX9_append 57 = .ok (.ireturn, 1) := by decide +kernel
theorem dX9_setInitial_0 : decode cX9_setInitial 0 = .ok (.aload_n 0, 1) := by decide +kernel
theorem dX9_setInitial_1 : decode cX9_setInitial 1 = .ok (.iload_n 1, 1) := by decide +kernel
theorem dX9_setInitial_2 : decode cX9_setInitial 2 = .ok (.iconst (-1), 1) := by decide +kernel
theorem dX9_setInitial_3 : decode cX9_setInitial 3 = .ok (.iconst 0, 1) := by decide +kernel
theorem dX9_setInitial_4 : decode cX9_setInitial 4 = .ok (.invokevirtual 124, 3) := by decide +kernel
theorem dX9_setInitial_7 : decode cX9_setInitial 7 = .ok (.ireturn, 1) := by decide +kernel
theorem dX9_setTransition_0 : decode cX9_setTransition 0 = .ok (.iload_n 2, 1) := by decide +kernel
theorem dX9_setTransition_1 : decode cX9_setTransition 1 = .ok (.iconst (-1), 1) := by decide +kernel
theorem dX9_setTransition_2 : decode cX9_setTransition 2 = .ok (.if_icmp .ne 14, 3) := by decide +kernel
theorem dX9_setTransition_5 : decode cX9_setTransition 5 = .ok (.aload_n 0, 1) := by decide +kernel
theorem dX9_setTransition_6 : decode cX9_setTransition 6 = .ok (.getfield 26, 3) := by decide +kernel
theorem dX9_setTransition_9 : decode cX9_setTransition 9 = .ok (.iconst 0, 1) := by decide +kernel
theorem dX9_setTransition_10 : decode cX9_setTransition 10 = .ok (.putfield 117, 3) := by decide +kernel
theorem dX9_setTransition_13 : decode cX9_setTransition 13 = .ok (.bipush (-2), 2) := by decide +kernel
theorem dX9_setTransition_15 : decode cX9_setTransition 15 = .ok (.ireturn, 1) := by decide +kernel
theorem dX9_setTransition_16 : decode cX9_setTransition 16 = .ok (.aload_n 0, 1) := by decide +kernel
theorem dX9_setTransition_17 : decode cX9_setTransition 17 = .ok (.iload_n 1, 1) := by decide +kernel
theorem dX9_setTransition_18 : decode cX9_setTransition 18 = .ok (.iload_n 2, 1) := by decide +kernel
theorem dX9_setTransition_19 : decode cX9_setTransition 19 = .ok (.iload_n 3, 1) := by decide +kernel
theorem dX9_setTransition_20 : decode cX9_setTransition 20 = .ok (.invokevirtual 124, 3) := by decide +kernel
theorem dX9_setTransition_23 : decode cX9_setTransition 23 = .ok (.ireturn, 1) := by decide +kernel
theorem dX9_property_0 : decode cX9_property 0 = .ok (.aload_n 0, 1) := by decide +kernel
theorem dX9_property_1 : decode cX9_property 1 = .ok (.iload_n 1, 1) := by decide +kernel
theorem dX9_property_2 : decode cX9_property 2 = .ok (.invokevirtual 88, 3) := by decide +kernel
theorem dX9_property_5 : decode cX9_property 5 = .ok (.astore_n 3, 1) := by decide +kernel
theorem dX9_property_6 : decode cX9_property 6 = .ok (.aload_n 3, 1) := by decide +kernel
theorem dX9_property_7 : decode cX9_property 7 = .ok (.ifnull 12, 3) := by decide +kernel
theorem dX9_property_10 : decode cX9_property 10 = .ok (.iload_n 2, 1) := by decide +kernel
theorem dX9_property_11 : decode cX9_property 11 = .ok (.iconst 0, 1) := by decide +kernel
theorem dX9_property_12 : decode cX9_property 12 = .ok (.iconst 5, 1) := by decide +kernel
theorem dX9_property_13 : decode cX9_property 13 = .ok (.invokestatic 92, 3) := by decide +kernel
theorem dX9_property_16 : decode cX9_property 16 = .ok (.ifCond .ne 6, 3) := by decide +kernel
theorem dX9_property_19 : decode cX9_property 19 = .ok (.bipush (-2), 2) := by decide +kernel
theorem dX9_property_21 : decode cX9_property 21 = .ok (.ireturn, 1) := by decide +kernel
theorem dX9_property_22 : decode cX9_property 22 = .ok (.iload_n 2, 1) := by decide +kernel
theorem dX9_property_23 : decode cX9_property 23 = .ok (.tableswitch 40 0 2 #[25, 30, 35], 25) := by decide +kernel
theorem dX9_property_48 : decode cX9_property 48 = .ok (.aload_n 3, 1) := by decide +kernel
theorem dX9_property_49 : decode cX9_property 49 = .ok (.getfield 96, 3) := by decide +kernel
theorem dX9_property_52 : decode cX9_property 52 = .ok (.ireturn, 1) := by decide +kernel
theorem dX9_property_53 : decode cX9_property 53 = .ok (.aload_n 3, 1) := by decide +kernel
theorem dX9_property_54 : decode cX9_property 54 = .ok (.getfield 128, 3) := by decide +kernel
theorem dX9_property_57 : decode cX9_property 57 = .ok (.ireturn, 1) := by decide +kernel
theorem dX9_property_58 : decode cX9_property 58 = .ok (.aload_n 3, 1) := by decide +kernel
theorem dX9_property_59 : decode cX9_property 59 = .ok (.getfield 107, 3) := by decide +kernel
theorem dX9_property_62 : decode cX9_property 62 = .ok (.ireturn, 1) := by decide +kernel
theorem dX9_property_63 : decode cX9_property 63 = .ok (.aload_n 3, 1) := by decide +kernel
theorem dX9_property_64 : decode cX9_property 64 = .ok (.iload_n 2, 1) := by decide +kernel
theorem dX9_property_65 : decode cX9_property 65 = .ok (.iconst 3, 1) := by decide +kernel
theorem dX9_property_66 : decode cX9_property 66 = .ok (.isub, 1) := by decide +kernel
theorem dX9_property_67 : decode cX9_property 67 = .ok (.invokevirtual 110, 3) := by decide +kernel
theorem dX9_property_70 : decode cX9_property 70 = .ok (.ifCond .eq 14, 3) := by decide +kernel
theorem dX9_property_73 : decode cX9_property 73 = .ok (.aload_n 3, 1) := by decide +kernel
theorem dX9_property_74 : decode cX9_property 74 = .ok (.getfield 113, 3) := by decide +kernel
theorem dX9_property_77 : decode cX9_property 77 = .ok (.iload_n 2, 1) := by decide +kernel
theorem dX9_property_78 : decode cX9_property 78 = .ok (.iconst 3, 1) := by decide +kernel
theorem dX9_property_79 : decode cX9_property 79 = .ok (.isub, 1) := by decide +kernel
theorem dX9_property_80 : decode cX9_property 80 = .ok (.iaload, 1) := by decide +kernel
theorem dX9_property_81 : decode cX9_property 81 = .ok (.goto 4, 3) := by decide +kernel
theorem dX9_property_84 : decode cX9_property 84 = .ok (.iconst (-1), 1) := by decide +kernel
theorem dX9_property_85 : decode cX9_property 85 = .ok (.ireturn, 1) := by decide +kernel
theorem dX9_print_0 : decode cX9_print 0 = .ok (.aload_n 0, 1) := by decide +kernel
theorem dX9_print_1 : decode cX9_print 1 = .ok (.iload_n 1, 1) := by decide +kernel
theorem dX9_print_2 : decode cX9_print 2 = .ok (.iload_n 2, 1) := by decide +kernel
theorem dX9_print_3 : decode cX9_print 3 = .ok (.iload_n 3, 1) := by decide +kernel
theorem dX9_print_4 : decode cX9_print 4 = .ok (.invokevirtual 131, 3) := by decide +kernel
theorem dX9_print_7 : decode cX9_print 7 = .ok (.astore 4, 2) := by decide +kernel
theorem dX9_print_9 : decode cX9_print 9 = .ok (.aload 4, 2) := by decide +kernel
theorem dX9_print_11 : decode cX9_print 11 = .ok (.ifnonnull 6, 3) := by decide +kernel
theorem dX9_print_14 : decode cX9_print 14 = .ok (.bipush (-2), 2) := by decide +kernel
theorem dX9_print_16 : decode cX9_print 16 = .ok (.ireturn, 1) := by decide +kernel
theorem dX9_print_17 : decode cX9_print 17 = .ok (.aload_n 0, 1) := by decide +kernel
theorem dX9_print_18 : decode cX9_print 18 = .ok (.getfield 33, 3) := by decide +kernel
theorem dX9_print_21 : decode cX9_print 21 = .ok (.aload 4, 2) := by decide +kernel
theorem dX9_print_23 : decode cX9_print 23 = .ok (.invokevirtual 135, 3) := by decide +kernel
theorem dX9_print_26 : decode cX9_print 26 = .ok (.aload_n 0, 1) := by decide +kernel
theorem dX9_print_27 : decode cX9_print 27 = .ok (.getfield 33, 3) := by decide +kernel
theorem dX9_print_30 : decode cX9_print 30 = .ok (.getfield 139, 3) := by decide +kernel
theorem dX9_print_33 : decode cX9_print 33 = .ok (.ireturn, 1) := by decide +kernel
theorem dX9_printed_0 : decode cX9_printed 0 = .ok (.iload_n 1, 1) := by decide +kernel
theorem dX9_printed_1 : decode cX9_printed 1 = .ok (.ifCond .lt 26, 3) := by decide +kernel
theorem dX9_printed_4 : decode cX9_printed 4 = .ok (.iload_n 1, 1) := by decide +kernel
theorem dX9_printed_5 : decode cX9_printed 5 = .ok (.aload_n 0, 1) := by decide +kernel
theorem dX9_printed_6 : decode cX9_printed 6 = .ok (.getfield 33, 3) := by decide +kernel
theorem dX9_printed_9 : decode cX9_printed 9 = .ok (.getfield 139, 3) := by decide +kernel
theorem dX9_printed_12 : decode cX9_printed 12 = .ok (.if_icmp .ge 15, 3) := by decide +kernel
theorem dX9_printed_15 : decode cX9_printed 15 = .ok (.aload_n 0, 1) := by decide +kernel
theorem dX9_printed_16 : decode cX9_printed 16 = .ok (.getfield 33, 3) := by decide +kernel
theorem dX9_printed_19 : decode cX9_printed 19 = .ok (.getfield 140, 3) := by decide +kernel
theorem dX9_printed_22 : decode cX9_printed 22 = .ok (.iload_n 1, 1) := by decide +kernel
theorem dX9_printed_23 : decode cX9_printed 23 = .ok (.caload, 1) := by decide +kernel
theorem dX9_printed_24 : decode cX9_printed 24 = .ok (.goto 4, 3) := by decide +kernel
theorem dX9_printed_27 : decode cX9_printed 27 = .ok (.iconst (-1), 1) := by decide +kernel
theorem dX9_printed_28 : decode cX9_printed 28 = .ok (.ireturn, 1) := by decide +kernel
theorem dX9_isSatisfied_0 : decode cX9_isSatisfied 0 = .ok (.aload_n 0, 1) := by decide +kernel
theorem dX9_isSatisfied_1 : decode cX9_isSatisfied 1 = .ok (.iload_n 1, 1) := by decide +kernel
theorem dX9_isSatisfied_2 : decode cX9_isSatisfied 2 = .ok (.invokevirtual 88, 3) := by decide +kernel
theorem dX9_isSatisfied_5 : decode cX9_isSatisfied 5 = .ok (.astore 5, 2) := by decide +kernel
theorem dX9_isSatisfied_7 : decode cX9_isSatisfied 7 = .ok (.aload_n 0, 1) := by decide +kernel
theorem dX9_isSatisfied_8 : decode cX9_isSatisfied 8 = .ok (.iload_n 1, 1) := by decide +kernel
theorem dX9_isSatisfied_9 : decode cX9_isSatisfied 9 = .ok (.iload_n 2, 1) := by decide +kernel
theorem dX9_isSatisfied_10 : decode cX9_isSatisfied 10 = .ok (.iload_n 3, 1) := by decide +kernel
theorem dX9_isSatisfied_11 : decode cX9_isSatisfied 11 = .ok (.invokevirtual 131, 3) := by decide +kernel
theorem dX9_isSatisfied_14 : decode cX9_isSatisfied 14 = .ok (.astore 6, 2) := by decide +kernel
theorem dX9_isSatisfied_16 : decode cX9_isSatisfied 16 = .ok (.aload 5, 2) := by decide +kernel
theorem dX9_isSatisfied_18 : decode cX9_isSatisfied 18 = .ok (.ifnull 18, 3) := by decide +kernel
theorem dX9_isSatisfied_21 : decode cX9_isSatisfied 21 = .ok (.aload 6, 2) := by decide +kernel
theorem dX9_isSatisfied_23 : decode cX9_isSatisfied 23 = .ok (.ifnull 13, 3) := by decide +kernel
theorem dX9_isSatisfied_26 : decode cX9_isSatisfied 26 = .ok (.aload 5, 2) := by decide +kernel
theorem dX9_isSatisfied_28 : decode cX9_isSatisfied 28 = .ok (.iload 4, 2) := by decide +kernel
theorem dX9_isSatisfied_30 : decode cX9_isSatisfied 30 = .ok (.invokevirtual 144, 3) := by decide +kernel
theorem dX9_isSatisfied_33 : decode cX9_isSatisfied 33 = .ok (.ifCond .ne 6, 3) := by decide +kernel
theorem dX9_isSatisfied_36 : decode cX9_isSatisfied 36 = .ok (.bipush (-2), 2) := by decide +kernel
theorem dX9_isSatisfied_38 : decode cX9_isSatisfied 38 = .ok (.ireturn, 1) := by decide +kernel
theorem dX9_isSatisfied_39 : decode cX9_isSatisfied 39 = .ok (.aload 6, 2) := by decide +kernel
theorem dX9_isSatisfied_41 : decode cX9_isSatisfied 41 = .ok (.iload 4, 2) := by decide +kernel
theorem dX9_isSatisfied_43 : decode cX9_isSatisfied 43 = .ok (.invokevirtual 147, 3) := by decide +kernel
theorem dX9_isSatisfied_46 : decode cX9_isSatisfied 46 = .ok (.ifCond .eq 7, 3) := by decide +kernel
theorem dX9_isSatisfied_49 : decode cX9_isSatisfied 49 = .ok (.iconst 1, 1) := by decide +kernel
theorem dX9_isSatisfied_50 : decode cX9_isSatisfied 50 = .ok (.goto 4, 3) := by decide +kernel
theorem dX9_isSatisfied_53 : decode cX9_isSatisfied 53 = .ok (.iconst 0, 1) := by decide +kernel
theorem dX9_isSatisfied_54 : decode cX9_isSatisfied 54 = .ok (.ireturn, 1) := by decide +kernel
theorem dX9_model_0 : decode cX9_model 0 = .ok (.aload_n 0, 1) := by decide +kernel
theorem dX9_model_1 : decode cX9_model 1 = .ok (.iload_n 1, 1) := by decide +kernel
theorem dX9_model_2 : decode cX9_model 2 = .ok (.iload_n 2, 1) := by decide +kernel
theorem dX9_model_3 : decode cX9_model 3 = .ok (.iload_n 3, 1) := by decide +kernel
theorem dX9_model_4 : decode cX9_model 4 = .ok (.invokevirtual 131, 3) := by decide +kernel
theorem dX9_model_7 : decode cX9_model 7 = .ok (.astore 5, 2) := by decide +kernel
theorem dX9_model_9 : decode cX9_model 9 = .ok (.aload 5, 2) := by decide +kernel
theorem dX9_model_11 : decode cX9_model 11 = .ok (.ifnull 9, 3) := by decide +kernel
theorem dX9_model_14 : decode cX9_model 14 = .ok (.iload 4, 2) := by decide +kernel
theorem dX9_model_16 : decode cX9_model 16 = .ok (.iconst (-1), 1) := by decide +kernel
theorem dX9_model_17 : decode cX9_model 17 = .ok (.if_icmp .ge 6, 3) := by decide +kernel
theorem dX9_model_20 : decode cX9_model 20 = .ok (.bipush (-2), 2) := by decide +kernel
theorem dX9_model_22 : decode cX9_model 22 = .ok (.ireturn, 1) := by decide +kernel
theorem dX9_model_23 : decode cX9_model 23 = .ok (.aload 5, 2) := by decide +kernel
theorem dX9_model_25 : decode cX9_model 25 = .ok (.getfield 152, 3) := by decide +kernel
theorem dX9_model_28 : decode cX9_model 28 = .ok (.invokestatic 156, 3) := by decide +kernel
theorem dX9_model_31 : decode cX9_model 31 = .ok (.lstore 6, 2) := by decide +kernel
theorem dX9_model_33 : decode cX9_model 33 = .ok (.iload 4, 2) := by decide +kernel
theorem dX9_model_35 : decode cX9_model 35 = .ok (.iconst (-1), 1) := by decide +kernel
theorem dX9_model_36 : decode cX9_model 36 = .ok (.if_icmp .ne 11, 3) := by decide +kernel
theorem dX9_model_39 : decode cX9_model 39 = .ok (.lload 6, 2) := by decide +kernel
theorem dX9_model_41 : decode cX9_model 41 = .ok (.invokestatic 160, 3) := by decide +kernel
theorem dX9_model_44 : decode cX9_model 44 = .ok (.goto 10, 3) := by decide +kernel
theorem dX9_model_47 : decode cX9_model 47 = .ok (.lload 6, 2) := by decide +kernel
theorem dX9_model_49 : decode cX9_model 49 = .ok (.iload 4, 2) := by decide +kernel
theorem dX9_model_51 : decode cX9_model 51 = .ok (.invokestatic 166, 3) := by decide +kernel
theorem dX9_model_54 : decode cX9_model 54 = .ok (.ireturn, 1) := by decide +kernel
theorem dX9_push_0 : decode cX9_push 0 = .ok (.iload_n 1, 1) := by decide +kernel
theorem dX9_push_1 : decode cX9_push 1 = .ok (.iconst 0, 1) := by decide +kernel
theorem dX9_push_2 : decode cX9_push 2 = .ok (.iconst 2, 1) := by decide +kernel
theorem dX9_push_3 : decode cX9_push 3 = .ok (.invokestatic 92, 3) := by decide +kernel
theorem dX9_push_6 : decode cX9_push 6 = .ok (.ifCond .ne 6, 3) := by decide +kernel
theorem dX9_push_9 : decode cX9_push 9 = .ok (.bipush (-2), 2) := by decide +kernel
theorem dX9_push_11 : decode cX9_push 11 = .ok (.ireturn, 1) := by decide +kernel
theorem dX9_push_12 : decode cX9_push 12 = .ok (.aload_n 0, 1) := by decide +kernel
theorem dX9_push_13 : decode cX9_push 13 = .ok (.getfield 42, 3) := by decide +kernel
theorem dX9_push_16 : decode cX9_push 16 = .ok (.getfield 170, 3) := by decide +kernel
theorem dX9_push_19 : decode cX9_push 19 = .ok (.bipush 12, 2) := by decide +kernel
theorem dX9_push_21 : decode cX9_push 21 = .ok (.if_icmp .lt 6, 3) := by decide +kernel
theorem dX9_push_24 : decode cX9_push 24 = .ok (.bipush (-3), 2) := by decide +kernel
theorem dX9_push_26 : decode cX9_push 26 = .ok (.ireturn, 1) := by decide +kernel
theorem dX9_push_27 : decode cX9_push 27 = .ok (.aload_n 0, 1) := by decide +kernel
theorem dX9_push_28 : decode cX9_push 28 = .ok (.getfield 42, 3) := by decide +kernel
theorem dX9_push_31 : decode cX9_push 31 = .ok (.iload_n 1, 1) := by decide +kernel
theorem dX9_push_32 : decode cX9_push 32 = .ok (.invokevirtual 171, 3) := by decide +kernel
theorem dX9_push_35 : decode cX9_push 35 = .ok (.aload_n 0, 1) := by decide +kernel
theorem dX9_push_36 : decode cX9_push 36 = .ok (.getfield 42, 3) := by decide +kernel
theorem dX9_push_39 : decode cX9_push 39 = .ok (.getfield 170, 3) := by decide +kernel
theorem dX9_push_42 : decode cX9_push 42 = .ok (.ireturn, 1) := by decide +kernel
theorem dX9_clearWord_0 : decode cX9_clearWord 0 = .ok (.aload_n 0, 1) := by decide +kernel
theorem dX9_clearWord_1 : decode cX9_clearWord 1 = .ok (.getfield 42, 3) := by decide +kernel
theorem dX9_clearWord_4 : decode cX9_clearWord 4 = .ok (.getfield 170, 3) := by decide +kernel
theorem dX9_clearWord_7 : decode cX9_clearWord 7 = .ok (.istore_n 1, 1) := by decide +kernel
theorem dX9_clearWord_8 : decode cX9_clearWord 8 = .ok (.aload_n 0, 1) := by decide +kernel
theorem dX9_clearWord_9 : decode cX9_clearWord 9 = .ok (.getfield 42, 3) := by decide +kernel
theorem dX9_clearWord_12 : decode cX9_clearWord 12 = .ok (.iconst 0, 1) := by decide +kernel
theorem dX9_clearWord_13 : decode cX9_clearWord 13 = .ok (.putfield 170, 3) := by decide +kernel
theorem dX9_clearWord_16 : decode cX9_clearWord 16 = .ok (.iload_n 1, 1) := by decide +kernel
theorem dX9_clearWord_17 : decode cX9_clearWord 17 = .ok (.ireturn, 1) := by decide +kernel
theorem dX9_acceptingStates_0 : decode cX9_acceptingStates 0 = .ok (.aload_n 0, 1) := by decide +kernel
theorem dX9_acceptingStates_1 : decode cX9_acceptingStates 1 = .ok (.iload_n 1, 1) := by decide +kernel
theorem dX9_acceptingStates_2 : decode cX9_acceptingStates 2 = .ok (.invokevirtual 88, 3) := by decide +kernel
theorem dX9_acceptingStates_5 : decode cX9_acceptingStates 5 = .ok (.astore_n 3, 1) := by decide +kernel
theorem dX9_acceptingStates_6 : decode cX9_acceptingStates 6 = .ok (.aload_n 3, 1) := by decide +kernel
theorem dX9_acceptingStates_7 : decode cX9_acceptingStates 7 = .ok (.ifnull 18, 3) := by decide +kernel
theorem dX9_acceptingStates_10 : decode cX9_acceptingStates 10 = .ok (.iload_n 2, 1) := by decide +kernel
theorem dX9_acceptingStates_11 : decode cX9_acceptingStates 11 = .ok (.iconst 0, 1) := by decide +kernel
theorem dX9_acceptingStates_12 : decode cX9_acceptingStates 12 = .ok (.aload_n 0, 1) := by decide +kernel
theorem dX9_acceptingStates_13 : decode cX9_acceptingStates 13 = .ok (.getfield 42, 3) := by decide +kernel
theorem dX9_acceptingStates_16 : decode cX9_acceptingStates 16 = .ok (.getfield 170, 3) := by decide +kernel
theorem dX9_acceptingStates_19 : decode cX9_acceptingStates 19 = .ok (.invokestatic 92, 3) := by decide +kernel
theorem dX9_acceptingStates_22 : decode cX9_acceptingStates 22 = .ok (.ifCond .ne 6, 3) := by decide +kernel
theorem dX9_acceptingStates_25 : decode cX9_acceptingStates 25 = .ok (.bipush (-2), 2) := by decide +kernel
theorem dX9_acceptingStates_27 : decode cX9_acceptingStates 27 = .ok (.ireturn, 1) := by decide +kernel
theorem dX9_acceptingStates_28 : decode cX9_acceptingStates 28 = .ok (.aload_n 0, 1) := by decide +kernel
theorem dX9_acceptingStates_29 : decode cX9_acceptingStates 29 = .ok (.getfield 42, 3) := by decide +kernel
theorem dX9_acceptingStates_32 : decode cX9_acceptingStates 32 = .ok (.aload_n 3, 1) := by decide +kernel
theorem dX9_acceptingStates_33 : decode cX9_acceptingStates 33 = .ok (.invokevirtual 173, 3) := by decide +kernel
theorem dX9_acceptingStates_36 : decode cX9_acceptingStates 36 = .ok (.ifCond .eq 15, 3) := by decide +kernel
theorem dX9_acceptingStates_39 : decode cX9_acceptingStates 39 = .ok (.aload_n 0, 1) := by decide +kernel
theorem dX9_acceptingStates_40 : decode cX9_acceptingStates 40 = .ok (.getfield 42, 3) := by decide +kernel
theorem dX9_acceptingStates_43 : decode cX9_acceptingStates 43 = .ok (.aload_n 3, 1) := by decide +kernel
theorem dX9_acceptingStates_44 : decode cX9_acceptingStates 44 = .ok (.iload_n 2, 1) := by decide +kernel
theorem dX9_acceptingStates_45 : decode cX9_acceptingStates 45 = .ok (.invokevirtual 177, 3) := by decide +kernel
theorem dX9_acceptingStates_48 : decode cX9_acceptingStates 48 = .ok (.goto 5, 3) := by decide +kernel
theorem dX9_acceptingStates_51 : decode cX9_acceptingStates 51 = .ok (.bipush (-4), 2) := by decide +kernel
theorem dX9_acceptingStates_53 : decode cX9_acceptingStates 53 = .ok (.ireturn, 1) := by decide +kernel
theorem dX9_accepts_0 : decode cX9_accepts 0 = .ok (.aload_n 0, 1) := by decide +kernel
theorem dX9_accepts_1 : decode cX9_accepts 1 = .ok (.iload_n 1, 1) := by decide +kernel
theorem dX9_accepts_2 : decode cX9_accepts 2 = .ok (.invokevirtual 88, 3) := by decide +kernel
theorem dX9_accepts_5 : decode cX9_accepts 5 = .ok (.astore_n 2, 1) := by decide +kernel
theorem dX9_accepts_6 : decode cX9_accepts 6 = .ok (.aload_n 2, 1) := by decide +kernel
theorem dX9_accepts_7 : decode cX9_accepts 7 = .ok (.ifnonnull 6, 3) := by decide +kernel
theorem dX9_accepts_10 : decode cX9_accepts 10 = .ok (.bipush (-2), 2) := by decide +kernel
theorem dX9_accepts_12 : decode cX9_accepts 12 = .ok (.ireturn, 1) := by decide +kernel
theorem dX9_accepts_13 : decode cX9_accepts 13 = .ok (.aload_n 0, 1) := by decide +kernel
theorem dX9_accepts_14 : decode cX9_accepts 14 = .ok (.getfield 42, 3) := by decide +kernel
theorem dX9_accepts_17 : decode cX9_accepts 17 = .ok (.aload_n 2, 1) := by decide +kernel
theorem dX9_accepts_18 : decode cX9_accepts 18 = .ok (.invokevirtual 173, 3) := by decide +kernel
theorem dX9_accepts_21 : decode cX9_accepts 21 = .ok (.ifCond .ne 6, 3) := by decide +kernel
theorem dX9_accepts_24 : decode cX9_accepts 24 = .ok (.bipush (-4), 2) := by decide +kernel
theorem dX9_accepts_26 : decode cX9_accepts 26 = .ok (.ireturn, 1) := by decide +kernel
theorem dX9_accepts_27 : decode cX9_accepts 27 = .ok (.aload_n 2, 1) := by decide +kernel
theorem dX9_accepts_28 : decode cX9_accepts 28 = .ok (.getfield 181, 3) := by decide +kernel
theorem dX9_accepts_31 : decode cX9_accepts 31 = .ok (.aload_n 0, 1) := by decide +kernel
theorem dX9_accepts_32 : decode cX9_accepts 32 = .ok (.getfield 42, 3) := by decide +kernel
theorem dX9_accepts_35 : decode cX9_accepts 35 = .ok (.aload_n 2, 1) := by decide +kernel
theorem dX9_accepts_36 : decode cX9_accepts 36 = .ok (.iconst 0, 1) := by decide +kernel
theorem dX9_accepts_37 : decode cX9_accepts 37 = .ok (.invokevirtual 177, 3) := by decide +kernel
theorem dX9_accepts_40 : decode cX9_accepts 40 = .ok (.invokevirtual 147, 3) := by decide +kernel
theorem dX9_accepts_43 : decode cX9_accepts 43 = .ok (.ifCond .eq 7, 3) := by decide +kernel
theorem dX9_accepts_46 : decode cX9_accepts 46 = .ok (.iconst 1, 1) := by decide +kernel
theorem dX9_accepts_47 : decode cX9_accepts 47 = .ok (.goto 4, 3) := by decide +kernel
theorem dX9_accepts_50 : decode cX9_accepts 50 = .ok (.iconst 0, 1) := by decide +kernel
theorem dX9_accepts_51 : decode cX9_accepts 51 = .ok (.ireturn, 1) := by decide +kernel
theorem dX9_rank_0 : decode cX9_rank 0 = .ok (.aload_n 0, 1) := by decide +kernel
theorem dX9_rank_1 : decode cX9_rank 1 = .ok (.iload_n 1, 1) := by decide +kernel
theorem dX9_rank_2 : decode cX9_rank 2 = .ok (.invokevirtual 88, 3) := by decide +kernel
theorem dX9_rank_5 : decode cX9_rank 5 = .ok (.astore 4, 2) := by decide +kernel
theorem dX9_rank_7 : decode cX9_rank 7 = .ok (.aload 4, 2) := by decide +kernel
theorem dX9_rank_9 : decode cX9_rank 9 = .ok (.ifnull 27, 3) := by decide +kernel
theorem dX9_rank_12 : decode cX9_rank 12 = .ok (.aload 4, 2) := by decide +kernel
theorem dX9_rank_14 : decode cX9_rank 14 = .ok (.iload_n 3, 1) := by decide +kernel
theorem dX9_rank_15 : decode cX9_rank 15 = .ok (.invokevirtual 103, 3) := by decide +kernel
theorem dX9_rank_18 : decode cX9_rank 18 = .ok (.ifCond .eq 18, 3) := by decide +kernel
theorem dX9_rank_21 : decode cX9_rank 21 = .ok (.iload_n 2, 1) := by decide +kernel
theorem dX9_rank_22 : decode cX9_rank 22 = .ok (.iconst 0, 1) := by decide +kernel
theorem dX9_rank_23 : decode cX9_rank 23 = .ok (.aload_n 0, 1) := by decide +kernel
theorem dX9_rank_24 : decode cX9_rank 24 = .ok (.getfield 42, 3) := by decide +kernel
theorem dX9_rank_27 : decode cX9_rank 27 = .ok (.getfield 170, 3) := by decide +kernel
theorem dX9_rank_30 : decode cX9_rank 30 = .ok (.invokestatic 92, 3) := by decide +kernel
theorem dX9_rank_33 : decode cX9_rank 33 = .ok (.ifCond .ne 6, 3) := by decide +kernel
theorem dX9_rank_36 : decode cX9_rank 36 = .ok (.bipush (-2), 2) := by decide +kernel
theorem dX9_rank_38 : decode cX9_rank 38 = .ok (.ireturn, 1) := by decide +kernel
theorem dX9_rank_39 : decode cX9_rank 39 = .ok (.aload_n 0, 1) := by decide +kernel
theorem dX9_rank_40 : decode cX9_rank 40 = .ok (.getfield 42, 3) := by decide +kernel
theorem dX9_rank_43 : decode cX9_rank 43 = .ok (.aload 4, 2) := by decide +kernel
theorem dX9_rank_45 : decode cX9_rank 45 = .ok (.invokevirtual 173, 3) := by decide +kernel
theorem dX9_rank_48 : decode cX9_rank 48 = .ok (.ifCond .ne 6, 3) := by decide +kernel
theorem dX9_rank_51 : decode cX9_rank 51 = .ok (.bipush (-4), 2) := by decide +kernel
theorem dX9_rank_53 : decode cX9_rank 53 = .ok (.ireturn, 1) := by decide +kernel
theorem dX9_rank_54 : decode cX9_rank 54 = .ok (.aload_n 0, 1) := by decide +kernel
theorem dX9_rank_55 : decode cX9_rank 55 = .ok (.getfield 52, 3) := by decide +kernel
theorem dX9_rank_58 : decode cX9_rank 58 = .ok (.aload 4, 2) := by decide +kernel
theorem dX9_rank_60 : decode cX9_rank 60 = .ok (.aload_n 0, 1) := by decide +kernel
theorem dX9_rank_61 : decode cX9_rank 61 = .ok (.getfield 42, 3) := by decide +kernel
theorem dX9_rank_64 : decode cX9_rank 64 = .ok (.iload_n 2, 1) := by decide +kernel
theorem dX9_rank_65 : decode cX9_rank 65 = .ok (.invokevirtual 185, 3) := by decide +kernel
theorem dX9_rank_68 : decode cX9_rank 68 = .ok (.aload_n 0, 1) := by decide +kernel
theorem dX9_rank_69 : decode cX9_rank 69 = .ok (.getfield 52, 3) := by decide +kernel
theorem dX9_rank_72 : decode cX9_rank 72 = .ok (.iload_n 2, 1) := by decide +kernel
theorem dX9_rank_73 : decode cX9_rank 73 = .ok (.iload_n 3, 1) := by decide +kernel
theorem dX9_rank_74 : decode cX9_rank 74 = .ok (.invokevirtual 189, 3) := by decide +kernel
theorem dX9_rank_77 : decode cX9_rank 77 = .ok (.ireturn, 1) := by decide +kernel
theorem dX9_strategy_0 : decode cX9_strategy 0 = .ok (.aload_n 0, 1) := by decide +kernel
theorem dX9_strategy_1 : decode cX9_strategy 1 = .ok (.iload_n 1, 1) := by decide +kernel
theorem dX9_strategy_2 : decode cX9_strategy 2 = .ok (.invokevirtual 88, 3) := by decide +kernel
theorem dX9_strategy_5 : decode cX9_strategy 5 = .ok (.astore 4, 2) := by decide +kernel
theorem dX9_strategy_7 : decode cX9_strategy 7 = .ok (.aload 4, 2) := by decide +kernel
theorem dX9_strategy_9 : decode cX9_strategy 9 = .ok (.ifnull 29, 3) := by decide +kernel
theorem dX9_strategy_12 : decode cX9_strategy 12 = .ok (.aload 4, 2) := by decide +kernel
theorem dX9_strategy_14 : decode cX9_strategy 14 = .ok (.iload_n 3, 1) := by decide +kernel
theorem dX9_strategy_15 : decode cX9_strategy 15 = .ok (.invokevirtual 103, 3) := by decide +kernel
theorem dX9_strategy_18 : decode cX9_strategy 18 = .ok (.ifCond .eq 20, 3) := by decide +kernel
theorem dX9_strategy_21 : decode cX9_strategy 21 = .ok (.iload_n 2, 1) := by decide +kernel
theorem dX9_strategy_22 : decode cX9_strategy 22 = .ok (.iconst 0, 1) := by decide +kernel
theorem dX9_strategy_23 : decode cX9_strategy 23 = .ok (.aload_n 0, 1) := by decide +kernel
theorem dX9_strategy_24 : decode cX9_strategy 24 = .ok (.getfield 42, 3) := by decide +kernel
theorem dX9_strategy_27 : decode cX9_strategy 27 = .ok (.getfield 170, 3) := by decide +kernel
theorem dX9_strategy_30 : decode cX9_strategy 30 = .ok (.iconst 1, 1) := by decide +kernel
theorem dX9_strategy_31 : decode cX9_strategy 31 = .ok (.isub, 1) := by decide +kernel
theorem dX9_strategy_32 : decode cX9_strategy 32 = .ok (.invokestatic 92, 3) := by decide +kernel
theorem dX9_strategy_35 : decode cX9_strategy 35 = .ok (.ifCond .ne 6, 3) := by decide +kernel
theorem dX9_strategy_38 : decode cX9_strategy 38 = .ok (.bipush (-2), 2) := by decide +kernel
theorem dX9_strategy_40 : decode cX9_strategy 40 = .ok (.ireturn, 1) := by decide +kernel
theorem dX9_strategy_41 : decode cX9_strategy 41 = .ok (.aload_n 0, 1) := by decide +kernel
theorem dX9_strategy_42 : decode cX9_strategy 42 = .ok (.getfield 42, 3) := by decide +kernel
theorem dX9_strategy_45 : decode cX9_strategy 45 = .ok (.aload 4, 2) := by decide +kernel
theorem dX9_strategy_47 : decode cX9_strategy 47 = .ok (.invokevirtual 173, 3) := by decide +kernel
theorem dX9_strategy_50 : decode cX9_strategy 50 = .ok (.ifCond .ne 6, 3) := by decide +kernel
theorem dX9_strategy_53 : decode cX9_strategy 53 = .ok (.bipush (-4), 2) := by decide +kernel
theorem dX9_strategy_55 : decode cX9_strategy 55 = .ok (.ireturn, 1) := by decide +kernel
theorem dX9_strategy_56 : decode cX9_strategy 56 = .ok (.aload_n 0, 1) := by decide +kernel
theorem dX9_strategy_57 : decode cX9_strategy 57 = .ok (.getfield 52, 3) := by decide +kernel
theorem dX9_strategy_60 : decode cX9_strategy 60 = .ok (.aload 4, 2) := by decide +kernel
theorem dX9_strategy_62 : decode cX9_strategy 62 = .ok (.aload_n 0, 1) := by decide +kernel
theorem dX9_strategy_63 : decode cX9_strategy 63 = .ok (.getfield 42, 3) := by decide +kernel
theorem dX9_strategy_66 : decode cX9_strategy 66 = .ok (.iload_n 2, 1) := by decide +kernel
theorem dX9_strategy_67 : decode cX9_strategy 67 = .ok (.invokevirtual 185, 3) := by decide +kernel
theorem dX9_strategy_70 : decode cX9_strategy 70 = .ok (.aload_n 0, 1) := by decide +kernel
theorem dX9_strategy_71 : decode cX9_strategy 71 = .ok (.getfield 52, 3) := by decide +kernel
theorem dX9_strategy_74 : decode cX9_strategy 74 = .ok (.iload_n 2, 1) := by decide +kernel
theorem dX9_strategy_75 : decode cX9_strategy 75 = .ok (.iload_n 3, 1) := by decide +kernel
theorem dX9_strategy_76 : decode cX9_strategy 76 = .ok (.invokevirtual 189, 3) := by decide +kernel
theorem dX9_strategy_79 : decode cX9_strategy 79 = .ok (.sipush 10000, 3) := by decide +kernel
theorem dX9_strategy_82 : decode cX9_strategy 82 = .ok (.if_icmp .lt 5, 3) := by decide +kernel
theorem dX9_strategy_85 : decode cX9_strategy 85 = .ok (.iconst (-1), 1) := by decide +kernel
theorem dX9_strategy_86 : decode cX9_strategy 86 = .ok (.ireturn, 1) := by decide +kernel
theorem dX9_strategy_87 : decode cX9_strategy 87 = .ok (.aload_n 0, 1) := by decide +kernel
theorem dX9_strategy_88 : decode cX9_strategy 88 = .ok (.getfield 52, 3) := by decide +kernel
theorem dX9_strategy_91 : decode cX9_strategy 91 = .ok (.aload 4, 2) := by decide +kernel
theorem dX9_strategy_93 : decode cX9_strategy 93 = .ok (.iload_n 3, 1) := by decide +kernel
theorem dX9_strategy_94 : decode cX9_strategy 94 = .ok (.aload_n 0, 1) := by decide +kernel
theorem dX9_strategy_95 : decode cX9_strategy 95 = .ok (.getfield 42, 3) := by decide +kernel
theorem dX9_strategy_98 : decode cX9_strategy 98 = .ok (.iload_n 2, 1) := by decide +kernel
theorem dX9_strategy_99 : decode cX9_strategy 99 = .ok (.invokevirtual 193, 3) := by decide +kernel
theorem dX9_strategy_102 : decode cX9_strategy 102 = .ok (.invokevirtual 197, 3) := by decide +kernel
theorem dX9_strategy_105 : decode cX9_strategy 105 = .ok (.iload_n 2, 1) := by decide +kernel
theorem dX9_strategy_106 : decode cX9_strategy 106 = .ok (.iconst 1, 1) := by decide +kernel
theorem dX9_strategy_107 : decode cX9_strategy 107 = .ok (.iadd, 1) := by decide +kernel
theorem dX9_strategy_108 : decode cX9_strategy 108 = .ok (.invokevirtual 201, 3) := by decide +kernel
theorem dX9_strategy_111 : decode cX9_strategy 111 = .ok (.ireturn, 1) := by decide +kernel
theorem dX9_reverseStep_0 : decode cX9_reverseStep 0 = .ok (.aload_n 0, 1) := by decide +kernel
theorem dX9_reverseStep_1 : decode cX9_reverseStep 1 = .ok (.iload_n 1, 1) := by decide +kernel
theorem dX9_reverseStep_2 : decode cX9_reverseStep 2 = .ok (.invokevirtual 88, 3) := by decide +kernel
theorem dX9_reverseStep_5 : decode cX9_reverseStep 5 = .ok (.astore 4, 2) := by decide +kernel
theorem dX9_reverseStep_7 : decode cX9_reverseStep 7 = .ok (.aload 4, 2) := by decide +kernel
theorem dX9_reverseStep_9 : decode cX9_reverseStep 9 = .ok (.ifnull 21, 3) := by decide +kernel
theorem dX9_reverseStep_12 : decode cX9_reverseStep 12 = .ok (.aload 4, 2) := by decide +kernel
theorem dX9_reverseStep_14 : decode cX9_reverseStep 14 = .ok (.iload_n 2, 1) := by decide +kernel
theorem dX9_reverseStep_15 : decode cX9_reverseStep 15 = .ok (.invokevirtual 110, 3) := by decide +kernel
theorem dX9_reverseStep_18 : decode cX9_reverseStep 18 = .ok (.ifCond .eq 12, 3) := by decide +kernel
theorem dX9_reverseStep_21 : decode cX9_reverseStep 21 = .ok (.aload 4, 2) := by decide +kernel
theorem dX9_reverseStep_23 : decode cX9_reverseStep 23 = .ok (.iload_n 3, 1) := by decide +kernel
theorem dX9_reverseStep_24 : decode cX9_reverseStep 24 = .ok (.invokevirtual 144, 3) := by decide +kernel
theorem dX9_reverseStep_27 : decode cX9_reverseStep 27 = .ok (.ifCond .ne 6, 3) := by decide +kernel
theorem dX9_reverseStep_30 : decode cX9_reverseStep 30 = .ok (.bipush (-2), 2) := by decide +kernel
theorem dX9_reverseStep_32 : decode cX9_reverseStep 32 = .ok (.ireturn, 1) := by decide +kernel
theorem dX9_reverseStep_33 : decode cX9_reverseStep 33 = .ok (.aload 4, 2) := by decide +kernel
theorem dX9_reverseStep_35 : decode cX9_reverseStep 35 = .ok (.iload_n 2, 1) := by decide +kernel
theorem dX9_reverseStep_36 : decode cX9_reverseStep 36 = .ok (.iload_n 3, 1) := by decide +kernel
theorem dX9_reverseStep_37 : decode cX9_reverseStep 37 = .ok (.invokevirtual 205, 3) := by decide +kernel
theorem dX9_reverseStep_40 : decode cX9_reverseStep 40 = .ok (.ireturn, 1) := by decide +kernel
theorem dX9_reverseStates_0 : decode cX9_reverseStates 0 = .ok (.aload_n 0, 1) := by decide +kernel
theorem dX9_reverseStates_1 : decode cX9_reverseStates 1 = .ok (.iload_n 1, 1) := by decide +kernel
theorem dX9_reverseStates_2 : decode cX9_reverseStates 2 = .ok (.invokevirtual 88, 3) := by decide +kernel
theorem dX9_reverseStates_5 : decode cX9_reverseStates 5 = .ok (.astore_n 2, 1) := by decide +kernel
theorem dX9_reverseStates_6 : decode cX9_reverseStates 6 = .ok (.aload_n 2, 1) := by decide +kernel
theorem dX9_reverseStates_7 : decode cX9_reverseStates 7 = .ok (.ifnonnull 6, 3) := by decide +kernel
theorem dX9_reverseStates_10 : decode cX9_reverseStates 10 = .ok (.bipush (-2), 2) := by decide +kernel
theorem dX9_reverseStates_12 : decode cX9_reverseStates 12 = .ok (.ireturn, 1) := by decide +kernel
theorem dX9_reverseStates_13 : decode cX9_reverseStates 13 = .ok (.aload_n 0, 1) := by decide +kernel
theorem dX9_reverseStates_14 : decode cX9_reverseStates 14 = .ok (.getfield 59, 3) := by decide +kernel
theorem dX9_reverseStates_17 : decode cX9_reverseStates 17 = .ok (.aload_n 2, 1) := by decide +kernel
theorem dX9_reverseStates_18 : decode cX9_reverseStates 18 = .ok (.invokevirtual 208, 3) := by decide +kernel
theorem dX9_reverseStates_21 : decode cX9_reverseStates 21 = .ok (.aload_n 0, 1) := by decide +kernel
theorem dX9_reverseStates_22 : decode cX9_reverseStates 22 = .ok (.getfield 59, 3) := by decide +kernel
theorem dX9_reverseStates_25 : decode cX9_reverseStates 25 = .ok (.invokevirtual 212, 3) := by decide +kernel
theorem dX9_reverseStates_28 : decode cX9_reverseStates 28 = .ok (.invokestatic 160, 3) := by decide +kernel
theorem dX9_reverseStates_31 : decode cX9_reverseStates 31 = .ok (.ireturn, 1) := by decide +kernel
theorem dX9_reverseClasses_0 : decode cX9_reverseClasses 0 = .ok (.aload_n 0, 1) := by decide +kernel
theorem dX9_reverseClasses_1 : decode cX9_reverseClasses 1 = .ok (.iload_n 1, 1) := by decide +kernel
theorem dX9_reverseClasses_2 : decode cX9_reverseClasses 2 = .ok (.invokevirtual 88, 3) := by decide +kernel
theorem dX9_reverseClasses_5 : decode cX9_reverseClasses 5 = .ok (.astore_n 2, 1) := by decide +kernel
theorem dX9_reverseClasses_6 : decode cX9_reverseClasses 6 = .ok (.aload_n 2, 1) := by decide +kernel
theorem dX9_reverseClasses_7 : decode cX9_reverseClasses 7 = .ok (.ifnonnull 6, 3) := by decide +kernel
theorem dX9_reverseClasses_10 : decode cX9_reverseClasses 10 = .ok (.bipush (-2), 2) := by decide +kernel
theorem dX9_reverseClasses_12 : decode cX9_reverseClasses 12 = .ok (.ireturn, 1) := by decide +kernel
theorem dX9_reverseClasses_13 : decode cX9_reverseClasses 13 = .ok (.aload_n 0, 1) := by decide +kernel
theorem dX9_reverseClasses_14 : decode cX9_reverseClasses 14 = .ok (.getfield 59, 3) := by decide +kernel
theorem dX9_reverseClasses_17 : decode cX9_reverseClasses 17 = .ok (.aload_n 2, 1) := by decide +kernel
theorem dX9_reverseClasses_18 : decode cX9_reverseClasses 18 = .ok (.invokevirtual 208, 3) := by decide +kernel
theorem dX9_reverseClasses_21 : decode cX9_reverseClasses 21 = .ok (.aload_n 0, 1) := by decide +kernel
theorem dX9_reverseClasses_22 : decode cX9_reverseClasses 22 = .ok (.getfield 59, 3) := by decide +kernel
theorem dX9_reverseClasses_25 : decode cX9_reverseClasses 25 = .ok (.invokevirtual 216, 3) := by decide +kernel
theorem dX9_reverseClasses_28 : decode cX9_reverseClasses 28 = .ok (.ireturn, 1) := by decide +kernel
theorem dX9_existentialStates_0 : decode cX9_existentialStates 0 = .ok (.aload_n 0, 1) := by decide +kernel
theorem dX9_existentialStates_1 : decode cX9_existentialStates 1 = .ok (.iload_n 1, 1) := by decide +kernel
theorem dX9_existentialStates_2 : decode cX9_existentialStates 2 = .ok (.invokevirtual 88, 3) := by decide +kernel
theorem dX9_existentialStates_5 : decode cX9_existentialStates 5 = .ok (.astore_n 2, 1) := by decide +kernel
theorem dX9_existentialStates_6 : decode cX9_existentialStates 6 = .ok (.aload_n 2, 1) := by decide +kernel
theorem dX9_existentialStates_7 : decode cX9_existentialStates 7 = .ok (.ifnonnull 6, 3) := by decide +kernel
theorem dX9_existentialStates_10 : decode cX9_existentialStates 10 = .ok (.bipush (-2), 2) := by decide +kernel
theorem dX9_existentialStates_12 : decode cX9_existentialStates 12 = .ok (.ireturn, 1) := by decide +kernel
theorem dX9_existentialStates_13 : decode cX9_existentialStates 13 = .ok (.aload_n 2, 1) := by decide +kernel
theorem dX9_existentialStates_14 : decode cX9_existentialStates 14 = .ok (.invokevirtual 220, 3) := by decide +kernel
theorem dX9_existentialStates_17 : decode cX9_existentialStates 17 = .ok (.invokestatic 160, 3) := by decide +kernel
theorem dX9_existentialStates_20 : decode cX9_existentialStates 20 = .ok (.ireturn, 1) := by decide +kernel
theorem dX9_existentialSets_0 : decode cX9_existentialSets 0 = .ok (.aload_n 0, 1) := by decide +kernel
theorem dX9_existentialSets_1 : decode cX9_existentialSets 1 = .ok (.iload_n 1, 1) := by decide +kernel
theorem dX9_existentialSets_2 : decode cX9_existentialSets 2 = .ok (.invokevirtual 88, 3) := by decide +kernel
theorem dX9_existentialSets_5 : decode cX9_existentialSets 5 = .ok (.astore_n 3, 1) := by decide +kernel
theorem dX9_existentialSets_6 : decode cX9_existentialSets 6 = .ok (.aload_n 3, 1) := by decide +kernel
theorem dX9_existentialSets_7 : decode cX9_existentialSets 7 = .ok (.ifnull 12, 3) := by decide +kernel
theorem dX9_existentialSets_10 : decode cX9_existentialSets 10 = .ok (.iload_n 2, 1) := by decide +kernel
theorem dX9_existentialSets_11 : decode cX9_existentialSets 11 = .ok (.iconst 0, 1) := by decide +kernel
theorem dX9_existentialSets_12 : decode cX9_existentialSets 12 = .ok (.iconst 1, 1) := by decide +kernel
theorem dX9_existentialSets_13 : decode cX9_existentialSets 13 = .ok (.invokestatic 92, 3) := by decide +kernel
theorem dX9_existentialSets_16 : decode cX9_existentialSets 16 = .ok (.ifCond .ne 6, 3) := by decide +kernel
theorem dX9_existentialSets_19 : decode cX9_existentialSets 19 = .ok (.bipush (-2), 2) := by decide +kernel
theorem dX9_existentialSets_21 : decode cX9_existentialSets 21 = .ok (.ireturn, 1) := by decide +kernel
theorem dX9_existentialSets_22 : decode cX9_existentialSets 22 = .ok (.aload_n 0, 1) := by decide +kernel
theorem dX9_existentialSets_23 : decode cX9_existentialSets 23 = .ok (.getfield 42, 3) := by decide +kernel
theorem dX9_existentialSets_26 : decode cX9_existentialSets 26 = .ok (.aload_n 3, 1) := by decide +kernel
theorem dX9_existentialSets_27 : decode cX9_existentialSets 27 = .ok (.invokevirtual 173, 3) := by decide +kernel
theorem dX9_existentialSets_30 : decode cX9_existentialSets 30 = .ok (.ifCond .ne 6, 3) := by decide +kernel
theorem dX9_existentialSets_33 : decode cX9_existentialSets 33 = .ok (.bipush (-4), 2) := by decide +kernel
theorem dX9_existentialSets_35 : decode cX9_existentialSets 35 = .ok (.ireturn, 1) := by decide +kernel
theorem dX9_existentialSets_36 : decode cX9_existentialSets 36 = .ok (.aload_n 3, 1) := by decide +kernel
theorem dX9_existentialSets_37 : decode cX9_existentialSets 37 = .ok (.getfield 181, 3) := by decide +kernel
theorem dX9_existentialSets_40 : decode cX9_existentialSets 40 = .ok (.getfield 152, 3) := by decide +kernel
theorem dX9_existentialSets_43 : decode cX9_existentialSets 43 = .ok (.invokestatic 156, 3) := by decide +kernel
theorem dX9_existentialSets_46 : decode cX9_existentialSets 46 = .ok (.lstore 4, 2) := by decide +kernel
theorem dX9_existentialSets_48 : decode cX9_existentialSets 48 = .ok (.iconst 0, 1) := by decide +kernel
theorem dX9_existentialSets_49 : decode cX9_existentialSets 49 = .ok (.istore 6, 2) := by decide +kernel
theorem dX9_existentialSets_51 : decode cX9_existentialSets 51 = .ok (.iload 6, 2) := by decide +kernel
theorem dX9_existentialSets_53 : decode cX9_existentialSets 53 = .ok (.aload_n 0, 1) := by decide +kernel
theorem dX9_existentialSets_54 : decode cX9_existentialSets 54 = .ok (.getfield 42, 3) := by decide +kernel
theorem dX9_existentialSets_57 : decode cX9_existentialSets 57 = .ok (.getfield 170, 3) := by decide +kernel
theorem dX9_existentialSets_60 : decode cX9_existentialSets 60 = .ok (.if_icmp .ge 26, 3) := by decide +kernel
theorem dX9_existentialSets_63 : decode cX9_existentialSets 63 = .ok (.aload_n 3, 1) := by decide +kernel
theorem dX9_existentialSets_64 : decode cX9_existentialSets 64 = .ok (.lload 4, 2) := by decide +kernel
theorem dX9_existentialSets_66 : decode cX9_existentialSets 66 = .ok (.aload_n 0, 1) := by decide +kernel
theorem dX9_existentialSets_67 : decode cX9_existentialSets 67 = .ok (.getfield 42, 3) := by decide +kernel
theorem dX9_existentialSets_70 : decode cX9_existentialSets 70 = .ok (.iload 6, 2) := by decide +kernel
theorem dX9_existentialSets_72 : decode cX9_existentialSets 72 = .ok (.invokevirtual 193, 3) := by decide +kernel
theorem dX9_existentialSets_75 : decode cX9_existentialSets 75 = .ok (.invokevirtual 223, 3) := by decide +kernel
theorem dX9_existentialSets_78 : decode cX9_existentialSets 78 = .ok (.lstore 4, 2) := by decide +kernel
theorem dX9_existentialSets_80 : decode cX9_existentialSets 80 = .ok (.iinc 6 1, 3) := by decide +kernel
theorem dX9_existentialSets_83 : decode cX9_existentialSets 83 = .ok (.goto (-32), 3) := by decide +kernel
theorem dX9_existentialSets_86 : decode cX9_existentialSets 86 = .ok (.iload_n 2, 1) := by decide +kernel
theorem dX9_existentialSets_87 : decode cX9_existentialSets 87 = .ok (.iconst 1, 1) := by decide +kernel
theorem dX9_existentialSets_88 : decode cX9_existentialSets 88 = .ok (.if_icmp .ne 13, 3) := by decide +kernel
theorem dX9_existentialSets_91 : decode cX9_existentialSets 91 = .ok (.lload 4, 2) := by decide +kernel
theorem dX9_existentialSets_93 : decode cX9_existentialSets 93 = .ok (.aload_n 3, 1) := by decide +kernel
theorem dX9_existentialSets_94 : decode cX9_existentialSets 94 = .ok (.invokevirtual 227, 3) := by decide +kernel
theorem dX9_existentialSets_97 : decode cX9_existentialSets 97 = .ok (.land, 1) := by decide +kernel
theorem dX9_existentialSets_98 : decode cX9_existentialSets 98 = .ok (.goto 5, 3) := by decide +kernel
theorem dX9_existentialSets_101 : decode cX9_existentialSets 101 = .ok (.lload 4, 2) := by decide +kernel
theorem dX9_existentialSets_103 : decode cX9_existentialSets 103 = .ok (.invokestatic 160, 3) := by decide +kernel
theorem dX9_existentialSets_106 : decode cX9_existentialSets 106 = .ok (.ireturn, 1) := by decide +kernel
theorem dX9_relevantStates_0 : decode cX9_relevantStates 0 = .ok (.aload_n 0, 1) := by decide +kernel
theorem dX9_relevantStates_1 : decode cX9_relevantStates 1 = .ok (.iload_n 1, 1) := by decide +kernel
theorem dX9_relevantStates_2 : decode cX9_relevantStates 2 = .ok (.invokevirtual 88, 3) := by decide +kernel
theorem dX9_relevantStates_5 : decode cX9_relevantStates 5 = .ok (.astore_n 2, 1) := by decide +kernel
theorem dX9_relevantStates_6 : decode cX9_relevantStates 6 = .ok (.aload_n 2, 1) := by decide +kernel
theorem dX9_relevantStates_7 : decode cX9_relevantStates 7 = .ok (.ifnonnull 8, 3) := by decide +kernel
theorem dX9_relevantStates_10 : decode cX9_relevantStates 10 = .ok (.bipush (-2), 2) := by decide +kernel
theorem dX9_relevantStates_12 : decode cX9_relevantStates 12 = .ok (.goto 7, 3) := by decide +kernel
theorem dX9_relevantStates_15 : decode cX9_relevantStates 15 = .ok (.aload_n 2, 1) := by decide +kernel
theorem dX9_relevantStates_16 : decode cX9_relevantStates 16 = .ok (.invokevirtual 230, 3) := by decide +kernel
theorem dX9_relevantStates_19 : decode cX9_relevantStates 19 = .ok (.ireturn, 1) := by decide +kernel
theorem dX9_findCheapest_0 : decode cX9_findCheapest 0 = .ok (.aload_n 0, 1) := by decide +kernel
theorem dX9_findCheapest_1 : decode cX9_findCheapest 1 = .ok (.iload_n 1, 1) := by decide +kernel
theorem dX9_findCheapest_2 : decode cX9_findCheapest 2 = .ok (.invokevirtual 88, 3) := by decide +kernel
theorem dX9_findCheapest_5 : decode cX9_findCheapest 5 = .ok (.astore_n 2, 1) := by decide +kernel
theorem dX9_findCheapest_6 : decode cX9_findCheapest 6 = .ok (.aload_n 2, 1) := by decide +kernel
theorem dX9_findCheapest_7 : decode cX9_findCheapest 7 = .ok (.ifnonnull 6, 3) := by decide +kernel
theorem dX9_findCheapest_10 : decode cX9_findCheapest 10 = .ok (.bipush (-2), 2) := by decide +kernel
theorem dX9_findCheapest_12 : decode cX9_findCheapest 12 = .ok (.ireturn, 1) := by decide +kernel
theorem dX9_findCheapest_13 : decode cX9_findCheapest 13 = .ok (.aload_n 0, 1) := by decide +kernel
theorem dX9_findCheapest_14 : decode cX9_findCheapest 14 = .ok (.getfield 59, 3) := by decide +kernel
theorem dX9_findCheapest_17 : decode cX9_findCheapest 17 = .ok (.aload_n 2, 1) := by decide +kernel
theorem dX9_findCheapest_18 : decode cX9_findCheapest 18 = .ok (.invokevirtual 208, 3) := by decide +kernel
theorem dX9_findCheapest_21 : decode cX9_findCheapest 21 = .ok (.aload_n 0, 1) := by decide +kernel
theorem dX9_findCheapest_22 : decode cX9_findCheapest 22 = .ok (.getfield 69, 3) := by decide +kernel
theorem dX9_findCheapest_25 : decode cX9_findCheapest 25 = .ok (.aload_n 0, 1) := by decide +kernel
theorem dX9_findCheapest_26 : decode cX9_findCheapest 26 = .ok (.getfield 59, 3) := by decide +kernel
theorem dX9_findCheapest_29 : decode cX9_findCheapest 29 = .ok (.aload_n 2, 1) := by decide +kernel
theorem dX9_findCheapest_30 : decode cX9_findCheapest 30 = .ok (.getfield 113, 3) := by decide +kernel
theorem dX9_findCheapest_33 : decode cX9_findCheapest 33 = .ok (.invokevirtual 233, 3) := by decide +kernel
theorem dX9_findCheapest_36 : decode cX9_findCheapest 36 = .ok (.ifCond .ne 5, 3) := by decide +kernel
theorem dX9_findCheapest_39 : decode cX9_findCheapest 39 = .ok (.iconst (-1), 1) := by decide +kernel
theorem dX9_findCheapest_40 : decode cX9_findCheapest 40 = .ok (.ireturn, 1) := by decide +kernel
theorem dX9_findCheapest_41 : decode cX9_findCheapest 41 = .ok (.aload_n 0, 1) := by decide +kernel
theorem dX9_findCheapest_42 : decode cX9_findCheapest 42 = .ok (.getfield 69, 3) := by decide +kernel
theorem dX9_findCheapest_45 : decode cX9_findCheapest 45 = .ok (.aload_n 0, 1) := by decide +kernel
theorem dX9_findCheapest_46 : decode cX9_findCheapest 46 = .ok (.getfield 59, 3) := by decide +kernel
theorem dX9_findCheapest_49 : decode cX9_findCheapest 49 = .ok (.aload_n 2, 1) := by decide +kernel
theorem dX9_findCheapest_50 : decode cX9_findCheapest 50 = .ok (.getfield 113, 3) := by decide +kernel
theorem dX9_findCheapest_53 : decode cX9_findCheapest 53 = .ok (.aload_n 0, 1) := by decide +kernel
theorem dX9_findCheapest_54 : decode cX9_findCheapest 54 = .ok (.getfield 46, 3) := by decide +kernel
theorem dX9_findCheapest_57 : decode cX9_findCheapest 57 = .ok (.invokevirtual 237, 3) := by decide +kernel
theorem dX9_findCheapest_60 : decode cX9_findCheapest 60 = .ok (.aload_n 0, 1) := by decide +kernel
theorem dX9_findCheapest_61 : decode cX9_findCheapest 61 = .ok (.aload_n 0, 1) := by decide +kernel
theorem dX9_findCheapest_62 : decode cX9_findCheapest 62 = .ok (.getfield 46, 3) := by decide +kernel
theorem dX9_findCheapest_65 : decode cX9_findCheapest 65 = .ok (.aload_n 2, 1) := by decide +kernel
theorem dX9_findCheapest_66 : decode cX9_findCheapest 66 = .ok (.invokevirtual 241, 3) := by decide +kernel
theorem dX9_findCheapest_69 : decode cX9_findCheapest 69 = .ok (.putfield 84, 3) := by decide +kernel
theorem dX9_findCheapest_72 : decode cX9_findCheapest 72 = .ok (.aload_n 0, 1) := by decide +kernel
theorem dX9_findCheapest_73 : decode cX9_findCheapest 73 = .ok (.getfield 46, 3) := by decide +kernel
theorem dX9_findCheapest_76 : decode cX9_findCheapest 76 = .ok (.getfield 170, 3) := by decide +kernel
theorem dX9_findCheapest_79 : decode cX9_findCheapest 79 = .ok (.ireturn, 1) := by decide +kernel
theorem dX9_findDifference_0 : decode cX9_findDifference 0 = .ok (.aload_n 0, 1) := by decide +kernel
theorem dX9_findDifference_1 : decode cX9_findDifference 1 = .ok (.iload_n 1, 1) := by decide +kernel
theorem dX9_findDifference_2 : decode cX9_findDifference 2 = .ok (.invokevirtual 88, 3) := by decide +kernel
theorem dX9_findDifference_5 : decode cX9_findDifference 5 = .ok (.astore_n 3, 1) := by decide +kernel
theorem dX9_findDifference_6 : decode cX9_findDifference 6 = .ok (.aload_n 0, 1) := by decide +kernel
theorem dX9_findDifference_7 : decode cX9_findDifference 7 = .ok (.iload_n 2, 1) := by decide +kernel
theorem dX9_findDifference_8 : decode cX9_findDifference 8 = .ok (.invokevirtual 88, 3) := by decide +kernel
theorem dX9_findDifference_11 : decode cX9_findDifference 11 = .ok (.astore 4, 2) := by decide +kernel
theorem dX9_findDifference_13 : decode cX9_findDifference 13 = .ok (.aload_n 3, 1) := by decide +kernel
theorem dX9_findDifference_14 : decode cX9_findDifference 14 = .ok (.ifnull 8, 3) := by decide +kernel
theorem dX9_findDifference_17 : decode cX9_findDifference 17 = .ok (.aload 4, 2) := by decide +kernel
theorem dX9_findDifference_19 : decode cX9_findDifference 19 = .ok (.ifnonnull 6, 3) := by decide +kernel
theorem dX9_findDifference_22 : decode cX9_findDifference 22 = .ok (.bipush (-2), 2) := by decide +kernel
theorem dX9_findDifference_24 : decode cX9_findDifference 24 = .ok (.ireturn, 1) := by decide +kernel
theorem dX9_findDifference_25 : decode cX9_findDifference 25 = .ok (.aload_n 3, 1) := by decide +kernel
theorem dX9_findDifference_26 : decode cX9_findDifference 26 = .ok (.getfield 128, 3) := by decide +kernel
theorem dX9_findDifference_29 : decode cX9_findDifference 29 = .ok (.aload 4, 2) := by decide +kernel
theorem dX9_findDifference_31 : decode cX9_findDifference 31 = .ok (.getfield 128, 3) := by decide +kernel
theorem dX9_findDifference_34 : decode cX9_findDifference 34 = .ok (.if_icmp .eq 6, 3) := by decide +kernel
theorem dX9_findDifference_37 : decode cX9_findDifference 37 = .ok (.bipush (-4), 2) := by decide +kernel
theorem dX9_findDifference_39 : decode cX9_findDifference 39 = .ok (.ireturn, 1) := by decide +kernel
theorem dX9_findDifference_40 : decode cX9_findDifference 40 = .ok (.aload_n 0, 1) := by decide +kernel
theorem dX9_findDifference_41 : decode cX9_findDifference 41 = .ok (.aload_n 3, 1) := by decide +kernel
theorem dX9_findDifference_42 : decode cX9_findDifference 42 = .ok (.aload 4, 2) := by decide +kernel
theorem dX9_findDifference_44 : decode cX9_findDifference 44 = .ok (.iconst 0, 1) := by decide +kernel
theorem dX9_findDifference_45 : decode cX9_findDifference 45 = .ok (.invokevirtual 245, 3) := by decide +kernel
theorem dX9_findDifference_48 : decode cX9_findDifference 48 = .ok (.ifCond .ne 5, 3) := by decide +kernel
theorem dX9_findDifference_51 : decode cX9_findDifference 51 = .ok (.iconst (-1), 1) := by decide +kernel
theorem dX9_findDifference_52 : decode cX9_findDifference 52 = .ok (.ireturn, 1) := by decide +kernel
theorem dX9_findDifference_53 : decode cX9_findDifference 53 = .ok (.aload_n 0, 1) := by decide +kernel
theorem dX9_findDifference_54 : decode cX9_findDifference 54 = .ok (.getfield 76, 3) := by decide +kernel
theorem dX9_findDifference_57 : decode cX9_findDifference 57 = .ok (.aload_n 0, 1) := by decide +kernel
theorem dX9_findDifference_58 : decode cX9_findDifference 58 = .ok (.getfield 59, 3) := by decide +kernel
theorem dX9_findDifference_61 : decode cX9_findDifference 61 = .ok (.aload_n 0, 1) := by decide +kernel
theorem dX9_findDifference_62 : decode cX9_findDifference 62 = .ok (.getfield 63, 3) := by decide +kernel
theorem dX9_findDifference_65 : decode cX9_findDifference 65 = .ok (.aload_n 0, 1) := by decide +kernel
theorem dX9_findDifference_66 : decode cX9_findDifference 66 = .ok (.getfield 46, 3) := by decide +kernel
theorem dX9_findDifference_69 : decode cX9_findDifference 69 = .ok (.invokevirtual 249, 3) := by decide +kernel
theorem dX9_findDifference_72 : decode cX9_findDifference 72 = .ok (.aload_n 0, 1) := by decide +kernel
theorem dX9_findDifference_73 : decode cX9_findDifference 73 = .ok (.aload_n 0, 1) := by decide +kernel
theorem dX9_findDifference_74 : decode cX9_findDifference 74 = .ok (.getfield 46, 3) := by decide +kernel
theorem dX9_findDifference_77 : decode cX9_findDifference 77 = .ok (.aload_n 3, 1) := by decide +kernel
theorem dX9_findDifference_78 : decode cX9_findDifference 78 = .ok (.invokevirtual 241, 3) := by decide +kernel
theorem dX9_findDifference_81 : decode cX9_findDifference 81 = .ok (.putfield 84, 3) := by decide +kernel
theorem dX9_findDifference_84 : decode cX9_findDifference 84 = .ok (.aload_n 0, 1) := by decide +kernel
theorem dX9_findDifference_85 : decode cX9_findDifference 85 = .ok (.getfield 46, 3) := by decide +kernel
theorem dX9_findDifference_88 : decode cX9_findDifference 88 = .ok (.getfield 170, 3) := by decide +kernel
theorem dX9_findDifference_91 : decode cX9_findDifference 91 = .ok (.ireturn, 1) := by decide +kernel
theorem dX9_foundLetter_0 : decode cX9_foundLetter 0 = .ok (.iload_n 1, 1) := by decide +kernel
theorem dX9_foundLetter_1 : decode cX9_foundLetter 1 = .ok (.ifCond .lt 25, 3) := by decide +kernel
theorem dX9_foundLetter_4 : decode cX9_foundLetter 4 = .ok (.iload_n 1, 1) := by decide +kernel
theorem dX9_foundLetter_5 : decode cX9_foundLetter 5 = .ok (.aload_n 0, 1) := by decide +kernel
theorem dX9_foundLetter_6 : decode cX9_foundLetter 6 = .ok (.getfield 46, 3) := by decide +kernel
theorem dX9_foundLetter_9 : decode cX9_foundLetter 9 = .ok (.getfield 170, 3) := by decide +kernel
theorem dX9_foundLetter_12 : decode cX9_foundLetter 12 = .ok (.if_icmp .ge 14, 3) := by decide +kernel
theorem dX9_foundLetter_15 : decode cX9_foundLetter 15 = .ok (.aload_n 0, 1) := by decide +kernel
theorem dX9_foundLetter_16 : decode cX9_foundLetter 16 = .ok (.getfield 46, 3) := by decide +kernel
theorem dX9_foundLetter_19 : decode cX9_foundLetter 19 = .ok (.iload_n 1, 1) := by decide +kernel
theorem dX9_foundLetter_20 : decode cX9_foundLetter 20 = .ok (.invokevirtual 193, 3) := by decide +kernel
theorem dX9_foundLetter_23 : decode cX9_foundLetter 23 = .ok (.goto 4, 3) := by decide +kernel
theorem dX9_foundLetter_26 : decode cX9_foundLetter 26 = .ok (.iconst (-1), 1) := by decide +kernel
theorem dX9_foundLetter_27 : decode cX9_foundLetter 27 = .ok (.ireturn, 1) := by decide +kernel
theorem dX9_foundCost_0 : decode cX9_foundCost 0 = .ok (.aload_n 0, 1) := by decide +kernel
theorem dX9_foundCost_1 : decode cX9_foundCost 1 = .ok (.getfield 84, 3) := by decide +kernel
theorem dX9_foundCost_4 : decode cX9_foundCost 4 = .ok (.ireturn, 1) := by decide +kernel
theorem dX9_isContained_0 : decode cX9_isContained 0 = .ok (.aload_n 0, 1) := by decide +kernel
theorem dX9_isContained_1 : decode cX9_isContained 1 = .ok (.iload_n 1, 1) := by decide +kernel
theorem dX9_isContained_2 : decode cX9_isContained 2 = .ok (.invokevirtual 88, 3) := by decide +kernel
theorem dX9_isContained_5 : decode cX9_isContained 5 = .ok (.astore_n 3, 1) := by decide +kernel
theorem dX9_isContained_6 : decode cX9_isContained 6 = .ok (.aload_n 0, 1) := by decide +kernel
theorem dX9_isContained_7 : decode cX9_isContained 7 = .ok (.iload_n 2, 1) := by decide +kernel
theorem dX9_isContained_8 : decode cX9_isContained 8 = .ok (.invokevirtual 88, 3) := by decide +kernel
theorem dX9_isContained_11 : decode cX9_isContained 11 = .ok (.astore 4, 2) := by decide +kernel
theorem dX9_isContained_13 : decode cX9_isContained 13 = .ok (.aload_n 3, 1) := by decide +kernel
theorem dX9_isContained_14 : decode cX9_isContained 14 = .ok (.ifnull 8, 3) := by decide +kernel
theorem dX9_isContained_17 : decode cX9_isContained 17 = .ok (.aload 4, 2) := by decide +kernel
theorem dX9_isContained_19 : decode cX9_isContained 19 = .ok (.ifnonnull 6, 3) := by decide +kernel
theorem dX9_isContained_22 : decode cX9_isContained 22 = .ok (.bipush (-2), 2) := by decide +kernel
theorem dX9_isContained_24 : decode cX9_isContained 24 = .ok (.ireturn, 1) := by decide +kernel
theorem dX9_isContained_25 : decode cX9_isContained 25 = .ok (.aload_n 3, 1) := by decide +kernel
theorem dX9_isContained_26 : decode cX9_isContained 26 = .ok (.getfield 128, 3) := by decide +kernel
theorem dX9_isContained_29 : decode cX9_isContained 29 = .ok (.aload 4, 2) := by decide +kernel
theorem dX9_isContained_31 : decode cX9_isContained 31 = .ok (.getfield 128, 3) := by decide +kernel
theorem dX9_isContained_34 : decode cX9_isContained 34 = .ok (.if_icmp .eq 6, 3) := by decide +kernel
theorem dX9_isContained_37 : decode cX9_isContained 37 = .ok (.bipush (-4), 2) := by decide +kernel
theorem dX9_isContained_39 : decode cX9_isContained 39 = .ok (.ireturn, 1) := by decide +kernel
theorem dX9_isContained_40 : decode cX9_isContained 40 = .ok (.aload_n 0, 1) := by decide +kernel
theorem dX9_isContained_41 : decode cX9_isContained 41 = .ok (.aload_n 3, 1) := by decide +kernel
theorem dX9_isContained_42 : decode cX9_isContained 42 = .ok (.aload 4, 2) := by decide +kernel
theorem dX9_isContained_44 : decode cX9_isContained 44 = .ok (.iconst 1, 1) := by decide +kernel
theorem dX9_isContained_45 : decode cX9_isContained 45 = .ok (.invokevirtual 245, 3) := by decide +kernel
theorem dX9_isContained_48 : decode cX9_isContained 48 = .ok (.ifCond .eq 7, 3) := by decide +kernel
theorem dX9_isContained_51 : decode cX9_isContained 51 = .ok (.iconst 0, 1) := by decide +kernel
theorem dX9_isContained_52 : decode cX9_isContained 52 = .ok (.goto 4, 3) := by decide +kernel
theorem dX9_isContained_55 : decode cX9_isContained 55 = .ok (.iconst 1, 1) := by decide +kernel
theorem dX9_isContained_56 : decode cX9_isContained 56 = .ok (.ireturn, 1) := by decide +kernel
theorem dX9_countWords_0 : decode cX9_countWords 0 = .ok (.aload_n 0, 1) := by decide +kernel
theorem dX9_countWords_1 : decode cX9_countWords 1 = .ok (.iload_n 1, 1) := by decide +kernel
theorem dX9_countWords_2 : decode cX9_countWords 2 = .ok (.invokevirtual 88, 3) := by decide +kernel
theorem dX9_countWords_5 : decode cX9_countWords 5 = .ok (.astore_n 3, 1) := by decide +kernel
theorem dX9_countWords_6 : decode cX9_countWords 6 = .ok (.aload_n 3, 1) := by decide +kernel
theorem dX9_countWords_7 : decode cX9_countWords 7 = .ok (.ifnull 13, 3) := by decide +kernel
theorem dX9_countWords_10 : decode cX9_countWords 10 = .ok (.iload_n 2, 1) := by decide +kernel
theorem dX9_countWords_11 : decode cX9_countWords 11 = .ok (.iconst 0, 1) := by decide +kernel
theorem dX9_countWords_12 : decode cX9_countWords 12 = .ok (.bipush 20, 2) := by decide +kernel
theorem dX9_countWords_14 : decode cX9_countWords 14 = .ok (.invokestatic 92, 3) := by decide +kernel
theorem dX9_countWords_17 : decode cX9_countWords 17 = .ok (.ifCond .ne 7, 3) := by decide +kernel
theorem dX9_countWords_20 : decode cX9_countWords 20 = .ok (.ldc2_w 252, 3) := by decide +kernel
theorem dX9_countWords_23 : decode cX9_countWords 23 = .ok (.lreturn, 1) := by decide +kernel
theorem dX9_countWords_24 : decode cX9_countWords 24 = .ok (.aload_n 0, 1) := by decide +kernel
theorem dX9_countWords_25 : decode cX9_countWords 25 = .ok (.getfield 59, 3) := by decide +kernel
theorem dX9_countWords_28 : decode cX9_countWords 28 = .ok (.aload_n 3, 1) := by decide +kernel
theorem dX9_countWords_29 : decode cX9_countWords 29 = .ok (.invokevirtual 208, 3) := by decide +kernel
theorem dX9_countWords_32 : decode cX9_countWords 32 = .ok (.aload_n 0, 1) := by decide +kernel
theorem dX9_countWords_33 : decode cX9_countWords 33 = .ok (.getfield 59, 3) := by decide +kernel
theorem dX9_countWords_36 : decode cX9_countWords 36 = .ok (.iload_n 2, 1) := by decide +kernel
theorem dX9_countWords_37 : decode cX9_countWords 37 = .ok (.invokevirtual 254, 3) := by decide +kernel
theorem dX9_countWords_40 : decode cX9_countWords 40 = .ok (.lreturn, 1) := by decide +kernel
theorem dX9_dualize_0 : decode cX9_dualize 0 = .ok (.aload_n 0, 1) := by decide +kernel
theorem dX9_dualize_1 : decode cX9_dualize 1 = .ok (.iload_n 1, 1) := by decide +kernel
theorem dX9_dualize_2 : decode cX9_dualize 2 = .ok (.invokevirtual 88, 3) := by decide +kernel
theorem dX9_dualize_5 : decode cX9_dualize 5 = .ok (.astore_n 3, 1) := by decide +kernel
theorem dX9_dualize_6 : decode cX9_dualize 6 = .ok (.aload_n 0, 1) := by decide +kernel
theorem dX9_dualize_7 : decode cX9_dualize 7 = .ok (.iload_n 2, 1) := by decide +kernel
theorem dX9_dualize_8 : decode cX9_dualize 8 = .ok (.invokevirtual 88, 3) := by decide +kernel
theorem dX9_dualize_11 : decode cX9_dualize 11 = .ok (.astore 4, 2) := by decide +kernel
theorem dX9_dualize_13 : decode cX9_dualize 13 = .ok (.aload_n 3, 1) := by decide +kernel
theorem dX9_dualize_14 : decode cX9_dualize 14 = .ok (.ifnull 8, 3) := by decide +kernel
theorem dX9_dualize_17 : decode cX9_dualize 17 = .ok (.aload 4, 2) := by decide +kernel
theorem dX9_dualize_19 : decode cX9_dualize 19 = .ok (.ifnonnull 6, 3) := by decide +kernel
theorem dX9_dualize_22 : decode cX9_dualize 22 = .ok (.bipush (-2), 2) := by decide +kernel
theorem dX9_dualize_24 : decode cX9_dualize 24 = .ok (.ireturn, 1) := by decide +kernel
theorem dX9_dualize_25 : decode cX9_dualize 25 = .ok (.aload 4, 2) := by decide +kernel
theorem dX9_dualize_27 : decode cX9_dualize 27 = .ok (.aload_n 3, 1) := by decide +kernel
theorem dX9_dualize_28 : decode cX9_dualize 28 = .ok (.invokevirtual 258, 3) := by decide +kernel
theorem dX9_dualize_31 : decode cX9_dualize 31 = .ok (.aload 4, 2) := by decide +kernel
theorem dX9_dualize_33 : decode cX9_dualize 33 = .ok (.getfield 107, 3) := by decide +kernel
theorem dX9_dualize_36 : decode cX9_dualize 36 = .ok (.ireturn, 1) := by decide +kernel
theorem dX9_combine_0 : decode cX9_combine 0 = .ok (.aload_n 0, 1) := by decide +kernel
theorem dX9_combine_1 : decode cX9_combine 1 = .ok (.iload_n 1, 1) := by decide +kernel
theorem dX9_combine_2 : decode cX9_combine 2 = .ok (.invokevirtual 88, 3) := by decide +kernel
theorem dX9_combine_5 : decode cX9_combine 5 = .ok (.astore 5, 2) := by decide +kernel
theorem dX9_combine_7 : decode cX9_combine 7 = .ok (.aload_n 0, 1) := by decide +kernel
theorem dX9_combine_8 : decode cX9_combine 8 = .ok (.iload_n 2, 1) := by decide +kernel
theorem dX9_combine_9 : decode cX9_combine 9 = .ok (.invokevirtual 88, 3) := by decide +kernel
theorem dX9_combine_12 : decode cX9_combine 12 = .ok (.astore 6, 2) := by decide +kernel
theorem dX9_combine_14 : decode cX9_combine 14 = .ok (.aload_n 0, 1) := by decide +kernel
theorem dX9_combine_15 : decode cX9_combine 15 = .ok (.iload_n 3, 1) := by decide +kernel
theorem dX9_combine_16 : decode cX9_combine 16 = .ok (.invokevirtual 88, 3) := by decide +kernel
theorem dX9_combine_19 : decode cX9_combine 19 = .ok (.astore 7, 2) := by decide +kernel
theorem dX9_combine_21 : decode cX9_combine 21 = .ok (.aload 5, 2) := by decide +kernel
theorem dX9_combine_23 : decode cX9_combine 23 = .ok (.ifnull 23, 3) := by decide +kernel
theorem dX9_combine_26 : decode cX9_combine 26 = .ok (.aload 6, 2) := by decide +kernel
theorem dX9_combine_28 : decode cX9_combine 28 = .ok (.ifnull 18, 3) := by decide +kernel
theorem dX9_combine_31 : decode cX9_combine 31 = .ok (.aload 7, 2) := by decide +kernel
theorem dX9_combine_33 : decode cX9_combine 33 = .ok (.ifnull 13, 3) := by decide +kernel
theorem dX9_combine_36 : decode cX9_combine 36 = .ok (.iload 4, 2) := by decide +kernel
theorem dX9_combine_38 : decode cX9_combine 38 = .ok (.iconst 0, 1) := by decide +kernel
theorem dX9_combine_39 : decode cX9_combine 39 = .ok (.iconst 1, 1) := by decide +kernel
theorem dX9_combine_40 : decode cX9_combine 40 = .ok (.invokestatic 92, 3) := by decide +kernel
theorem dX9_combine_43 : decode cX9_combine 43 = .ok (.ifCond .ne 6, 3) := by decide +kernel
theorem dX9_combine_46 : decode cX9_combine 46 = .ok (.bipush (-2), 2) := by decide +kernel
theorem dX9_combine_48 : decode cX9_combine 48 = .ok (.ireturn, 1) := by decide +kernel
theorem dX9_combine_49 : decode cX9_combine 49 = .ok (.aload 5, 2) := by decide +kernel
theorem dX9_combine_51 : decode cX9_combine 51 = .ok (.getfield 128, 3) := by decide +kernel
theorem dX9_combine_54 : decode cX9_combine 54 = .ok (.aload 6, 2) := by decide +kernel
theorem dX9_combine_56 : decode cX9_combine 56 = .ok (.getfield 128, 3) := by decide +kernel
theorem dX9_combine_59 : decode cX9_combine 59 = .ok (.if_icmp .eq 6, 3) := by decide +kernel
theorem dX9_combine_62 : decode cX9_combine 62 = .ok (.bipush (-4), 2) := by decide +kernel
theorem dX9_combine_64 : decode cX9_combine 64 = .ok (.ireturn, 1) := by decide +kernel
theorem dX9_combine_65 : decode cX9_combine 65 = .ok (.aload 5, 2) := by decide +kernel
theorem dX9_combine_67 : decode cX9_combine 67 = .ok (.getfield 96, 3) := by decide +kernel
theorem dX9_combine_70 : decode cX9_combine 70 = .ok (.aload 6, 2) := by decide +kernel
theorem dX9_combine_72 : decode cX9_combine 72 = .ok (.getfield 96, 3) := by decide +kernel
theorem dX9_combine_75 : decode cX9_combine 75 = .ok (.iadd, 1) := by decide +kernel
theorem dX9_combine_76 : decode cX9_combine 76 = .ok (.bipush 6, 2) := by decide +kernel
theorem dX9_combine_78 : decode cX9_combine 78 = .ok (.if_icmp .gt 27, 3) := by decide +kernel
theorem dX9_combine_81 : decode cX9_combine 81 = .ok (.aload 5, 2) := by decide +kernel
theorem dX9_combine_83 : decode cX9_combine 83 = .ok (.getfield 181, 3) := by decide +kernel
theorem dX9_combine_86 : decode cX9_combine 86 = .ok (.getfield 261, 3) := by decide +kernel
theorem dX9_combine_89 : decode cX9_combine 89 = .ok (.aload 6, 2) := by decide +kernel
theorem dX9_combine_91 : decode cX9_combine 91 = .ok (.getfield 181, 3) := by decide +kernel
theorem dX9_combine_94 : decode cX9_combine 94 = .ok (.getfield 261, 3) := by decide +kernel
theorem dX9_combine_97 : decode cX9_combine 97 = .ok (.iadd, 1) := by decide +kernel
theorem dX9_combine_98 : decode cX9_combine 98 = .ok (.iconst 1, 1) := by decide +kernel
theorem dX9_combine_99 : decode cX9_combine 99 = .ok (.iadd, 1) := by decide +kernel
theorem dX9_combine_100 : decode cX9_combine 100 = .ok (.bipush 40, 2) := by decide +kernel
theorem dX9_combine_102 : decode cX9_combine 102 = .ok (.if_icmp .le 6, 3) := by decide +kernel
theorem dX9_combine_105 : decode cX9_combine 105 = .ok (.bipush (-3), 2) := by decide +kernel
theorem dX9_combine_107 : decode cX9_combine 107 = .ok (.ireturn, 1) := by decide +kernel
theorem dX9_combine_108 : decode cX9_combine 108 = .ok (.aload_n 0, 1) := by decide +kernel
theorem dX9_combine_109 : decode cX9_combine 109 = .ok (.getfield 19, 3) := by decide +kernel
theorem dX9_combine_112 : decode cX9_combine 112 = .ok (.aload 5, 2) := by decide +kernel
theorem dX9_combine_114 : decode cX9_combine 114 = .ok (.aload 6, 2) := by decide +kernel
theorem dX9_combine_116 : decode cX9_combine 116 = .ok (.iload 4, 2) := by decide +kernel
theorem dX9_combine_118 : decode cX9_combine 118 = .ok (.ifCond .ne 8, 3) := by decide +kernel
theorem dX9_combine_121 : decode cX9_combine 121 = .ok (.bipush 8, 2) := by decide +kernel
theorem dX9_combine_123 : decode cX9_combine 123 = .ok (.goto 5, 3) := by decide +kernel
theorem dX9_combine_126 : decode cX9_combine 126 = .ok (.bipush 9, 2) := by decide +kernel
theorem dX9_combine_128 : decode cX9_combine 128 = .ok (.invokevirtual 264, 3) := by decide +kernel
theorem dX9_combine_131 : decode cX9_combine 131 = .ok (.aload 7, 2) := by decide +kernel
theorem dX9_combine_133 : decode cX9_combine 133 = .ok (.aload_n 0, 1) := by decide +kernel
theorem dX9_combine_134 : decode cX9_combine 134 = .ok (.getfield 19, 3) := by decide +kernel
theorem dX9_combine_137 : decode cX9_combine 137 = .ok (.invokevirtual 268, 3) := by decide +kernel
theorem dX9_combine_140 : decode cX9_combine 140 = .ok (.aload 7, 2) := by decide +kernel
theorem dX9_combine_142 : decode cX9_combine 142 = .ok (.getfield 96, 3) := by decide +kernel
theorem dX9_combine_145 : decode cX9_combine 145 = .ok (.ireturn, 1) := by decide +kernel
theorem dX9_save_0 : decode cX9_save 0 = .ok (.aload_n 0, 1) := by decide +kernel
theorem dX9_save_1 : decode cX9_save 1 = .ok (.iconst 1, 1) := by decide +kernel
theorem dX9_save_2 : decode cX9_save 2 = .ok (.putfield 80, 3) := by decide +kernel
theorem dX9_save_5 : decode cX9_save 5 = .ok (.aload_n 0, 1) := by decide +kernel
theorem dX9_save_6 : decode cX9_save 6 = .ok (.getfield 11, 3) := by decide +kernel
theorem dX9_save_9 : decode cX9_save 9 = .ok (.aload_n 0, 1) := by decide +kernel
theorem dX9_save_10 : decode cX9_save 10 = .ok (.getfield 15, 3) := by decide +kernel
theorem dX9_save_13 : decode cX9_save 13 = .ok (.invokestatic 271, 3) := by decide +kernel
theorem dX9_save_16 : decode cX9_save 16 = .ok (.ireturn, 1) := by decide +kernel
theorem dX9_restore_0 : decode cX9_restore 0 = .ok (.aload_n 0, 1) := by decide +kernel
theorem dX9_restore_1 : decode cX9_restore 1 = .ok (.getfield 80, 3) := by decide +kernel
theorem dX9_restore_4 : decode cX9_restore 4 = .ok (.ifCond .eq 17, 3) := by decide +kernel
theorem dX9_restore_7 : decode cX9_restore 7 = .ok (.aload_n 0, 1) := by decide +kernel
theorem dX9_restore_8 : decode cX9_restore 8 = .ok (.getfield 15, 3) := by decide +kernel
theorem dX9_restore_11 : decode cX9_restore 11 = .ok (.aload_n 0, 1) := by decide +kernel
theorem dX9_restore_12 : decode cX9_restore 12 = .ok (.getfield 11, 3) := by decide +kernel
theorem dX9_restore_15 : decode cX9_restore 15 = .ok (.invokestatic 271, 3) := by decide +kernel
theorem dX9_restore_18 : decode cX9_restore 18 = .ok (.goto 5, 3) := by decide +kernel
theorem dX9_restore_21 : decode cX9_restore 21 = .ok (.bipush (-5), 2) := by decide +kernel
theorem dX9_restore_23 : decode cX9_restore 23 = .ok (.ireturn, 1) := by decide +kernel
theorem dX9_isWithin_0 : decode cX9_isWithin 0 = .ok (.iload_n 0, 1) := by decide +kernel
theorem dX9_isWithin_1 : decode cX9_isWithin 1 = .ok (.iload_n 1, 1) := by decide +kernel
theorem dX9_isWithin_2 : decode cX9_isWithin 2 = .ok (.if_icmp .lt 12, 3) := by decide +kernel
theorem dX9_isWithin_5 : decode cX9_isWithin 5 = .ok (.iload_n 0, 1) := by decide +kernel
theorem dX9_isWithin_6 : decode cX9_isWithin 6 = .ok (.iload_n 2, 1) := by decide +kernel
theorem dX9_isWithin_7 : decode cX9_isWithin 7 = .ok (.if_icmp .gt 7, 3) := by decide +kernel
theorem dX9_isWithin_10 : decode cX9_isWithin 10 = .ok (.iconst 1, 1) := by decide +kernel
theorem dX9_isWithin_11 : decode cX9_isWithin 11 = .ok (.goto 4, 3) := by decide +kernel
theorem dX9_isWithin_14 : decode cX9_isWithin 14 = .ok (.iconst 0, 1) := by decide +kernel
theorem dX9_isWithin_15 : decode cX9_isWithin 15 = .ok (.ireturn, 1) := by decide +kernel
theorem dX9_automatonIn_0 : decode cX9_automatonIn 0 = .ok (.iload_n 1, 1) := by decide +kernel
theorem dX9_automatonIn_1 : decode cX9_automatonIn 1 = .ok (.ifCond .lt 17, 3) := by decide +kernel
theorem dX9_automatonIn_4 : decode cX9_automatonIn 4 = .ok (.iload_n 1, 1) := by decide +kernel
theorem dX9_automatonIn_5 : decode cX9_automatonIn 5 = .ok (.iconst 3, 1) := by decide +kernel
theorem dX9_automatonIn_6 : decode cX9_automatonIn 6 = .ok (.if_icmp .ge 12, 3) := by decide +kernel
theorem dX9_automatonIn_9 : decode cX9_automatonIn 9 = .ok (.aload_n 0, 1) := by decide +kernel
theorem dX9_automatonIn_10 : decode cX9_automatonIn 10 = .ok (.getfield 11, 3) := by decide +kernel
theorem dX9_automatonIn_13 : decode cX9_automatonIn 13 = .ok (.iload_n 1, 1) := by decide +kernel
theorem dX9_automatonIn_14 : decode cX9_automatonIn 14 = .ok (.aaload, 1) := by decide +kernel
theorem dX9_automatonIn_15 : decode cX9_automatonIn 15 = .ok (.goto 4, 3) := by decide +kernel
theorem dX9_automatonIn_18 : decode cX9_automatonIn 18 = .ok (.aconst_null, 1) := by decide +kernel
theorem dX9_automatonIn_19 : decode cX9_automatonIn 19 = .ok (.areturn, 1) := by decide +kernel
theorem dX9_formulaIn_0 : decode cX9_formulaIn 0 = .ok (.aload_n 0, 1) := by decide +kernel
theorem dX9_formulaIn_1 : decode cX9_formulaIn 1 = .ok (.iload_n 1, 1) := by decide +kernel
theorem dX9_formulaIn_2 : decode cX9_formulaIn 2 = .ok (.invokevirtual 88, 3) := by decide +kernel
theorem dX9_formulaIn_5 : decode cX9_formulaIn 5 = .ok (.astore 4, 2) := by decide +kernel
theorem dX9_formulaIn_7 : decode cX9_formulaIn 7 = .ok (.aload 4, 2) := by decide +kernel
theorem dX9_formulaIn_9 : decode cX9_formulaIn 9 = .ok (.ifnonnull 7, 3) := by decide +kernel
theorem dX9_formulaIn_12 : decode cX9_formulaIn 12 = .ok (.aconst_null, 1) := by decide +kernel
theorem dX9_formulaIn_13 : decode cX9_formulaIn 13 = .ok (.goto 10, 3) := by decide +kernel
theorem dX9_formulaIn_16 : decode cX9_formulaIn 16 = .ok (.aload 4, 2) := by decide +kernel
theorem dX9_formulaIn_18 : decode cX9_formulaIn 18 = .ok (.iload_n 2, 1) := by decide +kernel
theorem dX9_formulaIn_19 : decode cX9_formulaIn 19 = .ok (.iload_n 3, 1) := by decide +kernel
theorem dX9_formulaIn_20 : decode cX9_formulaIn 20 = .ok (.invokevirtual 275, 3) := by decide +kernel
theorem dX9_formulaIn_23 : decode cX9_formulaIn 23 = .ok (.areturn, 1) := by decide +kernel
theorem dX9_readFormula_0 : decode cX9_readFormula 0 = .ok (.aload_n 0, 1) := by decide +kernel
theorem dX9_readFormula_1 : decode cX9_readFormula 1 = .ok (.iload_n 1, 1) := by decide +kernel
theorem dX9_readFormula_2 : decode cX9_readFormula 2 = .ok (.invokevirtual 88, 3) := by decide +kernel
theorem dX9_readFormula_5 : decode cX9_readFormula 5 = .ok (.astore 4, 2) := by decide +kernel
theorem dX9_readFormula_7 : decode cX9_readFormula 7 = .ok (.aload_n 0, 1) := by decide +kernel
theorem dX9_readFormula_8 : decode cX9_readFormula 8 = .ok (.iload_n 1, 1) := by decide +kernel
theorem dX9_readFormula_9 : decode cX9_readFormula 9 = .ok (.iload_n 2, 1) := by decide +kernel
theorem dX9_readFormula_10 : decode cX9_readFormula 10 = .ok (.iload_n 3, 1) := by decide +kernel
theorem dX9_readFormula_11 : decode cX9_readFormula 11 = .ok (.invokevirtual 131, 3) := by decide +kernel
theorem dX9_readFormula_14 : decode cX9_readFormula 14 = .ok (.astore 5, 2) := by decide +kernel
theorem dX9_readFormula_16 : decode cX9_readFormula 16 = .ok (.bipush (-2), 2) := by decide +kernel
theorem dX9_readFormula_18 : decode cX9_readFormula 18 = .ok (.istore 6, 2) := by decide +kernel
theorem dX9_readFormula_20 : decode cX9_readFormula 20 = .ok (.aload 4, 2) := by decide +kernel
theorem dX9_readFormula_22 : decode cX9_readFormula 22 = .ok (.ifnull 24, 3) := by decide +kernel
theorem dX9_readFormula_25 : decode cX9_readFormula 25 = .ok (.aload 5, 2) := by decide +kernel
theorem dX9_readFormula_27 : decode cX9_readFormula 27 = .ok (.ifnull 19, 3) := by decide +kernel
theorem dX9_readFormula_30 : decode cX9_readFormula 30 = .ok (.aload_n 0, 1) := by decide +kernel
theorem dX9_readFormula_31 : decode cX9_readFormula 31 = .ok (.getfield 26, 3) := by decide +kernel
theorem dX9_readFormula_34 : decode cX9_readFormula 34 = .ok (.aload 5, 2) := by decide +kernel
theorem dX9_readFormula_36 : decode cX9_readFormula 36 = .ok (.aload 4, 2) := by decide +kernel
theorem dX9_readFormula_38 : decode cX9_readFormula 38 = .ok (.getfield 96, 3) := by decide +kernel
theorem dX9_readFormula_41 : decode cX9_readFormula 41 = .ok (.invokevirtual 278, 3) := by decide +kernel
theorem dX9_readFormula_44 : decode cX9_readFormula 44 = .ok (.istore 6, 2) := by decide +kernel
theorem dX9_readFormula_46 : decode cX9_readFormula 46 = .ok (.aload_n 0, 1) := by decide +kernel
theorem dX9_readFormula_47 : decode cX9_readFormula 47 = .ok (.getfield 26, 3) := by decide +kernel
theorem dX9_readFormula_50 : decode cX9_readFormula 50 = .ok (.iconst 0, 1) := by decide +kernel
theorem dX9_readFormula_51 : decode cX9_readFormula 51 = .ok (.putfield 117, 3) := by decide +kernel
theorem dX9_readFormula_54 : decode cX9_readFormula 54 = .ok (.iload 6, 2) := by decide +kernel
theorem dX9_readFormula_56 : decode cX9_readFormula 56 = .ok (.ireturn, 1) := by decide +kernel
theorem dX9_searchPairs_0 : decode cX9_searchPairs 0 = .ok (.aload_n 0, 1) := by decide +kernel
theorem dX9_searchPairs_1 : decode cX9_searchPairs 1 = .ok (.getfield 59, 3) := by decide +kernel
theorem dX9_searchPairs_4 : decode cX9_searchPairs 4 = .ok (.aload_n 1, 1) := by decide +kernel
theorem dX9_searchPairs_5 : decode cX9_searchPairs 5 = .ok (.invokevirtual 208, 3) := by decide +kernel
theorem dX9_searchPairs_8 : decode cX9_searchPairs 8 = .ok (.aload_n 0, 1) := by decide +kernel
theorem dX9_searchPairs_9 : decode cX9_searchPairs 9 = .ok (.getfield 63, 3) := by decide +kernel
theorem dX9_searchPairs_12 : decode cX9_searchPairs 12 = .ok (.aload_n 2, 1) := by decide +kernel
theorem dX9_searchPairs_13 : decode cX9_searchPairs 13 = .ok (.invokevirtual 208, 3) := by decide +kernel
theorem dX9_searchPairs_16 : decode cX9_searchPairs 16 = .ok (.aload_n 0, 1) := by decide +kernel
theorem dX9_searchPairs_17 : decode cX9_searchPairs 17 = .ok (.getfield 76, 3) := by decide +kernel
theorem dX9_searchPairs_20 : decode cX9_searchPairs 20 = .ok (.aload_n 0, 1) := by decide +kernel
theorem dX9_searchPairs_21 : decode cX9_searchPairs 21 = .ok (.getfield 59, 3) := by decide +kernel
theorem dX9_searchPairs_24 : decode cX9_searchPairs 24 = .ok (.aload_n 0, 1) := by decide +kernel
theorem dX9_searchPairs_25 : decode cX9_searchPairs 25 = .ok (.getfield 63, 3) := by decide +kernel
theorem dX9_searchPairs_28 : decode cX9_searchPairs 28 = .ok (.iload_n 3, 1) := by decide +kernel
theorem dX9_searchPairs_29 : decode cX9_searchPairs 29 = .ok (.invokevirtual 281, 3) := by decide +kernel
theorem dX9_searchPairs_32 : decode cX9_searchPairs 32 = .ok (.ireturn, 1) := by decide +kernel
theorem dX9_copyAll_0 : decode cX9_copyAll 0 = .ok (.iconst 0, 1) := by decide +kernel
theorem dX9_copyAll_1 : decode cX9_copyAll 1 = .ok (.istore_n 2, 1) := by decide +kernel
theorem dX9_copyAll_2 : decode cX9_copyAll 2 = .ok (.iconst 0, 1) := by decide +kernel
theorem dX9_copyAll_3 : decode cX9_copyAll 3 = .ok (.istore_n 3, 1) := by decide +kernel
theorem dX9_copyAll_4 : decode cX9_copyAll 4 = .ok (.iload_n 3, 1) := by decide +kernel
theorem dX9_copyAll_5 : decode cX9_copyAll 5 = .ok (.iconst 3, 1) := by decide +kernel
theorem dX9_copyAll_6 : decode cX9_copyAll 6 = .ok (.if_icmp .ge 27, 3) := by decide +kernel
theorem dX9_copyAll_9 : decode cX9_copyAll 9 = .ok (.aload_n 1, 1) := by decide +kernel
theorem dX9_copyAll_10 : decode cX9_copyAll 10 = .ok (.iload_n 3, 1) := by decide +kernel
theorem dX9_copyAll_11 : decode cX9_copyAll 11 = .ok (.aaload, 1) := by decide +kernel
theorem dX9_copyAll_12 : decode cX9_copyAll 12 = .ok (.aload_n 0, 1) := by decide +kernel
theorem dX9_copyAll_13 : decode cX9_copyAll 13 = .ok (.iload_n 3, 1) := by decide +kernel
theorem dX9_copyAll_14 : decode cX9_copyAll 14 = .ok (.aaload, 1) := by decide +kernel
theorem dX9_copyAll_15 : decode cX9_copyAll 15 = .ok (.invokevirtual 268, 3) := by decide +kernel
theorem dX9_copyAll_18 : decode cX9_copyAll 18 = .ok (.iload_n 2, 1) := by decide +kernel
theorem dX9_copyAll_19 : decode cX9_copyAll 19 = .ok (.aload_n 1, 1) := by decide +kernel
theorem dX9_copyAll_20 : decode cX9_copyAll 20 = .ok (.iload_n 3, 1) := by decide +kernel
theorem dX9_copyAll_21 : decode cX9_copyAll 21 = .ok (.aaload, 1) := by decide +kernel
theorem dX9_copyAll_22 : decode cX9_copyAll 22 = .ok (.getfield 96, 3) := by decide +kernel
theorem dX9_copyAll_25 : decode cX9_copyAll 25 = .ok (.iadd, 1) := by decide +kernel
theorem dX9_copyAll_26 : decode cX9_copyAll 26 = .ok (.istore_n 2, 1) := by decide +kernel
theorem dX9_copyAll_27 : decode cX9_copyAll 27 = .ok (.iinc 3 1, 3) := by decide +kernel
theorem dX9_copyAll_30 : decode cX9_copyAll 30 = .ok (.goto (-26), 3) := by decide +kernel
theorem dX9_copyAll_33 : decode cX9_copyAll 33 = .ok (.iload_n 2, 1) := by decide +kernel
theorem dX9_copyAll_34 : decode cX9_copyAll 34 = .ok (.ireturn, 1) := by decide +kernel
theorem dX9_isIn_0 : decode cX9_isIn 0 = .ok (.lload_n 0, 1) := by decide +kernel
theorem dX9_isIn_1 : decode cX9_isIn 1 = .ok (.iload_n 2, 1) := by decide +kernel
theorem dX9_isIn_2 : decode cX9_isIn 2 = .ok (.lushr, 1) := by decide +kernel
theorem dX9_isIn_3 : decode cX9_isIn 3 = .ok (.lconst 1, 1) := by decide +kernel
theorem dX9_isIn_4 : decode cX9_isIn 4 = .ok (.land, 1) := by decide +kernel
theorem dX9_isIn_5 : decode cX9_isIn 5 = .ok (.lconst 0, 1) := by decide +kernel
theorem dX9_isIn_6 : decode cX9_isIn 6 = .ok (.lcmp, 1) := by decide +kernel
theorem dX9_isIn_7 : decode cX9_isIn 7 = .ok (.ifCond .eq 7, 3) := by decide +kernel
theorem dX9_isIn_10 : decode cX9_isIn 10 = .ok (.iconst 1, 1) := by decide +kernel
theorem dX9_isIn_11 : decode cX9_isIn 11 = .ok (.goto 4, 3) := by decide +kernel
theorem dX9_isIn_14 : decode cX9_isIn 14 = .ok (.iconst 0, 1) := by decide +kernel
theorem dX9_isIn_15 : decode cX9_isIn 15 = .ok (.ireturn, 1) := by decide +kernel
theorem dX9_minimalSets_0 : decode cX9_minimalSets 0 = .ok (.lconst 0, 1) := by decide +kernel
theorem dX9_minimalSets_1 : decode cX9_minimalSets 1 = .ok (.lstore_n 2, 1) := by decide +kernel
theorem dX9_minimalSets_2 : decode cX9_minimalSets 2 = .ok (.iconst 0, 1) := by decide +kernel
theorem dX9_minimalSets_3 : decode cX9_minimalSets 3 = .ok (.istore 4, 2) := by decide +kernel
theorem dX9_minimalSets_5 : decode cX9_minimalSets 5 = .ok (.iload 4, 2) := by decide +kernel
theorem dX9_minimalSets_7 : decode cX9_minimalSets 7 = .ok (.bipush 6, 2) := by decide +kernel
theorem dX9_minimalSets_9 : decode cX9_minimalSets 9 = .ok (.if_icmp .ge 29, 3) := by decide +kernel
theorem dX9_minimalSets_12 : decode cX9_minimalSets 12 = .ok (.lload_n 2, 1) := by decide +kernel
theorem dX9_minimalSets_13 : decode cX9_minimalSets 13 = .ok (.lload_n 0, 1) := by decide +kernel
theorem dX9_minimalSets_14 : decode cX9_minimalSets 14 = .ok (.getstatic 284, 3) := by decide +kernel
theorem dX9_minimalSets_17 : decode cX9_minimalSets 17 = .ok (.iload 4, 2) := by decide +kernel
theorem dX9_minimalSets_19 : decode cX9_minimalSets 19 = .ok (.laload, 1) := by decide +kernel
theorem dX9_minimalSets_20 : decode cX9_minimalSets 20 = .ok (.ldc2_w 252, 3) := by decide +kernel
theorem dX9_minimalSets_23 : decode cX9_minimalSets 23 = .ok (.lxor, 1) := by decide +kernel
theorem dX9_minimalSets_24 : decode cX9_minimalSets 24 = .ok (.land, 1) := by decide +kernel
theorem dX9_minimalSets_25 : decode cX9_minimalSets 25 = .ok (.iconst 1, 1) := by decide +kernel
theorem dX9_minimalSets_26 : decode cX9_minimalSets 26 = .ok (.iload 4, 2) := by decide +kernel
theorem dX9_minimalSets_28 : decode cX9_minimalSets 28 = .ok (.ishl, 1) := by decide +kernel
theorem dX9_minimalSets_29 : decode cX9_minimalSets 29 = .ok (.lshl, 1) := by decide +kernel
theorem dX9_minimalSets_30 : decode cX9_minimalSets 30 = .ok (.lor, 1) := by decide +kernel
theorem dX9_minimalSets_31 : decode cX9_minimalSets 31 = .ok (.lstore_n 2, 1) := by decide +kernel
theorem dX9_minimalSets_32 : decode cX9_minimalSets 32 = .ok (.iinc 4 1, 3) := by decide +kernel
theorem dX9_minimalSets_35 : decode cX9_minimalSets 35 = .ok (.goto (-30), 3) := by decide +kernel
theorem dX9_minimalSets_38 : decode cX9_minimalSets 38 = .ok (.lload_n 0, 1) := by decide +kernel
theorem dX9_minimalSets_39 : decode cX9_minimalSets 39 = .ok (.lload_n 2, 1) := by decide +kernel
theorem dX9_minimalSets_40 : decode cX9_minimalSets 40 = .ok (.ldc2_w 252, 3) := by decide +kernel
theorem dX9_minimalSets_43 : decode cX9_minimalSets 43 = .ok (.lxor, 1) := by decide +kernel
theorem dX9_minimalSets_44 : decode cX9_minimalSets 44 = .ok (.land, 1) := by decide +kernel
theorem dX9_minimalSets_45 : decode cX9_minimalSets 45 = .ok (.lreturn, 1) := by decide +kernel
theorem dX9_setAtPosition_0 : decode cX9_setAtPosition 0 = .ok (.iload_n 2, 1) := by decide +kernel
theorem dX9_setAtPosition_1 : decode cX9_setAtPosition 1 = .ok (.istore_n 3, 1) := by decide +kernel
theorem dX9_setAtPosition_2 : decode cX9_setAtPosition 2 = .ok (.iconst 0, 1) := by decide +kernel
theorem dX9_setAtPosition_3 : decode cX9_setAtPosition 3 = .ok (.istore 4, 2) := by decide +kernel
theorem dX9_setAtPosition_5 : decode cX9_setAtPosition 5 = .ok (.iload 4, 2) := by decide +kernel
theorem dX9_setAtPosition_7 : decode cX9_setAtPosition 7 = .ok (.bipush 6, 2) := by decide +kernel
theorem dX9_setAtPosition_9 : decode cX9_setAtPosition 9 = .ok (.if_icmp .gt 54, 3) := by decide +kernel
theorem dX9_setAtPosition_12 : decode cX9_setAtPosition 12 = .ok (.iconst 0, 1) := by decide +kernel
theorem dX9_setAtPosition_13 : decode cX9_setAtPosition 13 = .ok (.istore 5, 2) := by decide +kernel
theorem dX9_setAtPosition_15 : decode cX9_setAtPosition 15 = .ok (.iload 5, 2) := by decide +kernel
theorem dX9_setAtPosition_17 : decode cX9_setAtPosition 17 = .ok (.bipush 64, 2) := by decide +kernel
theorem dX9_setAtPosition_19 : decode cX9_setAtPosition 19 = .ok (.if_icmp .ge 38, 3) := by decide +kernel
theorem dX9_setAtPosition_22 : decode cX9_setAtPosition 22 = .ok (.lload_n 0, 1) := by decide +kernel
theorem dX9_setAtPosition_23 : decode cX9_setAtPosition 23 = .ok (.iload 5, 2) := by decide +kernel
theorem dX9_setAtPosition_25 : decode cX9_setAtPosition 25 = .ok (.invokestatic 288, 3) := by decide +kernel
theorem dX9_setAtPosition_28 : decode cX9_setAtPosition 28 = .ok (.ifCond .eq 23, 3) := by decide +kernel
theorem dX9_setAtPosition_31 : decode cX9_setAtPosition 31 = .ok (.iload 5, 2) := by decide +kernel
theorem dX9_setAtPosition_33 : decode cX9_setAtPosition 33 = .ok (.invokestatic 292, 3) := by decide +kernel
theorem dX9_setAtPosition_36 : decode cX9_setAtPosition 36 = .ok (.iload 4, 2) := by decide +kernel
theorem dX9_setAtPosition_38 : decode cX9_setAtPosition 38 = .ok (.if_icmp .ne 13, 3) := by decide +kernel
theorem dX9_setAtPosition_41 : decode cX9_setAtPosition 41 = .ok (.iload_n 3, 1) := by decide +kernel
theorem dX9_setAtPosition_42 : decode cX9_setAtPosition 42 = .ok (.ifCond .ne 6, 3) := by decide +kernel
theorem dX9_setAtPosition_45 : decode cX9_setAtPosition 45 = .ok (.iload 5, 2) := by decide +kernel
theorem dX9_setAtPosition_47 : decode cX9_setAtPosition 47 = .ok (.ireturn, 1) := by decide +kernel
theorem dX9_setAtPosition_48 : decode cX9_setAtPosition 48 = .ok (.iinc 3 (-1), 3) := by decide +kernel
theorem dX9_setAtPosition_51 : decode cX9_setAtPosition 51 = .ok (.iinc 5 1, 3) := by decide +kernel
theorem dX9_setAtPosition_54 : decode cX9_setAtPosition 54 = .ok (.goto (-39), 3) := by decide +kernel
theorem dX9_setAtPosition_57 : decode cX9_setAtPosition 57 = .ok (.iinc 4 1, 3) := by decide +kernel
theorem dX9_setAtPosition_60 : decode cX9_setAtPosition 60 = .ok (.goto (-55), 3) := by decide +kernel
theorem dX9_setAtPosition_63 : decode cX9_setAtPosition 63 = .ok (.iconst (-1), 1) := by decide +kernel
theorem dX9_setAtPosition_64 : decode cX9_setAtPosition 64 = .ok (.ireturn, 1) := by decide +kernel
theorem dX9_joinTables_0 : decode cX9_joinTables 0 = .ok (.iload_n 0, 1) := by decide +kernel
theorem dX9_joinTables_1 : decode cX9_joinTables 1 = .ok (.bipush 9, 2) := by decide +kernel
theorem dX9_joinTables_3 : decode cX9_joinTables 3 = .ok (.if_icmp .ne 9, 3) := by decide +kernel
theorem dX9_joinTables_6 : decode cX9_joinTables 6 = .ok (.lload_n 1, 1) := by decide +kernel
theorem dX9_joinTables_7 : decode cX9_joinTables 7 = .ok (.lload_n 3, 1) := by decide +kernel
theorem dX9_joinTables_8 : decode cX9_joinTables 8 = .ok (.land, 1) := by decide +kernel
theorem dX9_joinTables_9 : decode cX9_joinTables 9 = .ok (.goto 6, 3) := by decide +kernel
theorem dX9_joinTables_12 : decode cX9_joinTables 12 = .ok (.lload_n 1, 1) := by decide +kernel
theorem dX9_joinTables_13 : decode cX9_joinTables 13 = .ok (.lload_n 3, 1) := by decide +kernel
theorem dX9_joinTables_14 : decode cX9_joinTables 14 = .ok (.lor, 1) := by decide +kernel
theorem dX9_joinTables_15 : decode cX9_joinTables 15 = .ok (.lreturn, 1) := by decide +kernel
theorem dJ6_bitCount_0f7a4_0 : decode cJ6_bitCount_0f7a4 0 = .ok (.iload_n 0, 1) := by decide +kernel
theorem dJ6_bitCount_0f7a4_1 : decode cJ6_bitCount_0f7a4 1 = .ok (.iload_n 0, 1) := by decide +kernel
theorem dJ6_bitCount_0f7a4_2 : decode cJ6_bitCount_0f7a4 2 = .ok (.iconst 1, 1) := by decide +kernel
theorem dJ6_bitCount_0f7a4_3 : decode cJ6_bitCount_0f7a4 3 = .ok (.iushr, 1) := by decide +kernel
theorem dJ6_bitCount_0f7a4_4 : decode cJ6_bitCount_0f7a4 4 = .ok (.ldc_w 265, 3) := by decide +kernel
theorem dJ6_bitCount_0f7a4_7 : decode cJ6_bitCount_0f7a4 7 = .ok (.iand, 1) := by decide +kernel
theorem dJ6_bitCount_0f7a4_8 : decode cJ6_bitCount_0f7a4 8 = .ok (.isub, 1) := by decide +kernel
theorem dJ6_bitCount_0f7a4_9 : decode cJ6_bitCount_0f7a4 9 = .ok (.istore_n 0, 1) := by decide +kernel
theorem dJ6_bitCount_0f7a4_10 : decode cJ6_bitCount_0f7a4 10 = .ok (.iload_n 0, 1) := by decide +kernel
theorem dJ6_bitCount_0f7a4_11 : decode cJ6_bitCount_0f7a4 11 = .ok (.ldc_w 266, 3) := by decide +kernel
theorem dJ6_bitCount_0f7a4_14 : decode cJ6_bitCount_0f7a4 14 = .ok (.iand, 1) := by decide +kernel
theorem dJ6_bitCount_0f7a4_15 : decode cJ6_bitCount_0f7a4 15 = .ok (.iload_n 0, 1) := by decide +kernel
theorem dJ6_bitCount_0f7a4_16 : decode cJ6_bitCount_0f7a4 16 = .ok (.iconst 2, 1) := by decide +kernel
theorem dJ6_bitCount_0f7a4_17 : decode cJ6_bitCount_0f7a4 17 = .ok (.iushr, 1) := by decide +kernel
theorem dJ6_bitCount_0f7a4_18 : decode cJ6_bitCount_0f7a4 18 = .ok (.ldc_w 266, 3) := by decide +kernel
theorem dJ6_bitCount_0f7a4_21 : decode cJ6_bitCount_0f7a4 21 = .ok (.iand, 1) := by decide +kernel
theorem dJ6_bitCount_0f7a4_22 : decode cJ6_bitCount_0f7a4 22 = .ok (.iadd, 1) := by decide +kernel
theorem dJ6_bitCount_0f7a4_23 : decode cJ6_bitCount_0f7a4 23 = .ok (.istore_n 0, 1) := by decide +kernel
theorem dJ6_bitCount_0f7a4_24 : decode cJ6_bitCount_0f7a4 24 = .ok (.iload_n 0, 1) := by decide +kernel
theorem dJ6_bitCount_0f7a4_25 : decode cJ6_bitCount_0f7a4 25 = .ok (.iload_n 0, 1) := by decide +kernel
theorem dJ6_bitCount_0f7a4_26 : decode cJ6_bitCount_0f7a4 26 = .ok (.iconst 4, 1) := by decide +kernel
theorem dJ6_bitCount_0f7a4_27 : decode cJ6_bitCount_0f7a4 27 = .ok (.iushr, 1) := by decide +kernel
theorem dJ6_bitCount_0f7a4_28 : decode cJ6_bitCount_0f7a4 28 = .ok (.iadd, 1) := by decide +kernel
theorem dJ6_bitCount_0f7a4_29 : decode cJ6_bitCount_0f7a4 29 = .ok (.ldc_w 267, 3) := by decide +kernel
theorem dJ6_bitCount_0f7a4_32 : decode cJ6_bitCount_0f7a4 32 = .ok (.iand, 1) := by decide +kernel
theorem dJ6_bitCount_0f7a4_33 : decode cJ6_bitCount_0f7a4 33 = .ok (.istore_n 0, 1) := by decide +kernel
theorem dJ6_bitCount_0f7a4_34 : decode cJ6_bitCount_0f7a4 34 = .ok (.iload_n 0, 1) := by decide +kernel
theorem dJ6_bitCount_0f7a4_35 : decode cJ6_bitCount_0f7a4 35 = .ok (.iload_n 0, 1) := by decide +kernel
theorem dJ6_bitCount_0f7a4_36 : decode cJ6_bitCount_0f7a4 36 = .ok (.bipush 8, 2) := by decide +kernel
theorem dJ6_bitCount_0f7a4_38 : decode cJ6_bitCount_0f7a4 38 = .ok (.iushr, 1) := by decide +kernel
theorem dJ6_bitCount_0f7a4_39 : decode cJ6_bitCount_0f7a4 39 = .ok (.iadd, 1) := by decide +kernel
theorem dJ6_bitCount_0f7a4_40 : decode cJ6_bitCount_0f7a4 40 = .ok (.istore_n 0, 1) := by decide +kernel
theorem dJ6_bitCount_0f7a4_41 : decode cJ6_bitCount_0f7a4 41 = .ok (.iload_n 0, 1) := by decide +kernel
theorem dJ6_bitCount_0f7a4_42 : decode cJ6_bitCount_0f7a4 42 = .ok (.iload_n 0, 1) := by decide +kernel
theorem dJ6_bitCount_0f7a4_43 : decode cJ6_bitCount_0f7a4 43 = .ok (.bipush 16, 2) := by decide +kernel
theorem dJ6_bitCount_0f7a4_45 : decode cJ6_bitCount_0f7a4 45 = .ok (.iushr, 1) := by decide +kernel
theorem dJ6_bitCount_0f7a4_46 : decode cJ6_bitCount_0f7a4 46 = .ok (.iadd, 1) := by decide +kernel
theorem dJ6_bitCount_0f7a4_47 : decode cJ6_bitCount_0f7a4 47 = .ok (.istore_n 0, 1) := by decide +kernel
theorem dJ6_bitCount_0f7a4_48 : decode cJ6_bitCount_0f7a4 48 = .ok (.iload_n 0, 1) := by decide +kernel
theorem dJ6_bitCount_0f7a4_49 : decode cJ6_bitCount_0f7a4 49 = .ok (.bipush 63, 2) := by decide +kernel
theorem dJ6_bitCount_0f7a4_51 : decode cJ6_bitCount_0f7a4 51 = .ok (.iand, 1) := by decide +kernel
theorem dJ6_bitCount_0f7a4_52 : decode cJ6_bitCount_0f7a4 52 = .ok (.ireturn, 1) := by decide +kernel
theorem dJ13_bitCount_95d88_0 : decode cJ13_bitCount_95d88 0 = .ok (.lload_n 0, 1) := by decide +kernel
theorem dJ13_bitCount_95d88_1 : decode cJ13_bitCount_95d88 1 = .ok (.lload_n 0, 1) := by decide +kernel
theorem dJ13_bitCount_95d88_2 : decode cJ13_bitCount_95d88 2 = .ok (.iconst 1, 1) := by decide +kernel
theorem dJ13_bitCount_95d88_3 : decode cJ13_bitCount_95d88 3 = .ok (.lushr, 1) := by decide +kernel
theorem dJ13_bitCount_95d88_4 : decode cJ13_bitCount_95d88 4 = .ok (.ldc2_w 314, 3) := by decide +kernel
theorem dJ13_bitCount_95d88_7 : decode cJ13_bitCount_95d88 7 = .ok (.land, 1) := by decide +kernel
theorem dJ13_bitCount_95d88_8 : decode cJ13_bitCount_95d88 8 = .ok (.lsub, 1) := by decide +kernel
theorem dJ13_bitCount_95d88_9 : decode cJ13_bitCount_95d88 9 = .ok (.lstore_n 0, 1) := by decide +kernel
theorem dJ13_bitCount_95d88_10 : decode cJ13_bitCount_95d88 10 = .ok (.lload_n 0, 1) := by decide +kernel
theorem dJ13_bitCount_95d88_11 : decode cJ13_bitCount_95d88 11 = .ok (.ldc2_w 316, 3) := by decide +kernel
theorem dJ13_bitCount_95d88_14 : decode cJ13_bitCount_95d88 14 = .ok (.land, 1) := by decide +kernel
theorem dJ13_bitCount_95d88_15 : decode cJ13_bitCount_95d88 15 = .ok (.lload_n 0, 1) := by decide +kernel
theorem dJ13_bitCount_95d88_16 : decode cJ13_bitCount_95d88 16 = .ok (.iconst 2, 1) := by decide +kernel
theorem dJ13_bitCount_95d88_17 : decode cJ13_bitCount_95d88 17 = .ok (.lushr, 1) := by decide +kernel
theorem dJ13_bitCount_95d88_18 : decode cJ13_bitCount_95d88 18 = .ok (.ldc2_w 316, 3) := by decide +kernel
theorem dJ13_bitCount_95d88_21 : decode cJ13_bitCount_95d88 21 = .ok (.land, 1) := by decide +kernel
theorem dJ13_bitCount_95d88_22 : decode cJ13_bitCount_95d88 22 = .ok (.ladd, 1) := by decide +kernel
theorem dJ13_bitCount_95d88_23 : decode cJ13_bitCount_95d88 23 = .ok (.lstore_n 0, 1) := by decide +kernel
theorem dJ13_bitCount_95d88_24 : decode cJ13_bitCount_95d88 24 = .ok (.lload_n 0, 1) := by decide +kernel
theorem dJ13_bitCount_95d88_25 : decode cJ13_bitCount_95d88 25 = .ok (.lload_n 0, 1) := by decide +kernel
theorem dJ13_bitCount_95d88_26 : decode cJ13_bitCount_95d88 26 = .ok (.iconst 4, 1) := by decide +kernel
theorem dJ13_bitCount_95d88_27 : decode cJ13_bitCount_95d88 27 = .ok (.lushr, 1) := by decide +kernel
theorem dJ13_bitCount_95d88_28 : decode cJ13_bitCount_95d88 28 = .ok (.ladd, 1) := by decide +kernel
theorem dJ13_bitCount_95d88_29 : decode cJ13_bitCount_95d88 29 = .ok (.ldc2_w 318, 3) := by decide +kernel
theorem dJ13_bitCount_95d88_32 : decode cJ13_bitCount_95d88 32 = .ok (.land, 1) := by decide +kernel
theorem dJ13_bitCount_95d88_33 : decode cJ13_bitCount_95d88 33 = .ok (.lstore_n 0, 1) := by decide +kernel
theorem dJ13_bitCount_95d88_34 : decode cJ13_bitCount_95d88 34 = .ok (.lload_n 0, 1) := by decide +kernel
theorem dJ13_bitCount_95d88_35 : decode cJ13_bitCount_95d88 35 = .ok (.lload_n 0, 1) := by decide +kernel
theorem dJ13_bitCount_95d88_36 : decode cJ13_bitCount_95d88 36 = .ok (.bipush 8, 2) := by decide +kernel
theorem dJ13_bitCount_95d88_38 : decode cJ13_bitCount_95d88 38 = .ok (.lushr, 1) := by decide +kernel
theorem dJ13_bitCount_95d88_39 : decode cJ13_bitCount_95d88 39 = .ok (.ladd, 1) := by decide +kernel
theorem dJ13_bitCount_95d88_40 : decode cJ13_bitCount_95d88 40 = .ok (.lstore_n 0, 1) := by decide +kernel
theorem dJ13_bitCount_95d88_41 : decode cJ13_bitCount_95d88 41 = .ok (.lload_n 0, 1) := by decide +kernel
theorem dJ13_bitCount_95d88_42 : decode cJ13_bitCount_95d88 42 = .ok (.lload_n 0, 1) := by decide +kernel
theorem dJ13_bitCount_95d88_43 : decode cJ13_bitCount_95d88 43 = .ok (.bipush 16, 2) := by decide +kernel
theorem dJ13_bitCount_95d88_45 : decode cJ13_bitCount_95d88 45 = .ok (.lushr, 1) := by decide +kernel
theorem dJ13_bitCount_95d88_46 : decode cJ13_bitCount_95d88 46 = .ok (.ladd, 1) := by decide +kernel
theorem dJ13_bitCount_95d88_47 : decode cJ13_bitCount_95d88 47 = .ok (.lstore_n 0, 1) := by decide +kernel
theorem dJ13_bitCount_95d88_48 : decode cJ13_bitCount_95d88 48 = .ok (.lload_n 0, 1) := by decide +kernel
theorem dJ13_bitCount_95d88_49 : decode cJ13_bitCount_95d88 49 = .ok (.lload_n 0, 1) := by decide +kernel
theorem dJ13_bitCount_95d88_50 : decode cJ13_bitCount_95d88 50 = .ok (.bipush 32, 2) := by decide +kernel
theorem dJ13_bitCount_95d88_52 : decode cJ13_bitCount_95d88 52 = .ok (.lushr, 1) := by decide +kernel
theorem dJ13_bitCount_95d88_53 : decode cJ13_bitCount_95d88 53 = .ok (.ladd, 1) := by decide +kernel
theorem dJ13_bitCount_95d88_54 : decode cJ13_bitCount_95d88 54 = .ok (.lstore_n 0, 1) := by decide +kernel
theorem dJ13_bitCount_95d88_55 : decode cJ13_bitCount_95d88 55 = .ok (.lload_n 0, 1) := by decide +kernel
theorem dJ13_bitCount_95d88_56 : decode cJ13_bitCount_95d88 56 = .ok (.l2i, 1) := by decide +kernel
theorem dJ13_bitCount_95d88_57 : decode cJ13_bitCount_95d88 57 = .ok (.bipush 127, 2) := by decide +kernel
theorem dJ13_bitCount_95d88_59 : decode cJ13_bitCount_95d88 59 = .ok (.iand, 1) := by decide +kernel
theorem dJ13_bitCount_95d88_60 : decode cJ13_bitCount_95d88 60 = .ok (.ireturn, 1) := by decide +kernel
theorem dJ9_max_7cf53_0 : decode cJ9_max_7cf53 0 = .ok (.iload_n 0, 1) := by decide +kernel
theorem dJ9_max_7cf53_1 : decode cJ9_max_7cf53 1 = .ok (.iload_n 1, 1) := by decide +kernel
theorem dJ9_max_7cf53_2 : decode cJ9_max_7cf53 2 = .ok (.if_icmp .lt 7, 3) := by decide +kernel
theorem dJ9_max_7cf53_5 : decode cJ9_max_7cf53 5 = .ok (.iload_n 0, 1) := by decide +kernel
theorem dJ9_max_7cf53_6 : decode cJ9_max_7cf53 6 = .ok (.goto 4, 3) := by decide +kernel
theorem dJ9_max_7cf53_9 : decode cJ9_max_7cf53 9 = .ok (.iload_n 1, 1) := by decide +kernel
theorem dJ9_max_7cf53_10 : decode cJ9_max_7cf53 10 = .ok (.ireturn, 1) := by decide +kernel
theorem dJ9_min_7cf53_0 : decode cJ9_min_7cf53 0 = .ok (.iload_n 0, 1) := by decide +kernel
theorem dJ9_min_7cf53_1 : decode cJ9_min_7cf53 1 = .ok (.iload_n 1, 1) := by decide +kernel
theorem dJ9_min_7cf53_2 : decode cJ9_min_7cf53 2 = .ok (.if_icmp .gt 7, 3) := by decide +kernel
theorem dJ9_min_7cf53_5 : decode cJ9_min_7cf53 5 = .ok (.iload_n 0, 1) := by decide +kernel
theorem dJ9_min_7cf53_6 : decode cJ9_min_7cf53 6 = .ok (.goto 4, 3) := by decide +kernel
theorem dJ9_min_7cf53_9 : decode cJ9_min_7cf53 9 = .ok (.iload_n 1, 1) := by decide +kernel
theorem dJ9_min_7cf53_10 : decode cJ9_min_7cf53 10 = .ok (.ireturn, 1) := by decide +kernel
theorem dJ7_fill_d0a16_0 : decode cJ7_fill_d0a16 0 = .ok (.iconst 0, 1) := by decide +kernel
theorem dJ7_fill_d0a16_1 : decode cJ7_fill_d0a16 1 = .ok (.istore_n 3, 1) := by decide +kernel
theorem dJ7_fill_d0a16_2 : decode cJ7_fill_d0a16 2 = .ok (.aload_n 0, 1) := by decide +kernel
theorem dJ7_fill_d0a16_3 : decode cJ7_fill_d0a16 3 = .ok (.arraylength, 1) := by decide +kernel
theorem dJ7_fill_d0a16_4 : decode cJ7_fill_d0a16 4 = .ok (.istore 4, 2) := by decide +kernel
theorem dJ7_fill_d0a16_6 : decode cJ7_fill_d0a16 6 = .ok (.iload_n 3, 1) := by decide +kernel
theorem dJ7_fill_d0a16_7 : decode cJ7_fill_d0a16 7 = .ok (.iload 4, 2) := by decide +kernel
theorem dJ7_fill_d0a16_9 : decode cJ7_fill_d0a16 9 = .ok (.if_icmp .ge 13, 3) := by decide +kernel
theorem dJ7_fill_d0a16_12 : decode cJ7_fill_d0a16 12 = .ok (.aload_n 0, 1) := by decide +kernel
theorem dJ7_fill_d0a16_13 : decode cJ7_fill_d0a16 13 = .ok (.iload_n 3, 1) := by decide +kernel
theorem dJ7_fill_d0a16_14 : decode cJ7_fill_d0a16 14 = .ok (.lload_n 1, 1) := by decide +kernel
theorem dJ7_fill_d0a16_15 : decode cJ7_fill_d0a16 15 = .ok (.lastore, 1) := by decide +kernel
theorem dJ7_fill_d0a16_16 : decode cJ7_fill_d0a16 16 = .ok (.iinc 3 1, 3) := by decide +kernel
theorem dJ7_fill_d0a16_19 : decode cJ7_fill_d0a16 19 = .ok (.goto (-13), 3) := by decide +kernel
theorem dJ7_fill_d0a16_22 : decode cJ7_fill_d0a16 22 = .ok (.return_, 1) := by decide +kernel
theorem dJ7_fill_53178_0 : decode cJ7_fill_53178 0 = .ok (.iconst 0, 1) := by decide +kernel
theorem dJ7_fill_53178_1 : decode cJ7_fill_53178 1 = .ok (.istore_n 2, 1) := by decide +kernel
theorem dJ7_fill_53178_2 : decode cJ7_fill_53178 2 = .ok (.aload_n 0, 1) := by decide +kernel
theorem dJ7_fill_53178_3 : decode cJ7_fill_53178 3 = .ok (.arraylength, 1) := by decide +kernel
theorem dJ7_fill_53178_4 : decode cJ7_fill_53178 4 = .ok (.istore_n 3, 1) := by decide +kernel
theorem dJ7_fill_53178_5 : decode cJ7_fill_53178 5 = .ok (.iload_n 2, 1) := by decide +kernel
theorem dJ7_fill_53178_6 : decode cJ7_fill_53178 6 = .ok (.iload_n 3, 1) := by decide +kernel
theorem dJ7_fill_53178_7 : decode cJ7_fill_53178 7 = .ok (.if_icmp .ge 13, 3) := by decide +kernel
theorem dJ7_fill_53178_10 : decode cJ7_fill_53178 10 = .ok (.aload_n 0, 1) := by decide +kernel
theorem dJ7_fill_53178_11 : decode cJ7_fill_53178 11 = .ok (.iload_n 2, 1) := by decide +kernel
theorem dJ7_fill_53178_12 : decode cJ7_fill_53178 12 = .ok (.iload_n 1, 1) := by decide +kernel
theorem dJ7_fill_53178_13 : decode cJ7_fill_53178 13 = .ok (.iastore, 1) := by decide +kernel
theorem dJ7_fill_53178_14 : decode cJ7_fill_53178 14 = .ok (.iinc 2 1, 3) := by decide +kernel
theorem dJ7_fill_53178_17 : decode cJ7_fill_53178 17 = .ok (.goto (-12), 3) := by decide +kernel
theorem dJ7_fill_53178_20 : decode cJ7_fill_53178 20 = .ok (.return_, 1) := by decide +kernel
theorem dJ7_fill_fb410_0 : decode cJ7_fill_fb410 0 = .ok (.iconst 0, 1) := by decide +kernel
theorem dJ7_fill_fb410_1 : decode cJ7_fill_fb410 1 = .ok (.istore_n 2, 1) := by decide +kernel
theorem dJ7_fill_fb410_2 : decode cJ7_fill_fb410 2 = .ok (.aload_n 0, 1) := by decide +kernel
theorem dJ7_fill_fb410_3 : decode cJ7_fill_fb410 3 = .ok (.arraylength, 1) := by decide +kernel
theorem dJ7_fill_fb410_4 : decode cJ7_fill_fb410 4 = .ok (.istore_n 3, 1) := by decide +kernel
theorem dJ7_fill_fb410_5 : decode cJ7_fill_fb410 5 = .ok (.iload_n 2, 1) := by decide +kernel
theorem dJ7_fill_fb410_6 : decode cJ7_fill_fb410 6 = .ok (.iload_n 3, 1) := by decide +kernel
theorem dJ7_fill_fb410_7 : decode cJ7_fill_fb410 7 = .ok (.if_icmp .ge 13, 3) := by decide +kernel
theorem dJ7_fill_fb410_10 : decode cJ7_fill_fb410 10 = .ok (.aload_n 0, 1) := by decide +kernel
theorem dJ7_fill_fb410_11 : decode cJ7_fill_fb410 11 = .ok (.iload_n 2, 1) := by decide +kernel
theorem dJ7_fill_fb410_12 : decode cJ7_fill_fb410 12 = .ok (.iload_n 1, 1) := by decide +kernel
theorem dJ7_fill_fb410_13 : decode cJ7_fill_fb410 13 = .ok (.sastore, 1) := by decide +kernel
theorem dJ7_fill_fb410_14 : decode cJ7_fill_fb410 14 = .ok (.iinc 2 1, 3) := by decide +kernel
theorem dJ7_fill_fb410_17 : decode cJ7_fill_fb410 17 = .ok (.goto (-12), 3) := by decide +kernel
theorem dJ7_fill_fb410_20 : decode cJ7_fill_fb410 20 = .ok (.return_, 1) := by decide +kernel
