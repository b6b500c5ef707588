theorem dX0_init_0 : decode cX0_init 0 = .ok (.aload_n 0, 1) := by decide +kernel
theorem dX0_init_1 : decode cX0_init 1 = .ok (.invokespecial 1, 3) := by decide +kernel
theorem dX0_init_4 : decode cX0_init 4 = .ok (.aload_n 0, 1) := by decide +kernel
theorem dX0_init_5 : decode cX0_init 5 = .ok (.aload_n 1, 1) := by decide +kernel
theorem dX0_init_6 : decode cX0_init 6 = .ok (.putfield 7, 3) := by decide +kernel
theorem dX0_init_9 : decode cX0_init 9 = .ok (.aload_n 0, 1) := by decide +kernel
theorem dX0_init_10 : decode cX0_init 10 = .ok (.iload_n 2, 1) := by decide +kernel
theorem dX0_init_11 : decode cX0_init 11 = .ok (.putfield 13, 3) := by decide +kernel
theorem dX0_init_14 : decode cX0_init 14 = .ok (.aload_n 0, 1) := by decide +kernel
theorem dX0_init_15 : decode cX0_init 15 = .ok (.iload_n 3, 1) := by decide +kernel
theorem dX0_init_16 : decode cX0_init 16 = .ok (.putfield 17, 3) := by decide +kernel
theorem dX0_init_19 : decode cX0_init 19 = .ok (.aload_n 0, 1) := by decide +kernel
theorem dX0_init_20 : decode cX0_init 20 = .ok (.iload 4, 2) := by decide +kernel
theorem dX0_init_22 : decode cX0_init 22 = .ok (.putfield 20, 3) := by decide +kernel
theorem dX0_init_25 : decode cX0_init 25 = .ok (.return_, 1) := by decide +kernel
theorem dX1_init_0 : decode cX1_init 0 = .ok (.aload_n 0, 1) := by decide +kernel
theorem dX1_init_1 : decode cX1_init 1 = .ok (.invokespecial 3, 3) := by decide +kernel
theorem dX1_init_4 : decode cX1_init 4 = .ok (.aload_n 0, 1) := by decide +kernel
theorem dX1_init_5 : decode cX1_init 5 = .ok (.new 9, 3) := by decide +kernel
theorem dX1_init_8 : decode cX1_init 8 = .ok (.dup, 1) := by decide +kernel
theorem dX1_init_9 : decode cX1_init 9 = .ok (.iconst 0, 1) := by decide +kernel
theorem dX1_init_10 : decode cX1_init 10 = .ok (.newarray .int, 2) := by decide +kernel
theorem dX1_init_12 : decode cX1_init 12 = .ok (.iconst 0, 1) := by decide +kernel
theorem dX1_init_13 : decode cX1_init 13 = .ok (.iconst 0, 1) := by decide +kernel
theorem dX1_init_14 : decode cX1_init 14 = .ok (.iconst 0, 1) := by decide +kernel
theorem dX1_init_15 : decode cX1_init 15 = .ok (.invokespecial 11, 3) := by decide +kernel
theorem dX1_init_18 : decode cX1_init 18 = .ok (.putfield 14, 3) := by decide +kernel
theorem dX1_init_21 : decode cX1_init 21 = .ok (.aload_n 0, 1) := by decide +kernel
theorem dX1_init_22 : decode cX1_init 22 = .ok (.bipush 8, 2) := by decide +kernel
theorem dX1_init_24 : decode cX1_init 24 = .ok (.anewarray 9, 3) := by decide +kernel
theorem dX1_init_27 : decode cX1_init 27 = .ok (.putfield 20, 3) := by decide +kernel
theorem dX1_init_30 : decode cX1_init 30 = .ok (.aload_n 0, 1) := by decide +kernel
theorem dX1_init_31 : decode cX1_init 31 = .ok (.new 24, 3) := by decide +kernel
theorem dX1_init_34 : decode cX1_init 34 = .ok (.dup, 1) := by decide +kernel
theorem dX1_init_35 : decode cX1_init 35 = .ok (.invokespecial 26, 3) := by decide +kernel
theorem dX1_init_38 : decode cX1_init 38 = .ok (.putfield 27, 3) := by decide +kernel
theorem dX1_init_41 : decode cX1_init 41 = .ok (.return_, 1) := by decide +kernel
theorem dX1_beginWith_0 : decode cX1_beginWith 0 = .ok (.aload_n 0, 1) := by decide +kernel
theorem dX1_beginWith_1 : decode cX1_beginWith 1 = .ok (.iconst 0, 1) := by decide +kernel
theorem dX1_beginWith_2 : decode cX1_beginWith 2 = .ok (.putfield 31, 3) := by decide +kernel
theorem dX1_beginWith_5 : decode cX1_beginWith 5 = .ok (.aload_n 0, 1) := by decide +kernel
theorem dX1_beginWith_6 : decode cX1_beginWith 6 = .ok (.getfield 27, 3) := by decide +kernel
theorem dX1_beginWith_9 : decode cX1_beginWith 9 = .ok (.iconst 0, 1) := by decide +kernel
theorem dX1_beginWith_10 : decode cX1_beginWith 10 = .ok (.putfield 35, 3) := by decide +kernel
theorem dX1_beginWith_13 : decode cX1_beginWith 13 = .ok (.iconst 0, 1) := by decide +kernel
theorem dX1_beginWith_14 : decode cX1_beginWith 14 = .ok (.istore_n 2, 1) := by decide +kernel
theorem dX1_beginWith_15 : decode cX1_beginWith 15 = .ok (.iload_n 2, 1) := by decide +kernel
theorem dX1_beginWith_16 : decode cX1_beginWith 16 = .ok (.aload_n 0, 1) := by decide +kernel
theorem dX1_beginWith_17 : decode cX1_beginWith 17 = .ok (.getfield 20, 3) := by decide +kernel
theorem dX1_beginWith_20 : decode cX1_beginWith 20 = .ok (.arraylength, 1) := by decide +kernel
theorem dX1_beginWith_21 : decode cX1_beginWith 21 = .ok (.if_icmp .ge 34, 3) := by decide +kernel
theorem dX1_beginWith_24 : decode cX1_beginWith 24 = .ok (.aload_n 0, 1) := by decide +kernel
theorem dX1_beginWith_25 : decode cX1_beginWith 25 = .ok (.getfield 20, 3) := by decide +kernel
theorem dX1_beginWith_28 : decode cX1_beginWith 28 = .ok (.iload_n 2, 1) := by decide +kernel
theorem dX1_beginWith_29 : decode cX1_beginWith 29 = .ok (.iload_n 2, 1) := by decide +kernel
theorem dX1_beginWith_30 : decode cX1_beginWith 30 = .ok (.aload_n 1, 1) := by decide +kernel
theorem dX1_beginWith_31 : decode cX1_beginWith 31 = .ok (.getfield 38, 3) := by decide +kernel
theorem dX1_beginWith_34 : decode cX1_beginWith 34 = .ok (.arraylength, 1) := by decide +kernel
theorem dX1_beginWith_35 : decode cX1_beginWith 35 = .ok (.if_icmp .ge 12, 3) := by decide +kernel
theorem dX1_beginWith_38 : decode cX1_beginWith 38 = .ok (.aload_n 1, 1) := by decide +kernel
theorem dX1_beginWith_39 : decode cX1_beginWith 39 = .ok (.getfield 38, 3) := by decide +kernel
theorem dX1_beginWith_42 : decode cX1_beginWith 42 = .ok (.iload_n 2, 1) := by decide +kernel
theorem dX1_beginWith_43 : decode cX1_beginWith 43 = .ok (.aaload, 1) := by decide +kernel
theorem dX1_beginWith_44 : decode cX1_beginWith 44 = .ok (.goto 4, 3) := by decide +kernel
theorem dX1_beginWith_47 : decode cX1_beginWith 47 = .ok (.aconst_null, 1) := by decide +kernel
theorem dX1_beginWith_48 : decode cX1_beginWith 48 = .ok (.aastore, 1) := by decide +kernel
theorem dX1_beginWith_49 : decode cX1_beginWith 49 = .ok (.iinc 2 1, 3) := by decide +kernel
theorem dX1_beginWith_52 : decode cX1_beginWith 52 = .ok (.goto (-37), 3) := by decide +kernel
theorem dX1_beginWith_55 : decode cX1_beginWith 55 = .ok (.return_, 1) := by decide +kernel
theorem dX1_become_0 : decode cX1_become 0 = .ok (.aload_n 0, 1) := by decide +kernel
theorem dX1_become_1 : decode cX1_become 1 = .ok (.aload_n 1, 1) := by decide +kernel
theorem dX1_become_2 : decode cX1_become 2 = .ok (.getfield 31, 3) := by decide +kernel
theorem dX1_become_5 : decode cX1_become 5 = .ok (.putfield 31, 3) := by decide +kernel
theorem dX1_become_8 : decode cX1_become 8 = .ok (.aload_n 0, 1) := by decide +kernel
theorem dX1_become_9 : decode cX1_become 9 = .ok (.getfield 27, 3) := by decide +kernel
theorem dX1_become_12 : decode cX1_become 12 = .ok (.aload_n 1, 1) := by decide +kernel
theorem dX1_become_13 : decode cX1_become 13 = .ok (.getfield 27, 3) := by decide +kernel
theorem dX1_become_16 : decode cX1_become 16 = .ok (.invokevirtual 41, 3) := by decide +kernel
theorem dX1_become_19 : decode cX1_become 19 = .ok (.iconst 0, 1) := by decide +kernel
theorem dX1_become_20 : decode cX1_become 20 = .ok (.istore_n 2, 1) := by decide +kernel
theorem dX1_become_21 : decode cX1_become 21 = .ok (.iload_n 2, 1) := by decide +kernel
theorem dX1_become_22 : decode cX1_become 22 = .ok (.aload_n 0, 1) := by decide +kernel
theorem dX1_become_23 : decode cX1_become 23 = .ok (.getfield 20, 3) := by decide +kernel
theorem dX1_become_26 : decode cX1_become 26 = .ok (.arraylength, 1) := by decide +kernel
theorem dX1_become_27 : decode cX1_become 27 = .ok (.if_icmp .ge 34, 3) := by decide +kernel
theorem dX1_become_30 : decode cX1_become 30 = .ok (.aload_n 0, 1) := by decide +kernel
theorem dX1_become_31 : decode cX1_become 31 = .ok (.getfield 20, 3) := by decide +kernel
theorem dX1_become_34 : decode cX1_become 34 = .ok (.iload_n 2, 1) := by decide +kernel
theorem dX1_become_35 : decode cX1_become 35 = .ok (.iload_n 2, 1) := by decide +kernel
theorem dX1_become_36 : decode cX1_become 36 = .ok (.aload_n 1, 1) := by decide +kernel
theorem dX1_become_37 : decode cX1_become 37 = .ok (.getfield 20, 3) := by decide +kernel
theorem dX1_become_40 : decode cX1_become 40 = .ok (.arraylength, 1) := by decide +kernel
theorem dX1_become_41 : decode cX1_become 41 = .ok (.if_icmp .ge 12, 3) := by decide +kernel
theorem dX1_become_44 : decode cX1_become 44 = .ok (.aload_n 1, 1) := by decide +kernel
theorem dX1_become_45 : decode cX1_become 45 = .ok (.getfield 20, 3) := by decide +kernel
theorem dX1_become_48 : decode cX1_become 48 = .ok (.iload_n 2, 1) := by decide +kernel
theorem dX1_become_49 : decode cX1_become 49 = .ok (.aaload, 1) := by decide +kernel
theorem dX1_become_50 : decode cX1_become 50 = .ok (.goto 4, 3) := by decide +kernel
theorem dX1_become_53 : decode cX1_become 53 = .ok (.aconst_null, 1) := by decide +kernel
theorem dX1_become_54 : decode cX1_become 54 = .ok (.aastore, 1) := by decide +kernel
theorem dX1_become_55 : decode cX1_become 55 = .ok (.iinc 2 1, 3) := by decide +kernel
theorem dX1_become_58 : decode cX1_become 58 = .ok (.goto (-37), 3) := by decide +kernel
theorem dX1_become_61 : decode cX1_become 61 = .ok (.return_, 1) := by decide +kernel
theorem dX1_ballotOf_0 : decode cX1_ballotOf 0 = .ok (.iload_n 1, 1) := by decide +kernel
theorem dX1_ballotOf_1 : decode cX1_ballotOf 1 = .ok (.ifCond .lt 25, 3) := by decide +kernel
theorem dX1_ballotOf_4 : decode cX1_ballotOf 4 = .ok (.iload_n 1, 1) := by decide +kernel
theorem dX1_ballotOf_5 : decode cX1_ballotOf 5 = .ok (.aload_n 0, 1) := by decide +kernel
theorem dX1_ballotOf_6 : decode cX1_ballotOf 6 = .ok (.getfield 20, 3) := by decide +kernel
theorem dX1_ballotOf_9 : decode cX1_ballotOf 9 = .ok (.arraylength, 1) := by decide +kernel
theorem dX1_ballotOf_10 : decode cX1_ballotOf 10 = .ok (.if_icmp .ge 16, 3) := by decide +kernel
theorem dX1_ballotOf_13 : decode cX1_ballotOf 13 = .ok (.aload_n 0, 1) := by decide +kernel
theorem dX1_ballotOf_14 : decode cX1_ballotOf 14 = .ok (.getfield 20, 3) := by decide +kernel
theorem dX1_ballotOf_17 : decode cX1_ballotOf 17 = .ok (.iload_n 1, 1) := by decide +kernel
theorem dX1_ballotOf_18 : decode cX1_ballotOf 18 = .ok (.aaload, 1) := by decide +kernel
theorem dX1_ballotOf_19 : decode cX1_ballotOf 19 = .ok (.ifnull 7, 3) := by decide +kernel
theorem dX1_ballotOf_22 : decode cX1_ballotOf 22 = .ok (.iconst 1, 1) := by decide +kernel
theorem dX1_ballotOf_23 : decode cX1_ballotOf 23 = .ok (.goto 4, 3) := by decide +kernel
theorem dX1_ballotOf_26 : decode cX1_ballotOf 26 = .ok (.iconst 0, 1) := by decide +kernel
theorem dX1_ballotOf_27 : decode cX1_ballotOf 27 = .ok (.istore_n 2, 1) := by decide +kernel
theorem dX1_ballotOf_28 : decode cX1_ballotOf 28 = .ok (.iload_n 2, 1) := by decide +kernel
theorem dX1_ballotOf_29 : decode cX1_ballotOf 29 = .ok (.ifCond .eq 12, 3) := by decide +kernel
theorem dX1_ballotOf_32 : decode cX1_ballotOf 32 = .ok (.aload_n 0, 1) := by decide +kernel
theorem dX1_ballotOf_33 : decode cX1_ballotOf 33 = .ok (.getfield 20, 3) := by decide +kernel
theorem dX1_ballotOf_36 : decode cX1_ballotOf 36 = .ok (.iload_n 1, 1) := by decide +kernel
theorem dX1_ballotOf_37 : decode cX1_ballotOf 37 = .ok (.aaload, 1) := by decide +kernel
theorem dX1_ballotOf_38 : decode cX1_ballotOf 38 = .ok (.goto 7, 3) := by decide +kernel
theorem dX1_ballotOf_41 : decode cX1_ballotOf 41 = .ok (.aload_n 0, 1) := by decide +kernel
theorem dX1_ballotOf_42 : decode cX1_ballotOf 42 = .ok (.getfield 14, 3) := by decide +kernel
theorem dX1_ballotOf_45 : decode cX1_ballotOf 45 = .ok (.areturn, 1) := by decide +kernel
theorem dX1_putBallot_0 : decode cX1_putBallot 0 = .ok (.iload_n 1, 1) := by decide +kernel
theorem dX1_putBallot_1 : decode cX1_putBallot 1 = .ok (.ifCond .lt 19, 3) := by decide +kernel
theorem dX1_putBallot_4 : decode cX1_putBallot 4 = .ok (.iload_n 1, 1) := by decide +kernel
theorem dX1_putBallot_5 : decode cX1_putBallot 5 = .ok (.aload_n 0, 1) := by decide +kernel
theorem dX1_putBallot_6 : decode cX1_putBallot 6 = .ok (.getfield 20, 3) := by decide +kernel
theorem dX1_putBallot_9 : decode cX1_putBallot 9 = .ok (.arraylength, 1) := by decide +kernel
theorem dX1_putBallot_10 : decode cX1_putBallot 10 = .ok (.if_icmp .ge 10, 3) := by decide +kernel
theorem dX1_putBallot_13 : decode cX1_putBallot 13 = .ok (.aload_n 0, 1) := by decide +kernel
theorem dX1_putBallot_14 : decode cX1_putBallot 14 = .ok (.getfield 20, 3) := by decide +kernel
theorem dX1_putBallot_17 : decode cX1_putBallot 17 = .ok (.iload_n 1, 1) := by decide +kernel
theorem dX1_putBallot_18 : decode cX1_putBallot 18 = .ok (.aload_n 2, 1) := by decide +kernel
theorem dX1_putBallot_19 : decode cX1_putBallot 19 = .ok (.aastore, 1) := by decide +kernel
theorem dX1_putBallot_20 : decode cX1_putBallot 20 = .ok (.return_, 1) := by decide +kernel
theorem dX1_units_0 : decode cX1_units 0 = .ok (.iconst 0, 1) := by decide +kernel
theorem dX1_units_1 : decode cX1_units 1 = .ok (.istore_n 1, 1) := by decide +kernel
theorem dX1_units_2 : decode cX1_units 2 = .ok (.iconst 0, 1) := by decide +kernel
theorem dX1_units_3 : decode cX1_units 3 = .ok (.istore_n 2, 1) := by decide +kernel
theorem dX1_units_4 : decode cX1_units 4 = .ok (.iload_n 2, 1) := by decide +kernel
theorem dX1_units_5 : decode cX1_units 5 = .ok (.aload_n 0, 1) := by decide +kernel
theorem dX1_units_6 : decode cX1_units 6 = .ok (.getfield 20, 3) := by decide +kernel
theorem dX1_units_9 : decode cX1_units 9 = .ok (.arraylength, 1) := by decide +kernel
theorem dX1_units_10 : decode cX1_units 10 = .ok (.if_icmp .ge 20, 3) := by decide +kernel
theorem dX1_units_13 : decode cX1_units 13 = .ok (.iload_n 1, 1) := by decide +kernel
theorem dX1_units_14 : decode cX1_units 14 = .ok (.aload_n 0, 1) := by decide +kernel
theorem dX1_units_15 : decode cX1_units 15 = .ok (.iload_n 2, 1) := by decide +kernel
theorem dX1_units_16 : decode cX1_units 16 = .ok (.invokevirtual 45, 3) := by decide +kernel
theorem dX1_units_19 : decode cX1_units 19 = .ok (.getfield 49, 3) := by decide +kernel
theorem dX1_units_22 : decode cX1_units 22 = .ok (.iadd, 1) := by decide +kernel
theorem dX1_units_23 : decode cX1_units 23 = .ok (.istore_n 1, 1) := by decide +kernel
theorem dX1_units_24 : decode cX1_units 24 = .ok (.iinc 2 1, 3) := by decide +kernel
theorem dX1_units_27 : decode cX1_units 27 = .ok (.goto (-23), 3) := by decide +kernel
theorem dX1_units_30 : decode cX1_units 30 = .ok (.iload_n 1, 1) := by decide +kernel
theorem dX1_units_31 : decode cX1_units 31 = .ok (.ireturn, 1) := by decide +kernel
theorem dX1_otherBallots_0 : decode cX1_otherBallots 0 = .ok (.iconst 0, 1) := by decide +kernel
theorem dX1_otherBallots_1 : decode cX1_otherBallots 1 = .ok (.istore_n 2, 1) := by decide +kernel
theorem dX1_otherBallots_2 : decode cX1_otherBallots 2 = .ok (.iconst 0, 1) := by decide +kernel
theorem dX1_otherBallots_3 : decode cX1_otherBallots 3 = .ok (.istore_n 3, 1) := by decide +kernel
theorem dX1_otherBallots_4 : decode cX1_otherBallots 4 = .ok (.iload_n 3, 1) := by decide +kernel
theorem dX1_otherBallots_5 : decode cX1_otherBallots 5 = .ok (.aload_n 0, 1) := by decide +kernel
theorem dX1_otherBallots_6 : decode cX1_otherBallots 6 = .ok (.getfield 20, 3) := by decide +kernel
theorem dX1_otherBallots_9 : decode cX1_otherBallots 9 = .ok (.arraylength, 1) := by decide +kernel
theorem dX1_otherBallots_10 : decode cX1_otherBallots 10 = .ok (.if_icmp .ge 39, 3) := by decide +kernel
theorem dX1_otherBallots_13 : decode cX1_otherBallots 13 = .ok (.iload_n 3, 1) := by decide +kernel
theorem dX1_otherBallots_14 : decode cX1_otherBallots 14 = .ok (.aload_n 1, 1) := by decide +kernel
theorem dX1_otherBallots_15 : decode cX1_otherBallots 15 = .ok (.getfield 20, 3) := by decide +kernel
theorem dX1_otherBallots_18 : decode cX1_otherBallots 18 = .ok (.arraylength, 1) := by decide +kernel
theorem dX1_otherBallots_19 : decode cX1_otherBallots 19 = .ok (.if_icmp .ge 30, 3) := by decide +kernel
theorem dX1_otherBallots_22 : decode cX1_otherBallots 22 = .ok (.aload_n 0, 1) := by decide +kernel
theorem dX1_otherBallots_23 : decode cX1_otherBallots 23 = .ok (.getfield 20, 3) := by decide +kernel
theorem dX1_otherBallots_26 : decode cX1_otherBallots 26 = .ok (.iload_n 3, 1) := by decide +kernel
theorem dX1_otherBallots_27 : decode cX1_otherBallots 27 = .ok (.aaload, 1) := by decide +kernel
theorem dX1_otherBallots_28 : decode cX1_otherBallots 28 = .ok (.aload_n 1, 1) := by decide +kernel
theorem dX1_otherBallots_29 : decode cX1_otherBallots 29 = .ok (.getfield 20, 3) := by decide +kernel
theorem dX1_otherBallots_32 : decode cX1_otherBallots 32 = .ok (.iload_n 3, 1) := by decide +kernel
theorem dX1_otherBallots_33 : decode cX1_otherBallots 33 = .ok (.aaload, 1) := by decide +kernel
theorem dX1_otherBallots_34 : decode cX1_otherBallots 34 = .ok (.if_acmp .eq 9, 3) := by decide +kernel
theorem dX1_otherBallots_37 : decode cX1_otherBallots 37 = .ok (.iload_n 2, 1) := by decide +kernel
theorem dX1_otherBallots_38 : decode cX1_otherBallots 38 = .ok (.iconst 1, 1) := by decide +kernel
theorem dX1_otherBallots_39 : decode cX1_otherBallots 39 = .ok (.iload_n 3, 1) := by decide +kernel
theorem dX1_otherBallots_40 : decode cX1_otherBallots 40 = .ok (.ishl, 1) := by decide +kernel
theorem dX1_otherBallots_41 : decode cX1_otherBallots 41 = .ok (.ior, 1) := by decide +kernel
theorem dX1_otherBallots_42 : decode cX1_otherBallots 42 = .ok (.istore_n 2, 1) := by decide +kernel
theorem dX1_otherBallots_43 : decode cX1_otherBallots 43 = .ok (.iinc 3 1, 3) := by decide +kernel
theorem dX1_otherBallots_46 : decode cX1_otherBallots 46 = .ok (.goto (-42), 3) := by decide +kernel
theorem dX1_otherBallots_49 : decode cX1_otherBallots 49 = .ok (.iload_n 2, 1) := by decide +kernel
theorem dX1_otherBallots_50 : decode cX1_otherBallots 50 = .ok (.ireturn, 1) := by decide +kernel
theorem dX2_init_0 : decode cX2_init 0 = .ok (.aload_n 0, 1) := by decide +kernel
theorem dX2_init_1 : decode cX2_init 1 = .ok (.invokespecial 3, 3) := by decide +kernel
theorem dX2_init_4 : decode cX2_init 4 = .ok (.aload_n 0, 1) := by decide +kernel
theorem dX2_init_5 : decode cX2_init 5 = .ok (.bipush 20, 2) := by decide +kernel
theorem dX2_init_7 : decode cX2_init 7 = .ok (.newarray .int, 2) := by decide +kernel
theorem dX2_init_9 : decode cX2_init 9 = .ok (.putfield 9, 3) := by decide +kernel
theorem dX2_init_12 : decode cX2_init 12 = .ok (.aload_n 0, 1) := by decide +kernel
theorem dX2_init_13 : decode cX2_init 13 = .ok (.bipush 20, 2) := by decide +kernel
theorem dX2_init_15 : decode cX2_init 15 = .ok (.newarray .int, 2) := by decide +kernel
theorem dX2_init_17 : decode cX2_init 17 = .ok (.putfield 15, 3) := by decide +kernel
theorem dX2_init_20 : decode cX2_init 20 = .ok (.aload_n 0, 1) := by decide +kernel
theorem dX2_init_21 : decode cX2_init 21 = .ok (.bipush 20, 2) := by decide +kernel
theorem dX2_init_23 : decode cX2_init 23 = .ok (.newarray .int, 2) := by decide +kernel
theorem dX2_init_25 : decode cX2_init 25 = .ok (.putfield 18, 3) := by decide +kernel
theorem dX2_init_28 : decode cX2_init 28 = .ok (.aload_n 0, 1) := by decide +kernel
theorem dX2_init_29 : decode cX2_init 29 = .ok (.bipush 20, 2) := by decide +kernel
theorem dX2_init_31 : decode cX2_init 31 = .ok (.newarray .int, 2) := by decide +kernel
theorem dX2_init_33 : decode cX2_init 33 = .ok (.putfield 21, 3) := by decide +kernel
theorem dX2_init_36 : decode cX2_init 36 = .ok (.return_, 1) := by decide +kernel
theorem dX2_tell_0 : decode cX2_tell 0 = .ok (.aload_n 0, 1) := by decide +kernel
theorem dX2_tell_1 : decode cX2_tell 1 = .ok (.getfield 24, 3) := by decide +kernel
theorem dX2_tell_4 : decode cX2_tell 4 = .ok (.bipush 20, 2) := by decide +kernel
theorem dX2_tell_6 : decode cX2_tell 6 = .ok (.if_icmp .lt 5, 3) := by decide +kernel
theorem dX2_tell_9 : decode cX2_tell 9 = .ok (.iconst (-1), 1) := by decide +kernel
theorem dX2_tell_10 : decode cX2_tell 10 = .ok (.ireturn, 1) := by decide +kernel
theorem dX2_tell_11 : decode cX2_tell 11 = .ok (.aload_n 0, 1) := by decide +kernel
theorem dX2_tell_12 : decode cX2_tell 12 = .ok (.getfield 9, 3) := by decide +kernel
theorem dX2_tell_15 : decode cX2_tell 15 = .ok (.aload_n 0, 1) := by decide +kernel
theorem dX2_tell_16 : decode cX2_tell 16 = .ok (.getfield 24, 3) := by decide +kernel
theorem dX2_tell_19 : decode cX2_tell 19 = .ok (.iload_n 1, 1) := by decide +kernel
theorem dX2_tell_20 : decode cX2_tell 20 = .ok (.invokestatic 28, 3) := by decide +kernel
theorem dX2_tell_23 : decode cX2_tell 23 = .ok (.aload_n 0, 1) := by decide +kernel
theorem dX2_tell_24 : decode cX2_tell 24 = .ok (.getfield 15, 3) := by decide +kernel
theorem dX2_tell_27 : decode cX2_tell 27 = .ok (.aload_n 0, 1) := by decide +kernel
theorem dX2_tell_28 : decode cX2_tell 28 = .ok (.getfield 24, 3) := by decide +kernel
theorem dX2_tell_31 : decode cX2_tell 31 = .ok (.iload_n 2, 1) := by decide +kernel
theorem dX2_tell_32 : decode cX2_tell 32 = .ok (.invokestatic 28, 3) := by decide +kernel
theorem dX2_tell_35 : decode cX2_tell 35 = .ok (.aload_n 0, 1) := by decide +kernel
theorem dX2_tell_36 : decode cX2_tell 36 = .ok (.getfield 18, 3) := by decide +kernel
theorem dX2_tell_39 : decode cX2_tell 39 = .ok (.aload_n 0, 1) := by decide +kernel
theorem dX2_tell_40 : decode cX2_tell 40 = .ok (.getfield 24, 3) := by decide +kernel
theorem dX2_tell_43 : decode cX2_tell 43 = .ok (.iload_n 3, 1) := by decide +kernel
theorem dX2_tell_44 : decode cX2_tell 44 = .ok (.invokestatic 28, 3) := by decide +kernel
theorem dX2_tell_47 : decode cX2_tell 47 = .ok (.aload_n 0, 1) := by decide +kernel
theorem dX2_tell_48 : decode cX2_tell 48 = .ok (.getfield 21, 3) := by decide +kernel
theorem dX2_tell_51 : decode cX2_tell 51 = .ok (.aload_n 0, 1) := by decide +kernel
theorem dX2_tell_52 : decode cX2_tell 52 = .ok (.getfield 24, 3) := by decide +kernel
theorem dX2_tell_55 : decode cX2_tell 55 = .ok (.iconst (-1), 1) := by decide +kernel
theorem dX2_tell_56 : decode cX2_tell 56 = .ok (.invokestatic 28, 3) := by decide +kernel
theorem dX2_tell_59 : decode cX2_tell 59 = .ok (.aload_n 0, 1) := by decide +kernel
theorem dX2_tell_60 : decode cX2_tell 60 = .ok (.dup, 1) := by decide +kernel
theorem dX2_tell_61 : decode cX2_tell 61 = .ok (.getfield 24, 3) := by decide +kernel
theorem dX2_tell_64 : decode cX2_tell 64 = .ok (.iconst 1, 1) := by decide +kernel
theorem dX2_tell_65 : decode cX2_tell 65 = .ok (.iadd, 1) := by decide +kernel
theorem dX2_tell_66 : decode cX2_tell 66 = .ok (.putfield 24, 3) := by decide +kernel
theorem dX2_tell_69 : decode cX2_tell 69 = .ok (.aload_n 0, 1) := by decide +kernel
theorem dX2_tell_70 : decode cX2_tell 70 = .ok (.getfield 24, 3) := by decide +kernel
theorem dX2_tell_73 : decode cX2_tell 73 = .ok (.iconst 1, 1) := by decide +kernel
theorem dX2_tell_74 : decode cX2_tell 74 = .ok (.isub, 1) := by decide +kernel
theorem dX2_tell_75 : decode cX2_tell 75 = .ok (.ireturn, 1) := by decide +kernel
theorem dX2_takeBack_0 : decode cX2_takeBack 0 = .ok (.iload_n 1, 1) := by decide +kernel
theorem dX2_takeBack_1 : decode cX2_takeBack 1 = .ok (.ifCond .lt 23, 3) := by decide +kernel
theorem dX2_takeBack_4 : decode cX2_takeBack 4 = .ok (.iload_n 1, 1) := by decide +kernel
theorem dX2_takeBack_5 : decode cX2_takeBack 5 = .ok (.aload_n 0, 1) := by decide +kernel
theorem dX2_takeBack_6 : decode cX2_takeBack 6 = .ok (.getfield 24, 3) := by decide +kernel
theorem dX2_takeBack_9 : decode cX2_takeBack 9 = .ok (.if_icmp .ge 15, 3) := by decide +kernel
theorem dX2_takeBack_12 : decode cX2_takeBack 12 = .ok (.aload_n 0, 1) := by decide +kernel
theorem dX2_takeBack_13 : decode cX2_takeBack 13 = .ok (.getfield 21, 3) := by decide +kernel
theorem dX2_takeBack_16 : decode cX2_takeBack 16 = .ok (.iload_n 1, 1) := by decide +kernel
theorem dX2_takeBack_17 : decode cX2_takeBack 17 = .ok (.invokestatic 32, 3) := by decide +kernel
theorem dX2_takeBack_20 : decode cX2_takeBack 20 = .ok (.iconst (-1), 1) := by decide +kernel
theorem dX2_takeBack_21 : decode cX2_takeBack 21 = .ok (.if_icmp .eq 5, 3) := by decide +kernel
theorem dX2_takeBack_24 : decode cX2_takeBack 24 = .ok (.iconst 0, 1) := by decide +kernel
theorem dX2_takeBack_25 : decode cX2_takeBack 25 = .ok (.ireturn, 1) := by decide +kernel
theorem dX2_takeBack_26 : decode cX2_takeBack 26 = .ok (.aload_n 0, 1) := by decide +kernel
theorem dX2_takeBack_27 : decode cX2_takeBack 27 = .ok (.getfield 21, 3) := by decide +kernel
theorem dX2_takeBack_30 : decode cX2_takeBack 30 = .ok (.iload_n 1, 1) := by decide +kernel
theorem dX2_takeBack_31 : decode cX2_takeBack 31 = .ok (.iload_n 2, 1) := by decide +kernel
theorem dX2_takeBack_32 : decode cX2_takeBack 32 = .ok (.invokestatic 28, 3) := by decide +kernel
theorem dX2_takeBack_35 : decode cX2_takeBack 35 = .ok (.iconst 1, 1) := by decide +kernel
theorem dX2_takeBack_36 : decode cX2_takeBack 36 = .ok (.ireturn, 1) := by decide +kernel
theorem dX2_become_0 : decode cX2_become 0 = .ok (.aload_n 0, 1) := by decide +kernel
theorem dX2_become_1 : decode cX2_become 1 = .ok (.aload_n 1, 1) := by decide +kernel
theorem dX2_become_2 : decode cX2_become 2 = .ok (.getfield 24, 3) := by decide +kernel
theorem dX2_become_5 : decode cX2_become 5 = .ok (.putfield 24, 3) := by decide +kernel
theorem dX2_become_8 : decode cX2_become 8 = .ok (.iconst 0, 1) := by decide +kernel
theorem dX2_become_9 : decode cX2_become 9 = .ok (.istore_n 2, 1) := by decide +kernel
theorem dX2_become_10 : decode cX2_become 10 = .ok (.iload_n 2, 1) := by decide +kernel
theorem dX2_become_11 : decode cX2_become 11 = .ok (.bipush 20, 2) := by decide +kernel
theorem dX2_become_13 : decode cX2_become 13 = .ok (.if_icmp .ge 73, 3) := by decide +kernel
theorem dX2_become_16 : decode cX2_become 16 = .ok (.aload_n 0, 1) := by decide +kernel
theorem dX2_become_17 : decode cX2_become 17 = .ok (.getfield 9, 3) := by decide +kernel
theorem dX2_become_20 : decode cX2_become 20 = .ok (.iload_n 2, 1) := by decide +kernel
theorem dX2_become_21 : decode cX2_become 21 = .ok (.aload_n 1, 1) := by decide +kernel
theorem dX2_become_22 : decode cX2_become 22 = .ok (.getfield 9, 3) := by decide +kernel
theorem dX2_become_25 : decode cX2_become 25 = .ok (.iload_n 2, 1) := by decide +kernel
theorem dX2_become_26 : decode cX2_become 26 = .ok (.invokestatic 32, 3) := by decide +kernel
theorem dX2_become_29 : decode cX2_become 29 = .ok (.invokestatic 28, 3) := by decide +kernel
theorem dX2_become_32 : decode cX2_become 32 = .ok (.aload_n 0, 1) := by decide +kernel
theorem dX2_become_33 : decode cX2_become 33 = .ok (.getfield 15, 3) := by decide +kernel
theorem dX2_become_36 : decode cX2_become 36 = .ok (.iload_n 2, 1) := by decide +kernel
theorem dX2_become_37 : decode cX2_become 37 = .ok (.aload_n 1, 1) := by decide +kernel
theorem dX2_become_38 : decode cX2_become 38 = .ok (.getfield 15, 3) := by decide +kernel
theorem dX2_become_41 : decode cX2_become 41 = .ok (.iload_n 2, 1) := by decide +kernel
theorem dX2_become_42 : decode cX2_become 42 = .ok (.invokestatic 32, 3) := by decide +kernel
theorem dX2_become_45 : decode cX2_become 45 = .ok (.invokestatic 28, 3) := by decide +kernel
theorem dX2_become_48 : decode cX2_become 48 = .ok (.aload_n 0, 1) := by decide +kernel
theorem dX2_become_49 : decode cX2_become 49 = .ok (.getfield 18, 3) := by decide +kernel
theorem dX2_become_52 : decode cX2_become 52 = .ok (.iload_n 2, 1) := by decide +kernel
theorem dX2_become_53 : decode cX2_become 53 = .ok (.aload_n 1, 1) := by decide +kernel
theorem dX2_become_54 : decode cX2_become 54 = .ok (.getfield 18, 3) := by decide +kernel
theorem dX2_become_57 : decode cX2_become 57 = .ok (.iload_n 2, 1) := by decide +kernel
theorem dX2_become_58 : decode cX2_become 58 = .ok (.invokestatic 32, 3) := by decide +kernel
theorem dX2_become_61 : decode cX2_become 61 = .ok (.invokestatic 28, 3) := by decide +kernel
theorem dX2_become_64 : decode cX2_become 64 = .ok (.aload_n 0, 1) := by decide +kernel
theorem dX2_become_65 : decode cX2_become 65 = .ok (.getfield 21, 3) := by decide +kernel
theorem dX2_become_68 : decode cX2_become 68 = .ok (.iload_n 2, 1) := by decide +kernel
theorem dX2_become_69 : decode cX2_become 69 = .ok (.aload_n 1, 1) := by decide +kernel
theorem dX2_become_70 : decode cX2_become 70 = .ok (.getfield 21, 3) := by decide +kernel
theorem dX2_become_73 : decode cX2_become 73 = .ok (.iload_n 2, 1) := by decide +kernel
theorem dX2_become_74 : decode cX2_become 74 = .ok (.invokestatic 32, 3) := by decide +kernel
theorem dX2_become_77 : decode cX2_become 77 = .ok (.invokestatic 28, 3) := by decide +kernel
theorem dX2_become_80 : decode cX2_become 80 = .ok (.iinc 2 1, 3) := by decide +kernel
theorem dX2_become_83 : decode cX2_become 83 = .ok (.goto (-73), 3) := by decide +kernel
theorem dX2_become_86 : decode cX2_become 86 = .ok (.return_, 1) := by decide +kernel
theorem dX2_countsAt_0 : decode cX2_countsAt 0 = .ok (.aload_n 0, 1) := by decide +kernel
theorem dX2_countsAt_1 : decode cX2_countsAt 1 = .ok (.getfield 21, 3) := by decide +kernel
theorem dX2_countsAt_4 : decode cX2_countsAt 4 = .ok (.iload_n 1, 1) := by decide +kernel
theorem dX2_countsAt_5 : decode cX2_countsAt 5 = .ok (.invokestatic 32, 3) := by decide +kernel
theorem dX2_countsAt_8 : decode cX2_countsAt 8 = .ok (.istore_n 3, 1) := by decide +kernel
theorem dX2_countsAt_9 : decode cX2_countsAt 9 = .ok (.aload_n 0, 1) := by decide +kernel
theorem dX2_countsAt_10 : decode cX2_countsAt 10 = .ok (.getfield 18, 3) := by decide +kernel
theorem dX2_countsAt_13 : decode cX2_countsAt 13 = .ok (.iload_n 1, 1) := by decide +kernel
theorem dX2_countsAt_14 : decode cX2_countsAt 14 = .ok (.invokestatic 32, 3) := by decide +kernel
theorem dX2_countsAt_17 : decode cX2_countsAt 17 = .ok (.iload_n 2, 1) := by decide +kernel
theorem dX2_countsAt_18 : decode cX2_countsAt 18 = .ok (.if_icmp .gt 17, 3) := by decide +kernel
theorem dX2_countsAt_21 : decode cX2_countsAt 21 = .ok (.iload_n 3, 1) := by decide +kernel
theorem dX2_countsAt_22 : decode cX2_countsAt 22 = .ok (.iconst (-1), 1) := by decide +kernel
theorem dX2_countsAt_23 : decode cX2_countsAt 23 = .ok (.if_icmp .eq 8, 3) := by decide +kernel
theorem dX2_countsAt_26 : decode cX2_countsAt 26 = .ok (.iload_n 3, 1) := by decide +kernel
theorem dX2_countsAt_27 : decode cX2_countsAt 27 = .ok (.iload_n 2, 1) := by decide +kernel
theorem dX2_countsAt_28 : decode cX2_countsAt 28 = .ok (.if_icmp .le 7, 3) := by decide +kernel
theorem dX2_countsAt_31 : decode cX2_countsAt 31 = .ok (.iconst 1, 1) := by decide +kernel
theorem dX2_countsAt_32 : decode cX2_countsAt 32 = .ok (.goto 4, 3) := by decide +kernel
theorem dX2_countsAt_35 : decode cX2_countsAt 35 = .ok (.iconst 0, 1) := by decide +kernel
theorem dX2_countsAt_36 : decode cX2_countsAt 36 = .ok (.ireturn, 1) := by decide +kernel
theorem dX2_gather_0 : decode cX2_gather 0 = .ok (.aload_n 0, 1) := by decide +kernel
theorem dX2_gather_1 : decode cX2_gather 1 = .ok (.iconst 0, 1) := by decide +kernel
theorem dX2_gather_2 : decode cX2_gather 2 = .ok (.putfield 36, 3) := by decide +kernel
theorem dX2_gather_5 : decode cX2_gather 5 = .ok (.aload_n 0, 1) := by decide +kernel
theorem dX2_gather_6 : decode cX2_gather 6 = .ok (.iconst 0, 1) := by decide +kernel
theorem dX2_gather_7 : decode cX2_gather 7 = .ok (.putfield 39, 3) := by decide +kernel
theorem dX2_gather_10 : decode cX2_gather 10 = .ok (.iconst 0, 1) := by decide +kernel
theorem dX2_gather_11 : decode cX2_gather 11 = .ok (.istore_n 3, 1) := by decide +kernel
theorem dX2_gather_12 : decode cX2_gather 12 = .ok (.iload_n 3, 1) := by decide +kernel
theorem dX2_gather_13 : decode cX2_gather 13 = .ok (.aload_n 0, 1) := by decide +kernel
theorem dX2_gather_14 : decode cX2_gather 14 = .ok (.getfield 24, 3) := by decide +kernel
theorem dX2_gather_17 : decode cX2_gather 17 = .ok (.if_icmp .ge 103, 3) := by decide +kernel
theorem dX2_gather_20 : decode cX2_gather 20 = .ok (.aload_n 0, 1) := by decide +kernel
theorem dX2_gather_21 : decode cX2_gather 21 = .ok (.iload_n 3, 1) := by decide +kernel
theorem dX2_gather_22 : decode cX2_gather 22 = .ok (.iload_n 1, 1) := by decide +kernel
theorem dX2_gather_23 : decode cX2_gather 23 = .ok (.invokevirtual 42, 3) := by decide +kernel
theorem dX2_gather_26 : decode cX2_gather 26 = .ok (.ifCond .eq 88, 3) := by decide +kernel
theorem dX2_gather_29 : decode cX2_gather 29 = .ok (.aload_n 2, 1) := by decide +kernel
theorem dX2_gather_30 : decode cX2_gather 30 = .ok (.iconst 1, 1) := by decide +kernel
theorem dX2_gather_31 : decode cX2_gather 31 = .ok (.aload_n 0, 1) := by decide +kernel
theorem dX2_gather_32 : decode cX2_gather 32 = .ok (.getfield 9, 3) := by decide +kernel
theorem dX2_gather_35 : decode cX2_gather 35 = .ok (.iload_n 3, 1) := by decide +kernel
theorem dX2_gather_36 : decode cX2_gather 36 = .ok (.invokestatic 32, 3) := by decide +kernel
theorem dX2_gather_39 : decode cX2_gather 39 = .ok (.ishl, 1) := by decide +kernel
theorem dX2_gather_40 : decode cX2_gather 40 = .ok (.invokevirtual 46, 3) := by decide +kernel
theorem dX2_gather_43 : decode cX2_gather 43 = .ok (.istore 4, 2) := by decide +kernel
theorem dX2_gather_45 : decode cX2_gather 45 = .ok (.aload_n 2, 1) := by decide +kernel
theorem dX2_gather_46 : decode cX2_gather 46 = .ok (.iconst 0, 1) := by decide +kernel
theorem dX2_gather_47 : decode cX2_gather 47 = .ok (.aload_n 0, 1) := by decide +kernel
theorem dX2_gather_48 : decode cX2_gather 48 = .ok (.getfield 9, 3) := by decide +kernel
theorem dX2_gather_51 : decode cX2_gather 51 = .ok (.iload_n 3, 1) := by decide +kernel
theorem dX2_gather_52 : decode cX2_gather 52 = .ok (.invokestatic 32, 3) := by decide +kernel
theorem dX2_gather_55 : decode cX2_gather 55 = .ok (.aload_n 0, 1) := by decide +kernel
theorem dX2_gather_56 : decode cX2_gather 56 = .ok (.getfield 15, 3) := by decide +kernel
theorem dX2_gather_59 : decode cX2_gather 59 = .ok (.iload_n 3, 1) := by decide +kernel
theorem dX2_gather_60 : decode cX2_gather 60 = .ok (.invokestatic 32, 3) := by decide +kernel
theorem dX2_gather_63 : decode cX2_gather 63 = .ok (.invokevirtual 52, 3) := by decide +kernel
theorem dX2_gather_66 : decode cX2_gather 66 = .ok (.istore 5, 2) := by decide +kernel
theorem dX2_gather_68 : decode cX2_gather 68 = .ok (.aload_n 0, 1) := by decide +kernel
theorem dX2_gather_69 : decode cX2_gather 69 = .ok (.getfield 36, 3) := by decide +kernel
theorem dX2_gather_72 : decode cX2_gather 72 = .ok (.iload 4, 2) := by decide +kernel
theorem dX2_gather_74 : decode cX2_gather 74 = .ok (.iand, 1) := by decide +kernel
theorem dX2_gather_75 : decode cX2_gather 75 = .ok (.ifCond .eq 17, 3) := by decide +kernel
theorem dX2_gather_78 : decode cX2_gather 78 = .ok (.aload_n 0, 1) := by decide +kernel
theorem dX2_gather_79 : decode cX2_gather 79 = .ok (.getfield 39, 3) := by decide +kernel
theorem dX2_gather_82 : decode cX2_gather 82 = .ok (.iload 4, 2) := by decide +kernel
theorem dX2_gather_84 : decode cX2_gather 84 = .ok (.iand, 1) := by decide +kernel
theorem dX2_gather_85 : decode cX2_gather 85 = .ok (.iload 5, 2) := by decide +kernel
theorem dX2_gather_87 : decode cX2_gather 87 = .ok (.if_icmp .eq 5, 3) := by decide +kernel
theorem dX2_gather_90 : decode cX2_gather 90 = .ok (.iconst 0, 1) := by decide +kernel
theorem dX2_gather_91 : decode cX2_gather 91 = .ok (.ireturn, 1) := by decide +kernel
theorem dX2_gather_92 : decode cX2_gather 92 = .ok (.aload_n 0, 1) := by decide +kernel
theorem dX2_gather_93 : decode cX2_gather 93 = .ok (.dup, 1) := by decide +kernel
theorem dX2_gather_94 : decode cX2_gather 94 = .ok (.getfield 36, 3) := by decide +kernel
theorem dX2_gather_97 : decode cX2_gather 97 = .ok (.iload 4, 2) := by decide +kernel
theorem dX2_gather_99 : decode cX2_gather 99 = .ok (.ior, 1) := by decide +kernel
theorem dX2_gather_100 : decode cX2_gather 100 = .ok (.putfield 36, 3) := by decide +kernel
theorem dX2_gather_103 : decode cX2_gather 103 = .ok (.aload_n 0, 1) := by decide +kernel
theorem dX2_gather_104 : decode cX2_gather 104 = .ok (.dup, 1) := by decide +kernel
theorem dX2_gather_105 : decode cX2_gather 105 = .ok (.getfield 39, 3) := by decide +kernel
theorem dX2_gather_108 : decode cX2_gather 108 = .ok (.iload 5, 2) := by decide +kernel
theorem dX2_gather_110 : decode cX2_gather 110 = .ok (.ior, 1) := by decide +kernel
theorem dX2_gather_111 : decode cX2_gather 111 = .ok (.putfield 39, 3) := by decide +kernel
theorem dX2_gather_114 : decode cX2_gather 114 = .ok (.iinc 3 1, 3) := by decide +kernel
theorem dX2_gather_117 : decode cX2_gather 117 = .ok (.goto (-105), 3) := by decide +kernel
theorem dX2_gather_120 : decode cX2_gather 120 = .ok (.iconst 1, 1) := by decide +kernel
theorem dX2_gather_121 : decode cX2_gather 121 = .ok (.ireturn, 1) := by decide +kernel
theorem dX2_agreeWith_0 : decode cX2_agreeWith 0 = .ok (.iload_n 1, 1) := by decide +kernel
theorem dX2_agreeWith_1 : decode cX2_agreeWith 1 = .ok (.aload_n 0, 1) := by decide +kernel
theorem dX2_agreeWith_2 : decode cX2_agreeWith 2 = .ok (.getfield 36, 3) := by decide +kernel
theorem dX2_agreeWith_5 : decode cX2_agreeWith 5 = .ok (.iand, 1) := by decide +kernel
theorem dX2_agreeWith_6 : decode cX2_agreeWith 6 = .ok (.aload_n 0, 1) := by decide +kernel
theorem dX2_agreeWith_7 : decode cX2_agreeWith 7 = .ok (.getfield 39, 3) := by decide +kernel
theorem dX2_agreeWith_10 : decode cX2_agreeWith 10 = .ok (.if_icmp .ne 7, 3) := by decide +kernel
theorem dX2_agreeWith_13 : decode cX2_agreeWith 13 = .ok (.iconst 1, 1) := by decide +kernel
theorem dX2_agreeWith_14 : decode cX2_agreeWith 14 = .ok (.goto 4, 3) := by decide +kernel
theorem dX2_agreeWith_17 : decode cX2_agreeWith 17 = .ok (.iconst 0, 1) := by decide +kernel
theorem dX2_agreeWith_18 : decode cX2_agreeWith 18 = .ok (.ireturn, 1) := by decide +kernel
theorem dX3_init_0 : decode cX3_init 0 = .ok (.aload_n 0, 1) := by decide +kernel
theorem dX3_init_1 : decode cX3_init 1 = .ok (.invokespecial 3, 3) := by decide +kernel
theorem dX3_init_4 : decode cX3_init 4 = .ok (.aload_n 0, 1) := by decide +kernel
theorem dX3_init_5 : decode cX3_init 5 = .ok (.bipush 8, 2) := by decide +kernel
theorem dX3_init_7 : decode cX3_init 7 = .ok (.newarray .int, 2) := by decide +kernel
theorem dX3_init_9 : decode cX3_init 9 = .ok (.putfield 9, 3) := by decide +kernel
theorem dX3_init_12 : decode cX3_init 12 = .ok (.return_, 1) := by decide +kernel
theorem dX3_take_0 : decode cX3_take 0 = .ok (.aload_n 0, 1) := by decide +kernel
theorem dX3_take_1 : decode cX3_take 1 = .ok (.iload_n 2, 1) := by decide +kernel
theorem dX3_take_2 : decode cX3_take 2 = .ok (.putfield 15, 3) := by decide +kernel
theorem dX3_take_5 : decode cX3_take 5 = .ok (.iload_n 1, 1) := by decide +kernel
theorem dX3_take_6 : decode cX3_take 6 = .ok (.istore_n 3, 1) := by decide +kernel
theorem dX3_take_7 : decode cX3_take 7 = .ok (.iconst 0, 1) := by decide +kernel
theorem dX3_take_8 : decode cX3_take 8 = .ok (.istore 4, 2) := by decide +kernel
theorem dX3_take_10 : decode cX3_take 10 = .ok (.iload_n 2, 1) := by decide +kernel
theorem dX3_take_11 : decode cX3_take 11 = .ok (.iconst 1, 1) := by decide +kernel
theorem dX3_take_12 : decode cX3_take 12 = .ok (.isub, 1) := by decide +kernel
theorem dX3_take_13 : decode cX3_take 13 = .ok (.istore 5, 2) := by decide +kernel
theorem dX3_take_15 : decode cX3_take 15 = .ok (.iload 5, 2) := by decide +kernel
theorem dX3_take_17 : decode cX3_take 17 = .ok (.ifCond .lt 55, 3) := by decide +kernel
theorem dX3_take_20 : decode cX3_take 20 = .ok (.iload_n 3, 1) := by decide +kernel
theorem dX3_take_21 : decode cX3_take 21 = .ok (.bipush 10, 2) := by decide +kernel
theorem dX3_take_23 : decode cX3_take 23 = .ok (.irem, 1) := by decide +kernel
theorem dX3_take_24 : decode cX3_take 24 = .ok (.iconst 1, 1) := by decide +kernel
theorem dX3_take_25 : decode cX3_take 25 = .ok (.isub, 1) := by decide +kernel
theorem dX3_take_26 : decode cX3_take 26 = .ok (.istore 6, 2) := by decide +kernel
theorem dX3_take_28 : decode cX3_take 28 = .ok (.iload_n 3, 1) := by decide +kernel
theorem dX3_take_29 : decode cX3_take 29 = .ok (.bipush 10, 2) := by decide +kernel
theorem dX3_take_31 : decode cX3_take 31 = .ok (.idiv, 1) := by decide +kernel
theorem dX3_take_32 : decode cX3_take 32 = .ok (.istore_n 3, 1) := by decide +kernel
theorem dX3_take_33 : decode cX3_take 33 = .ok (.iload 6, 2) := by decide +kernel
theorem dX3_take_35 : decode cX3_take 35 = .ok (.ifCond .lt 9, 3) := by decide +kernel
theorem dX3_take_38 : decode cX3_take 38 = .ok (.iload 6, 2) := by decide +kernel
theorem dX3_take_40 : decode cX3_take 40 = .ok (.iload_n 2, 1) := by decide +kernel
theorem dX3_take_41 : decode cX3_take 41 = .ok (.if_icmp .lt 5, 3) := by decide +kernel
theorem dX3_take_44 : decode cX3_take 44 = .ok (.iconst 0, 1) := by decide +kernel
theorem dX3_take_45 : decode cX3_take 45 = .ok (.ireturn, 1) := by decide +kernel
theorem dX3_take_46 : decode cX3_take 46 = .ok (.iload 4, 2) := by decide +kernel
theorem dX3_take_48 : decode cX3_take 48 = .ok (.iconst 1, 1) := by decide +kernel
theorem dX3_take_49 : decode cX3_take 49 = .ok (.iload 6, 2) := by decide +kernel
theorem dX3_take_51 : decode cX3_take 51 = .ok (.ishl, 1) := by decide +kernel
theorem dX3_take_52 : decode cX3_take 52 = .ok (.ior, 1) := by decide +kernel
theorem dX3_take_53 : decode cX3_take 53 = .ok (.istore 4, 2) := by decide +kernel
theorem dX3_take_55 : decode cX3_take 55 = .ok (.aload_n 0, 1) := by decide +kernel
theorem dX3_take_56 : decode cX3_take 56 = .ok (.getfield 9, 3) := by decide +kernel
theorem dX3_take_59 : decode cX3_take 59 = .ok (.iload 5, 2) := by decide +kernel
theorem dX3_take_61 : decode cX3_take 61 = .ok (.iload 6, 2) := by decide +kernel
theorem dX3_take_63 : decode cX3_take 63 = .ok (.invokestatic 19, 3) := by decide +kernel
theorem dX3_take_66 : decode cX3_take 66 = .ok (.iinc 5 (-1), 3) := by decide +kernel
theorem dX3_take_69 : decode cX3_take 69 = .ok (.goto (-54), 3) := by decide +kernel
theorem dX3_take_72 : decode cX3_take 72 = .ok (.iload_n 3, 1) := by decide +kernel
theorem dX3_take_73 : decode cX3_take 73 = .ok (.ifCond .ne 17, 3) := by decide +kernel
theorem dX3_take_76 : decode cX3_take 76 = .ok (.iload 4, 2) := by decide +kernel
theorem dX3_take_78 : decode cX3_take 78 = .ok (.iconst 1, 1) := by decide +kernel
theorem dX3_take_79 : decode cX3_take 79 = .ok (.iload_n 2, 1) := by decide +kernel
theorem dX3_take_80 : decode cX3_take 80 = .ok (.ishl, 1) := by decide +kernel
theorem dX3_take_81 : decode cX3_take 81 = .ok (.iconst 1, 1) := by decide +kernel
theorem dX3_take_82 : decode cX3_take 82 = .ok (.isub, 1) := by decide +kernel
theorem dX3_take_83 : decode cX3_take 83 = .ok (.if_icmp .ne 7, 3) := by decide +kernel
theorem dX3_take_86 : decode cX3_take 86 = .ok (.iconst 1, 1) := by decide +kernel
theorem dX3_take_87 : decode cX3_take 87 = .ok (.goto 4, 3) := by decide +kernel
theorem dX3_take_90 : decode cX3_take 90 = .ok (.iconst 0, 1) := by decide +kernel
theorem dX3_take_91 : decode cX3_take 91 = .ok (.ireturn, 1) := by decide +kernel
theorem dX3_roundsToRest_0 : decode cX3_roundsToRest 0 = .ok (.iconst 0, 1) := by decide +kernel
theorem dX3_roundsToRest_1 : decode cX3_roundsToRest 1 = .ok (.istore_n 3, 1) := by decide +kernel
theorem dX3_roundsToRest_2 : decode cX3_roundsToRest 2 = .ok (.iconst (-1), 1) := by decide +kernel
theorem dX3_roundsToRest_3 : decode cX3_roundsToRest 3 = .ok (.istore 4, 2) := by decide +kernel
theorem dX3_roundsToRest_5 : decode cX3_roundsToRest 5 = .ok (.iconst 0, 1) := by decide +kernel
theorem dX3_roundsToRest_6 : decode cX3_roundsToRest 6 = .ok (.istore 5, 2) := by decide +kernel
theorem dX3_roundsToRest_8 : decode cX3_roundsToRest 8 = .ok (.iload 5, 2) := by decide +kernel
theorem dX3_roundsToRest_10 : decode cX3_roundsToRest 10 = .ok (.iload_n 2, 1) := by decide +kernel
theorem dX3_roundsToRest_11 : decode cX3_roundsToRest 11 = .ok (.if_icmp .gt 97, 3) := by decide +kernel
theorem dX3_roundsToRest_14 : decode cX3_roundsToRest 14 = .ok (.iload_n 3, 1) := by decide +kernel
theorem dX3_roundsToRest_15 : decode cX3_roundsToRest 15 = .ok (.istore 6, 2) := by decide +kernel
theorem dX3_roundsToRest_17 : decode cX3_roundsToRest 17 = .ok (.iconst 0, 1) := by decide +kernel
theorem dX3_roundsToRest_18 : decode cX3_roundsToRest 18 = .ok (.istore 7, 2) := by decide +kernel
theorem dX3_roundsToRest_20 : decode cX3_roundsToRest 20 = .ok (.iload 7, 2) := by decide +kernel
theorem dX3_roundsToRest_22 : decode cX3_roundsToRest 22 = .ok (.aload_n 0, 1) := by decide +kernel
theorem dX3_roundsToRest_23 : decode cX3_roundsToRest 23 = .ok (.getfield 15, 3) := by decide +kernel
theorem dX3_roundsToRest_26 : decode cX3_roundsToRest 26 = .ok (.if_icmp .ge 47, 3) := by decide +kernel
theorem dX3_roundsToRest_29 : decode cX3_roundsToRest 29 = .ok (.iconst 3, 1) := by decide +kernel
theorem dX3_roundsToRest_30 : decode cX3_roundsToRest 30 = .ok (.iconst 2, 1) := by decide +kernel
theorem dX3_roundsToRest_31 : decode cX3_roundsToRest 31 = .ok (.aload_n 0, 1) := by decide +kernel
theorem dX3_roundsToRest_32 : decode cX3_roundsToRest 32 = .ok (.getfield 15, 3) := by decide +kernel
theorem dX3_roundsToRest_35 : decode cX3_roundsToRest 35 = .ok (.iconst 1, 1) := by decide +kernel
theorem dX3_roundsToRest_36 : decode cX3_roundsToRest 36 = .ok (.isub, 1) := by decide +kernel
theorem dX3_roundsToRest_37 : decode cX3_roundsToRest 37 = .ok (.aload_n 0, 1) := by decide +kernel
theorem dX3_roundsToRest_38 : decode cX3_roundsToRest 38 = .ok (.getfield 9, 3) := by decide +kernel
theorem dX3_roundsToRest_41 : decode cX3_roundsToRest 41 = .ok (.iload 7, 2) := by decide +kernel
theorem dX3_roundsToRest_43 : decode cX3_roundsToRest 43 = .ok (.invokestatic 23, 3) := by decide +kernel
theorem dX3_roundsToRest_46 : decode cX3_roundsToRest 46 = .ok (.isub, 1) := by decide +kernel
theorem dX3_roundsToRest_47 : decode cX3_roundsToRest 47 = .ok (.imul, 1) := by decide +kernel
theorem dX3_roundsToRest_48 : decode cX3_roundsToRest 48 = .ok (.ishl, 1) := by decide +kernel
theorem dX3_roundsToRest_49 : decode cX3_roundsToRest 49 = .ok (.istore 8, 2) := by decide +kernel
theorem dX3_roundsToRest_51 : decode cX3_roundsToRest 51 = .ok (.iload_n 3, 1) := by decide +kernel
theorem dX3_roundsToRest_52 : decode cX3_roundsToRest 52 = .ok (.iload 8, 2) := by decide +kernel
theorem dX3_roundsToRest_54 : decode cX3_roundsToRest 54 = .ok (.iconst (-1), 1) := by decide +kernel
theorem dX3_roundsToRest_55 : decode cX3_roundsToRest 55 = .ok (.ixor, 1) := by decide +kernel
theorem dX3_roundsToRest_56 : decode cX3_roundsToRest 56 = .ok (.iand, 1) := by decide +kernel
theorem dX3_roundsToRest_57 : decode cX3_roundsToRest 57 = .ok (.aload_n 1, 1) := by decide +kernel
theorem dX3_roundsToRest_58 : decode cX3_roundsToRest 58 = .ok (.iload_n 3, 1) := by decide +kernel
theorem dX3_roundsToRest_59 : decode cX3_roundsToRest 59 = .ok (.invokestatic 23, 3) := by decide +kernel
theorem dX3_roundsToRest_62 : decode cX3_roundsToRest 62 = .ok (.iload 8, 2) := by decide +kernel
theorem dX3_roundsToRest_64 : decode cX3_roundsToRest 64 = .ok (.iand, 1) := by decide +kernel
theorem dX3_roundsToRest_65 : decode cX3_roundsToRest 65 = .ok (.ior, 1) := by decide +kernel
theorem dX3_roundsToRest_66 : decode cX3_roundsToRest 66 = .ok (.istore_n 3, 1) := by decide +kernel
theorem dX3_roundsToRest_67 : decode cX3_roundsToRest 67 = .ok (.iinc 7 1, 3) := by decide +kernel
theorem dX3_roundsToRest_70 : decode cX3_roundsToRest 70 = .ok (.goto (-50), 3) := by decide +kernel
theorem dX3_roundsToRest_73 : decode cX3_roundsToRest 73 = .ok (.iload_n 3, 1) := by decide +kernel
theorem dX3_roundsToRest_74 : decode cX3_roundsToRest 74 = .ok (.iload 6, 2) := by decide +kernel
theorem dX3_roundsToRest_76 : decode cX3_roundsToRest 76 = .ok (.if_icmp .ne 6, 3) := by decide +kernel
theorem dX3_roundsToRest_79 : decode cX3_roundsToRest 79 = .ok (.iload 5, 2) := by decide +kernel
theorem dX3_roundsToRest_81 : decode cX3_roundsToRest 81 = .ok (.ireturn, 1) := by decide +kernel
theorem dX3_roundsToRest_82 : decode cX3_roundsToRest 82 = .ok (.iload_n 3, 1) := by decide +kernel
theorem dX3_roundsToRest_83 : decode cX3_roundsToRest 83 = .ok (.iload 4, 2) := by decide +kernel
theorem dX3_roundsToRest_85 : decode cX3_roundsToRest 85 = .ok (.if_icmp .ne 5, 3) := by decide +kernel
theorem dX3_roundsToRest_88 : decode cX3_roundsToRest 88 = .ok (.iconst (-1), 1) := by decide +kernel
theorem dX3_roundsToRest_89 : decode cX3_roundsToRest 89 = .ok (.ireturn, 1) := by decide +kernel
theorem dX3_roundsToRest_90 : decode cX3_roundsToRest 90 = .ok (.iload 5, 2) := by decide +kernel
theorem dX3_roundsToRest_92 : decode cX3_roundsToRest 92 = .ok (.invokestatic 27, 3) := by decide +kernel
theorem dX3_roundsToRest_95 : decode cX3_roundsToRest 95 = .ok (.iconst 1, 1) := by decide +kernel
theorem dX3_roundsToRest_96 : decode cX3_roundsToRest 96 = .ok (.if_icmp .gt 6, 3) := by decide +kernel
theorem dX3_roundsToRest_99 : decode cX3_roundsToRest 99 = .ok (.iload_n 3, 1) := by decide +kernel
theorem dX3_roundsToRest_100 : decode cX3_roundsToRest 100 = .ok (.istore 4, 2) := by decide +kernel
theorem dX3_roundsToRest_102 : decode cX3_roundsToRest 102 = .ok (.iinc 5 1, 3) := by decide +kernel
theorem dX3_roundsToRest_105 : decode cX3_roundsToRest 105 = .ok (.goto (-97), 3) := by decide +kernel
theorem dX3_roundsToRest_108 : decode cX3_roundsToRest 108 = .ok (.iconst (-1), 1) := by decide +kernel
theorem dX3_roundsToRest_109 : decode cX3_roundsToRest 109 = .ok (.ireturn, 1) := by decide +kernel
theorem dX3_search_0 : decode cX3_search 0 = .ok (.aload_n 0, 1) := by decide +kernel
theorem dX3_search_1 : decode cX3_search 1 = .ok (.iload_n 2, 1) := by decide +kernel
theorem dX3_search_2 : decode cX3_search 2 = .ok (.putfield 15, 3) := by decide +kernel
theorem dX3_search_5 : decode cX3_search 5 = .ok (.aload_n 0, 1) := by decide +kernel
theorem dX3_search_6 : decode cX3_search 6 = .ok (.iconst (-1), 1) := by decide +kernel
theorem dX3_search_7 : decode cX3_search 7 = .ok (.putfield 33, 3) := by decide +kernel
theorem dX3_search_10 : decode cX3_search 10 = .ok (.aload_n 0, 1) := by decide +kernel
theorem dX3_search_11 : decode cX3_search 11 = .ok (.iconst (-1), 1) := by decide +kernel
theorem dX3_search_12 : decode cX3_search 12 = .ok (.putfield 36, 3) := by decide +kernel
theorem dX3_search_15 : decode cX3_search 15 = .ok (.iconst 1, 1) := by decide +kernel
theorem dX3_search_16 : decode cX3_search 16 = .ok (.istore_n 3, 1) := by decide +kernel
theorem dX3_search_17 : decode cX3_search 17 = .ok (.iconst 0, 1) := by decide +kernel
theorem dX3_search_18 : decode cX3_search 18 = .ok (.istore 4, 2) := by decide +kernel
theorem dX3_search_20 : decode cX3_search 20 = .ok (.iload 4, 2) := by decide +kernel
theorem dX3_search_22 : decode cX3_search 22 = .ok (.iload_n 2, 1) := by decide +kernel
theorem dX3_search_23 : decode cX3_search 23 = .ok (.if_icmp .ge 27, 3) := by decide +kernel
theorem dX3_search_26 : decode cX3_search 26 = .ok (.aload_n 0, 1) := by decide +kernel
theorem dX3_search_27 : decode cX3_search 27 = .ok (.getfield 9, 3) := by decide +kernel
theorem dX3_search_30 : decode cX3_search 30 = .ok (.iload 4, 2) := by decide +kernel
theorem dX3_search_32 : decode cX3_search 32 = .ok (.iload 4, 2) := by decide +kernel
theorem dX3_search_34 : decode cX3_search 34 = .ok (.invokestatic 19, 3) := by decide +kernel
theorem dX3_search_37 : decode cX3_search 37 = .ok (.iload_n 3, 1) := by decide +kernel
theorem dX3_search_38 : decode cX3_search 38 = .ok (.iload 4, 2) := by decide +kernel
theorem dX3_search_40 : decode cX3_search 40 = .ok (.iconst 1, 1) := by decide +kernel
theorem dX3_search_41 : decode cX3_search 41 = .ok (.iadd, 1) := by decide +kernel
theorem dX3_search_42 : decode cX3_search 42 = .ok (.imul, 1) := by decide +kernel
theorem dX3_search_43 : decode cX3_search 43 = .ok (.istore_n 3, 1) := by decide +kernel
theorem dX3_search_44 : decode cX3_search 44 = .ok (.iinc 4 1, 3) := by decide +kernel
theorem dX3_search_47 : decode cX3_search 47 = .ok (.goto (-27), 3) := by decide +kernel
theorem dX3_search_50 : decode cX3_search 50 = .ok (.iconst 0, 1) := by decide +kernel
theorem dX3_search_51 : decode cX3_search 51 = .ok (.istore 4, 2) := by decide +kernel
theorem dX3_search_53 : decode cX3_search 53 = .ok (.iload 4, 2) := by decide +kernel
theorem dX3_search_55 : decode cX3_search 55 = .ok (.iload_n 3, 1) := by decide +kernel
theorem dX3_search_56 : decode cX3_search 56 = .ok (.if_icmp .ge 70, 3) := by decide +kernel
theorem dX3_search_59 : decode cX3_search 59 = .ok (.aload_n 0, 1) := by decide +kernel
theorem dX3_search_60 : decode cX3_search 60 = .ok (.getfield 33, 3) := by decide +kernel
theorem dX3_search_63 : decode cX3_search 63 = .ok (.ifCond .eq 63, 3) := by decide +kernel
theorem dX3_search_66 : decode cX3_search 66 = .ok (.aload_n 0, 1) := by decide +kernel
theorem dX3_search_67 : decode cX3_search 67 = .ok (.getfield 33, 3) := by decide +kernel
theorem dX3_search_70 : decode cX3_search 70 = .ok (.iconst (-1), 1) := by decide +kernel
theorem dX3_search_71 : decode cX3_search 71 = .ok (.if_icmp .ne 8, 3) := by decide +kernel
theorem dX3_search_74 : decode cX3_search 74 = .ok (.bipush 40, 2) := by decide +kernel
theorem dX3_search_76 : decode cX3_search 76 = .ok (.goto 9, 3) := by decide +kernel
theorem dX3_search_79 : decode cX3_search 79 = .ok (.aload_n 0, 1) := by decide +kernel
theorem dX3_search_80 : decode cX3_search 80 = .ok (.getfield 33, 3) := by decide +kernel
theorem dX3_search_83 : decode cX3_search 83 = .ok (.iconst 1, 1) := by decide +kernel
theorem dX3_search_84 : decode cX3_search 84 = .ok (.isub, 1) := by decide +kernel
theorem dX3_search_85 : decode cX3_search 85 = .ok (.istore 5, 2) := by decide +kernel
theorem dX3_search_87 : decode cX3_search 87 = .ok (.aload_n 0, 1) := by decide +kernel
theorem dX3_search_88 : decode cX3_search 88 = .ok (.aload_n 1, 1) := by decide +kernel
theorem dX3_search_89 : decode cX3_search 89 = .ok (.iload 5, 2) := by decide +kernel
theorem dX3_search_91 : decode cX3_search 91 = .ok (.invokevirtual 39, 3) := by decide +kernel
theorem dX3_search_94 : decode cX3_search 94 = .ok (.istore 6, 2) := by decide +kernel
theorem dX3_search_96 : decode cX3_search 96 = .ok (.iload 6, 2) := by decide +kernel
theorem dX3_search_98 : decode cX3_search 98 = .ok (.iconst (-1), 1) := by decide +kernel
theorem dX3_search_99 : decode cX3_search 99 = .ok (.if_icmp .eq 17, 3) := by decide +kernel
theorem dX3_search_102 : decode cX3_search 102 = .ok (.aload_n 0, 1) := by decide +kernel
theorem dX3_search_103 : decode cX3_search 103 = .ok (.iload 6, 2) := by decide +kernel
theorem dX3_search_105 : decode cX3_search 105 = .ok (.putfield 33, 3) := by decide +kernel
theorem dX3_search_108 : decode cX3_search 108 = .ok (.aload_n 0, 1) := by decide +kernel
theorem dX3_search_109 : decode cX3_search 109 = .ok (.aload_n 0, 1) := by decide +kernel
theorem dX3_search_110 : decode cX3_search 110 = .ok (.invokevirtual 42, 3) := by decide +kernel
theorem dX3_search_113 : decode cX3_search 113 = .ok (.putfield 36, 3) := by decide +kernel
theorem dX3_search_116 : decode cX3_search 116 = .ok (.aload_n 0, 1) := by decide +kernel
theorem dX3_search_117 : decode cX3_search 117 = .ok (.invokevirtual 46, 3) := by decide +kernel
theorem dX3_search_120 : decode cX3_search 120 = .ok (.iinc 4 1, 3) := by decide +kernel
theorem dX3_search_123 : decode cX3_search 123 = .ok (.goto (-70), 3) := by decide +kernel
theorem dX3_search_126 : decode cX3_search 126 = .ok (.aload_n 0, 1) := by decide +kernel
theorem dX3_search_127 : decode cX3_search 127 = .ok (.iconst 1, 1) := by decide +kernel
theorem dX3_search_128 : decode cX3_search 128 = .ok (.putfield 49, 3) := by decide +kernel
theorem dX3_search_131 : decode cX3_search 131 = .ok (.return_, 1) := by decide +kernel
theorem dX3_digits_0 : decode cX3_digits 0 = .ok (.iconst 0, 1) := by decide +kernel
theorem dX3_digits_1 : decode cX3_digits 1 = .ok (.istore_n 1, 1) := by decide +kernel
theorem dX3_digits_2 : decode cX3_digits 2 = .ok (.iconst 0, 1) := by decide +kernel
theorem dX3_digits_3 : decode cX3_digits 3 = .ok (.istore_n 2, 1) := by decide +kernel
theorem dX3_digits_4 : decode cX3_digits 4 = .ok (.iload_n 2, 1) := by decide +kernel
theorem dX3_digits_5 : decode cX3_digits 5 = .ok (.aload_n 0, 1) := by decide +kernel
theorem dX3_digits_6 : decode cX3_digits 6 = .ok (.getfield 15, 3) := by decide +kernel
theorem dX3_digits_9 : decode cX3_digits 9 = .ok (.if_icmp .ge 25, 3) := by decide +kernel
theorem dX3_digits_12 : decode cX3_digits 12 = .ok (.iload_n 1, 1) := by decide +kernel
theorem dX3_digits_13 : decode cX3_digits 13 = .ok (.bipush 10, 2) := by decide +kernel
theorem dX3_digits_15 : decode cX3_digits 15 = .ok (.imul, 1) := by decide +kernel
theorem dX3_digits_16 : decode cX3_digits 16 = .ok (.aload_n 0, 1) := by decide +kernel
theorem dX3_digits_17 : decode cX3_digits 17 = .ok (.getfield 9, 3) := by decide +kernel
theorem dX3_digits_20 : decode cX3_digits 20 = .ok (.iload_n 2, 1) := by decide +kernel
theorem dX3_digits_21 : decode cX3_digits 21 = .ok (.invokestatic 23, 3) := by decide +kernel
theorem dX3_digits_24 : decode cX3_digits 24 = .ok (.iadd, 1) := by decide +kernel
theorem dX3_digits_25 : decode cX3_digits 25 = .ok (.iconst 1, 1) := by decide +kernel
theorem dX3_digits_26 : decode cX3_digits 26 = .ok (.iadd, 1) := by decide +kernel
theorem dX3_digits_27 : decode cX3_digits 27 = .ok (.istore_n 1, 1) := by decide +kernel
theorem dX3_digits_28 : decode cX3_digits 28 = .ok (.iinc 2 1, 3) := by decide +kernel
theorem dX3_digits_31 : decode cX3_digits 31 = .ok (.goto (-27), 3) := by decide +kernel
theorem dX3_digits_34 : decode cX3_digits 34 = .ok (.iload_n 1, 1) := by decide +kernel
theorem dX3_digits_35 : decode cX3_digits 35 = .ok (.ireturn, 1) := by decide +kernel
theorem dX3_goOn_0 : decode cX3_goOn 0 = .ok (.aload_n 0, 1) := by decide +kernel
theorem dX3_goOn_1 : decode cX3_goOn 1 = .ok (.getfield 15, 3) := by decide +kernel
theorem dX3_goOn_4 : decode cX3_goOn 4 = .ok (.iconst 2, 1) := by decide +kernel
theorem dX3_goOn_5 : decode cX3_goOn 5 = .ok (.isub, 1) := by decide +kernel
theorem dX3_goOn_6 : decode cX3_goOn 6 = .ok (.istore_n 1, 1) := by decide +kernel
theorem dX3_goOn_7 : decode cX3_goOn 7 = .ok (.iload_n 1, 1) := by decide +kernel
theorem dX3_goOn_8 : decode cX3_goOn 8 = .ok (.ifCond .lt 30, 3) := by decide +kernel
theorem dX3_goOn_11 : decode cX3_goOn 11 = .ok (.aload_n 0, 1) := by decide +kernel
theorem dX3_goOn_12 : decode cX3_goOn 12 = .ok (.getfield 9, 3) := by decide +kernel
theorem dX3_goOn_15 : decode cX3_goOn 15 = .ok (.iload_n 1, 1) := by decide +kernel
theorem dX3_goOn_16 : decode cX3_goOn 16 = .ok (.invokestatic 23, 3) := by decide +kernel
theorem dX3_goOn_19 : decode cX3_goOn 19 = .ok (.aload_n 0, 1) := by decide +kernel
theorem dX3_goOn_20 : decode cX3_goOn 20 = .ok (.getfield 9, 3) := by decide +kernel
theorem dX3_goOn_23 : decode cX3_goOn 23 = .ok (.iload_n 1, 1) := by decide +kernel
theorem dX3_goOn_24 : decode cX3_goOn 24 = .ok (.iconst 1, 1) := by decide +kernel
theorem dX3_goOn_25 : decode cX3_goOn 25 = .ok (.iadd, 1) := by decide +kernel
theorem dX3_goOn_26 : decode cX3_goOn 26 = .ok (.invokestatic 23, 3) := by decide +kernel
theorem dX3_goOn_29 : decode cX3_goOn 29 = .ok (.if_icmp .le 9, 3) := by decide +kernel
theorem dX3_goOn_32 : decode cX3_goOn 32 = .ok (.iinc 1 (-1), 3) := by decide +kernel
theorem dX3_goOn_35 : decode cX3_goOn 35 = .ok (.goto (-28), 3) := by decide +kernel
theorem dX3_goOn_38 : decode cX3_goOn 38 = .ok (.iload_n 1, 1) := by decide +kernel
theorem dX3_goOn_39 : decode cX3_goOn 39 = .ok (.ifCond .ge 4, 3) := by decide +kernel
theorem dX3_goOn_42 : decode cX3_goOn 42 = .ok (.return_, 1) := by decide +kernel
theorem dX3_goOn_43 : decode cX3_goOn 43 = .ok (.aload_n 0, 1) := by decide +kernel
theorem dX3_goOn_44 : decode cX3_goOn 44 = .ok (.getfield 15, 3) := by decide +kernel
theorem dX3_goOn_47 : decode cX3_goOn 47 = .ok (.iconst 1, 1) := by decide +kernel
theorem dX3_goOn_48 : decode cX3_goOn 48 = .ok (.isub, 1) := by decide +kernel
theorem dX3_goOn_49 : decode cX3_goOn 49 = .ok (.istore_n 2, 1) := by decide +kernel
theorem dX3_goOn_50 : decode cX3_goOn 50 = .ok (.iload_n 2, 1) := by decide +kernel
theorem dX3_goOn_51 : decode cX3_goOn 51 = .ok (.iload_n 1, 1) := by decide +kernel
theorem dX3_goOn_52 : decode cX3_goOn 52 = .ok (.if_icmp .le 28, 3) := by decide +kernel
theorem dX3_goOn_55 : decode cX3_goOn 55 = .ok (.aload_n 0, 1) := by decide +kernel
theorem dX3_goOn_56 : decode cX3_goOn 56 = .ok (.getfield 9, 3) := by decide +kernel
theorem dX3_goOn_59 : decode cX3_goOn 59 = .ok (.iload_n 2, 1) := by decide +kernel
theorem dX3_goOn_60 : decode cX3_goOn 60 = .ok (.invokestatic 23, 3) := by decide +kernel
theorem dX3_goOn_63 : decode cX3_goOn 63 = .ok (.aload_n 0, 1) := by decide +kernel
theorem dX3_goOn_64 : decode cX3_goOn 64 = .ok (.getfield 9, 3) := by decide +kernel
theorem dX3_goOn_67 : decode cX3_goOn 67 = .ok (.iload_n 1, 1) := by decide +kernel
theorem dX3_goOn_68 : decode cX3_goOn 68 = .ok (.invokestatic 23, 3) := by decide +kernel
theorem dX3_goOn_71 : decode cX3_goOn 71 = .ok (.if_icmp .ge 9, 3) := by decide +kernel
theorem dX3_goOn_74 : decode cX3_goOn 74 = .ok (.iinc 2 (-1), 3) := by decide +kernel
theorem dX3_goOn_77 : decode cX3_goOn 77 = .ok (.goto (-27), 3) := by decide +kernel
theorem dX3_goOn_80 : decode cX3_goOn 80 = .ok (.aload_n 0, 1) := by decide +kernel
theorem dX3_goOn_81 : decode cX3_goOn 81 = .ok (.iload_n 1, 1) := by decide +kernel
theorem dX3_goOn_82 : decode cX3_goOn 82 = .ok (.iload_n 2, 1) := by decide +kernel
theorem dX3_goOn_83 : decode cX3_goOn 83 = .ok (.invokevirtual 53, 3) := by decide +kernel
theorem dX3_goOn_86 : decode cX3_goOn 86 = .ok (.iload_n 1, 1) := by decide +kernel
theorem dX3_goOn_87 : decode cX3_goOn 87 = .ok (.iconst 1, 1) := by decide +kernel
theorem dX3_goOn_88 : decode cX3_goOn 88 = .ok (.iadd, 1) := by decide +kernel
theorem dX3_goOn_89 : decode cX3_goOn 89 = .ok (.istore_n 3, 1) := by decide +kernel
theorem dX3_goOn_90 : decode cX3_goOn 90 = .ok (.aload_n 0, 1) := by decide +kernel
theorem dX3_goOn_91 : decode cX3_goOn 91 = .ok (.getfield 15, 3) := by decide +kernel
theorem dX3_goOn_94 : decode cX3_goOn 94 = .ok (.iconst 1, 1) := by decide +kernel
theorem dX3_goOn_95 : decode cX3_goOn 95 = .ok (.isub, 1) := by decide +kernel
theorem dX3_goOn_96 : decode cX3_goOn 96 = .ok (.istore 4, 2) := by decide +kernel
theorem dX3_goOn_98 : decode cX3_goOn 98 = .ok (.iload_n 3, 1) := by decide +kernel
theorem dX3_goOn_99 : decode cX3_goOn 99 = .ok (.iload 4, 2) := by decide +kernel
theorem dX3_goOn_101 : decode cX3_goOn 101 = .ok (.if_icmp .ge 19, 3) := by decide +kernel
theorem dX3_goOn_104 : decode cX3_goOn 104 = .ok (.aload_n 0, 1) := by decide +kernel
theorem dX3_goOn_105 : decode cX3_goOn 105 = .ok (.iload_n 3, 1) := by decide +kernel
theorem dX3_goOn_106 : decode cX3_goOn 106 = .ok (.iload 4, 2) := by decide +kernel
theorem dX3_goOn_108 : decode cX3_goOn 108 = .ok (.invokevirtual 53, 3) := by decide +kernel
theorem dX3_goOn_111 : decode cX3_goOn 111 = .ok (.iinc 3 1, 3) := by decide +kernel
theorem dX3_goOn_114 : decode cX3_goOn 114 = .ok (.iinc 4 (-1), 3) := by decide +kernel
theorem dX3_goOn_117 : decode cX3_goOn 117 = .ok (.goto (-19), 3) := by decide +kernel
theorem dX3_goOn_120 : decode cX3_goOn 120 = .ok (.return_, 1) := by decide +kernel
theorem dX3_swap_0 : decode cX3_swap 0 = .ok (.aload_n 0, 1) := by decide +kernel
theorem dX3_swap_1 : decode cX3_swap 1 = .ok (.getfield 9, 3) := by decide +kernel
theorem dX3_swap_4 : decode cX3_swap 4 = .ok (.iload_n 1, 1) := by decide +kernel
theorem dX3_swap_5 : decode cX3_swap 5 = .ok (.invokestatic 23, 3) := by decide +kernel
theorem dX3_swap_8 : decode cX3_swap 8 = .ok (.istore_n 3, 1) := by decide +kernel
theorem dX3_swap_9 : decode cX3_swap 9 = .ok (.aload_n 0, 1) := by decide +kernel
theorem dX3_swap_10 : decode cX3_swap 10 = .ok (.getfield 9, 3) := by decide +kernel
theorem dX3_swap_13 : decode cX3_swap 13 = .ok (.iload_n 1, 1) := by decide +kernel
theorem dX3_swap_14 : decode cX3_swap 14 = .ok (.aload_n 0, 1) := by decide +kernel
theorem dX3_swap_15 : decode cX3_swap 15 = .ok (.getfield 9, 3) := by decide +kernel
theorem dX3_swap_18 : decode cX3_swap 18 = .ok (.iload_n 2, 1) := by decide +kernel
theorem dX3_swap_19 : decode cX3_swap 19 = .ok (.invokestatic 23, 3) := by decide +kernel
theorem dX3_swap_22 : decode cX3_swap 22 = .ok (.invokestatic 19, 3) := by decide +kernel
theorem dX3_swap_25 : decode cX3_swap 25 = .ok (.aload_n 0, 1) := by decide +kernel
theorem dX3_swap_26 : decode cX3_swap 26 = .ok (.getfield 9, 3) := by decide +kernel
theorem dX3_swap_29 : decode cX3_swap 29 = .ok (.iload_n 2, 1) := by decide +kernel
theorem dX3_swap_30 : decode cX3_swap 30 = .ok (.iload_n 3, 1) := by decide +kernel
theorem dX3_swap_31 : decode cX3_swap 31 = .ok (.invokestatic 19, 3) := by decide +kernel
theorem dX3_swap_34 : decode cX3_swap 34 = .ok (.return_, 1) := by decide +kernel
theorem dX4_init_0 : decode cX4_init 0 = .ok (.aload_n 0, 1) := by decide +kernel
theorem dX4_init_1 : decode cX4_init 1 = .ok (.invokespecial 3, 3) := by decide +kernel
theorem dX4_init_4 : decode cX4_init 4 = .ok (.aload_n 0, 1) := by decide +kernel
theorem dX4_init_5 : decode cX4_init 5 = .ok (.new 9, 3) := by decide +kernel
theorem dX4_init_8 : decode cX4_init 8 = .ok (.dup, 1) := by decide +kernel
theorem dX4_init_9 : decode cX4_init 9 = .ok (.invokespecial 11, 3) := by decide +kernel
theorem dX4_init_12 : decode cX4_init 12 = .ok (.putfield 12, 3) := by decide +kernel
theorem dX4_init_15 : decode cX4_init 15 = .ok (.aload_n 0, 1) := by decide +kernel
theorem dX4_init_16 : decode cX4_init 16 = .ok (.sipush 1600, 3) := by decide +kernel
theorem dX4_init_19 : decode cX4_init 19 = .ok (.newarray .int, 2) := by decide +kernel
theorem dX4_init_21 : decode cX4_init 21 = .ok (.putfield 18, 3) := by decide +kernel
theorem dX4_init_24 : decode cX4_init 24 = .ok (.aload_n 0, 1) := by decide +kernel
theorem dX4_init_25 : decode cX4_init 25 = .ok (.bipush 64, 2) := by decide +kernel
theorem dX4_init_27 : decode cX4_init 27 = .ok (.newarray .int, 2) := by decide +kernel
theorem dX4_init_29 : decode cX4_init 29 = .ok (.putfield 22, 3) := by decide +kernel
theorem dX4_init_32 : decode cX4_init 32 = .ok (.aload_n 0, 1) := by decide +kernel
theorem dX4_init_33 : decode cX4_init 33 = .ok (.iconst (-1), 1) := by decide +kernel
theorem dX4_init_34 : decode cX4_init 34 = .ok (.putfield 25, 3) := by decide +kernel
theorem dX4_init_37 : decode cX4_init 37 = .ok (.return_, 1) := by decide +kernel
theorem dX4_readRoll_0 : decode cX4_readRoll 0 = .ok (.aload_n 1, 1) := by decide +kernel
theorem dX4_readRoll_1 : decode cX4_readRoll 1 = .ok (.invokevirtual 29, 3) := by decide +kernel
theorem dX4_readRoll_4 : decode cX4_readRoll 4 = .ok (.aload_n 0, 1) := by decide +kernel
theorem dX4_readRoll_5 : decode cX4_readRoll 5 = .ok (.aload_n 1, 1) := by decide +kernel
theorem dX4_readRoll_6 : decode cX4_readRoll 6 = .ok (.iconst 0, 1) := by decide +kernel
theorem dX4_readRoll_7 : decode cX4_readRoll 7 = .ok (.invokevirtual 34, 3) := by decide +kernel
theorem dX4_readRoll_10 : decode cX4_readRoll 10 = .ok (.iconst 0, 1) := by decide +kernel
theorem dX4_readRoll_11 : decode cX4_readRoll 11 = .ok (.istore_n 2, 1) := by decide +kernel
theorem dX4_readRoll_12 : decode cX4_readRoll 12 = .ok (.iload_n 2, 1) := by decide +kernel
theorem dX4_readRoll_13 : decode cX4_readRoll 13 = .ok (.sipush 1600, 3) := by decide +kernel
theorem dX4_readRoll_16 : decode cX4_readRoll 16 = .ok (.if_icmp .gt 143, 3) := by decide +kernel
theorem dX4_readRoll_19 : decode cX4_readRoll 19 = .ok (.aload_n 0, 1) := by decide +kernel
theorem dX4_readRoll_20 : decode cX4_readRoll 20 = .ok (.getfield 38, 3) := by decide +kernel
theorem dX4_readRoll_23 : decode cX4_readRoll 23 = .ok (.ifCond .ne 136, 3) := by decide +kernel
theorem dX4_readRoll_26 : decode cX4_readRoll 26 = .ok (.aload_n 0, 1) := by decide +kernel
theorem dX4_readRoll_27 : decode cX4_readRoll 27 = .ok (.getfield 12, 3) := by decide +kernel
theorem dX4_readRoll_30 : decode cX4_readRoll 30 = .ok (.getfield 41, 3) := by decide +kernel
theorem dX4_readRoll_33 : decode cX4_readRoll 33 = .ok (.bipush 30, 2) := by decide +kernel
theorem dX4_readRoll_35 : decode cX4_readRoll 35 = .ok (.if_icmp .eq 124, 3) := by decide +kernel
theorem dX4_readRoll_38 : decode cX4_readRoll 38 = .ok (.aload_n 0, 1) := by decide +kernel
theorem dX4_readRoll_39 : decode cX4_readRoll 39 = .ok (.getfield 12, 3) := by decide +kernel
theorem dX4_readRoll_42 : decode cX4_readRoll 42 = .ok (.getfield 41, 3) := by decide +kernel
theorem dX4_readRoll_45 : decode cX4_readRoll 45 = .ok (.tableswitch 95 0 5 #[39, 47, 55, 95, 95, 63], 39) := by decide +kernel
theorem dX4_readRoll_84 : decode cX4_readRoll 84 = .ok (.aload_n 0, 1) := by decide +kernel
theorem dX4_readRoll_85 : decode cX4_readRoll 85 = .ok (.invokevirtual 44, 3) := by decide +kernel
theorem dX4_readRoll_88 : decode cX4_readRoll 88 = .ok (.pop, 1) := by decide +kernel
theorem dX4_readRoll_89 : decode cX4_readRoll 89 = .ok (.goto 57, 3) := by decide +kernel
theorem dX4_readRoll_92 : decode cX4_readRoll 92 = .ok (.aload_n 0, 1) := by decide +kernel
theorem dX4_readRoll_93 : decode cX4_readRoll 93 = .ok (.invokevirtual 48, 3) := by decide +kernel
theorem dX4_readRoll_96 : decode cX4_readRoll 96 = .ok (.pop, 1) := by decide +kernel
theorem dX4_readRoll_97 : decode cX4_readRoll 97 = .ok (.goto 49, 3) := by decide +kernel
theorem dX4_readRoll_100 : decode cX4_readRoll 100 = .ok (.aload_n 0, 1) := by decide +kernel
theorem dX4_readRoll_101 : decode cX4_readRoll 101 = .ok (.invokevirtual 51, 3) := by decide +kernel
theorem dX4_readRoll_104 : decode cX4_readRoll 104 = .ok (.pop, 1) := by decide +kernel
theorem dX4_readRoll_105 : decode cX4_readRoll 105 = .ok (.goto 41, 3) := by decide +kernel
theorem dX4_readRoll_108 : decode cX4_readRoll 108 = .ok (.aload_n 0, 1) := by decide +kernel
theorem dX4_readRoll_109 : decode cX4_readRoll 109 = .ok (.invokevirtual 54, 3) := by decide +kernel
theorem dX4_readRoll_112 : decode cX4_readRoll 112 = .ok (.ifCond .eq 34, 3) := by decide +kernel
theorem dX4_readRoll_115 : decode cX4_readRoll 115 = .ok (.aload_n 0, 1) := by decide +kernel
theorem dX4_readRoll_116 : decode cX4_readRoll 116 = .ok (.invokevirtual 57, 3) := by decide +kernel
theorem dX4_readRoll_119 : decode cX4_readRoll 119 = .ok (.ifCond .eq 27, 3) := by decide +kernel
theorem dX4_readRoll_122 : decode cX4_readRoll 122 = .ok (.aload_n 0, 1) := by decide +kernel
theorem dX4_readRoll_123 : decode cX4_readRoll 123 = .ok (.getfield 60, 3) := by decide +kernel
theorem dX4_readRoll_126 : decode cX4_readRoll 126 = .ok (.aload_n 0, 1) := by decide +kernel
theorem dX4_readRoll_127 : decode cX4_readRoll 127 = .ok (.getfield 64, 3) := by decide +kernel
theorem dX4_readRoll_130 : decode cX4_readRoll 130 = .ok (.aload_n 0, 1) := by decide +kernel
theorem dX4_readRoll_131 : decode cX4_readRoll 131 = .ok (.invokevirtual 67, 3) := by decide +kernel
theorem dX4_readRoll_134 : decode cX4_readRoll 134 = .ok (.invokevirtual 71, 3) := by decide +kernel
theorem dX4_readRoll_137 : decode cX4_readRoll 137 = .ok (.goto 9, 3) := by decide +kernel
theorem dX4_readRoll_140 : decode cX4_readRoll 140 = .ok (.aload_n 0, 1) := by decide +kernel
theorem dX4_readRoll_141 : decode cX4_readRoll 141 = .ok (.iconst 2, 1) := by decide +kernel
theorem dX4_readRoll_142 : decode cX4_readRoll 142 = .ok (.invokevirtual 75, 3) := by decide +kernel
theorem dX4_readRoll_145 : decode cX4_readRoll 145 = .ok (.pop, 1) := by decide +kernel
theorem dX4_readRoll_146 : decode cX4_readRoll 146 = .ok (.aload_n 0, 1) := by decide +kernel
theorem dX4_readRoll_147 : decode cX4_readRoll 147 = .ok (.bipush 22, 2) := by decide +kernel
theorem dX4_readRoll_149 : decode cX4_readRoll 149 = .ok (.invokevirtual 79, 3) := by decide +kernel
theorem dX4_readRoll_152 : decode cX4_readRoll 152 = .ok (.pop, 1) := by decide +kernel
theorem dX4_readRoll_153 : decode cX4_readRoll 153 = .ok (.iinc 2 1, 3) := by decide +kernel
theorem dX4_readRoll_156 : decode cX4_readRoll 156 = .ok (.goto (-144), 3) := by decide +kernel
theorem dX4_readRoll_159 : decode cX4_readRoll 159 = .ok (.aload_n 0, 1) := by decide +kernel
theorem dX4_readRoll_160 : decode cX4_readRoll 160 = .ok (.getfield 38, 3) := by decide +kernel
theorem dX4_readRoll_163 : decode cX4_readRoll 163 = .ok (.ifCond .ne 7, 3) := by decide +kernel
theorem dX4_readRoll_166 : decode cX4_readRoll 166 = .ok (.iconst 1, 1) := by decide +kernel
theorem dX4_readRoll_167 : decode cX4_readRoll 167 = .ok (.goto 4, 3) := by decide +kernel
theorem dX4_readRoll_170 : decode cX4_readRoll 170 = .ok (.iconst 0, 1) := by decide +kernel
theorem dX4_readRoll_171 : decode cX4_readRoll 171 = .ok (.ireturn, 1) := by decide +kernel
theorem dX4_readOne_0 : decode cX4_readOne 0 = .ok (.aload_n 0, 1) := by decide +kernel
theorem dX4_readOne_1 : decode cX4_readOne 1 = .ok (.aload_n 1, 1) := by decide +kernel
theorem dX4_readOne_2 : decode cX4_readOne 2 = .ok (.iload_n 3, 1) := by decide +kernel
theorem dX4_readOne_3 : decode cX4_readOne 3 = .ok (.invokevirtual 34, 3) := by decide +kernel
theorem dX4_readOne_6 : decode cX4_readOne 6 = .ok (.aload_n 0, 1) := by decide +kernel
theorem dX4_readOne_7 : decode cX4_readOne 7 = .ok (.iload_n 2, 1) := by decide +kernel
theorem dX4_readOne_8 : decode cX4_readOne 8 = .ok (.invokevirtual 82, 3) := by decide +kernel
theorem dX4_readOne_11 : decode cX4_readOne 11 = .ok (.aload_n 0, 1) := by decide +kernel
theorem dX4_readOne_12 : decode cX4_readOne 12 = .ok (.invokevirtual 57, 3) := by decide +kernel
theorem dX4_readOne_15 : decode cX4_readOne 15 = .ok (.ifCond .eq 27, 3) := by decide +kernel
theorem dX4_readOne_18 : decode cX4_readOne 18 = .ok (.aload_n 0, 1) := by decide +kernel
theorem dX4_readOne_19 : decode cX4_readOne 19 = .ok (.getfield 12, 3) := by decide +kernel
theorem dX4_readOne_22 : decode cX4_readOne 22 = .ok (.getfield 41, 3) := by decide +kernel
theorem dX4_readOne_25 : decode cX4_readOne 25 = .ok (.bipush 30, 2) := by decide +kernel
theorem dX4_readOne_27 : decode cX4_readOne 27 = .ok (.if_icmp .eq 11, 3) := by decide +kernel
theorem dX4_readOne_30 : decode cX4_readOne 30 = .ok (.aload_n 0, 1) := by decide +kernel
theorem dX4_readOne_31 : decode cX4_readOne 31 = .ok (.iconst 2, 1) := by decide +kernel
theorem dX4_readOne_32 : decode cX4_readOne 32 = .ok (.invokevirtual 75, 3) := by decide +kernel
theorem dX4_readOne_35 : decode cX4_readOne 35 = .ok (.ifCond .eq 7, 3) := by decide +kernel
theorem dX4_readOne_38 : decode cX4_readOne 38 = .ok (.iconst 1, 1) := by decide +kernel
theorem dX4_readOne_39 : decode cX4_readOne 39 = .ok (.goto 4, 3) := by decide +kernel
theorem dX4_readOne_42 : decode cX4_readOne 42 = .ok (.iconst 0, 1) := by decide +kernel
theorem dX4_readOne_43 : decode cX4_readOne 43 = .ok (.ireturn, 1) := by decide +kernel
theorem dX4_ballot_0 : decode cX4_ballot 0 = .ok (.aload_n 0, 1) := by decide +kernel
theorem dX4_ballot_1 : decode cX4_ballot 1 = .ok (.getfield 18, 3) := by decide +kernel
theorem dX4_ballot_4 : decode cX4_ballot 4 = .ok (.aload_n 0, 1) := by decide +kernel
theorem dX4_ballot_5 : decode cX4_ballot 5 = .ok (.getfield 86, 3) := by decide +kernel
theorem dX4_ballot_8 : decode cX4_ballot 8 = .ok (.iconst 0, 1) := by decide +kernel
theorem dX4_ballot_9 : decode cX4_ballot 9 = .ok (.invokestatic 89, 3) := by decide +kernel
theorem dX4_ballot_12 : decode cX4_ballot 12 = .ok (.aload_n 0, 1) := by decide +kernel
theorem dX4_ballot_13 : decode cX4_ballot 13 = .ok (.getfield 18, 3) := by decide +kernel
theorem dX4_ballot_16 : decode cX4_ballot 16 = .ok (.arraylength, 1) := by decide +kernel
theorem dX4_ballot_17 : decode cX4_ballot 17 = .ok (.invokestatic 95, 3) := by decide +kernel
theorem dX4_ballot_20 : decode cX4_ballot 20 = .ok (.invokestatic 98, 3) := by decide +kernel
theorem dX4_ballot_23 : decode cX4_ballot 23 = .ok (.astore_n 1, 1) := by decide +kernel
theorem dX4_ballot_24 : decode cX4_ballot 24 = .ok (.new 104, 3) := by decide +kernel
theorem dX4_ballot_27 : decode cX4_ballot 27 = .ok (.dup, 1) := by decide +kernel
theorem dX4_ballot_28 : decode cX4_ballot 28 = .ok (.aload_n 1, 1) := by decide +kernel
theorem dX4_ballot_29 : decode cX4_ballot 29 = .ok (.aload_n 0, 1) := by decide +kernel
theorem dX4_ballot_30 : decode cX4_ballot 30 = .ok (.getfield 106, 3) := by decide +kernel
theorem dX4_ballot_33 : decode cX4_ballot 33 = .ok (.aload_n 0, 1) := by decide +kernel
theorem dX4_ballot_34 : decode cX4_ballot 34 = .ok (.getfield 109, 3) := by decide +kernel
theorem dX4_ballot_37 : decode cX4_ballot 37 = .ok (.isub, 1) := by decide +kernel
theorem dX4_ballot_38 : decode cX4_ballot 38 = .ok (.aload_n 0, 1) := by decide +kernel
theorem dX4_ballot_39 : decode cX4_ballot 39 = .ok (.getfield 112, 3) := by decide +kernel
theorem dX4_ballot_42 : decode cX4_ballot 42 = .ok (.aload_n 0, 1) := by decide +kernel
theorem dX4_ballot_43 : decode cX4_ballot 43 = .ok (.getfield 115, 3) := by decide +kernel
theorem dX4_ballot_46 : decode cX4_ballot 46 = .ok (.invokespecial 118, 3) := by decide +kernel
theorem dX4_ballot_49 : decode cX4_ballot 49 = .ok (.areturn, 1) := by decide +kernel
theorem dX4_begin_0 : decode cX4_begin 0 = .ok (.aload_n 0, 1) := by decide +kernel
theorem dX4_begin_1 : decode cX4_begin 1 = .ok (.aload_n 1, 1) := by decide +kernel
theorem dX4_begin_2 : decode cX4_begin 2 = .ok (.putfield 60, 3) := by decide +kernel
theorem dX4_begin_5 : decode cX4_begin 5 = .ok (.aload_n 0, 1) := by decide +kernel
theorem dX4_begin_6 : decode cX4_begin 6 = .ok (.iload_n 2, 1) := by decide +kernel
theorem dX4_begin_7 : decode cX4_begin 7 = .ok (.putfield 106, 3) := by decide +kernel
theorem dX4_begin_10 : decode cX4_begin 10 = .ok (.aload_n 0, 1) := by decide +kernel
theorem dX4_begin_11 : decode cX4_begin 11 = .ok (.iconst 0, 1) := by decide +kernel
theorem dX4_begin_12 : decode cX4_begin 12 = .ok (.putfield 38, 3) := by decide +kernel
theorem dX4_begin_15 : decode cX4_begin 15 = .ok (.aload_n 0, 1) := by decide +kernel
theorem dX4_begin_16 : decode cX4_begin 16 = .ok (.iconst (-1), 1) := by decide +kernel
theorem dX4_begin_17 : decode cX4_begin 17 = .ok (.putfield 25, 3) := by decide +kernel
theorem dX4_begin_20 : decode cX4_begin 20 = .ok (.aload_n 0, 1) := by decide +kernel
theorem dX4_begin_21 : decode cX4_begin 21 = .ok (.getfield 12, 3) := by decide +kernel
theorem dX4_begin_24 : decode cX4_begin 24 = .ok (.invokevirtual 121, 3) := by decide +kernel
theorem dX4_begin_27 : decode cX4_begin 27 = .ok (.return_, 1) := by decide +kernel
theorem dX4_beginBallot_0 : decode cX4_beginBallot 0 = .ok (.aload_n 0, 1) := by decide +kernel
theorem dX4_beginBallot_1 : decode cX4_beginBallot 1 = .ok (.iload_n 1, 1) := by decide +kernel
theorem dX4_beginBallot_2 : decode cX4_beginBallot 2 = .ok (.putfield 64, 3) := by decide +kernel
theorem dX4_beginBallot_5 : decode cX4_beginBallot 5 = .ok (.aload_n 0, 1) := by decide +kernel
theorem dX4_beginBallot_6 : decode cX4_beginBallot 6 = .ok (.aload_n 0, 1) := by decide +kernel
theorem dX4_beginBallot_7 : decode cX4_beginBallot 7 = .ok (.getfield 106, 3) := by decide +kernel
theorem dX4_beginBallot_10 : decode cX4_beginBallot 10 = .ok (.putfield 109, 3) := by decide +kernel
theorem dX4_beginBallot_13 : decode cX4_beginBallot 13 = .ok (.aload_n 0, 1) := by decide +kernel
theorem dX4_beginBallot_14 : decode cX4_beginBallot 14 = .ok (.iconst 0, 1) := by decide +kernel
theorem dX4_beginBallot_15 : decode cX4_beginBallot 15 = .ok (.putfield 112, 3) := by decide +kernel
theorem dX4_beginBallot_18 : decode cX4_beginBallot 18 = .ok (.aload_n 0, 1) := by decide +kernel
theorem dX4_beginBallot_19 : decode cX4_beginBallot 19 = .ok (.iconst 0, 1) := by decide +kernel
theorem dX4_beginBallot_20 : decode cX4_beginBallot 20 = .ok (.putfield 115, 3) := by decide +kernel
theorem dX4_beginBallot_23 : decode cX4_beginBallot 23 = .ok (.aload_n 0, 1) := by decide +kernel
theorem dX4_beginBallot_24 : decode cX4_beginBallot 24 = .ok (.iconst 0, 1) := by decide +kernel
theorem dX4_beginBallot_25 : decode cX4_beginBallot 25 = .ok (.putfield 86, 3) := by decide +kernel
theorem dX4_beginBallot_28 : decode cX4_beginBallot 28 = .ok (.aload_n 0, 1) := by decide +kernel
theorem dX4_beginBallot_29 : decode cX4_beginBallot 29 = .ok (.iconst 0, 1) := by decide +kernel
theorem dX4_beginBallot_30 : decode cX4_beginBallot 30 = .ok (.putfield 124, 3) := by decide +kernel
theorem dX4_beginBallot_33 : decode cX4_beginBallot 33 = .ok (.aload_n 0, 1) := by decide +kernel
theorem dX4_beginBallot_34 : decode cX4_beginBallot 34 = .ok (.iconst 0, 1) := by decide +kernel
theorem dX4_beginBallot_35 : decode cX4_beginBallot 35 = .ok (.putfield 127, 3) := by decide +kernel
theorem dX4_beginBallot_38 : decode cX4_beginBallot 38 = .ok (.return_, 1) := by decide +kernel
theorem dX4_fail_0 : decode cX4_fail 0 = .ok (.aload_n 0, 1) := by decide +kernel
theorem dX4_fail_1 : decode cX4_fail 1 = .ok (.getfield 38, 3) := by decide +kernel
theorem dX4_fail_4 : decode cX4_fail 4 = .ok (.ifCond .ne 35, 3) := by decide +kernel
theorem dX4_fail_7 : decode cX4_fail 7 = .ok (.aload_n 0, 1) := by decide +kernel
theorem dX4_fail_8 : decode cX4_fail 8 = .ok (.aload_n 0, 1) := by decide +kernel
theorem dX4_fail_9 : decode cX4_fail 9 = .ok (.getfield 12, 3) := by decide +kernel
theorem dX4_fail_12 : decode cX4_fail 12 = .ok (.getfield 41, 3) := by decide +kernel
theorem dX4_fail_15 : decode cX4_fail 15 = .ok (.bipush 31, 2) := by decide +kernel
theorem dX4_fail_17 : decode cX4_fail 17 = .ok (.if_icmp .ne 7, 3) := by decide +kernel
theorem dX4_fail_20 : decode cX4_fail 20 = .ok (.iconst 1, 1) := by decide +kernel
theorem dX4_fail_21 : decode cX4_fail 21 = .ok (.goto 4, 3) := by decide +kernel
theorem dX4_fail_24 : decode cX4_fail 24 = .ok (.iload_n 1, 1) := by decide +kernel
theorem dX4_fail_25 : decode cX4_fail 25 = .ok (.putfield 38, 3) := by decide +kernel
theorem dX4_fail_28 : decode cX4_fail 28 = .ok (.aload_n 0, 1) := by decide +kernel
theorem dX4_fail_29 : decode cX4_fail 29 = .ok (.aload_n 0, 1) := by decide +kernel
theorem dX4_fail_30 : decode cX4_fail 30 = .ok (.getfield 12, 3) := by decide +kernel
theorem dX4_fail_33 : decode cX4_fail 33 = .ok (.getfield 130, 3) := by decide +kernel
theorem dX4_fail_36 : decode cX4_fail 36 = .ok (.putfield 25, 3) := by decide +kernel
theorem dX4_fail_39 : decode cX4_fail 39 = .ok (.iconst 0, 1) := by decide +kernel
theorem dX4_fail_40 : decode cX4_fail 40 = .ok (.ireturn, 1) := by decide +kernel
theorem dX4_take_0 : decode cX4_take 0 = .ok (.aload_n 0, 1) := by decide +kernel
theorem dX4_take_1 : decode cX4_take 1 = .ok (.getfield 38, 3) := by decide +kernel
theorem dX4_take_4 : decode cX4_take 4 = .ok (.ifCond .ne 14, 3) := by decide +kernel
theorem dX4_take_7 : decode cX4_take 7 = .ok (.aload_n 0, 1) := by decide +kernel
theorem dX4_take_8 : decode cX4_take 8 = .ok (.getfield 12, 3) := by decide +kernel
theorem dX4_take_11 : decode cX4_take 11 = .ok (.getfield 41, 3) := by decide +kernel
theorem dX4_take_14 : decode cX4_take 14 = .ok (.iload_n 1, 1) := by decide +kernel
theorem dX4_take_15 : decode cX4_take 15 = .ok (.if_icmp .eq 9, 3) := by decide +kernel
theorem dX4_take_18 : decode cX4_take 18 = .ok (.aload_n 0, 1) := by decide +kernel
theorem dX4_take_19 : decode cX4_take 19 = .ok (.iconst 2, 1) := by decide +kernel
theorem dX4_take_20 : decode cX4_take 20 = .ok (.invokevirtual 75, 3) := by decide +kernel
theorem dX4_take_23 : decode cX4_take 23 = .ok (.ireturn, 1) := by decide +kernel
theorem dX4_take_24 : decode cX4_take 24 = .ok (.aload_n 0, 1) := by decide +kernel
theorem dX4_take_25 : decode cX4_take 25 = .ok (.getfield 12, 3) := by decide +kernel
theorem dX4_take_28 : decode cX4_take 28 = .ok (.invokevirtual 133, 3) := by decide +kernel
theorem dX4_take_31 : decode cX4_take 31 = .ok (.iconst 1, 1) := by decide +kernel
theorem dX4_take_32 : decode cX4_take 32 = .ok (.ireturn, 1) := by decide +kernel
theorem dX4_tellName_0 : decode cX4_tellName 0 = .ok (.aload_n 0, 1) := by decide +kernel
theorem dX4_tellName_1 : decode cX4_tellName 1 = .ok (.getfield 60, 3) := by decide +kernel
theorem dX4_tellName_4 : decode cX4_tellName 4 = .ok (.getfield 136, 3) := by decide +kernel
theorem dX4_tellName_7 : decode cX4_tellName 7 = .ok (.iconst 3, 1) := by decide +kernel
theorem dX4_tellName_8 : decode cX4_tellName 8 = .ok (.if_icmp .lt 9, 3) := by decide +kernel
theorem dX4_tellName_11 : decode cX4_tellName 11 = .ok (.aload_n 0, 1) := by decide +kernel
theorem dX4_tellName_12 : decode cX4_tellName 12 = .ok (.iconst 2, 1) := by decide +kernel
theorem dX4_tellName_13 : decode cX4_tellName 13 = .ok (.invokevirtual 75, 3) := by decide +kernel
theorem dX4_tellName_16 : decode cX4_tellName 16 = .ok (.ireturn, 1) := by decide +kernel
theorem dX4_tellName_17 : decode cX4_tellName 17 = .ok (.aload_n 0, 1) := by decide +kernel
theorem dX4_tellName_18 : decode cX4_tellName 18 = .ok (.getfield 12, 3) := by decide +kernel
theorem dX4_tellName_21 : decode cX4_tellName 21 = .ok (.invokevirtual 133, 3) := by decide +kernel
theorem dX4_tellName_24 : decode cX4_tellName 24 = .ok (.aload_n 0, 1) := by decide +kernel
theorem dX4_tellName_25 : decode cX4_tellName 25 = .ok (.aload_n 0, 1) := by decide +kernel
theorem dX4_tellName_26 : decode cX4_tellName 26 = .ok (.getfield 60, 3) := by decide +kernel
theorem dX4_tellName_29 : decode cX4_tellName 29 = .ok (.getfield 139, 3) := by decide +kernel
theorem dX4_tellName_32 : decode cX4_tellName 32 = .ok (.aload_n 0, 1) := by decide +kernel
theorem dX4_tellName_33 : decode cX4_tellName 33 = .ok (.getfield 60, 3) := by decide +kernel
theorem dX4_tellName_36 : decode cX4_tellName 36 = .ok (.getfield 136, 3) := by decide +kernel
theorem dX4_tellName_39 : decode cX4_tellName 39 = .ok (.invokevirtual 143, 3) := by decide +kernel
theorem dX4_tellName_42 : decode cX4_tellName 42 = .ok (.ifCond .ne 5, 3) := by decide +kernel
theorem dX4_tellName_45 : decode cX4_tellName 45 = .ok (.iconst 0, 1) := by decide +kernel
theorem dX4_tellName_46 : decode cX4_tellName 46 = .ok (.ireturn, 1) := by decide +kernel
theorem dX4_tellName_47 : decode cX4_tellName 47 = .ok (.aload_n 0, 1) := by decide +kernel
theorem dX4_tellName_48 : decode cX4_tellName 48 = .ok (.getfield 60, 3) := by decide +kernel
theorem dX4_tellName_51 : decode cX4_tellName 51 = .ok (.dup, 1) := by decide +kernel
theorem dX4_tellName_52 : decode cX4_tellName 52 = .ok (.getfield 136, 3) := by decide +kernel
theorem dX4_tellName_55 : decode cX4_tellName 55 = .ok (.iconst 1, 1) := by decide +kernel
theorem dX4_tellName_56 : decode cX4_tellName 56 = .ok (.iadd, 1) := by decide +kernel
theorem dX4_tellName_57 : decode cX4_tellName 57 = .ok (.putfield 136, 3) := by decide +kernel
theorem dX4_tellName_60 : decode cX4_tellName 60 = .ok (.iconst 1, 1) := by decide +kernel
theorem dX4_tellName_61 : decode cX4_tellName 61 = .ok (.ireturn, 1) := by decide +kernel
theorem dX4_tellStreet_0 : decode cX4_tellStreet 0 = .ok (.aload_n 0, 1) := by decide +kernel
theorem dX4_tellStreet_1 : decode cX4_tellStreet 1 = .ok (.getfield 60, 3) := by decide +kernel
theorem dX4_tellStreet_4 : decode cX4_tellStreet 4 = .ok (.getfield 147, 3) := by decide +kernel
theorem dX4_tellStreet_7 : decode cX4_tellStreet 7 = .ok (.iconst 4, 1) := by decide +kernel
theorem dX4_tellStreet_8 : decode cX4_tellStreet 8 = .ok (.if_icmp .lt 9, 3) := by decide +kernel
theorem dX4_tellStreet_11 : decode cX4_tellStreet 11 = .ok (.aload_n 0, 1) := by decide +kernel
theorem dX4_tellStreet_12 : decode cX4_tellStreet 12 = .ok (.iconst 2, 1) := by decide +kernel
theorem dX4_tellStreet_13 : decode cX4_tellStreet 13 = .ok (.invokevirtual 75, 3) := by decide +kernel
theorem dX4_tellStreet_16 : decode cX4_tellStreet 16 = .ok (.ireturn, 1) := by decide +kernel
theorem dX4_tellStreet_17 : decode cX4_tellStreet 17 = .ok (.aload_n 0, 1) := by decide +kernel
theorem dX4_tellStreet_18 : decode cX4_tellStreet 18 = .ok (.getfield 12, 3) := by decide +kernel
theorem dX4_tellStreet_21 : decode cX4_tellStreet 21 = .ok (.invokevirtual 133, 3) := by decide +kernel
theorem dX4_tellStreet_24 : decode cX4_tellStreet 24 = .ok (.aload_n 0, 1) := by decide +kernel
theorem dX4_tellStreet_25 : decode cX4_tellStreet 25 = .ok (.aload_n 0, 1) := by decide +kernel
theorem dX4_tellStreet_26 : decode cX4_tellStreet 26 = .ok (.getfield 60, 3) := by decide +kernel
theorem dX4_tellStreet_29 : decode cX4_tellStreet 29 = .ok (.getfield 150, 3) := by decide +kernel
theorem dX4_tellStreet_32 : decode cX4_tellStreet 32 = .ok (.aload_n 0, 1) := by decide +kernel
theorem dX4_tellStreet_33 : decode cX4_tellStreet 33 = .ok (.getfield 60, 3) := by decide +kernel
theorem dX4_tellStreet_36 : decode cX4_tellStreet 36 = .ok (.getfield 147, 3) := by decide +kernel
theorem dX4_tellStreet_39 : decode cX4_tellStreet 39 = .ok (.invokevirtual 143, 3) := by decide +kernel
theorem dX4_tellStreet_42 : decode cX4_tellStreet 42 = .ok (.ifCond .ne 5, 3) := by decide +kernel
theorem dX4_tellStreet_45 : decode cX4_tellStreet 45 = .ok (.iconst 0, 1) := by decide +kernel
theorem dX4_tellStreet_46 : decode cX4_tellStreet 46 = .ok (.ireturn, 1) := by decide +kernel
theorem dX4_tellStreet_47 : decode cX4_tellStreet 47 = .ok (.aload_n 0, 1) := by decide +kernel
theorem dX4_tellStreet_48 : decode cX4_tellStreet 48 = .ok (.getfield 60, 3) := by decide +kernel
theorem dX4_tellStreet_51 : decode cX4_tellStreet 51 = .ok (.dup, 1) := by decide +kernel
theorem dX4_tellStreet_52 : decode cX4_tellStreet 52 = .ok (.getfield 147, 3) := by decide +kernel
theorem dX4_tellStreet_55 : decode cX4_tellStreet 55 = .ok (.iconst 1, 1) := by decide +kernel
theorem dX4_tellStreet_56 : decode cX4_tellStreet 56 = .ok (.iadd, 1) := by decide +kernel
theorem dX4_tellStreet_57 : decode cX4_tellStreet 57 = .ok (.putfield 147, 3) := by decide +kernel
theorem dX4_tellStreet_60 : decode cX4_tellStreet 60 = .ok (.iconst 1, 1) := by decide +kernel
theorem dX4_tellStreet_61 : decode cX4_tellStreet 61 = .ok (.ireturn, 1) := by decide +kernel
theorem dX4_tellVoter_0 : decode cX4_tellVoter 0 = .ok (.aload_n 0, 1) := by decide +kernel
theorem dX4_tellVoter_1 : decode cX4_tellVoter 1 = .ok (.getfield 60, 3) := by decide +kernel
theorem dX4_tellVoter_4 : decode cX4_tellVoter 4 = .ok (.getfield 153, 3) := by decide +kernel
theorem dX4_tellVoter_7 : decode cX4_tellVoter 7 = .ok (.bipush 8, 2) := by decide +kernel
theorem dX4_tellVoter_9 : decode cX4_tellVoter 9 = .ok (.if_icmp .lt 9, 3) := by decide +kernel
theorem dX4_tellVoter_12 : decode cX4_tellVoter 12 = .ok (.aload_n 0, 1) := by decide +kernel
theorem dX4_tellVoter_13 : decode cX4_tellVoter 13 = .ok (.iconst 2, 1) := by decide +kernel
theorem dX4_tellVoter_14 : decode cX4_tellVoter 14 = .ok (.invokevirtual 75, 3) := by decide +kernel
theorem dX4_tellVoter_17 : decode cX4_tellVoter 17 = .ok (.ireturn, 1) := by decide +kernel
theorem dX4_tellVoter_18 : decode cX4_tellVoter 18 = .ok (.aload_n 0, 1) := by decide +kernel
theorem dX4_tellVoter_19 : decode cX4_tellVoter 19 = .ok (.getfield 12, 3) := by decide +kernel
theorem dX4_tellVoter_22 : decode cX4_tellVoter 22 = .ok (.invokevirtual 133, 3) := by decide +kernel
theorem dX4_tellVoter_25 : decode cX4_tellVoter 25 = .ok (.aload_n 0, 1) := by decide +kernel
theorem dX4_tellVoter_26 : decode cX4_tellVoter 26 = .ok (.aload_n 0, 1) := by decide +kernel
theorem dX4_tellVoter_27 : decode cX4_tellVoter 27 = .ok (.getfield 60, 3) := by decide +kernel
theorem dX4_tellVoter_30 : decode cX4_tellVoter 30 = .ok (.getfield 156, 3) := by decide +kernel
theorem dX4_tellVoter_33 : decode cX4_tellVoter 33 = .ok (.aload_n 0, 1) := by decide +kernel
theorem dX4_tellVoter_34 : decode cX4_tellVoter 34 = .ok (.getfield 60, 3) := by decide +kernel
theorem dX4_tellVoter_37 : decode cX4_tellVoter 37 = .ok (.getfield 153, 3) := by decide +kernel
theorem dX4_tellVoter_40 : decode cX4_tellVoter 40 = .ok (.invokevirtual 143, 3) := by decide +kernel
theorem dX4_tellVoter_43 : decode cX4_tellVoter 43 = .ok (.ifCond .eq 11, 3) := by decide +kernel
theorem dX4_tellVoter_46 : decode cX4_tellVoter 46 = .ok (.aload_n 0, 1) := by decide +kernel
theorem dX4_tellVoter_47 : decode cX4_tellVoter 47 = .ok (.iconst 3, 1) := by decide +kernel
theorem dX4_tellVoter_48 : decode cX4_tellVoter 48 = .ok (.invokevirtual 79, 3) := by decide +kernel
theorem dX4_tellVoter_51 : decode cX4_tellVoter 51 = .ok (.ifCond .ne 5, 3) := by decide +kernel
theorem dX4_tellVoter_54 : decode cX4_tellVoter 54 = .ok (.iconst 0, 1) := by decide +kernel
theorem dX4_tellVoter_55 : decode cX4_tellVoter 55 = .ok (.ireturn, 1) := by decide +kernel
theorem dX4_tellVoter_56 : decode cX4_tellVoter 56 = .ok (.aload_n 0, 1) := by decide +kernel
theorem dX4_tellVoter_57 : decode cX4_tellVoter 57 = .ok (.aload_n 0, 1) := by decide +kernel
theorem dX4_tellVoter_58 : decode cX4_tellVoter 58 = .ok (.getfield 60, 3) := by decide +kernel
theorem dX4_tellVoter_61 : decode cX4_tellVoter 61 = .ok (.getfield 150, 3) := by decide +kernel
theorem dX4_tellVoter_64 : decode cX4_tellVoter 64 = .ok (.aload_n 0, 1) := by decide +kernel
theorem dX4_tellVoter_65 : decode cX4_tellVoter 65 = .ok (.getfield 60, 3) := by decide +kernel
theorem dX4_tellVoter_68 : decode cX4_tellVoter 68 = .ok (.getfield 147, 3) := by decide +kernel
theorem dX4_tellVoter_71 : decode cX4_tellVoter 71 = .ok (.iconst 0, 1) := by decide +kernel
theorem dX4_tellVoter_72 : decode cX4_tellVoter 72 = .ok (.invokevirtual 159, 3) := by decide +kernel
theorem dX4_tellVoter_75 : decode cX4_tellVoter 75 = .ok (.istore_n 1, 1) := by decide +kernel
theorem dX4_tellVoter_76 : decode cX4_tellVoter 76 = .ok (.iload_n 1, 1) := by decide +kernel
theorem dX4_tellVoter_77 : decode cX4_tellVoter 77 = .ok (.ifCond .lt 11, 3) := by decide +kernel
theorem dX4_tellVoter_80 : decode cX4_tellVoter 80 = .ok (.aload_n 0, 1) := by decide +kernel
theorem dX4_tellVoter_81 : decode cX4_tellVoter 81 = .ok (.iconst 4, 1) := by decide +kernel
theorem dX4_tellVoter_82 : decode cX4_tellVoter 82 = .ok (.invokevirtual 79, 3) := by decide +kernel
theorem dX4_tellVoter_85 : decode cX4_tellVoter 85 = .ok (.ifCond .ne 5, 3) := by decide +kernel
theorem dX4_tellVoter_88 : decode cX4_tellVoter 88 = .ok (.iconst 0, 1) := by decide +kernel
theorem dX4_tellVoter_89 : decode cX4_tellVoter 89 = .ok (.ireturn, 1) := by decide +kernel
theorem dX4_tellVoter_90 : decode cX4_tellVoter 90 = .ok (.aload_n 0, 1) := by decide +kernel
theorem dX4_tellVoter_91 : decode cX4_tellVoter 91 = .ok (.getfield 12, 3) := by decide +kernel
theorem dX4_tellVoter_94 : decode cX4_tellVoter 94 = .ok (.getfield 163, 3) := by decide +kernel
theorem dX4_tellVoter_97 : decode cX4_tellVoter 97 = .ok (.l2i, 1) := by decide +kernel
theorem dX4_tellVoter_98 : decode cX4_tellVoter 98 = .ok (.istore_n 2, 1) := by decide +kernel
theorem dX4_tellVoter_99 : decode cX4_tellVoter 99 = .ok (.aload_n 0, 1) := by decide +kernel
theorem dX4_tellVoter_100 : decode cX4_tellVoter 100 = .ok (.getfield 12, 3) := by decide +kernel
theorem dX4_tellVoter_103 : decode cX4_tellVoter 103 = .ok (.getfield 41, 3) := by decide +kernel
theorem dX4_tellVoter_106 : decode cX4_tellVoter 106 = .ok (.bipush 21, 2) := by decide +kernel
theorem dX4_tellVoter_108 : decode cX4_tellVoter 108 = .ok (.if_icmp .ne 20, 3) := by decide +kernel
theorem dX4_tellVoter_111 : decode cX4_tellVoter 111 = .ok (.iload_n 2, 1) := by decide +kernel
theorem dX4_tellVoter_112 : decode cX4_tellVoter 112 = .ok (.iconst 1, 1) := by decide +kernel
theorem dX4_tellVoter_113 : decode cX4_tellVoter 113 = .ok (.if_icmp .lt 9, 3) := by decide +kernel
theorem dX4_tellVoter_116 : decode cX4_tellVoter 116 = .ok (.iload_n 2, 1) := by decide +kernel
theorem dX4_tellVoter_117 : decode cX4_tellVoter 117 = .ok (.bipush 9, 2) := by decide +kernel
theorem dX4_tellVoter_119 : decode cX4_tellVoter 119 = .ok (.if_icmp .le 9, 3) := by decide +kernel
theorem dX4_tellVoter_122 : decode cX4_tellVoter 122 = .ok (.aload_n 0, 1) := by decide +kernel
theorem dX4_tellVoter_123 : decode cX4_tellVoter 123 = .ok (.iconst 4, 1) := by decide +kernel
theorem dX4_tellVoter_124 : decode cX4_tellVoter 124 = .ok (.invokevirtual 75, 3) := by decide +kernel
theorem dX4_tellVoter_127 : decode cX4_tellVoter 127 = .ok (.ireturn, 1) := by decide +kernel
theorem dX4_tellVoter_128 : decode cX4_tellVoter 128 = .ok (.aload_n 0, 1) := by decide +kernel
theorem dX4_tellVoter_129 : decode cX4_tellVoter 129 = .ok (.bipush 21, 2) := by decide +kernel
theorem dX4_tellVoter_131 : decode cX4_tellVoter 131 = .ok (.invokevirtual 79, 3) := by decide +kernel
theorem dX4_tellVoter_134 : decode cX4_tellVoter 134 = .ok (.ifCond .ne 5, 3) := by decide +kernel
theorem dX4_tellVoter_137 : decode cX4_tellVoter 137 = .ok (.iconst 0, 1) := by decide +kernel
theorem dX4_tellVoter_138 : decode cX4_tellVoter 138 = .ok (.ireturn, 1) := by decide +kernel
theorem dX4_tellVoter_139 : decode cX4_tellVoter 139 = .ok (.aload_n 0, 1) := by decide +kernel
theorem dX4_tellVoter_140 : decode cX4_tellVoter 140 = .ok (.getfield 60, 3) := by decide +kernel
theorem dX4_tellVoter_143 : decode cX4_tellVoter 143 = .ok (.iload_n 1, 1) := by decide +kernel
theorem dX4_tellVoter_144 : decode cX4_tellVoter 144 = .ok (.iload_n 2, 1) := by decide +kernel
theorem dX4_tellVoter_145 : decode cX4_tellVoter 145 = .ok (.invokevirtual 167, 3) := by decide +kernel
theorem dX4_tellVoter_148 : decode cX4_tellVoter 148 = .ok (.iconst 1, 1) := by decide +kernel
theorem dX4_tellVoter_149 : decode cX4_tellVoter 149 = .ok (.ireturn, 1) := by decide +kernel
theorem dX4_tellWhoseBallot_0 : decode cX4_tellWhoseBallot 0 = .ok (.aload_n 0, 1) := by decide +kernel
theorem dX4_tellWhoseBallot_1 : decode cX4_tellWhoseBallot 1 = .ok (.getfield 12, 3) := by decide +kernel
theorem dX4_tellWhoseBallot_4 : decode cX4_tellWhoseBallot 4 = .ok (.invokevirtual 133, 3) := by decide +kernel
theorem dX4_tellWhoseBallot_7 : decode cX4_tellWhoseBallot 7 = .ok (.aload_n 0, 1) := by decide +kernel
theorem dX4_tellWhoseBallot_8 : decode cX4_tellWhoseBallot 8 = .ok (.aload_n 0, 1) := by decide +kernel
theorem dX4_tellWhoseBallot_9 : decode cX4_tellWhoseBallot 9 = .ok (.getfield 60, 3) := by decide +kernel
theorem dX4_tellWhoseBallot_12 : decode cX4_tellWhoseBallot 12 = .ok (.getfield 156, 3) := by decide +kernel
theorem dX4_tellWhoseBallot_15 : decode cX4_tellWhoseBallot 15 = .ok (.aload_n 0, 1) := by decide +kernel
theorem dX4_tellWhoseBallot_16 : decode cX4_tellWhoseBallot 16 = .ok (.getfield 60, 3) := by decide +kernel
theorem dX4_tellWhoseBallot_19 : decode cX4_tellWhoseBallot 19 = .ok (.getfield 153, 3) := by decide +kernel
theorem dX4_tellWhoseBallot_22 : decode cX4_tellWhoseBallot 22 = .ok (.aload_n 0, 1) := by decide +kernel
theorem dX4_tellWhoseBallot_23 : decode cX4_tellWhoseBallot 23 = .ok (.getfield 60, 3) := by decide +kernel
theorem dX4_tellWhoseBallot_26 : decode cX4_tellWhoseBallot 26 = .ok (.getfield 171, 3) := by decide +kernel
theorem dX4_tellWhoseBallot_29 : decode cX4_tellWhoseBallot 29 = .ok (.invokevirtual 159, 3) := by decide +kernel
theorem dX4_tellWhoseBallot_32 : decode cX4_tellWhoseBallot 32 = .ok (.istore_n 1, 1) := by decide +kernel
theorem dX4_tellWhoseBallot_33 : decode cX4_tellWhoseBallot 33 = .ok (.iload_n 1, 1) := by decide +kernel
theorem dX4_tellWhoseBallot_34 : decode cX4_tellWhoseBallot 34 = .ok (.ifCond .ge 5, 3) := by decide +kernel
theorem dX4_tellWhoseBallot_37 : decode cX4_tellWhoseBallot 37 = .ok (.iconst 0, 1) := by decide +kernel
theorem dX4_tellWhoseBallot_38 : decode cX4_tellWhoseBallot 38 = .ok (.ireturn, 1) := by decide +kernel
theorem dX4_tellWhoseBallot_39 : decode cX4_tellWhoseBallot 39 = .ok (.aload_n 0, 1) := by decide +kernel
theorem dX4_tellWhoseBallot_40 : decode cX4_tellWhoseBallot 40 = .ok (.iload_n 1, 1) := by decide +kernel
theorem dX4_tellWhoseBallot_41 : decode cX4_tellWhoseBallot 41 = .ok (.invokevirtual 82, 3) := by decide +kernel
theorem dX4_tellWhoseBallot_44 : decode cX4_tellWhoseBallot 44 = .ok (.iconst 1, 1) := by decide +kernel
theorem dX4_tellWhoseBallot_45 : decode cX4_tellWhoseBallot 45 = .ok (.ireturn, 1) := by decide +kernel
theorem dX4_takeNew_0 : decode cX4_takeNew 0 = .ok (.aload_n 0, 1) := by decide +kernel
theorem dX4_takeNew_1 : decode cX4_takeNew 1 = .ok (.getfield 12, 3) := by decide +kernel
theorem dX4_takeNew_4 : decode cX4_takeNew 4 = .ok (.getfield 41, 3) := by decide +kernel
theorem dX4_takeNew_7 : decode cX4_takeNew 7 = .ok (.bipush 20, 2) := by decide +kernel
theorem dX4_takeNew_9 : decode cX4_takeNew 9 = .ok (.if_icmp .ne 13, 3) := by decide +kernel
theorem dX4_takeNew_12 : decode cX4_takeNew 12 = .ok (.iload_n 2, 1) := by decide +kernel
theorem dX4_takeNew_13 : decode cX4_takeNew 13 = .ok (.ifCond .lt 9, 3) := by decide +kernel
theorem dX4_takeNew_16 : decode cX4_takeNew 16 = .ok (.iload_n 2, 1) := by decide +kernel
theorem dX4_takeNew_17 : decode cX4_takeNew 17 = .ok (.aload_n 1, 1) := by decide +kernel
theorem dX4_takeNew_18 : decode cX4_takeNew 18 = .ok (.arraylength, 1) := by decide +kernel
theorem dX4_takeNew_19 : decode cX4_takeNew 19 = .ok (.if_icmp .lt 9, 3) := by decide +kernel
theorem dX4_takeNew_22 : decode cX4_takeNew 22 = .ok (.aload_n 0, 1) := by decide +kernel
theorem dX4_takeNew_23 : decode cX4_takeNew 23 = .ok (.iconst 2, 1) := by decide +kernel
theorem dX4_takeNew_24 : decode cX4_takeNew 24 = .ok (.invokevirtual 75, 3) := by decide +kernel
theorem dX4_takeNew_27 : decode cX4_takeNew 27 = .ok (.ireturn, 1) := by decide +kernel
theorem dX4_takeNew_28 : decode cX4_takeNew 28 = .ok (.iconst 0, 1) := by decide +kernel
theorem dX4_takeNew_29 : decode cX4_takeNew 29 = .ok (.istore_n 3, 1) := by decide +kernel
theorem dX4_takeNew_30 : decode cX4_takeNew 30 = .ok (.iload_n 3, 1) := by decide +kernel
theorem dX4_takeNew_31 : decode cX4_takeNew 31 = .ok (.iload_n 2, 1) := by decide +kernel
theorem dX4_takeNew_32 : decode cX4_takeNew 32 = .ok (.if_icmp .ge 29, 3) := by decide +kernel
theorem dX4_takeNew_35 : decode cX4_takeNew 35 = .ok (.aload_n 1, 1) := by decide +kernel
theorem dX4_takeNew_36 : decode cX4_takeNew 36 = .ok (.iload_n 3, 1) := by decide +kernel
theorem dX4_takeNew_37 : decode cX4_takeNew 37 = .ok (.laload, 1) := by decide +kernel
theorem dX4_takeNew_38 : decode cX4_takeNew 38 = .ok (.aload_n 0, 1) := by decide +kernel
theorem dX4_takeNew_39 : decode cX4_takeNew 39 = .ok (.getfield 12, 3) := by decide +kernel
theorem dX4_takeNew_42 : decode cX4_takeNew 42 = .ok (.getfield 163, 3) := by decide +kernel
theorem dX4_takeNew_45 : decode cX4_takeNew 45 = .ok (.lcmp, 1) := by decide +kernel
theorem dX4_takeNew_46 : decode cX4_takeNew 46 = .ok (.ifCond .ne 9, 3) := by decide +kernel
theorem dX4_takeNew_49 : decode cX4_takeNew 49 = .ok (.aload_n 0, 1) := by decide +kernel
theorem dX4_takeNew_50 : decode cX4_takeNew 50 = .ok (.iconst 3, 1) := by decide +kernel
theorem dX4_takeNew_51 : decode cX4_takeNew 51 = .ok (.invokevirtual 75, 3) := by decide +kernel
theorem dX4_takeNew_54 : decode cX4_takeNew 54 = .ok (.ireturn, 1) := by decide +kernel
theorem dX4_takeNew_55 : decode cX4_takeNew 55 = .ok (.iinc 3 1, 3) := by decide +kernel
theorem dX4_takeNew_58 : decode cX4_takeNew 58 = .ok (.goto (-28), 3) := by decide +kernel
theorem dX4_takeNew_61 : decode cX4_takeNew 61 = .ok (.aload_n 1, 1) := by decide +kernel
theorem dX4_takeNew_62 : decode cX4_takeNew 62 = .ok (.iload_n 2, 1) := by decide +kernel
theorem dX4_takeNew_63 : decode cX4_takeNew 63 = .ok (.aload_n 0, 1) := by decide +kernel
theorem dX4_takeNew_64 : decode cX4_takeNew 64 = .ok (.getfield 12, 3) := by decide +kernel
theorem dX4_takeNew_67 : decode cX4_takeNew 67 = .ok (.getfield 163, 3) := by decide +kernel
theorem dX4_takeNew_70 : decode cX4_takeNew 70 = .ok (.lastore, 1) := by decide +kernel
theorem dX4_takeNew_71 : decode cX4_takeNew 71 = .ok (.aload_n 0, 1) := by decide +kernel
theorem dX4_takeNew_72 : decode cX4_takeNew 72 = .ok (.getfield 12, 3) := by decide +kernel
theorem dX4_takeNew_75 : decode cX4_takeNew 75 = .ok (.invokevirtual 133, 3) := by decide +kernel
theorem dX4_takeNew_78 : decode cX4_takeNew 78 = .ok (.iconst 1, 1) := by decide +kernel
theorem dX4_takeNew_79 : decode cX4_takeNew 79 = .ok (.ireturn, 1) := by decide +kernel
theorem dX4_takeKnown_0 : decode cX4_takeKnown 0 = .ok (.aload_n 0, 1) := by decide +kernel
theorem dX4_takeKnown_1 : decode cX4_takeKnown 1 = .ok (.getfield 38, 3) := by decide +kernel
theorem dX4_takeKnown_4 : decode cX4_takeKnown 4 = .ok (.ifCond .ne 15, 3) := by decide +kernel
theorem dX4_takeKnown_7 : decode cX4_takeKnown 7 = .ok (.aload_n 0, 1) := by decide +kernel
theorem dX4_takeKnown_8 : decode cX4_takeKnown 8 = .ok (.getfield 12, 3) := by decide +kernel
theorem dX4_takeKnown_11 : decode cX4_takeKnown 11 = .ok (.getfield 41, 3) := by decide +kernel
theorem dX4_takeKnown_14 : decode cX4_takeKnown 14 = .ok (.bipush 20, 2) := by decide +kernel
theorem dX4_takeKnown_16 : decode cX4_takeKnown 16 = .ok (.if_icmp .eq 11, 3) := by decide +kernel
theorem dX4_takeKnown_19 : decode cX4_takeKnown 19 = .ok (.aload_n 0, 1) := by decide +kernel
theorem dX4_takeKnown_20 : decode cX4_takeKnown 20 = .ok (.iconst 2, 1) := by decide +kernel
theorem dX4_takeKnown_21 : decode cX4_takeKnown 21 = .ok (.invokevirtual 75, 3) := by decide +kernel
theorem dX4_takeKnown_24 : decode cX4_takeKnown 24 = .ok (.pop, 1) := by decide +kernel
theorem dX4_takeKnown_25 : decode cX4_takeKnown 25 = .ok (.iconst (-1), 1) := by decide +kernel
theorem dX4_takeKnown_26 : decode cX4_takeKnown 26 = .ok (.ireturn, 1) := by decide +kernel
theorem dX4_takeKnown_27 : decode cX4_takeKnown 27 = .ok (.iconst (-1), 1) := by decide +kernel
theorem dX4_takeKnown_28 : decode cX4_takeKnown 28 = .ok (.istore 4, 2) := by decide +kernel
theorem dX4_takeKnown_30 : decode cX4_takeKnown 30 = .ok (.iconst 0, 1) := by decide +kernel
theorem dX4_takeKnown_31 : decode cX4_takeKnown 31 = .ok (.istore 5, 2) := by decide +kernel
theorem dX4_takeKnown_33 : decode cX4_takeKnown 33 = .ok (.iload 5, 2) := by decide +kernel
theorem dX4_takeKnown_35 : decode cX4_takeKnown 35 = .ok (.iload_n 2, 1) := by decide +kernel
theorem dX4_takeKnown_36 : decode cX4_takeKnown 36 = .ok (.if_icmp .ge 35, 3) := by decide +kernel
theorem dX4_takeKnown_39 : decode cX4_takeKnown 39 = .ok (.iload 5, 2) := by decide +kernel
theorem dX4_takeKnown_41 : decode cX4_takeKnown 41 = .ok (.aload_n 1, 1) := by decide +kernel
theorem dX4_takeKnown_42 : decode cX4_takeKnown 42 = .ok (.arraylength, 1) := by decide +kernel
theorem dX4_takeKnown_43 : decode cX4_takeKnown 43 = .ok (.if_icmp .ge 28, 3) := by decide +kernel
theorem dX4_takeKnown_46 : decode cX4_takeKnown 46 = .ok (.aload_n 1, 1) := by decide +kernel
theorem dX4_takeKnown_47 : decode cX4_takeKnown 47 = .ok (.iload 5, 2) := by decide +kernel
theorem dX4_takeKnown_49 : decode cX4_takeKnown 49 = .ok (.laload, 1) := by decide +kernel
theorem dX4_takeKnown_50 : decode cX4_takeKnown 50 = .ok (.aload_n 0, 1) := by decide +kernel
theorem dX4_takeKnown_51 : decode cX4_takeKnown 51 = .ok (.getfield 12, 3) := by decide +kernel
theorem dX4_takeKnown_54 : decode cX4_takeKnown 54 = .ok (.getfield 163, 3) := by decide +kernel
theorem dX4_takeKnown_57 : decode cX4_takeKnown 57 = .ok (.lcmp, 1) := by decide +kernel
theorem dX4_takeKnown_58 : decode cX4_takeKnown 58 = .ok (.ifCond .ne 7, 3) := by decide +kernel
theorem dX4_takeKnown_61 : decode cX4_takeKnown 61 = .ok (.iload 5, 2) := by decide +kernel
theorem dX4_takeKnown_63 : decode cX4_takeKnown 63 = .ok (.istore 4, 2) := by decide +kernel
theorem dX4_takeKnown_65 : decode cX4_takeKnown 65 = .ok (.iinc 5 1, 3) := by decide +kernel
theorem dX4_takeKnown_68 : decode cX4_takeKnown 68 = .ok (.goto (-35), 3) := by decide +kernel
theorem dX4_takeKnown_71 : decode cX4_takeKnown 71 = .ok (.iload 4, 2) := by decide +kernel
theorem dX4_takeKnown_73 : decode cX4_takeKnown 73 = .ok (.iconst (-1), 1) := by decide +kernel
theorem dX4_takeKnown_74 : decode cX4_takeKnown 74 = .ok (.if_icmp .ne 11, 3) := by decide +kernel
theorem dX4_takeKnown_77 : decode cX4_takeKnown 77 = .ok (.aload_n 0, 1) := by decide +kernel
theorem dX4_takeKnown_78 : decode cX4_takeKnown 78 = .ok (.iconst 5, 1) := by decide +kernel
theorem dX4_takeKnown_79 : decode cX4_takeKnown 79 = .ok (.invokevirtual 75, 3) := by decide +kernel
theorem dX4_takeKnown_82 : decode cX4_takeKnown 82 = .ok (.pop, 1) := by decide +kernel
theorem dX4_takeKnown_83 : decode cX4_takeKnown 83 = .ok (.iconst (-1), 1) := by decide +kernel
theorem dX4_takeKnown_84 : decode cX4_takeKnown 84 = .ok (.ireturn, 1) := by decide +kernel
theorem dX4_takeKnown_85 : decode cX4_takeKnown 85 = .ok (.iload_n 3, 1) := by decide +kernel
theorem dX4_takeKnown_86 : decode cX4_takeKnown 86 = .ok (.iload 4, 2) := by decide +kernel
theorem dX4_takeKnown_88 : decode cX4_takeKnown 88 = .ok (.ishr, 1) := by decide +kernel
theorem dX4_takeKnown_89 : decode cX4_takeKnown 89 = .ok (.iconst 1, 1) := by decide +kernel
theorem dX4_takeKnown_90 : decode cX4_takeKnown 90 = .ok (.iand, 1) := by decide +kernel
theorem dX4_takeKnown_91 : decode cX4_takeKnown 91 = .ok (.iconst 1, 1) := by decide +kernel
theorem dX4_takeKnown_92 : decode cX4_takeKnown 92 = .ok (.if_icmp .ne 11, 3) := by decide +kernel
theorem dX4_takeKnown_95 : decode cX4_takeKnown 95 = .ok (.aload_n 0, 1) := by decide +kernel
theorem dX4_takeKnown_96 : decode cX4_takeKnown 96 = .ok (.iconst 3, 1) := by decide +kernel
theorem dX4_takeKnown_97 : decode cX4_takeKnown 97 = .ok (.invokevirtual 75, 3) := by decide +kernel
theorem dX4_takeKnown_100 : decode cX4_takeKnown 100 = .ok (.pop, 1) := by decide +kernel
theorem dX4_takeKnown_101 : decode cX4_takeKnown 101 = .ok (.iconst (-1), 1) := by decide +kernel
theorem dX4_takeKnown_102 : decode cX4_takeKnown 102 = .ok (.ireturn, 1) := by decide +kernel
theorem dX4_takeKnown_103 : decode cX4_takeKnown 103 = .ok (.aload_n 0, 1) := by decide +kernel
theorem dX4_takeKnown_104 : decode cX4_takeKnown 104 = .ok (.getfield 12, 3) := by decide +kernel
theorem dX4_takeKnown_107 : decode cX4_takeKnown 107 = .ok (.invokevirtual 133, 3) := by decide +kernel
theorem dX4_takeKnown_110 : decode cX4_takeKnown 110 = .ok (.iload 4, 2) := by decide +kernel
theorem dX4_takeKnown_112 : decode cX4_takeKnown 112 = .ok (.ireturn, 1) := by decide +kernel
theorem dX4_takeOther_0 : decode cX4_takeOther 0 = .ok (.aload_n 0, 1) := by decide +kernel
theorem dX4_takeOther_1 : decode cX4_takeOther 1 = .ok (.aload_n 0, 1) := by decide +kernel
theorem dX4_takeOther_2 : decode cX4_takeOther 2 = .ok (.getfield 60, 3) := by decide +kernel
theorem dX4_takeOther_5 : decode cX4_takeOther 5 = .ok (.getfield 156, 3) := by decide +kernel
theorem dX4_takeOther_8 : decode cX4_takeOther 8 = .ok (.aload_n 0, 1) := by decide +kernel
theorem dX4_takeOther_9 : decode cX4_takeOther 9 = .ok (.getfield 60, 3) := by decide +kernel
theorem dX4_takeOther_12 : decode cX4_takeOther 12 = .ok (.getfield 153, 3) := by decide +kernel
theorem dX4_takeOther_15 : decode cX4_takeOther 15 = .ok (.iconst 1, 1) := by decide +kernel
theorem dX4_takeOther_16 : decode cX4_takeOther 16 = .ok (.aload_n 0, 1) := by decide +kernel
theorem dX4_takeOther_17 : decode cX4_takeOther 17 = .ok (.getfield 64, 3) := by decide +kernel
theorem dX4_takeOther_20 : decode cX4_takeOther 20 = .ok (.ishl, 1) := by decide +kernel
theorem dX4_takeOther_21 : decode cX4_takeOther 21 = .ok (.invokevirtual 159, 3) := by decide +kernel
theorem dX4_takeOther_24 : decode cX4_takeOther 24 = .ok (.istore_n 1, 1) := by decide +kernel
theorem dX4_takeOther_25 : decode cX4_takeOther 25 = .ok (.iload_n 1, 1) := by decide +kernel
theorem dX4_takeOther_26 : decode cX4_takeOther 26 = .ok (.ifCond .lt 15, 3) := by decide +kernel
theorem dX4_takeOther_29 : decode cX4_takeOther 29 = .ok (.aload_n 0, 1) := by decide +kernel
theorem dX4_takeOther_30 : decode cX4_takeOther 30 = .ok (.dup, 1) := by decide +kernel
theorem dX4_takeOther_31 : decode cX4_takeOther 31 = .ok (.getfield 112, 3) := by decide +kernel
theorem dX4_takeOther_34 : decode cX4_takeOther 34 = .ok (.iconst 1, 1) := by decide +kernel
theorem dX4_takeOther_35 : decode cX4_takeOther 35 = .ok (.iload_n 1, 1) := by decide +kernel
theorem dX4_takeOther_36 : decode cX4_takeOther 36 = .ok (.ishl, 1) := by decide +kernel
theorem dX4_takeOther_37 : decode cX4_takeOther 37 = .ok (.ior, 1) := by decide +kernel
theorem dX4_takeOther_38 : decode cX4_takeOther 38 = .ok (.putfield 112, 3) := by decide +kernel
theorem dX4_takeOther_41 : decode cX4_takeOther 41 = .ok (.iload_n 1, 1) := by decide +kernel
theorem dX4_takeOther_42 : decode cX4_takeOther 42 = .ok (.ireturn, 1) := by decide +kernel
theorem dX4_takeStreet_0 : decode cX4_takeStreet 0 = .ok (.iconst 0, 1) := by decide +kernel
theorem dX4_takeStreet_1 : decode cX4_takeStreet 1 = .ok (.istore_n 1, 1) := by decide +kernel
theorem dX4_takeStreet_2 : decode cX4_takeStreet 2 = .ok (.aload_n 0, 1) := by decide +kernel
theorem dX4_takeStreet_3 : decode cX4_takeStreet 3 = .ok (.getfield 12, 3) := by decide +kernel
theorem dX4_takeStreet_6 : decode cX4_takeStreet 6 = .ok (.getfield 41, 3) := by decide +kernel
theorem dX4_takeStreet_9 : decode cX4_takeStreet 9 = .ok (.bipush 12, 2) := by decide +kernel
theorem dX4_takeStreet_11 : decode cX4_takeStreet 11 = .ok (.if_icmp .ne 40, 3) := by decide +kernel
theorem dX4_takeStreet_14 : decode cX4_takeStreet 14 = .ok (.aload_n 0, 1) := by decide +kernel
theorem dX4_takeStreet_15 : decode cX4_takeStreet 15 = .ok (.getfield 12, 3) := by decide +kernel
theorem dX4_takeStreet_18 : decode cX4_takeStreet 18 = .ok (.invokevirtual 133, 3) := by decide +kernel
theorem dX4_takeStreet_21 : decode cX4_takeStreet 21 = .ok (.aload_n 0, 1) := by decide +kernel
theorem dX4_takeStreet_22 : decode cX4_takeStreet 22 = .ok (.aload_n 0, 1) := by decide +kernel
theorem dX4_takeStreet_23 : decode cX4_takeStreet 23 = .ok (.getfield 60, 3) := by decide +kernel
theorem dX4_takeStreet_26 : decode cX4_takeStreet 26 = .ok (.getfield 150, 3) := by decide +kernel
theorem dX4_takeStreet_29 : decode cX4_takeStreet 29 = .ok (.aload_n 0, 1) := by decide +kernel
theorem dX4_takeStreet_30 : decode cX4_takeStreet 30 = .ok (.getfield 60, 3) := by decide +kernel
theorem dX4_takeStreet_33 : decode cX4_takeStreet 33 = .ok (.getfield 147, 3) := by decide +kernel
theorem dX4_takeStreet_36 : decode cX4_takeStreet 36 = .ok (.iconst 0, 1) := by decide +kernel
theorem dX4_takeStreet_37 : decode cX4_takeStreet 37 = .ok (.invokevirtual 159, 3) := by decide +kernel
theorem dX4_takeStreet_40 : decode cX4_takeStreet 40 = .ok (.istore_n 2, 1) := by decide +kernel
theorem dX4_takeStreet_41 : decode cX4_takeStreet 41 = .ok (.iload_n 2, 1) := by decide +kernel
theorem dX4_takeStreet_42 : decode cX4_takeStreet 42 = .ok (.ifCond .ge 5, 3) := by decide +kernel
theorem dX4_takeStreet_45 : decode cX4_takeStreet 45 = .ok (.iconst (-1), 1) := by decide +kernel
theorem dX4_takeStreet_46 : decode cX4_takeStreet 46 = .ok (.ireturn, 1) := by decide +kernel
theorem dX4_takeStreet_47 : decode cX4_takeStreet 47 = .ok (.iload_n 2, 1) := by decide +kernel
theorem dX4_takeStreet_48 : decode cX4_takeStreet 48 = .ok (.iconst 1, 1) := by decide +kernel
theorem dX4_takeStreet_49 : decode cX4_takeStreet 49 = .ok (.iadd, 1) := by decide +kernel
theorem dX4_takeStreet_50 : decode cX4_takeStreet 50 = .ok (.istore_n 1, 1) := by decide +kernel
theorem dX4_takeStreet_51 : decode cX4_takeStreet 51 = .ok (.aload_n 0, 1) := by decide +kernel
theorem dX4_takeStreet_52 : decode cX4_takeStreet 52 = .ok (.dup, 1) := by decide +kernel
theorem dX4_takeStreet_53 : decode cX4_takeStreet 53 = .ok (.getfield 115, 3) := by decide +kernel
theorem dX4_takeStreet_56 : decode cX4_takeStreet 56 = .ok (.iconst 1, 1) := by decide +kernel
theorem dX4_takeStreet_57 : decode cX4_takeStreet 57 = .ok (.iload_n 1, 1) := by decide +kernel
theorem dX4_takeStreet_58 : decode cX4_takeStreet 58 = .ok (.ishl, 1) := by decide +kernel
theorem dX4_takeStreet_59 : decode cX4_takeStreet 59 = .ok (.ior, 1) := by decide +kernel
theorem dX4_takeStreet_60 : decode cX4_takeStreet 60 = .ok (.putfield 115, 3) := by decide +kernel
theorem dX4_takeStreet_63 : decode cX4_takeStreet 63 = .ok (.iload_n 1, 1) := by decide +kernel
theorem dX4_takeStreet_64 : decode cX4_takeStreet 64 = .ok (.ireturn, 1) := by decide +kernel
theorem dX4_readWording_0 : decode cX4_readWording 0 = .ok (.iconst 0, 1) := by decide +kernel
theorem dX4_readWording_1 : decode cX4_readWording 1 = .ok (.istore_n 1, 1) := by decide +kernel
theorem dX4_readWording_2 : decode cX4_readWording 2 = .ok (.iconst 0, 1) := by decide +kernel
theorem dX4_readWording_3 : decode cX4_readWording 3 = .ok (.istore_n 2, 1) := by decide +kernel
theorem dX4_readWording_4 : decode cX4_readWording 4 = .ok (.iload_n 2, 1) := by decide +kernel
theorem dX4_readWording_5 : decode cX4_readWording 5 = .ok (.sipush 1601, 3) := by decide +kernel
theorem dX4_readWording_8 : decode cX4_readWording 8 = .ok (.if_icmp .gt 79, 3) := by decide +kernel
theorem dX4_readWording_11 : decode cX4_readWording 11 = .ok (.aload_n 0, 1) := by decide +kernel
theorem dX4_readWording_12 : decode cX4_readWording 12 = .ok (.getfield 38, 3) := by decide +kernel
theorem dX4_readWording_15 : decode cX4_readWording 15 = .ok (.ifCond .ne 72, 3) := by decide +kernel
theorem dX4_readWording_18 : decode cX4_readWording 18 = .ok (.iload_n 1, 1) := by decide +kernel
theorem dX4_readWording_19 : decode cX4_readWording 19 = .ok (.iconst 4, 1) := by decide +kernel
theorem dX4_readWording_20 : decode cX4_readWording 20 = .ok (.if_icmp .eq 67, 3) := by decide +kernel
theorem dX4_readWording_23 : decode cX4_readWording 23 = .ok (.iload_n 1, 1) := by decide +kernel
theorem dX4_readWording_24 : decode cX4_readWording 24 = .ok (.tableswitch 52 0 2 #[28, 36, 44], 28) := by decide +kernel
theorem dX4_readWording_52 : decode cX4_readWording 52 = .ok (.aload_n 0, 1) := by decide +kernel
theorem dX4_readWording_53 : decode cX4_readWording 53 = .ok (.invokevirtual 174, 3) := by decide +kernel
theorem dX4_readWording_56 : decode cX4_readWording 56 = .ok (.istore_n 1, 1) := by decide +kernel
theorem dX4_readWording_57 : decode cX4_readWording 57 = .ok (.goto 24, 3) := by decide +kernel
theorem dX4_readWording_60 : decode cX4_readWording 60 = .ok (.aload_n 0, 1) := by decide +kernel
theorem dX4_readWording_61 : decode cX4_readWording 61 = .ok (.invokevirtual 178, 3) := by decide +kernel
theorem dX4_readWording_64 : decode cX4_readWording 64 = .ok (.istore_n 1, 1) := by decide +kernel
theorem dX4_readWording_65 : decode cX4_readWording 65 = .ok (.goto 16, 3) := by decide +kernel
theorem dX4_readWording_68 : decode cX4_readWording 68 = .ok (.aload_n 0, 1) := by decide +kernel
theorem dX4_readWording_69 : decode cX4_readWording 69 = .ok (.invokevirtual 181, 3) := by decide +kernel
theorem dX4_readWording_72 : decode cX4_readWording 72 = .ok (.istore_n 1, 1) := by decide +kernel
theorem dX4_readWording_73 : decode cX4_readWording 73 = .ok (.goto 8, 3) := by decide +kernel
theorem dX4_readWording_76 : decode cX4_readWording 76 = .ok (.aload_n 0, 1) := by decide +kernel
theorem dX4_readWording_77 : decode cX4_readWording 77 = .ok (.invokevirtual 184, 3) := by decide +kernel
theorem dX4_readWording_80 : decode cX4_readWording 80 = .ok (.istore_n 1, 1) := by decide +kernel
theorem dX4_readWording_81 : decode cX4_readWording 81 = .ok (.iinc 2 1, 3) := by decide +kernel
theorem dX4_readWording_84 : decode cX4_readWording 84 = .ok (.goto (-80), 3) := by decide +kernel
theorem dX4_readWording_87 : decode cX4_readWording 87 = .ok (.aload_n 0, 1) := by decide +kernel
theorem dX4_readWording_88 : decode cX4_readWording 88 = .ok (.getfield 38, 3) := by decide +kernel
theorem dX4_readWording_91 : decode cX4_readWording 91 = .ok (.ifCond .ne 7, 3) := by decide +kernel
theorem dX4_readWording_94 : decode cX4_readWording 94 = .ok (.iconst 1, 1) := by decide +kernel
theorem dX4_readWording_95 : decode cX4_readWording 95 = .ok (.goto 4, 3) := by decide +kernel
theorem dX4_readWording_98 : decode cX4_readWording 98 = .ok (.iconst 0, 1) := by decide +kernel
theorem dX4_readWording_99 : decode cX4_readWording 99 = .ok (.ireturn, 1) := by decide +kernel
theorem dX4_readStart_0 : decode cX4_readStart 0 = .ok (.aload_n 0, 1) := by decide +kernel
theorem dX4_readStart_1 : decode cX4_readStart 1 = .ok (.getfield 12, 3) := by decide +kernel
theorem dX4_readStart_4 : decode cX4_readStart 4 = .ok (.getfield 41, 3) := by decide +kernel
theorem dX4_readStart_7 : decode cX4_readStart 7 = .ok (.bipush 6, 2) := by decide +kernel
theorem dX4_readStart_9 : decode cX4_readStart 9 = .ok (.if_icmp .ne 10, 3) := by decide +kernel
theorem dX4_readStart_12 : decode cX4_readStart 12 = .ok (.aload_n 0, 1) := by decide +kernel
theorem dX4_readStart_13 : decode cX4_readStart 13 = .ok (.iconst 0, 1) := by decide +kernel
theorem dX4_readStart_14 : decode cX4_readStart 14 = .ok (.invokevirtual 187, 3) := by decide +kernel
theorem dX4_readStart_17 : decode cX4_readStart 17 = .ok (.iconst 1, 1) := by decide +kernel
theorem dX4_readStart_18 : decode cX4_readStart 18 = .ok (.ireturn, 1) := by decide +kernel
theorem dX4_readStart_19 : decode cX4_readStart 19 = .ok (.aload_n 0, 1) := by decide +kernel
theorem dX4_readStart_20 : decode cX4_readStart 20 = .ok (.invokevirtual 190, 3) := by decide +kernel
theorem dX4_readStart_23 : decode cX4_readStart 23 = .ok (.pop, 1) := by decide +kernel
theorem dX4_readStart_24 : decode cX4_readStart 24 = .ok (.iconst 3, 1) := by decide +kernel
theorem dX4_readStart_25 : decode cX4_readStart 25 = .ok (.ireturn, 1) := by decide +kernel
theorem dX4_readMark_0 : decode cX4_readMark 0 = .ok (.aload_n 0, 1) := by decide +kernel
theorem dX4_readMark_1 : decode cX4_readMark 1 = .ok (.getfield 12, 3) := by decide +kernel
theorem dX4_readMark_4 : decode cX4_readMark 4 = .ok (.getfield 41, 3) := by decide +kernel
theorem dX4_readMark_7 : decode cX4_readMark 7 = .ok (.istore_n 1, 1) := by decide +kernel
theorem dX4_readMark_8 : decode cX4_readMark 8 = .ok (.iload_n 1, 1) := by decide +kernel
theorem dX4_readMark_9 : decode cX4_readMark 9 = .ok (.tableswitch 241 9 20 #[114, 143, 185, 241, 185, 241, 241, 241, 241, 241, 241, 63], 63) := by decide +kernel
theorem dX4_readMark_72 : decode cX4_readMark 72 = .ok (.aload_n 0, 1) := by decide +kernel
theorem dX4_readMark_73 : decode cX4_readMark 73 = .ok (.invokevirtual 193, 3) := by decide +kernel
theorem dX4_readMark_76 : decode cX4_readMark 76 = .ok (.ifCond .eq 25, 3) := by decide +kernel
theorem dX4_readMark_79 : decode cX4_readMark 79 = .ok (.aload_n 0, 1) := by decide +kernel
theorem dX4_readMark_80 : decode cX4_readMark 80 = .ok (.aload_n 0, 1) := by decide +kernel
theorem dX4_readMark_81 : decode cX4_readMark 81 = .ok (.getfield 60, 3) := by decide +kernel
theorem dX4_readMark_84 : decode cX4_readMark 84 = .ok (.getfield 139, 3) := by decide +kernel
theorem dX4_readMark_87 : decode cX4_readMark 87 = .ok (.aload_n 0, 1) := by decide +kernel
theorem dX4_readMark_88 : decode cX4_readMark 88 = .ok (.getfield 60, 3) := by decide +kernel
theorem dX4_readMark_91 : decode cX4_readMark 91 = .ok (.getfield 136, 3) := by decide +kernel
theorem dX4_readMark_94 : decode cX4_readMark 94 = .ok (.iconst 0, 1) := by decide +kernel
theorem dX4_readMark_95 : decode cX4_readMark 95 = .ok (.invokevirtual 159, 3) := by decide +kernel
theorem dX4_readMark_98 : decode cX4_readMark 98 = .ok (.goto 4, 3) := by decide +kernel
theorem dX4_readMark_101 : decode cX4_readMark 101 = .ok (.iconst (-1), 1) := by decide +kernel
theorem dX4_readMark_102 : decode cX4_readMark 102 = .ok (.istore_n 2, 1) := by decide +kernel
theorem dX4_readMark_103 : decode cX4_readMark 103 = .ok (.aload_n 0, 1) := by decide +kernel
theorem dX4_readMark_104 : decode cX4_readMark 104 = .ok (.bipush 12, 2) := by decide +kernel
theorem dX4_readMark_106 : decode cX4_readMark 106 = .ok (.iconst 0, 1) := by decide +kernel
theorem dX4_readMark_107 : decode cX4_readMark 107 = .ok (.iload_n 2, 1) := by decide +kernel
theorem dX4_readMark_108 : decode cX4_readMark 108 = .ok (.iconst 1, 1) := by decide +kernel
theorem dX4_readMark_109 : decode cX4_readMark 109 = .ok (.iadd, 1) := by decide +kernel
theorem dX4_readMark_110 : decode cX4_readMark 110 = .ok (.invokevirtual 196, 3) := by decide +kernel
theorem dX4_readMark_113 : decode cX4_readMark 113 = .ok (.iload_n 2, 1) := by decide +kernel
theorem dX4_readMark_114 : decode cX4_readMark 114 = .ok (.ifCond .lt 7, 3) := by decide +kernel
theorem dX4_readMark_117 : decode cX4_readMark 117 = .ok (.iconst 1, 1) := by decide +kernel
theorem dX4_readMark_118 : decode cX4_readMark 118 = .ok (.goto 4, 3) := by decide +kernel
theorem dX4_readMark_121 : decode cX4_readMark 121 = .ok (.iconst 0, 1) := by decide +kernel
theorem dX4_readMark_122 : decode cX4_readMark 122 = .ok (.ireturn, 1) := by decide +kernel
theorem dX4_readMark_123 : decode cX4_readMark 123 = .ok (.aload_n 0, 1) := by decide +kernel
theorem dX4_readMark_124 : decode cX4_readMark 124 = .ok (.bipush 12, 2) := by decide +kernel
theorem dX4_readMark_126 : decode cX4_readMark 126 = .ok (.iconst 0, 1) := by decide +kernel
theorem dX4_readMark_127 : decode cX4_readMark 127 = .ok (.iconst 0, 1) := by decide +kernel
theorem dX4_readMark_128 : decode cX4_readMark 128 = .ok (.invokevirtual 196, 3) := by decide +kernel
theorem dX4_readMark_131 : decode cX4_readMark 131 = .ok (.aload_n 0, 1) := by decide +kernel
theorem dX4_readMark_132 : decode cX4_readMark 132 = .ok (.invokevirtual 193, 3) := by decide +kernel
theorem dX4_readMark_135 : decode cX4_readMark 135 = .ok (.ifCond .eq 15, 3) := by decide +kernel
theorem dX4_readMark_138 : decode cX4_readMark 138 = .ok (.aload_n 0, 1) := by decide +kernel
theorem dX4_readMark_139 : decode cX4_readMark 139 = .ok (.iload_n 1, 1) := by decide +kernel
theorem dX4_readMark_140 : decode cX4_readMark 140 = .ok (.invokevirtual 79, 3) := by decide +kernel
theorem dX4_readMark_143 : decode cX4_readMark 143 = .ok (.ifCond .eq 7, 3) := by decide +kernel
theorem dX4_readMark_146 : decode cX4_readMark 146 = .ok (.iconst 1, 1) := by decide +kernel
theorem dX4_readMark_147 : decode cX4_readMark 147 = .ok (.goto 4, 3) := by decide +kernel
theorem dX4_readMark_150 : decode cX4_readMark 150 = .ok (.iconst 0, 1) := by decide +kernel
theorem dX4_readMark_151 : decode cX4_readMark 151 = .ok (.ireturn, 1) := by decide +kernel
theorem dX4_readMark_152 : decode cX4_readMark 152 = .ok (.aload_n 0, 1) := by decide +kernel
theorem dX4_readMark_153 : decode cX4_readMark 153 = .ok (.invokevirtual 193, 3) := by decide +kernel
theorem dX4_readMark_156 : decode cX4_readMark 156 = .ok (.ifCond .eq 18, 3) := by decide +kernel
theorem dX4_readMark_159 : decode cX4_readMark 159 = .ok (.aload_n 0, 1) := by decide +kernel
theorem dX4_readMark_160 : decode cX4_readMark 160 = .ok (.iload_n 1, 1) := by decide +kernel
theorem dX4_readMark_161 : decode cX4_readMark 161 = .ok (.invokevirtual 79, 3) := by decide +kernel
theorem dX4_readMark_164 : decode cX4_readMark 164 = .ok (.ifCond .eq 10, 3) := by decide +kernel
theorem dX4_readMark_167 : decode cX4_readMark 167 = .ok (.aload_n 0, 1) := by decide +kernel
theorem dX4_readMark_168 : decode cX4_readMark 168 = .ok (.invokevirtual 200, 3) := by decide +kernel
theorem dX4_readMark_171 : decode cX4_readMark 171 = .ok (.goto 4, 3) := by decide +kernel
theorem dX4_readMark_174 : decode cX4_readMark 174 = .ok (.iconst (-1), 1) := by decide +kernel
theorem dX4_readMark_175 : decode cX4_readMark 175 = .ok (.istore_n 3, 1) := by decide +kernel
theorem dX4_readMark_176 : decode cX4_readMark 176 = .ok (.aload_n 0, 1) := by decide +kernel
theorem dX4_readMark_177 : decode cX4_readMark 177 = .ok (.bipush 13, 2) := by decide +kernel
theorem dX4_readMark_179 : decode cX4_readMark 179 = .ok (.iconst 0, 1) := by decide +kernel
theorem dX4_readMark_180 : decode cX4_readMark 180 = .ok (.iload_n 3, 1) := by decide +kernel
theorem dX4_readMark_181 : decode cX4_readMark 181 = .ok (.invokevirtual 196, 3) := by decide +kernel
theorem dX4_readMark_184 : decode cX4_readMark 184 = .ok (.iload_n 3, 1) := by decide +kernel
theorem dX4_readMark_185 : decode cX4_readMark 185 = .ok (.ifCond .lt 7, 3) := by decide +kernel
theorem dX4_readMark_188 : decode cX4_readMark 188 = .ok (.iconst 1, 1) := by decide +kernel
theorem dX4_readMark_189 : decode cX4_readMark 189 = .ok (.goto 4, 3) := by decide +kernel
theorem dX4_readMark_192 : decode cX4_readMark 192 = .ok (.iconst 0, 1) := by decide +kernel
theorem dX4_readMark_193 : decode cX4_readMark 193 = .ok (.ireturn, 1) := by decide +kernel
theorem dX4_readMark_194 : decode cX4_readMark 194 = .ok (.aload_n 0, 1) := by decide +kernel
theorem dX4_readMark_195 : decode cX4_readMark 195 = .ok (.invokevirtual 193, 3) := by decide +kernel
theorem dX4_readMark_198 : decode cX4_readMark 198 = .ok (.ifCond .eq 18, 3) := by decide +kernel
theorem dX4_readMark_201 : decode cX4_readMark 201 = .ok (.aload_n 0, 1) := by decide +kernel
theorem dX4_readMark_202 : decode cX4_readMark 202 = .ok (.iload_n 1, 1) := by decide +kernel
theorem dX4_readMark_203 : decode cX4_readMark 203 = .ok (.invokevirtual 79, 3) := by decide +kernel
theorem dX4_readMark_206 : decode cX4_readMark 206 = .ok (.ifCond .eq 10, 3) := by decide +kernel
theorem dX4_readMark_209 : decode cX4_readMark 209 = .ok (.aload_n 0, 1) := by decide +kernel
theorem dX4_readMark_210 : decode cX4_readMark 210 = .ok (.invokevirtual 203, 3) := by decide +kernel
theorem dX4_readMark_213 : decode cX4_readMark 213 = .ok (.goto 4, 3) := by decide +kernel
theorem dX4_readMark_216 : decode cX4_readMark 216 = .ok (.iconst (-1), 1) := by decide +kernel
theorem dX4_readMark_217 : decode cX4_readMark 217 = .ok (.istore 4, 2) := by decide +kernel
theorem dX4_readMark_219 : decode cX4_readMark 219 = .ok (.aload_n 0, 1) := by decide +kernel
theorem dX4_readMark_220 : decode cX4_readMark 220 = .ok (.iload_n 1, 1) := by decide +kernel
theorem dX4_readMark_221 : decode cX4_readMark 221 = .ok (.bipush 11, 2) := by decide +kernel
theorem dX4_readMark_223 : decode cX4_readMark 223 = .ok (.if_icmp .ne 8, 3) := by decide +kernel
theorem dX4_readMark_226 : decode cX4_readMark 226 = .ok (.bipush 14, 2) := by decide +kernel
theorem dX4_readMark_228 : decode cX4_readMark 228 = .ok (.goto 5, 3) := by decide +kernel
theorem dX4_readMark_231 : decode cX4_readMark 231 = .ok (.bipush 15, 2) := by decide +kernel
theorem dX4_readMark_233 : decode cX4_readMark 233 = .ok (.iload 4, 2) := by decide +kernel
theorem dX4_readMark_235 : decode cX4_readMark 235 = .ok (.iconst 0, 1) := by decide +kernel
theorem dX4_readMark_236 : decode cX4_readMark 236 = .ok (.invokevirtual 196, 3) := by decide +kernel
theorem dX4_readMark_239 : decode cX4_readMark 239 = .ok (.iload 4, 2) := by decide +kernel
theorem dX4_readMark_241 : decode cX4_readMark 241 = .ok (.ifCond .lt 7, 3) := by decide +kernel
theorem dX4_readMark_244 : decode cX4_readMark 244 = .ok (.iconst 1, 1) := by decide +kernel
theorem dX4_readMark_245 : decode cX4_readMark 245 = .ok (.goto 4, 3) := by decide +kernel
theorem dX4_readMark_248 : decode cX4_readMark 248 = .ok (.iconst 0, 1) := by decide +kernel
theorem dX4_readMark_249 : decode cX4_readMark 249 = .ok (.ireturn, 1) := by decide +kernel
theorem dX4_readMark_250 : decode cX4_readMark 250 = .ok (.aload_n 0, 1) := by decide +kernel
theorem dX4_readMark_251 : decode cX4_readMark 251 = .ok (.iconst 2, 1) := by decide +kernel
theorem dX4_readMark_252 : decode cX4_readMark 252 = .ok (.invokevirtual 75, 3) := by decide +kernel
theorem dX4_readMark_255 : decode cX4_readMark 255 = .ok (.ireturn, 1) := by decide +kernel
theorem dX4_readElse_0 : decode cX4_readElse 0 = .ok (.aload_n 0, 1) := by decide +kernel
theorem dX4_readElse_1 : decode cX4_readElse 1 = .ok (.getfield 124, 3) := by decide +kernel
theorem dX4_readElse_4 : decode cX4_readElse 4 = .ok (.istore_n 1, 1) := by decide +kernel
theorem dX4_readElse_5 : decode cX4_readElse 5 = .ok (.iload_n 1, 1) := by decide +kernel
theorem dX4_readElse_6 : decode cX4_readElse 6 = .ok (.ifCond .le 22, 3) := by decide +kernel
theorem dX4_readElse_9 : decode cX4_readElse 9 = .ok (.aload_n 0, 1) := by decide +kernel
theorem dX4_readElse_10 : decode cX4_readElse 10 = .ok (.invokevirtual 206, 3) := by decide +kernel
theorem dX4_readElse_13 : decode cX4_readElse 13 = .ok (.iconst 2, 1) := by decide +kernel
theorem dX4_readElse_14 : decode cX4_readElse 14 = .ok (.if_icmp .ne 14, 3) := by decide +kernel
theorem dX4_readElse_17 : decode cX4_readElse 17 = .ok (.aload_n 0, 1) := by decide +kernel
theorem dX4_readElse_18 : decode cX4_readElse 18 = .ok (.iconst 2, 1) := by decide +kernel
theorem dX4_readElse_19 : decode cX4_readElse 19 = .ok (.invokevirtual 209, 3) := by decide +kernel
theorem dX4_readElse_22 : decode cX4_readElse 22 = .ok (.iinc 1 (-1), 3) := by decide +kernel
theorem dX4_readElse_25 : decode cX4_readElse 25 = .ok (.goto (-20), 3) := by decide +kernel
theorem dX4_readElse_28 : decode cX4_readElse 28 = .ok (.aload_n 0, 1) := by decide +kernel
theorem dX4_readElse_29 : decode cX4_readElse 29 = .ok (.getfield 124, 3) := by decide +kernel
theorem dX4_readElse_32 : decode cX4_readElse 32 = .ok (.ifCond .ne 5, 3) := by decide +kernel
theorem dX4_readElse_35 : decode cX4_readElse 35 = .ok (.iconst 4, 1) := by decide +kernel
theorem dX4_readElse_36 : decode cX4_readElse 36 = .ok (.ireturn, 1) := by decide +kernel
theorem dX4_readElse_37 : decode cX4_readElse 37 = .ok (.aload_n 0, 1) := by decide +kernel
theorem dX4_readElse_38 : decode cX4_readElse 38 = .ok (.getfield 22, 3) := by decide +kernel
theorem dX4_readElse_41 : decode cX4_readElse 41 = .ok (.aload_n 0, 1) := by decide +kernel
theorem dX4_readElse_42 : decode cX4_readElse 42 = .ok (.getfield 124, 3) := by decide +kernel
theorem dX4_readElse_45 : decode cX4_readElse 45 = .ok (.iconst 1, 1) := by decide +kernel
theorem dX4_readElse_46 : decode cX4_readElse 46 = .ok (.isub, 1) := by decide +kernel
theorem dX4_readElse_47 : decode cX4_readElse 47 = .ok (.invokestatic 212, 3) := by decide +kernel
theorem dX4_readElse_50 : decode cX4_readElse 50 = .ok (.iconst 4, 1) := by decide +kernel
theorem dX4_readElse_51 : decode cX4_readElse 51 = .ok (.ishr, 1) := by decide +kernel
theorem dX4_readElse_52 : decode cX4_readElse 52 = .ok (.istore_n 1, 1) := by decide +kernel
theorem dX4_readElse_53 : decode cX4_readElse 53 = .ok (.aload_n 0, 1) := by decide +kernel
theorem dX4_readElse_54 : decode cX4_readElse 54 = .ok (.bipush 8, 2) := by decide +kernel
theorem dX4_readElse_56 : decode cX4_readElse 56 = .ok (.invokevirtual 79, 3) := by decide +kernel
theorem dX4_readElse_59 : decode cX4_readElse 59 = .ok (.ifCond .eq 35, 3) := by decide +kernel
theorem dX4_readElse_62 : decode cX4_readElse 62 = .ok (.aload_n 0, 1) := by decide +kernel
theorem dX4_readElse_63 : decode cX4_readElse 63 = .ok (.getfield 18, 3) := by decide +kernel
theorem dX4_readElse_66 : decode cX4_readElse 66 = .ok (.iload_n 1, 1) := by decide +kernel
theorem dX4_readElse_67 : decode cX4_readElse 67 = .ok (.iconst 3, 1) := by decide +kernel
theorem dX4_readElse_68 : decode cX4_readElse 68 = .ok (.sipush 256, 3) := by decide +kernel
theorem dX4_readElse_71 : decode cX4_readElse 71 = .ok (.aload_n 0, 1) := by decide +kernel
theorem dX4_readElse_72 : decode cX4_readElse 72 = .ok (.getfield 86, 3) := by decide +kernel
theorem dX4_readElse_75 : decode cX4_readElse 75 = .ok (.imul, 1) := by decide +kernel
theorem dX4_readElse_76 : decode cX4_readElse 76 = .ok (.iadd, 1) := by decide +kernel
theorem dX4_readElse_77 : decode cX4_readElse 77 = .ok (.invokestatic 216, 3) := by decide +kernel
theorem dX4_readElse_80 : decode cX4_readElse 80 = .ok (.aload_n 0, 1) := by decide +kernel
theorem dX4_readElse_81 : decode cX4_readElse 81 = .ok (.getfield 22, 3) := by decide +kernel
theorem dX4_readElse_84 : decode cX4_readElse 84 = .ok (.aload_n 0, 1) := by decide +kernel
theorem dX4_readElse_85 : decode cX4_readElse 85 = .ok (.getfield 124, 3) := by decide +kernel
theorem dX4_readElse_88 : decode cX4_readElse 88 = .ok (.iconst 1, 1) := by decide +kernel
theorem dX4_readElse_89 : decode cX4_readElse 89 = .ok (.isub, 1) := by decide +kernel
theorem dX4_readElse_90 : decode cX4_readElse 90 = .ok (.iconst 2, 1) := by decide +kernel
theorem dX4_readElse_91 : decode cX4_readElse 91 = .ok (.invokestatic 216, 3) := by decide +kernel
theorem dX4_readElse_94 : decode cX4_readElse 94 = .ok (.iconst 0, 1) := by decide +kernel
theorem dX4_readElse_95 : decode cX4_readElse 95 = .ok (.ireturn, 1) := by decide +kernel
theorem dX4_readUnit_0 : decode cX4_readUnit 0 = .ok (.aload_n 0, 1) := by decide +kernel
theorem dX4_readUnit_1 : decode cX4_readUnit 1 = .ok (.getfield 12, 3) := by decide +kernel
theorem dX4_readUnit_4 : decode cX4_readUnit 4 = .ok (.getfield 41, 3) := by decide +kernel
theorem dX4_readUnit_7 : decode cX4_readUnit 7 = .ok (.istore_n 1, 1) := by decide +kernel
theorem dX4_readUnit_8 : decode cX4_readUnit 8 = .ok (.iload_n 1, 1) := by decide +kernel
theorem dX4_readUnit_9 : decode cX4_readUnit 9 = .ok (.tableswitch 126 16 23 #[47, 113, 113, 120, 126, 84, 126, 72], 47) := by decide +kernel
theorem dX4_readUnit_56 : decode cX4_readUnit 56 = .ok (.aload_n 0, 1) := by decide +kernel
theorem dX4_readUnit_57 : decode cX4_readUnit 57 = .ok (.invokevirtual 206, 3) := by decide +kernel
theorem dX4_readUnit_60 : decode cX4_readUnit 60 = .ok (.invokestatic 220, 3) := by decide +kernel
theorem dX4_readUnit_63 : decode cX4_readUnit 63 = .ok (.iconst 4, 1) := by decide +kernel
theorem dX4_readUnit_64 : decode cX4_readUnit 64 = .ok (.if_icmp .lt 9, 3) := by decide +kernel
theorem dX4_readUnit_67 : decode cX4_readUnit 67 = .ok (.aload_n 0, 1) := by decide +kernel
theorem dX4_readUnit_68 : decode cX4_readUnit 68 = .ok (.iconst 2, 1) := by decide +kernel
theorem dX4_readUnit_69 : decode cX4_readUnit 69 = .ok (.invokevirtual 75, 3) := by decide +kernel
theorem dX4_readUnit_72 : decode cX4_readUnit 72 = .ok (.pop, 1) := by decide +kernel
theorem dX4_readUnit_73 : decode cX4_readUnit 73 = .ok (.aload_n 0, 1) := by decide +kernel
theorem dX4_readUnit_74 : decode cX4_readUnit 74 = .ok (.bipush 6, 2) := by decide +kernel
theorem dX4_readUnit_76 : decode cX4_readUnit 76 = .ok (.invokevirtual 187, 3) := by decide +kernel
theorem dX4_readUnit_79 : decode cX4_readUnit 79 = .ok (.iconst 1, 1) := by decide +kernel
theorem dX4_readUnit_80 : decode cX4_readUnit 80 = .ok (.ireturn, 1) := by decide +kernel
theorem dX4_readUnit_81 : decode cX4_readUnit 81 = .ok (.aload_n 0, 1) := by decide +kernel
theorem dX4_readUnit_82 : decode cX4_readUnit 82 = .ok (.invokevirtual 193, 3) := by decide +kernel
theorem dX4_readUnit_85 : decode cX4_readUnit 85 = .ok (.pop, 1) := by decide +kernel
theorem dX4_readUnit_86 : decode cX4_readUnit 86 = .ok (.aload_n 0, 1) := by decide +kernel
theorem dX4_readUnit_87 : decode cX4_readUnit 87 = .ok (.iconst 3, 1) := by decide +kernel
theorem dX4_readUnit_88 : decode cX4_readUnit 88 = .ok (.invokevirtual 187, 3) := by decide +kernel
theorem dX4_readUnit_91 : decode cX4_readUnit 91 = .ok (.iconst 1, 1) := by decide +kernel
theorem dX4_readUnit_92 : decode cX4_readUnit 92 = .ok (.ireturn, 1) := by decide +kernel
theorem dX4_readUnit_93 : decode cX4_readUnit 93 = .ok (.aload_n 0, 1) := by decide +kernel
theorem dX4_readUnit_94 : decode cX4_readUnit 94 = .ok (.iconst 0, 1) := by decide +kernel
theorem dX4_readUnit_95 : decode cX4_readUnit 95 = .ok (.iconst 0, 1) := by decide +kernel
theorem dX4_readUnit_96 : decode cX4_readUnit 96 = .ok (.aload_n 0, 1) := by decide +kernel
theorem dX4_readUnit_97 : decode cX4_readUnit 97 = .ok (.getfield 12, 3) := by decide +kernel
theorem dX4_readUnit_100 : decode cX4_readUnit 100 = .ok (.getfield 163, 3) := by decide +kernel
theorem dX4_readUnit_103 : decode cX4_readUnit 103 = .ok (.l2i, 1) := by decide +kernel
theorem dX4_readUnit_104 : decode cX4_readUnit 104 = .ok (.invokevirtual 196, 3) := by decide +kernel
theorem dX4_readUnit_107 : decode cX4_readUnit 107 = .ok (.aload_n 0, 1) := by decide +kernel
theorem dX4_readUnit_108 : decode cX4_readUnit 108 = .ok (.invokevirtual 193, 3) := by decide +kernel
theorem dX4_readUnit_111 : decode cX4_readUnit 111 = .ok (.ifCond .eq 9, 3) := by decide +kernel
theorem dX4_readUnit_114 : decode cX4_readUnit 114 = .ok (.aload_n 0, 1) := by decide +kernel
theorem dX4_readUnit_115 : decode cX4_readUnit 115 = .ok (.iload_n 1, 1) := by decide +kernel
theorem dX4_readUnit_116 : decode cX4_readUnit 116 = .ok (.invokevirtual 79, 3) := by decide +kernel
theorem dX4_readUnit_119 : decode cX4_readUnit 119 = .ok (.pop, 1) := by decide +kernel
theorem dX4_readUnit_120 : decode cX4_readUnit 120 = .ok (.iconst 2, 1) := by decide +kernel
theorem dX4_readUnit_121 : decode cX4_readUnit 121 = .ok (.ireturn, 1) := by decide +kernel
theorem dX4_readUnit_122 : decode cX4_readUnit 122 = .ok (.aload_n 0, 1) := by decide +kernel
theorem dX4_readUnit_123 : decode cX4_readUnit 123 = .ok (.iload_n 1, 1) := by decide +kernel
theorem dX4_readUnit_124 : decode cX4_readUnit 124 = .ok (.invokevirtual 224, 3) := by decide +kernel
theorem dX4_readUnit_127 : decode cX4_readUnit 127 = .ok (.iconst 2, 1) := by decide +kernel
theorem dX4_readUnit_128 : decode cX4_readUnit 128 = .ok (.ireturn, 1) := by decide +kernel
theorem dX4_readUnit_129 : decode cX4_readUnit 129 = .ok (.aload_n 0, 1) := by decide +kernel
theorem dX4_readUnit_130 : decode cX4_readUnit 130 = .ok (.invokevirtual 227, 3) := by decide +kernel
theorem dX4_readUnit_133 : decode cX4_readUnit 133 = .ok (.iconst 2, 1) := by decide +kernel
theorem dX4_readUnit_134 : decode cX4_readUnit 134 = .ok (.ireturn, 1) := by decide +kernel
theorem dX4_readUnit_135 : decode cX4_readUnit 135 = .ok (.aload_n 0, 1) := by decide +kernel
theorem dX4_readUnit_136 : decode cX4_readUnit 136 = .ok (.iconst 2, 1) := by decide +kernel
theorem dX4_readUnit_137 : decode cX4_readUnit 137 = .ok (.invokevirtual 75, 3) := by decide +kernel
theorem dX4_readUnit_140 : decode cX4_readUnit 140 = .ok (.pop, 1) := by decide +kernel
theorem dX4_readUnit_141 : decode cX4_readUnit 141 = .ok (.iconst 4, 1) := by decide +kernel
theorem dX4_readUnit_142 : decode cX4_readUnit 142 = .ok (.ireturn, 1) := by decide +kernel
theorem dX4_readVotes_0 : decode cX4_readVotes 0 = .ok (.iconst 0, 1) := by decide +kernel
theorem dX4_readVotes_1 : decode cX4_readVotes 1 = .ok (.istore_n 2, 1) := by decide +kernel
theorem dX4_readVotes_2 : decode cX4_readVotes 2 = .ok (.aload_n 0, 1) := by decide +kernel
theorem dX4_readVotes_3 : decode cX4_readVotes 3 = .ok (.invokevirtual 193, 3) := by decide +kernel
theorem dX4_readVotes_6 : decode cX4_readVotes 6 = .ok (.ifCond .eq 39, 3) := by decide +kernel
theorem dX4_readVotes_9 : decode cX4_readVotes 9 = .ok (.aload_n 0, 1) := by decide +kernel
theorem dX4_readVotes_10 : decode cX4_readVotes 10 = .ok (.iload_n 1, 1) := by decide +kernel
theorem dX4_readVotes_11 : decode cX4_readVotes 11 = .ok (.invokevirtual 79, 3) := by decide +kernel
theorem dX4_readVotes_14 : decode cX4_readVotes 14 = .ok (.ifCond .eq 31, 3) := by decide +kernel
theorem dX4_readVotes_17 : decode cX4_readVotes 17 = .ok (.iload_n 1, 1) := by decide +kernel
theorem dX4_readVotes_18 : decode cX4_readVotes 18 = .ok (.bipush 17, 2) := by decide +kernel
theorem dX4_readVotes_20 : decode cX4_readVotes 20 = .ok (.if_icmp .ne 25, 3) := by decide +kernel
theorem dX4_readVotes_23 : decode cX4_readVotes 23 = .ok (.aload_n 0, 1) := by decide +kernel
theorem dX4_readVotes_24 : decode cX4_readVotes 24 = .ok (.aload_n 0, 1) := by decide +kernel
theorem dX4_readVotes_25 : decode cX4_readVotes 25 = .ok (.getfield 60, 3) := by decide +kernel
theorem dX4_readVotes_28 : decode cX4_readVotes 28 = .ok (.getfield 139, 3) := by decide +kernel
theorem dX4_readVotes_31 : decode cX4_readVotes 31 = .ok (.aload_n 0, 1) := by decide +kernel
theorem dX4_readVotes_32 : decode cX4_readVotes 32 = .ok (.getfield 60, 3) := by decide +kernel
theorem dX4_readVotes_35 : decode cX4_readVotes 35 = .ok (.getfield 136, 3) := by decide +kernel
theorem dX4_readVotes_38 : decode cX4_readVotes 38 = .ok (.iconst 0, 1) := by decide +kernel
theorem dX4_readVotes_39 : decode cX4_readVotes 39 = .ok (.invokevirtual 159, 3) := by decide +kernel
theorem dX4_readVotes_42 : decode cX4_readVotes 42 = .ok (.iconst 1, 1) := by decide +kernel
theorem dX4_readVotes_43 : decode cX4_readVotes 43 = .ok (.iadd, 1) := by decide +kernel
theorem dX4_readVotes_44 : decode cX4_readVotes 44 = .ok (.istore_n 2, 1) := by decide +kernel
theorem dX4_readVotes_45 : decode cX4_readVotes 45 = .ok (.aload_n 0, 1) := by decide +kernel
theorem dX4_readVotes_46 : decode cX4_readVotes 46 = .ok (.getfield 38, 3) := by decide +kernel
theorem dX4_readVotes_49 : decode cX4_readVotes 49 = .ok (.ifCond .ne 10, 3) := by decide +kernel
theorem dX4_readVotes_52 : decode cX4_readVotes 52 = .ok (.aload_n 0, 1) := by decide +kernel
theorem dX4_readVotes_53 : decode cX4_readVotes 53 = .ok (.invokevirtual 203, 3) := by decide +kernel
theorem dX4_readVotes_56 : decode cX4_readVotes 56 = .ok (.goto 4, 3) := by decide +kernel
theorem dX4_readVotes_59 : decode cX4_readVotes 59 = .ok (.iconst (-1), 1) := by decide +kernel
theorem dX4_readVotes_60 : decode cX4_readVotes 60 = .ok (.istore_n 3, 1) := by decide +kernel
theorem dX4_readVotes_61 : decode cX4_readVotes 61 = .ok (.aload_n 0, 1) := by decide +kernel
theorem dX4_readVotes_62 : decode cX4_readVotes 62 = .ok (.iconst 1, 1) := by decide +kernel
theorem dX4_readVotes_63 : decode cX4_readVotes 63 = .ok (.iload_n 3, 1) := by decide +kernel
theorem dX4_readVotes_64 : decode cX4_readVotes 64 = .ok (.iload_n 2, 1) := by decide +kernel
theorem dX4_readVotes_65 : decode cX4_readVotes 65 = .ok (.invokevirtual 196, 3) := by decide +kernel
theorem dX4_readVotes_68 : decode cX4_readVotes 68 = .ok (.return_, 1) := by decide +kernel
theorem dX4_readIs_0 : decode cX4_readIs 0 = .ok (.aload_n 0, 1) := by decide +kernel
theorem dX4_readIs_1 : decode cX4_readIs 1 = .ok (.invokevirtual 193, 3) := by decide +kernel
theorem dX4_readIs_4 : decode cX4_readIs 4 = .ok (.ifCond .eq 19, 3) := by decide +kernel
theorem dX4_readIs_7 : decode cX4_readIs 7 = .ok (.aload_n 0, 1) := by decide +kernel
theorem dX4_readIs_8 : decode cX4_readIs 8 = .ok (.bipush 19, 2) := by decide +kernel
theorem dX4_readIs_10 : decode cX4_readIs 10 = .ok (.invokevirtual 79, 3) := by decide +kernel
theorem dX4_readIs_13 : decode cX4_readIs 13 = .ok (.ifCond .eq 10, 3) := by decide +kernel
theorem dX4_readIs_16 : decode cX4_readIs 16 = .ok (.aload_n 0, 1) := by decide +kernel
theorem dX4_readIs_17 : decode cX4_readIs 17 = .ok (.invokevirtual 200, 3) := by decide +kernel
theorem dX4_readIs_20 : decode cX4_readIs 20 = .ok (.goto 4, 3) := by decide +kernel
theorem dX4_readIs_23 : decode cX4_readIs 23 = .ok (.iconst (-1), 1) := by decide +kernel
theorem dX4_readIs_24 : decode cX4_readIs 24 = .ok (.istore_n 1, 1) := by decide +kernel
theorem dX4_readIs_25 : decode cX4_readIs 25 = .ok (.iload_n 1, 1) := by decide +kernel
theorem dX4_readIs_26 : decode cX4_readIs 26 = .ok (.ifCond .lt 25, 3) := by decide +kernel
theorem dX4_readIs_29 : decode cX4_readIs 29 = .ok (.aload_n 0, 1) := by decide +kernel
theorem dX4_readIs_30 : decode cX4_readIs 30 = .ok (.aload_n 0, 1) := by decide +kernel
theorem dX4_readIs_31 : decode cX4_readIs 31 = .ok (.getfield 60, 3) := by decide +kernel
theorem dX4_readIs_34 : decode cX4_readIs 34 = .ok (.getfield 139, 3) := by decide +kernel
theorem dX4_readIs_37 : decode cX4_readIs 37 = .ok (.aload_n 0, 1) := by decide +kernel
theorem dX4_readIs_38 : decode cX4_readIs 38 = .ok (.getfield 60, 3) := by decide +kernel
theorem dX4_readIs_41 : decode cX4_readIs 41 = .ok (.getfield 136, 3) := by decide +kernel
theorem dX4_readIs_44 : decode cX4_readIs 44 = .ok (.iconst 0, 1) := by decide +kernel
theorem dX4_readIs_45 : decode cX4_readIs 45 = .ok (.invokevirtual 159, 3) := by decide +kernel
theorem dX4_readIs_48 : decode cX4_readIs 48 = .ok (.goto 4, 3) := by decide +kernel
theorem dX4_readIs_51 : decode cX4_readIs 51 = .ok (.iconst (-1), 1) := by decide +kernel
theorem dX4_readIs_52 : decode cX4_readIs 52 = .ok (.istore_n 2, 1) := by decide +kernel
theorem dX4_readIs_53 : decode cX4_readIs 53 = .ok (.aload_n 0, 1) := by decide +kernel
theorem dX4_readIs_54 : decode cX4_readIs 54 = .ok (.iconst 2, 1) := by decide +kernel
theorem dX4_readIs_55 : decode cX4_readIs 55 = .ok (.iload_n 2, 1) := by decide +kernel
theorem dX4_readIs_56 : decode cX4_readIs 56 = .ok (.iconst 1, 1) := by decide +kernel
theorem dX4_readIs_57 : decode cX4_readIs 57 = .ok (.iadd, 1) := by decide +kernel
theorem dX4_readIs_58 : decode cX4_readIs 58 = .ok (.iload_n 1, 1) := by decide +kernel
theorem dX4_readIs_59 : decode cX4_readIs 59 = .ok (.invokevirtual 196, 3) := by decide +kernel
theorem dX4_readIs_62 : decode cX4_readIs 62 = .ok (.return_, 1) := by decide +kernel
theorem dX4_readSign_0 : decode cX4_readSign 0 = .ok (.aload_n 0, 1) := by decide +kernel
theorem dX4_readSign_1 : decode cX4_readSign 1 = .ok (.getfield 12, 3) := by decide +kernel
theorem dX4_readSign_4 : decode cX4_readSign 4 = .ok (.getfield 41, 3) := by decide +kernel
theorem dX4_readSign_7 : decode cX4_readSign 7 = .ok (.tableswitch 166 7 29 #[161, 166, 166, 166, 166, 166, 166, 149, 142, 166, 166, 166, 166, 166, 166, 166, 166, 156, 121, 128, 135, 105, 113], 105) := by decide +kernel
theorem dX4_readSign_112 : decode cX4_readSign 112 = .ok (.aload_n 0, 1) := by decide +kernel
theorem dX4_readSign_113 : decode cX4_readSign 113 = .ok (.bipush 10, 2) := by decide +kernel
theorem dX4_readSign_115 : decode cX4_readSign 115 = .ok (.iconst 5, 1) := by decide +kernel
theorem dX4_readSign_116 : decode cX4_readSign 116 = .ok (.invokevirtual 230, 3) := by decide +kernel
theorem dX4_readSign_119 : decode cX4_readSign 119 = .ok (.ireturn, 1) := by decide +kernel
theorem dX4_readSign_120 : decode cX4_readSign 120 = .ok (.aload_n 0, 1) := by decide +kernel
theorem dX4_readSign_121 : decode cX4_readSign 121 = .ok (.bipush 11, 2) := by decide +kernel
theorem dX4_readSign_123 : decode cX4_readSign 123 = .ok (.iconst 5, 1) := by decide +kernel
theorem dX4_readSign_124 : decode cX4_readSign 124 = .ok (.invokevirtual 230, 3) := by decide +kernel
theorem dX4_readSign_127 : decode cX4_readSign 127 = .ok (.ireturn, 1) := by decide +kernel
theorem dX4_readSign_128 : decode cX4_readSign 128 = .ok (.aload_n 0, 1) := by decide +kernel
theorem dX4_readSign_129 : decode cX4_readSign 129 = .ok (.bipush 7, 2) := by decide +kernel
theorem dX4_readSign_131 : decode cX4_readSign 131 = .ok (.invokevirtual 233, 3) := by decide +kernel
theorem dX4_readSign_134 : decode cX4_readSign 134 = .ok (.ireturn, 1) := by decide +kernel
theorem dX4_readSign_135 : decode cX4_readSign 135 = .ok (.aload_n 0, 1) := by decide +kernel
theorem dX4_readSign_136 : decode cX4_readSign 136 = .ok (.bipush 8, 2) := by decide +kernel
theorem dX4_readSign_138 : decode cX4_readSign 138 = .ok (.invokevirtual 233, 3) := by decide +kernel
theorem dX4_readSign_141 : decode cX4_readSign 141 = .ok (.ireturn, 1) := by decide +kernel
theorem dX4_readSign_142 : decode cX4_readSign 142 = .ok (.aload_n 0, 1) := by decide +kernel
theorem dX4_readSign_143 : decode cX4_readSign 143 = .ok (.bipush 9, 2) := by decide +kernel
theorem dX4_readSign_145 : decode cX4_readSign 145 = .ok (.invokevirtual 233, 3) := by decide +kernel
theorem dX4_readSign_148 : decode cX4_readSign 148 = .ok (.ireturn, 1) := by decide +kernel
theorem dX4_readSign_149 : decode cX4_readSign 149 = .ok (.aload_n 0, 1) := by decide +kernel
theorem dX4_readSign_150 : decode cX4_readSign 150 = .ok (.iconst 5, 1) := by decide +kernel
theorem dX4_readSign_151 : decode cX4_readSign 151 = .ok (.iconst 2, 1) := by decide +kernel
theorem dX4_readSign_152 : decode cX4_readSign 152 = .ok (.invokevirtual 230, 3) := by decide +kernel
theorem dX4_readSign_155 : decode cX4_readSign 155 = .ok (.ireturn, 1) := by decide +kernel
theorem dX4_readSign_156 : decode cX4_readSign 156 = .ok (.aload_n 0, 1) := by decide +kernel
theorem dX4_readSign_157 : decode cX4_readSign 157 = .ok (.iconst 4, 1) := by decide +kernel
theorem dX4_readSign_158 : decode cX4_readSign 158 = .ok (.iconst 1, 1) := by decide +kernel
theorem dX4_readSign_159 : decode cX4_readSign 159 = .ok (.invokevirtual 230, 3) := by decide +kernel
theorem dX4_readSign_162 : decode cX4_readSign 162 = .ok (.ireturn, 1) := by decide +kernel
theorem dX4_readSign_163 : decode cX4_readSign 163 = .ok (.aload_n 0, 1) := by decide +kernel
theorem dX4_readSign_164 : decode cX4_readSign 164 = .ok (.invokevirtual 236, 3) := by decide +kernel
theorem dX4_readSign_167 : decode cX4_readSign 167 = .ok (.ireturn, 1) := by decide +kernel
theorem dX4_readSign_168 : decode cX4_readSign 168 = .ok (.aload_n 0, 1) := by decide +kernel
theorem dX4_readSign_169 : decode cX4_readSign 169 = .ok (.invokevirtual 239, 3) := by decide +kernel
theorem dX4_readSign_172 : decode cX4_readSign 172 = .ok (.ireturn, 1) := by decide +kernel
theorem dX4_readSign_173 : decode cX4_readSign 173 = .ok (.aload_n 0, 1) := by decide +kernel
theorem dX4_readSign_174 : decode cX4_readSign 174 = .ok (.iconst 2, 1) := by decide +kernel
theorem dX4_readSign_175 : decode cX4_readSign 175 = .ok (.invokevirtual 75, 3) := by decide +kernel
theorem dX4_readSign_178 : decode cX4_readSign 178 = .ok (.pop, 1) := by decide +kernel
theorem dX4_readSign_179 : decode cX4_readSign 179 = .ok (.iconst 4, 1) := by decide +kernel
theorem dX4_readSign_180 : decode cX4_readSign 180 = .ok (.ireturn, 1) := by decide +kernel
theorem dX4_joinBy_0 : decode cX4_joinBy 0 = .ok (.aload_n 0, 1) := by decide +kernel
theorem dX4_joinBy_1 : decode cX4_joinBy 1 = .ok (.iload_n 2, 1) := by decide +kernel
theorem dX4_joinBy_2 : decode cX4_joinBy 2 = .ok (.invokevirtual 242, 3) := by decide +kernel
theorem dX4_joinBy_5 : decode cX4_joinBy 5 = .ok (.aload_n 0, 1) := by decide +kernel
theorem dX4_joinBy_6 : decode cX4_joinBy 6 = .ok (.iload_n 1, 1) := by decide +kernel
theorem dX4_joinBy_7 : decode cX4_joinBy 7 = .ok (.invokevirtual 245, 3) := by decide +kernel
theorem dX4_joinBy_10 : decode cX4_joinBy 10 = .ok (.aload_n 0, 1) := by decide +kernel
theorem dX4_joinBy_11 : decode cX4_joinBy 11 = .ok (.getfield 12, 3) := by decide +kernel
theorem dX4_joinBy_14 : decode cX4_joinBy 14 = .ok (.invokevirtual 133, 3) := by decide +kernel
theorem dX4_joinBy_17 : decode cX4_joinBy 17 = .ok (.iconst 1, 1) := by decide +kernel
theorem dX4_joinBy_18 : decode cX4_joinBy 18 = .ok (.ireturn, 1) := by decide +kernel
theorem dX4_relateBy_0 : decode cX4_relateBy 0 = .ok (.aload_n 0, 1) := by decide +kernel
theorem dX4_relateBy_1 : decode cX4_relateBy 1 = .ok (.iconst 5, 1) := by decide +kernel
theorem dX4_relateBy_2 : decode cX4_relateBy 2 = .ok (.invokevirtual 242, 3) := by decide +kernel
theorem dX4_relateBy_5 : decode cX4_relateBy 5 = .ok (.aload_n 0, 1) := by decide +kernel
theorem dX4_relateBy_6 : decode cX4_relateBy 6 = .ok (.invokevirtual 206, 3) := by decide +kernel
theorem dX4_relateBy_9 : decode cX4_relateBy 9 = .ok (.invokestatic 220, 3) := by decide +kernel
theorem dX4_relateBy_12 : decode cX4_relateBy 12 = .ok (.iconst 4, 1) := by decide +kernel
theorem dX4_relateBy_13 : decode cX4_relateBy 13 = .ok (.if_icmp .ne 9, 3) := by decide +kernel
theorem dX4_relateBy_16 : decode cX4_relateBy 16 = .ok (.aload_n 0, 1) := by decide +kernel
theorem dX4_relateBy_17 : decode cX4_relateBy 17 = .ok (.iconst 2, 1) := by decide +kernel
theorem dX4_relateBy_18 : decode cX4_relateBy 18 = .ok (.invokevirtual 75, 3) := by decide +kernel
theorem dX4_relateBy_21 : decode cX4_relateBy 21 = .ok (.pop, 1) := by decide +kernel
theorem dX4_relateBy_22 : decode cX4_relateBy 22 = .ok (.aload_n 0, 1) := by decide +kernel
theorem dX4_relateBy_23 : decode cX4_relateBy 23 = .ok (.iload_n 1, 1) := by decide +kernel
theorem dX4_relateBy_24 : decode cX4_relateBy 24 = .ok (.invokevirtual 245, 3) := by decide +kernel
theorem dX4_relateBy_27 : decode cX4_relateBy 27 = .ok (.aload_n 0, 1) := by decide +kernel
theorem dX4_relateBy_28 : decode cX4_relateBy 28 = .ok (.getfield 12, 3) := by decide +kernel
theorem dX4_relateBy_31 : decode cX4_relateBy 31 = .ok (.invokevirtual 133, 3) := by decide +kernel
theorem dX4_relateBy_34 : decode cX4_relateBy 34 = .ok (.iconst 1, 1) := by decide +kernel
theorem dX4_relateBy_35 : decode cX4_relateBy 35 = .ok (.ireturn, 1) := by decide +kernel
theorem dX4_leaveBrackets_0 : decode cX4_leaveBrackets 0 = .ok (.aload_n 0, 1) := by decide +kernel
theorem dX4_leaveBrackets_1 : decode cX4_leaveBrackets 1 = .ok (.iconst 1, 1) := by decide +kernel
theorem dX4_leaveBrackets_2 : decode cX4_leaveBrackets 2 = .ok (.invokevirtual 242, 3) := by decide +kernel
theorem dX4_leaveBrackets_5 : decode cX4_leaveBrackets 5 = .ok (.aload_n 0, 1) := by decide +kernel
theorem dX4_leaveBrackets_6 : decode cX4_leaveBrackets 6 = .ok (.invokevirtual 206, 3) := by decide +kernel
theorem dX4_leaveBrackets_9 : decode cX4_leaveBrackets 9 = .ok (.iconst 3, 1) := by decide +kernel
theorem dX4_leaveBrackets_10 : decode cX4_leaveBrackets 10 = .ok (.if_icmp .eq 9, 3) := by decide +kernel
theorem dX4_leaveBrackets_13 : decode cX4_leaveBrackets 13 = .ok (.aload_n 0, 1) := by decide +kernel
theorem dX4_leaveBrackets_14 : decode cX4_leaveBrackets 14 = .ok (.iconst 2, 1) := by decide +kernel
theorem dX4_leaveBrackets_15 : decode cX4_leaveBrackets 15 = .ok (.invokevirtual 75, 3) := by decide +kernel
theorem dX4_leaveBrackets_18 : decode cX4_leaveBrackets 18 = .ok (.pop, 1) := by decide +kernel
theorem dX4_leaveBrackets_19 : decode cX4_leaveBrackets 19 = .ok (.aload_n 0, 1) := by decide +kernel
theorem dX4_leaveBrackets_20 : decode cX4_leaveBrackets 20 = .ok (.iconst 3, 1) := by decide +kernel
theorem dX4_leaveBrackets_21 : decode cX4_leaveBrackets 21 = .ok (.invokevirtual 209, 3) := by decide +kernel
theorem dX4_leaveBrackets_24 : decode cX4_leaveBrackets 24 = .ok (.aload_n 0, 1) := by decide +kernel
theorem dX4_leaveBrackets_25 : decode cX4_leaveBrackets 25 = .ok (.getfield 12, 3) := by decide +kernel
theorem dX4_leaveBrackets_28 : decode cX4_leaveBrackets 28 = .ok (.invokevirtual 133, 3) := by decide +kernel
theorem dX4_leaveBrackets_31 : decode cX4_leaveBrackets 31 = .ok (.iconst 2, 1) := by decide +kernel
theorem dX4_leaveBrackets_32 : decode cX4_leaveBrackets 32 = .ok (.ireturn, 1) := by decide +kernel
theorem dX4_leaveQuestion_0 : decode cX4_leaveQuestion 0 = .ok (.aload_n 0, 1) := by decide +kernel
theorem dX4_leaveQuestion_1 : decode cX4_leaveQuestion 1 = .ok (.iconst 1, 1) := by decide +kernel
theorem dX4_leaveQuestion_2 : decode cX4_leaveQuestion 2 = .ok (.invokevirtual 242, 3) := by decide +kernel
theorem dX4_leaveQuestion_5 : decode cX4_leaveQuestion 5 = .ok (.aload_n 0, 1) := by decide +kernel
theorem dX4_leaveQuestion_6 : decode cX4_leaveQuestion 6 = .ok (.invokevirtual 206, 3) := by decide +kernel
theorem dX4_leaveQuestion_9 : decode cX4_leaveQuestion 9 = .ok (.ifCond .eq 9, 3) := by decide +kernel
theorem dX4_leaveQuestion_12 : decode cX4_leaveQuestion 12 = .ok (.aload_n 0, 1) := by decide +kernel
theorem dX4_leaveQuestion_13 : decode cX4_leaveQuestion 13 = .ok (.iconst 2, 1) := by decide +kernel
theorem dX4_leaveQuestion_14 : decode cX4_leaveQuestion 14 = .ok (.invokevirtual 75, 3) := by decide +kernel
theorem dX4_leaveQuestion_17 : decode cX4_leaveQuestion 17 = .ok (.pop, 1) := by decide +kernel
theorem dX4_leaveQuestion_18 : decode cX4_leaveQuestion 18 = .ok (.aload_n 0, 1) := by decide +kernel
theorem dX4_leaveQuestion_19 : decode cX4_leaveQuestion 19 = .ok (.getfield 22, 3) := by decide +kernel
theorem dX4_leaveQuestion_22 : decode cX4_leaveQuestion 22 = .ok (.aload_n 0, 1) := by decide +kernel
theorem dX4_leaveQuestion_23 : decode cX4_leaveQuestion 23 = .ok (.getfield 124, 3) := by decide +kernel
theorem dX4_leaveQuestion_26 : decode cX4_leaveQuestion 26 = .ok (.iconst 1, 1) := by decide +kernel
theorem dX4_leaveQuestion_27 : decode cX4_leaveQuestion 27 = .ok (.isub, 1) := by decide +kernel
theorem dX4_leaveQuestion_28 : decode cX4_leaveQuestion 28 = .ok (.iconst 1, 1) := by decide +kernel
theorem dX4_leaveQuestion_29 : decode cX4_leaveQuestion 29 = .ok (.bipush 16, 2) := by decide +kernel
theorem dX4_leaveQuestion_31 : decode cX4_leaveQuestion 31 = .ok (.aload_n 0, 1) := by decide +kernel
theorem dX4_leaveQuestion_32 : decode cX4_leaveQuestion 32 = .ok (.getfield 86, 3) := by decide +kernel
theorem dX4_leaveQuestion_35 : decode cX4_leaveQuestion 35 = .ok (.imul, 1) := by decide +kernel
theorem dX4_leaveQuestion_36 : decode cX4_leaveQuestion 36 = .ok (.iadd, 1) := by decide +kernel
theorem dX4_leaveQuestion_37 : decode cX4_leaveQuestion 37 = .ok (.invokestatic 216, 3) := by decide +kernel
theorem dX4_leaveQuestion_40 : decode cX4_leaveQuestion 40 = .ok (.aload_n 0, 1) := by decide +kernel
theorem dX4_leaveQuestion_41 : decode cX4_leaveQuestion 41 = .ok (.iconst 3, 1) := by decide +kernel
theorem dX4_leaveQuestion_42 : decode cX4_leaveQuestion 42 = .ok (.iconst 0, 1) := by decide +kernel
theorem dX4_leaveQuestion_43 : decode cX4_leaveQuestion 43 = .ok (.iconst 0, 1) := by decide +kernel
theorem dX4_leaveQuestion_44 : decode cX4_leaveQuestion 44 = .ok (.invokevirtual 196, 3) := by decide +kernel
theorem dX4_leaveQuestion_47 : decode cX4_leaveQuestion 47 = .ok (.aload_n 0, 1) := by decide +kernel
theorem dX4_leaveQuestion_48 : decode cX4_leaveQuestion 48 = .ok (.getfield 12, 3) := by decide +kernel
theorem dX4_leaveQuestion_51 : decode cX4_leaveQuestion 51 = .ok (.invokevirtual 133, 3) := by decide +kernel
theorem dX4_leaveQuestion_54 : decode cX4_leaveQuestion 54 = .ok (.iconst 0, 1) := by decide +kernel
theorem dX4_leaveQuestion_55 : decode cX4_leaveQuestion 55 = .ok (.ireturn, 1) := by decide +kernel
theorem dX4_countUnit_0 : decode cX4_countUnit 0 = .ok (.aload_n 0, 1) := by decide +kernel
theorem dX4_countUnit_1 : decode cX4_countUnit 1 = .ok (.getfield 106, 3) := by decide +kernel
theorem dX4_countUnit_4 : decode cX4_countUnit 4 = .ok (.bipush 80, 2) := by decide +kernel
theorem dX4_countUnit_6 : decode cX4_countUnit 6 = .ok (.if_icmp .lt 9, 3) := by decide +kernel
theorem dX4_countUnit_9 : decode cX4_countUnit 9 = .ok (.aload_n 0, 1) := by decide +kernel
theorem dX4_countUnit_10 : decode cX4_countUnit 10 = .ok (.iconst 2, 1) := by decide +kernel
theorem dX4_countUnit_11 : decode cX4_countUnit 11 = .ok (.invokevirtual 75, 3) := by decide +kernel
theorem dX4_countUnit_14 : decode cX4_countUnit 14 = .ok (.ireturn, 1) := by decide +kernel
theorem dX4_countUnit_15 : decode cX4_countUnit 15 = .ok (.aload_n 0, 1) := by decide +kernel
theorem dX4_countUnit_16 : decode cX4_countUnit 16 = .ok (.dup, 1) := by decide +kernel
theorem dX4_countUnit_17 : decode cX4_countUnit 17 = .ok (.getfield 106, 3) := by decide +kernel
theorem dX4_countUnit_20 : decode cX4_countUnit 20 = .ok (.iconst 1, 1) := by decide +kernel
theorem dX4_countUnit_21 : decode cX4_countUnit 21 = .ok (.iadd, 1) := by decide +kernel
theorem dX4_countUnit_22 : decode cX4_countUnit 22 = .ok (.putfield 106, 3) := by decide +kernel
theorem dX4_countUnit_25 : decode cX4_countUnit 25 = .ok (.iconst 1, 1) := by decide +kernel
theorem dX4_countUnit_26 : decode cX4_countUnit 26 = .ok (.ireturn, 1) := by decide +kernel
theorem dX4_enter_0 : decode cX4_enter 0 = .ok (.aload_n 0, 1) := by decide +kernel
theorem dX4_enter_1 : decode cX4_enter 1 = .ok (.getfield 127, 3) := by decide +kernel
theorem dX4_enter_4 : decode cX4_enter 4 = .ok (.bipush 6, 2) := by decide +kernel
theorem dX4_enter_6 : decode cX4_enter 6 = .ok (.if_icmp .le 9, 3) := by decide +kernel
theorem dX4_enter_9 : decode cX4_enter 9 = .ok (.aload_n 0, 1) := by decide +kernel
theorem dX4_enter_10 : decode cX4_enter 10 = .ok (.iconst 2, 1) := by decide +kernel
theorem dX4_enter_11 : decode cX4_enter 11 = .ok (.invokevirtual 75, 3) := by decide +kernel
theorem dX4_enter_14 : decode cX4_enter 14 = .ok (.pop, 1) := by decide +kernel
theorem dX4_enter_15 : decode cX4_enter 15 = .ok (.aload_n 0, 1) := by decide +kernel
theorem dX4_enter_16 : decode cX4_enter 16 = .ok (.dup, 1) := by decide +kernel
theorem dX4_enter_17 : decode cX4_enter 17 = .ok (.getfield 127, 3) := by decide +kernel
theorem dX4_enter_20 : decode cX4_enter 20 = .ok (.iconst 1, 1) := by decide +kernel
theorem dX4_enter_21 : decode cX4_enter 21 = .ok (.iadd, 1) := by decide +kernel
theorem dX4_enter_22 : decode cX4_enter 22 = .ok (.putfield 127, 3) := by decide +kernel
theorem dX4_enter_25 : decode cX4_enter 25 = .ok (.aload_n 0, 1) := by decide +kernel
theorem dX4_enter_26 : decode cX4_enter 26 = .ok (.iload_n 1, 1) := by decide +kernel
theorem dX4_enter_27 : decode cX4_enter 27 = .ok (.invokevirtual 245, 3) := by decide +kernel
theorem dX4_enter_30 : decode cX4_enter 30 = .ok (.aload_n 0, 1) := by decide +kernel
theorem dX4_enter_31 : decode cX4_enter 31 = .ok (.getfield 12, 3) := by decide +kernel
theorem dX4_enter_34 : decode cX4_enter 34 = .ok (.invokevirtual 133, 3) := by decide +kernel
theorem dX4_enter_37 : decode cX4_enter 37 = .ok (.return_, 1) := by decide +kernel
theorem dX4_push_0 : decode cX4_push 0 = .ok (.aload_n 0, 1) := by decide +kernel
theorem dX4_push_1 : decode cX4_push 1 = .ok (.getfield 124, 3) := by decide +kernel
theorem dX4_push_4 : decode cX4_push 4 = .ok (.aload_n 0, 1) := by decide +kernel
theorem dX4_push_5 : decode cX4_push 5 = .ok (.getfield 22, 3) := by decide +kernel
theorem dX4_push_8 : decode cX4_push 8 = .ok (.arraylength, 1) := by decide +kernel
theorem dX4_push_9 : decode cX4_push 9 = .ok (.if_icmp .lt 9, 3) := by decide +kernel
theorem dX4_push_12 : decode cX4_push 12 = .ok (.aload_n 0, 1) := by decide +kernel
theorem dX4_push_13 : decode cX4_push 13 = .ok (.iconst 2, 1) := by decide +kernel
theorem dX4_push_14 : decode cX4_push 14 = .ok (.invokevirtual 75, 3) := by decide +kernel
theorem dX4_push_17 : decode cX4_push 17 = .ok (.pop, 1) := by decide +kernel
theorem dX4_push_18 : decode cX4_push 18 = .ok (.aload_n 0, 1) := by decide +kernel
theorem dX4_push_19 : decode cX4_push 19 = .ok (.getfield 22, 3) := by decide +kernel
theorem dX4_push_22 : decode cX4_push 22 = .ok (.aload_n 0, 1) := by decide +kernel
theorem dX4_push_23 : decode cX4_push 23 = .ok (.getfield 124, 3) := by decide +kernel
theorem dX4_push_26 : decode cX4_push 26 = .ok (.iload_n 1, 1) := by decide +kernel
theorem dX4_push_27 : decode cX4_push 27 = .ok (.invokestatic 216, 3) := by decide +kernel
theorem dX4_push_30 : decode cX4_push 30 = .ok (.aload_n 0, 1) := by decide +kernel
theorem dX4_push_31 : decode cX4_push 31 = .ok (.dup, 1) := by decide +kernel
theorem dX4_push_32 : decode cX4_push 32 = .ok (.getfield 124, 3) := by decide +kernel
theorem dX4_push_35 : decode cX4_push 35 = .ok (.iconst 1, 1) := by decide +kernel
theorem dX4_push_36 : decode cX4_push 36 = .ok (.iadd, 1) := by decide +kernel
theorem dX4_push_37 : decode cX4_push 37 = .ok (.putfield 124, 3) := by decide +kernel
theorem dX4_push_40 : decode cX4_push 40 = .ok (.return_, 1) := by decide +kernel
theorem dX4_drop_0 : decode cX4_drop 0 = .ok (.iload_n 1, 1) := by decide +kernel
theorem dX4_drop_1 : decode cX4_drop 1 = .ok (.bipush 6, 2) := by decide +kernel
theorem dX4_drop_3 : decode cX4_drop 3 = .ok (.if_icmp .eq 8, 3) := by decide +kernel
theorem dX4_drop_6 : decode cX4_drop 6 = .ok (.iload_n 1, 1) := by decide +kernel
theorem dX4_drop_7 : decode cX4_drop 7 = .ok (.iconst 3, 1) := by decide +kernel
theorem dX4_drop_8 : decode cX4_drop 8 = .ok (.if_icmp .gt 13, 3) := by decide +kernel
theorem dX4_drop_11 : decode cX4_drop 11 = .ok (.aload_n 0, 1) := by decide +kernel
theorem dX4_drop_12 : decode cX4_drop 12 = .ok (.dup, 1) := by decide +kernel
theorem dX4_drop_13 : decode cX4_drop 13 = .ok (.getfield 127, 3) := by decide +kernel
theorem dX4_drop_16 : decode cX4_drop 16 = .ok (.iconst 1, 1) := by decide +kernel
theorem dX4_drop_17 : decode cX4_drop 17 = .ok (.isub, 1) := by decide +kernel
theorem dX4_drop_18 : decode cX4_drop 18 = .ok (.putfield 127, 3) := by decide +kernel
theorem dX4_drop_21 : decode cX4_drop 21 = .ok (.aload_n 0, 1) := by decide +kernel
theorem dX4_drop_22 : decode cX4_drop 22 = .ok (.dup, 1) := by decide +kernel
theorem dX4_drop_23 : decode cX4_drop 23 = .ok (.getfield 124, 3) := by decide +kernel
theorem dX4_drop_26 : decode cX4_drop 26 = .ok (.iconst 1, 1) := by decide +kernel
theorem dX4_drop_27 : decode cX4_drop 27 = .ok (.isub, 1) := by decide +kernel
theorem dX4_drop_28 : decode cX4_drop 28 = .ok (.putfield 124, 3) := by decide +kernel
theorem dX4_drop_31 : decode cX4_drop 31 = .ok (.return_, 1) := by decide +kernel
theorem dX4_settle_0 : decode cX4_settle 0 = .ok (.aload_n 0, 1) := by decide +kernel
theorem dX4_settle_1 : decode cX4_settle 1 = .ok (.invokevirtual 206, 3) := by decide +kernel
theorem dX4_settle_4 : decode cX4_settle 4 = .ok (.istore_n 2, 1) := by decide +kernel
theorem dX4_settle_5 : decode cX4_settle 5 = .ok (.aload_n 0, 1) := by decide +kernel
theorem dX4_settle_6 : decode cX4_settle 6 = .ok (.getfield 124, 3) := by decide +kernel
theorem dX4_settle_9 : decode cX4_settle 9 = .ok (.istore_n 3, 1) := by decide +kernel
theorem dX4_settle_10 : decode cX4_settle 10 = .ok (.iload_n 3, 1) := by decide +kernel
theorem dX4_settle_11 : decode cX4_settle 11 = .ok (.ifCond .le 34, 3) := by decide +kernel
theorem dX4_settle_14 : decode cX4_settle 14 = .ok (.iload_n 2, 1) := by decide +kernel
theorem dX4_settle_15 : decode cX4_settle 15 = .ok (.invokestatic 220, 3) := by decide +kernel
theorem dX4_settle_18 : decode cX4_settle 18 = .ok (.iload_n 1, 1) := by decide +kernel
theorem dX4_settle_19 : decode cX4_settle 19 = .ok (.if_icmp .lt 26, 3) := by decide +kernel
theorem dX4_settle_22 : decode cX4_settle 22 = .ok (.aload_n 0, 1) := by decide +kernel
theorem dX4_settle_23 : decode cX4_settle 23 = .ok (.iload_n 2, 1) := by decide +kernel
theorem dX4_settle_24 : decode cX4_settle 24 = .ok (.iconst 0, 1) := by decide +kernel
theorem dX4_settle_25 : decode cX4_settle 25 = .ok (.iconst 0, 1) := by decide +kernel
theorem dX4_settle_26 : decode cX4_settle 26 = .ok (.invokevirtual 196, 3) := by decide +kernel
theorem dX4_settle_29 : decode cX4_settle 29 = .ok (.aload_n 0, 1) := by decide +kernel
theorem dX4_settle_30 : decode cX4_settle 30 = .ok (.iload_n 2, 1) := by decide +kernel
theorem dX4_settle_31 : decode cX4_settle 31 = .ok (.invokevirtual 209, 3) := by decide +kernel
theorem dX4_settle_34 : decode cX4_settle 34 = .ok (.aload_n 0, 1) := by decide +kernel
theorem dX4_settle_35 : decode cX4_settle 35 = .ok (.invokevirtual 206, 3) := by decide +kernel
theorem dX4_settle_38 : decode cX4_settle 38 = .ok (.istore_n 2, 1) := by decide +kernel
theorem dX4_settle_39 : decode cX4_settle 39 = .ok (.iinc 3 (-1), 3) := by decide +kernel
theorem dX4_settle_42 : decode cX4_settle 42 = .ok (.goto (-32), 3) := by decide +kernel
theorem dX4_settle_45 : decode cX4_settle 45 = .ok (.return_, 1) := by decide +kernel
theorem dX4_topKind_0 : decode cX4_topKind 0 = .ok (.aload_n 0, 1) := by decide +kernel
theorem dX4_topKind_1 : decode cX4_topKind 1 = .ok (.getfield 22, 3) := by decide +kernel
theorem dX4_topKind_4 : decode cX4_topKind 4 = .ok (.aload_n 0, 1) := by decide +kernel
theorem dX4_topKind_5 : decode cX4_topKind 5 = .ok (.getfield 124, 3) := by decide +kernel
theorem dX4_topKind_8 : decode cX4_topKind 8 = .ok (.iconst 1, 1) := by decide +kernel
theorem dX4_topKind_9 : decode cX4_topKind 9 = .ok (.isub, 1) := by decide +kernel
theorem dX4_topKind_10 : decode cX4_topKind 10 = .ok (.invokestatic 212, 3) := by decide +kernel
theorem dX4_topKind_13 : decode cX4_topKind 13 = .ok (.bipush 15, 2) := by decide +kernel
theorem dX4_topKind_15 : decode cX4_topKind 15 = .ok (.iand, 1) := by decide +kernel
theorem dX4_topKind_16 : decode cX4_topKind 16 = .ok (.ireturn, 1) := by decide +kernel
theorem dX4_binding_0 : decode cX4_binding 0 = .ok (.getstatic 248, 3) := by decide +kernel
theorem dX4_binding_3 : decode cX4_binding 3 = .ok (.iload_n 0, 1) := by decide +kernel
theorem dX4_binding_4 : decode cX4_binding 4 = .ok (.invokestatic 212, 3) := by decide +kernel
theorem dX4_binding_7 : decode cX4_binding 7 = .ok (.ireturn, 1) := by decide +kernel
theorem dX4_addStep_0 : decode cX4_addStep 0 = .ok (.aload_n 0, 1) := by decide +kernel
theorem dX4_addStep_1 : decode cX4_addStep 1 = .ok (.getfield 18, 3) := by decide +kernel
theorem dX4_addStep_4 : decode cX4_addStep 4 = .ok (.aload_n 0, 1) := by decide +kernel
theorem dX4_addStep_5 : decode cX4_addStep 5 = .ok (.getfield 86, 3) := by decide +kernel
theorem dX4_addStep_8 : decode cX4_addStep 8 = .ok (.iload_n 1, 1) := by decide +kernel
theorem dX4_addStep_9 : decode cX4_addStep 9 = .ok (.bipush 16, 2) := by decide +kernel
theorem dX4_addStep_11 : decode cX4_addStep 11 = .ok (.iload_n 2, 1) := by decide +kernel
theorem dX4_addStep_12 : decode cX4_addStep 12 = .ok (.imul, 1) := by decide +kernel
theorem dX4_addStep_13 : decode cX4_addStep 13 = .ok (.iadd, 1) := by decide +kernel
theorem dX4_addStep_14 : decode cX4_addStep 14 = .ok (.sipush 256, 3) := by decide +kernel
theorem dX4_addStep_17 : decode cX4_addStep 17 = .ok (.iload_n 3, 1) := by decide +kernel
theorem dX4_addStep_18 : decode cX4_addStep 18 = .ok (.imul, 1) := by decide +kernel
theorem dX4_addStep_19 : decode cX4_addStep 19 = .ok (.iadd, 1) := by decide +kernel
theorem dX4_addStep_20 : decode cX4_addStep 20 = .ok (.invokestatic 216, 3) := by decide +kernel
theorem dX4_addStep_23 : decode cX4_addStep 23 = .ok (.aload_n 0, 1) := by decide +kernel
theorem dX4_addStep_24 : decode cX4_addStep 24 = .ok (.dup, 1) := by decide +kernel
theorem dX4_addStep_25 : decode cX4_addStep 25 = .ok (.getfield 86, 3) := by decide +kernel
theorem dX4_addStep_28 : decode cX4_addStep 28 = .ok (.iconst 1, 1) := by decide +kernel
theorem dX4_addStep_29 : decode cX4_addStep 29 = .ok (.iadd, 1) := by decide +kernel
theorem dX4_addStep_30 : decode cX4_addStep 30 = .ok (.putfield 86, 3) := by decide +kernel
theorem dX4_addStep_33 : decode cX4_addStep 33 = .ok (.return_, 1) := by decide +kernel
theorem dX5_init_0 : decode cX5_init 0 = .ok (.aload_n 0, 1) := by decide +kernel
theorem dX5_init_1 : decode cX5_init 1 = .ok (.invokespecial 3, 3) := by decide +kernel
theorem dX5_init_4 : decode cX5_init 4 = .ok (.aload_n 0, 1) := by decide +kernel
theorem dX5_init_5 : decode cX5_init 5 = .ok (.new 9, 3) := by decide +kernel
theorem dX5_init_8 : decode cX5_init 8 = .ok (.dup, 1) := by decide +kernel
theorem dX5_init_9 : decode cX5_init 9 = .ok (.invokespecial 11, 3) := by decide +kernel
theorem dX5_init_12 : decode cX5_init 12 = .ok (.putfield 12, 3) := by decide +kernel
theorem dX5_init_15 : decode cX5_init 15 = .ok (.aload_n 0, 1) := by decide +kernel
theorem dX5_init_16 : decode cX5_init 16 = .ok (.sipush 256, 3) := by decide +kernel
theorem dX5_init_19 : decode cX5_init 19 = .ok (.newarray .int, 2) := by decide +kernel
theorem dX5_init_21 : decode cX5_init 21 = .ok (.putfield 18, 3) := by decide +kernel
theorem dX5_init_24 : decode cX5_init 24 = .ok (.aload_n 0, 1) := by decide +kernel
theorem dX5_init_25 : decode cX5_init 25 = .ok (.iconst 1, 1) := by decide +kernel
theorem dX5_init_26 : decode cX5_init 26 = .ok (.newarray .int, 2) := by decide +kernel
theorem dX5_init_28 : decode cX5_init 28 = .ok (.putfield 22, 3) := by decide +kernel
theorem dX5_init_31 : decode cX5_init 31 = .ok (.aload_n 0, 1) := by decide +kernel
theorem dX5_init_32 : decode cX5_init 32 = .ok (.iconst 1, 1) := by decide +kernel
theorem dX5_init_33 : decode cX5_init 33 = .ok (.newarray .int, 2) := by decide +kernel
theorem dX5_init_35 : decode cX5_init 35 = .ok (.putfield 25, 3) := by decide +kernel
theorem dX5_init_38 : decode cX5_init 38 = .ok (.aload_n 0, 1) := by decide +kernel
theorem dX5_init_39 : decode cX5_init 39 = .ok (.iconst 1, 1) := by decide +kernel
theorem dX5_init_40 : decode cX5_init 40 = .ok (.newarray .int, 2) := by decide +kernel
theorem dX5_init_42 : decode cX5_init 42 = .ok (.putfield 28, 3) := by decide +kernel
theorem dX5_init_45 : decode cX5_init 45 = .ok (.return_, 1) := by decide +kernel
theorem dX5_forget_0 : decode cX5_forget 0 = .ok (.aload_n 0, 1) := by decide +kernel
theorem dX5_forget_1 : decode cX5_forget 1 = .ok (.dup, 1) := by decide +kernel
theorem dX5_forget_2 : decode cX5_forget 2 = .ok (.getfield 31, 3) := by decide +kernel
theorem dX5_forget_5 : decode cX5_forget 5 = .ok (.iload_n 1, 1) := by decide +kernel
theorem dX5_forget_6 : decode cX5_forget 6 = .ok (.ior, 1) := by decide +kernel
theorem dX5_forget_7 : decode cX5_forget 7 = .ok (.putfield 31, 3) := by decide +kernel
theorem dX5_forget_10 : decode cX5_forget 10 = .ok (.aload_n 0, 1) := by decide +kernel
theorem dX5_forget_11 : decode cX5_forget 11 = .ok (.iconst 0, 1) := by decide +kernel
theorem dX5_forget_12 : decode cX5_forget 12 = .ok (.putfield 35, 3) := by decide +kernel
theorem dX5_forget_15 : decode cX5_forget 15 = .ok (.return_, 1) := by decide +kernel
theorem dX5_refresh_0 : decode cX5_refresh 0 = .ok (.aload_n 0, 1) := by decide +kernel
theorem dX5_refresh_1 : decode cX5_refresh 1 = .ok (.getfield 35, 3) := by decide +kernel
theorem dX5_refresh_4 : decode cX5_refresh 4 = .ok (.ifCond .eq 4, 3) := by decide +kernel
theorem dX5_refresh_7 : decode cX5_refresh 7 = .ok (.return_, 1) := by decide +kernel
theorem dX5_refresh_8 : decode cX5_refresh 8 = .ok (.iconst 1, 1) := by decide +kernel
theorem dX5_refresh_9 : decode cX5_refresh 9 = .ok (.iconst 2, 1) := by decide +kernel
theorem dX5_refresh_10 : decode cX5_refresh 10 = .ok (.aload_n 1, 1) := by decide +kernel
theorem dX5_refresh_11 : decode cX5_refresh 11 = .ok (.getfield 39, 3) := by decide +kernel
theorem dX5_refresh_14 : decode cX5_refresh 14 = .ok (.imul, 1) := by decide +kernel
theorem dX5_refresh_15 : decode cX5_refresh 15 = .ok (.ishl, 1) := by decide +kernel
theorem dX5_refresh_16 : decode cX5_refresh 16 = .ok (.istore_n 3, 1) := by decide +kernel
theorem dX5_refresh_17 : decode cX5_refresh 17 = .ok (.aload_n 0, 1) := by decide +kernel
theorem dX5_refresh_18 : decode cX5_refresh 18 = .ok (.getfield 22, 3) := by decide +kernel
theorem dX5_refresh_21 : decode cX5_refresh 21 = .ok (.arraylength, 1) := by decide +kernel
theorem dX5_refresh_22 : decode cX5_refresh 22 = .ok (.iload_n 3, 1) := by decide +kernel
theorem dX5_refresh_23 : decode cX5_refresh 23 = .ok (.if_icmp .ge 20, 3) := by decide +kernel
theorem dX5_refresh_26 : decode cX5_refresh 26 = .ok (.aload_n 0, 1) := by decide +kernel
theorem dX5_refresh_27 : decode cX5_refresh 27 = .ok (.iload_n 3, 1) := by decide +kernel
theorem dX5_refresh_28 : decode cX5_refresh 28 = .ok (.newarray .int, 2) := by decide +kernel
theorem dX5_refresh_30 : decode cX5_refresh 30 = .ok (.putfield 22, 3) := by decide +kernel
theorem dX5_refresh_33 : decode cX5_refresh 33 = .ok (.aload_n 0, 1) := by decide +kernel
theorem dX5_refresh_34 : decode cX5_refresh 34 = .ok (.sipush 255, 3) := by decide +kernel
theorem dX5_refresh_37 : decode cX5_refresh 37 = .ok (.putfield 31, 3) := by decide +kernel
theorem dX5_refresh_40 : decode cX5_refresh 40 = .ok (.goto 21, 3) := by decide +kernel
theorem dX5_refresh_43 : decode cX5_refresh 43 = .ok (.aload_n 0, 1) := by decide +kernel
theorem dX5_refresh_44 : decode cX5_refresh 44 = .ok (.getfield 31, 3) := by decide +kernel
theorem dX5_refresh_47 : decode cX5_refresh 47 = .ok (.sipush 255, 3) := by decide +kernel
theorem dX5_refresh_50 : decode cX5_refresh 50 = .ok (.if_icmp .ne 11, 3) := by decide +kernel
theorem dX5_refresh_53 : decode cX5_refresh 53 = .ok (.aload_n 0, 1) := by decide +kernel
theorem dX5_refresh_54 : decode cX5_refresh 54 = .ok (.getfield 22, 3) := by decide +kernel
theorem dX5_refresh_57 : decode cX5_refresh 57 = .ok (.iconst 0, 1) := by decide +kernel
theorem dX5_refresh_58 : decode cX5_refresh 58 = .ok (.invokestatic 44, 3) := by decide +kernel
theorem dX5_refresh_61 : decode cX5_refresh 61 = .ok (.iconst 0, 1) := by decide +kernel
theorem dX5_refresh_62 : decode cX5_refresh 62 = .ok (.istore 4, 2) := by decide +kernel
theorem dX5_refresh_64 : decode cX5_refresh 64 = .ok (.iload 4, 2) := by decide +kernel
theorem dX5_refresh_66 : decode cX5_refresh 66 = .ok (.aload_n 1, 1) := by decide +kernel
theorem dX5_refresh_67 : decode cX5_refresh 67 = .ok (.getfield 39, 3) := by decide +kernel
theorem dX5_refresh_70 : decode cX5_refresh 70 = .ok (.if_icmp .ge 36, 3) := by decide +kernel
theorem dX5_refresh_73 : decode cX5_refresh 73 = .ok (.aload_n 0, 1) := by decide +kernel
theorem dX5_refresh_74 : decode cX5_refresh 74 = .ok (.getfield 31, 3) := by decide +kernel
theorem dX5_refresh_77 : decode cX5_refresh 77 = .ok (.iload 4, 2) := by decide +kernel
theorem dX5_refresh_79 : decode cX5_refresh 79 = .ok (.ishr, 1) := by decide +kernel
theorem dX5_refresh_80 : decode cX5_refresh 80 = .ok (.iconst 1, 1) := by decide +kernel
theorem dX5_refresh_81 : decode cX5_refresh 81 = .ok (.iand, 1) := by decide +kernel
theorem dX5_refresh_82 : decode cX5_refresh 82 = .ok (.iconst 1, 1) := by decide +kernel
theorem dX5_refresh_83 : decode cX5_refresh 83 = .ok (.if_icmp .ne 17, 3) := by decide +kernel
theorem dX5_refresh_86 : decode cX5_refresh 86 = .ok (.aload_n 0, 1) := by decide +kernel
theorem dX5_refresh_87 : decode cX5_refresh 87 = .ok (.iload 4, 2) := by decide +kernel
theorem dX5_refresh_89 : decode cX5_refresh 89 = .ok (.aload_n 2, 1) := by decide +kernel
theorem dX5_refresh_90 : decode cX5_refresh 90 = .ok (.iload 4, 2) := by decide +kernel
theorem dX5_refresh_92 : decode cX5_refresh 92 = .ok (.invokevirtual 50, 3) := by decide +kernel
theorem dX5_refresh_95 : decode cX5_refresh 95 = .ok (.iload_n 3, 1) := by decide +kernel
theorem dX5_refresh_96 : decode cX5_refresh 96 = .ok (.aload_n 1, 1) := by decide +kernel
theorem dX5_refresh_97 : decode cX5_refresh 97 = .ok (.invokevirtual 56, 3) := by decide +kernel
theorem dX5_refresh_100 : decode cX5_refresh 100 = .ok (.iinc 4 1, 3) := by decide +kernel
theorem dX5_refresh_103 : decode cX5_refresh 103 = .ok (.goto (-39), 3) := by decide +kernel
theorem dX5_refresh_106 : decode cX5_refresh 106 = .ok (.aload_n 0, 1) := by decide +kernel
theorem dX5_refresh_107 : decode cX5_refresh 107 = .ok (.iconst 0, 1) := by decide +kernel
theorem dX5_refresh_108 : decode cX5_refresh 108 = .ok (.putfield 31, 3) := by decide +kernel
theorem dX5_refresh_111 : decode cX5_refresh 111 = .ok (.aload_n 0, 1) := by decide +kernel
theorem dX5_refresh_112 : decode cX5_refresh 112 = .ok (.iload_n 3, 1) := by decide +kernel
theorem dX5_refresh_113 : decode cX5_refresh 113 = .ok (.aload_n 1, 1) := by decide +kernel
theorem dX5_refresh_114 : decode cX5_refresh 114 = .ok (.invokevirtual 60, 3) := by decide +kernel
theorem dX5_refresh_117 : decode cX5_refresh 117 = .ok (.aload_n 0, 1) := by decide +kernel
theorem dX5_refresh_118 : decode cX5_refresh 118 = .ok (.iload_n 3, 1) := by decide +kernel
theorem dX5_refresh_119 : decode cX5_refresh 119 = .ok (.aload_n 1, 1) := by decide +kernel
theorem dX5_refresh_120 : decode cX5_refresh 120 = .ok (.invokevirtual 64, 3) := by decide +kernel
theorem dX5_refresh_123 : decode cX5_refresh 123 = .ok (.aload_n 0, 1) := by decide +kernel
theorem dX5_refresh_124 : decode cX5_refresh 124 = .ok (.invokevirtual 67, 3) := by decide +kernel
theorem dX5_refresh_127 : decode cX5_refresh 127 = .ok (.aload_n 0, 1) := by decide +kernel
theorem dX5_refresh_128 : decode cX5_refresh 128 = .ok (.iconst 1, 1) := by decide +kernel
theorem dX5_refresh_129 : decode cX5_refresh 129 = .ok (.putfield 35, 3) := by decide +kernel
theorem dX5_refresh_132 : decode cX5_refresh 132 = .ok (.return_, 1) := by decide +kernel
theorem dX5_hearOfAll_0 : decode cX5_hearOfAll 0 = .ok (.aload 4, 2) := by decide +kernel
theorem dX5_hearOfAll_2 : decode cX5_hearOfAll 2 = .ok (.aload 4, 2) := by decide +kernel
theorem dX5_hearOfAll_4 : decode cX5_hearOfAll 4 = .ok (.iload_n 1, 1) := by decide +kernel
theorem dX5_hearOfAll_5 : decode cX5_hearOfAll 5 = .ok (.aload_n 2, 1) := by decide +kernel
theorem dX5_hearOfAll_6 : decode cX5_hearOfAll 6 = .ok (.invokevirtual 70, 3) := by decide +kernel
theorem dX5_hearOfAll_9 : decode cX5_hearOfAll 9 = .ok (.invokevirtual 74, 3) := by decide +kernel
theorem dX5_hearOfAll_12 : decode cX5_hearOfAll 12 = .ok (.istore 5, 2) := by decide +kernel
theorem dX5_hearOfAll_14 : decode cX5_hearOfAll 14 = .ok (.aload 4, 2) := by decide +kernel
theorem dX5_hearOfAll_16 : decode cX5_hearOfAll 16 = .ok (.iconst 1, 1) := by decide +kernel
theorem dX5_hearOfAll_17 : decode cX5_hearOfAll 17 = .ok (.iload_n 1, 1) := by decide +kernel
theorem dX5_hearOfAll_18 : decode cX5_hearOfAll 18 = .ok (.ishl, 1) := by decide +kernel
theorem dX5_hearOfAll_19 : decode cX5_hearOfAll 19 = .ok (.invokevirtual 74, 3) := by decide +kernel
theorem dX5_hearOfAll_22 : decode cX5_hearOfAll 22 = .ok (.istore 6, 2) := by decide +kernel
theorem dX5_hearOfAll_24 : decode cX5_hearOfAll 24 = .ok (.iconst 0, 1) := by decide +kernel
theorem dX5_hearOfAll_25 : decode cX5_hearOfAll 25 = .ok (.istore 7, 2) := by decide +kernel
theorem dX5_hearOfAll_27 : decode cX5_hearOfAll 27 = .ok (.iload 7, 2) := by decide +kernel
theorem dX5_hearOfAll_29 : decode cX5_hearOfAll 29 = .ok (.iload_n 3, 1) := by decide +kernel
theorem dX5_hearOfAll_30 : decode cX5_hearOfAll 30 = .ok (.if_icmp .ge 96, 3) := by decide +kernel
theorem dX5_hearOfAll_33 : decode cX5_hearOfAll 33 = .ok (.aload 4, 2) := by decide +kernel
theorem dX5_hearOfAll_35 : decode cX5_hearOfAll 35 = .ok (.iload 7, 2) := by decide +kernel
theorem dX5_hearOfAll_37 : decode cX5_hearOfAll 37 = .ok (.invokevirtual 78, 3) := by decide +kernel
theorem dX5_hearOfAll_40 : decode cX5_hearOfAll 40 = .ok (.ifCond .eq 80, 3) := by decide +kernel
theorem dX5_hearOfAll_43 : decode cX5_hearOfAll 43 = .ok (.iload 7, 2) := by decide +kernel
theorem dX5_hearOfAll_45 : decode cX5_hearOfAll 45 = .ok (.iload 5, 2) := by decide +kernel
theorem dX5_hearOfAll_47 : decode cX5_hearOfAll 47 = .ok (.iand, 1) := by decide +kernel
theorem dX5_hearOfAll_48 : decode cX5_hearOfAll 48 = .ok (.istore 8, 2) := by decide +kernel
theorem dX5_hearOfAll_50 : decode cX5_hearOfAll 50 = .ok (.iload 8, 2) := by decide +kernel
theorem dX5_hearOfAll_52 : decode cX5_hearOfAll 52 = .ok (.iload 7, 2) := by decide +kernel
theorem dX5_hearOfAll_54 : decode cX5_hearOfAll 54 = .ok (.if_icmp .ne 26, 3) := by decide +kernel
theorem dX5_hearOfAll_57 : decode cX5_hearOfAll 57 = .ok (.aload 4, 2) := by decide +kernel
theorem dX5_hearOfAll_59 : decode cX5_hearOfAll 59 = .ok (.iconst 0, 1) := by decide +kernel
theorem dX5_hearOfAll_60 : decode cX5_hearOfAll 60 = .ok (.iload_n 1, 1) := by decide +kernel
theorem dX5_hearOfAll_61 : decode cX5_hearOfAll 61 = .ok (.aload_n 0, 1) := by decide +kernel
theorem dX5_hearOfAll_62 : decode cX5_hearOfAll 62 = .ok (.getfield 12, 3) := by decide +kernel
theorem dX5_hearOfAll_65 : decode cX5_hearOfAll 65 = .ok (.aload_n 2, 1) := by decide +kernel
theorem dX5_hearOfAll_66 : decode cX5_hearOfAll 66 = .ok (.iload_n 1, 1) := by decide +kernel
theorem dX5_hearOfAll_67 : decode cX5_hearOfAll 67 = .ok (.iload 7, 2) := by decide +kernel
theorem dX5_hearOfAll_69 : decode cX5_hearOfAll 69 = .ok (.aload 4, 2) := by decide +kernel
theorem dX5_hearOfAll_71 : decode cX5_hearOfAll 71 = .ok (.invokevirtual 82, 3) := by decide +kernel
theorem dX5_hearOfAll_74 : decode cX5_hearOfAll 74 = .ok (.invokevirtual 86, 3) := by decide +kernel
theorem dX5_hearOfAll_77 : decode cX5_hearOfAll 77 = .ok (.goto 15, 3) := by decide +kernel
theorem dX5_hearOfAll_80 : decode cX5_hearOfAll 80 = .ok (.aload_n 0, 1) := by decide +kernel
theorem dX5_hearOfAll_81 : decode cX5_hearOfAll 81 = .ok (.getfield 22, 3) := by decide +kernel
theorem dX5_hearOfAll_84 : decode cX5_hearOfAll 84 = .ok (.iload 8, 2) := by decide +kernel
theorem dX5_hearOfAll_86 : decode cX5_hearOfAll 86 = .ok (.invokestatic 90, 3) := by decide +kernel
theorem dX5_hearOfAll_89 : decode cX5_hearOfAll 89 = .ok (.iload 6, 2) := by decide +kernel
theorem dX5_hearOfAll_91 : decode cX5_hearOfAll 91 = .ok (.iand, 1) := by decide +kernel
theorem dX5_hearOfAll_92 : decode cX5_hearOfAll 92 = .ok (.istore 9, 2) := by decide +kernel
theorem dX5_hearOfAll_94 : decode cX5_hearOfAll 94 = .ok (.aload_n 0, 1) := by decide +kernel
theorem dX5_hearOfAll_95 : decode cX5_hearOfAll 95 = .ok (.getfield 22, 3) := by decide +kernel
theorem dX5_hearOfAll_98 : decode cX5_hearOfAll 98 = .ok (.iload 7, 2) := by decide +kernel
theorem dX5_hearOfAll_100 : decode cX5_hearOfAll 100 = .ok (.aload_n 0, 1) := by decide +kernel
theorem dX5_hearOfAll_101 : decode cX5_hearOfAll 101 = .ok (.getfield 22, 3) := by decide +kernel
theorem dX5_hearOfAll_104 : decode cX5_hearOfAll 104 = .ok (.iload 7, 2) := by decide +kernel
theorem dX5_hearOfAll_106 : decode cX5_hearOfAll 106 = .ok (.invokestatic 90, 3) := by decide +kernel
theorem dX5_hearOfAll_109 : decode cX5_hearOfAll 109 = .ok (.iload 6, 2) := by decide +kernel
theorem dX5_hearOfAll_111 : decode cX5_hearOfAll 111 = .ok (.iconst (-1), 1) := by decide +kernel
theorem dX5_hearOfAll_112 : decode cX5_hearOfAll 112 = .ok (.ixor, 1) := by decide +kernel
theorem dX5_hearOfAll_113 : decode cX5_hearOfAll 113 = .ok (.iand, 1) := by decide +kernel
theorem dX5_hearOfAll_114 : decode cX5_hearOfAll 114 = .ok (.iload 9, 2) := by decide +kernel
theorem dX5_hearOfAll_116 : decode cX5_hearOfAll 116 = .ok (.ior, 1) := by decide +kernel
theorem dX5_hearOfAll_117 : decode cX5_hearOfAll 117 = .ok (.invokestatic 94, 3) := by decide +kernel
theorem dX5_hearOfAll_120 : decode cX5_hearOfAll 120 = .ok (.iinc 7 1, 3) := by decide +kernel
theorem dX5_hearOfAll_123 : decode cX5_hearOfAll 123 = .ok (.goto (-96), 3) := by decide +kernel
theorem dX5_hearOfAll_126 : decode cX5_hearOfAll 126 = .ok (.return_, 1) := by decide +kernel
theorem dX5_brokenBits_0 : decode cX5_brokenBits 0 = .ok (.iload_n 0, 1) := by decide +kernel
theorem dX5_brokenBits_1 : decode cX5_brokenBits 1 = .ok (.iload_n 1, 1) := by decide +kernel
theorem dX5_brokenBits_2 : decode cX5_brokenBits 2 = .ok (.ixor, 1) := by decide +kernel
theorem dX5_brokenBits_3 : decode cX5_brokenBits 3 = .ok (.istore_n 2, 1) := by decide +kernel
theorem dX5_brokenBits_4 : decode cX5_brokenBits 4 = .ok (.iload_n 2, 1) := by decide +kernel
theorem dX5_brokenBits_5 : decode cX5_brokenBits 5 = .ok (.iload_n 2, 1) := by decide +kernel
theorem dX5_brokenBits_6 : decode cX5_brokenBits 6 = .ok (.iconst 1, 1) := by decide +kernel
theorem dX5_brokenBits_7 : decode cX5_brokenBits 7 = .ok (.ishr, 1) := by decide +kernel
theorem dX5_brokenBits_8 : decode cX5_brokenBits 8 = .ok (.ior, 1) := by decide +kernel
theorem dX5_brokenBits_9 : decode cX5_brokenBits 9 = .ok (.sipush 21845, 3) := by decide +kernel
theorem dX5_brokenBits_12 : decode cX5_brokenBits 12 = .ok (.iand, 1) := by decide +kernel
theorem dX5_brokenBits_13 : decode cX5_brokenBits 13 = .ok (.ireturn, 1) := by decide +kernel
theorem dX5_makeRoom_0 : decode cX5_makeRoom 0 = .ok (.iconst 0, 1) := by decide +kernel
theorem dX5_makeRoom_1 : decode cX5_makeRoom 1 = .ok (.istore_n 3, 1) := by decide +kernel
theorem dX5_makeRoom_2 : decode cX5_makeRoom 2 = .ok (.iconst 0, 1) := by decide +kernel
theorem dX5_makeRoom_3 : decode cX5_makeRoom 3 = .ok (.istore 4, 2) := by decide +kernel
theorem dX5_makeRoom_5 : decode cX5_makeRoom 5 = .ok (.iconst 0, 1) := by decide +kernel
theorem dX5_makeRoom_6 : decode cX5_makeRoom 6 = .ok (.istore 5, 2) := by decide +kernel
theorem dX5_makeRoom_8 : decode cX5_makeRoom 8 = .ok (.iload 5, 2) := by decide +kernel
theorem dX5_makeRoom_10 : decode cX5_makeRoom 10 = .ok (.iload_n 1, 1) := by decide +kernel
theorem dX5_makeRoom_11 : decode cX5_makeRoom 11 = .ok (.if_icmp .ge 66, 3) := by decide +kernel
theorem dX5_makeRoom_14 : decode cX5_makeRoom 14 = .ok (.aload_n 2, 1) := by decide +kernel
theorem dX5_makeRoom_15 : decode cX5_makeRoom 15 = .ok (.iload 5, 2) := by decide +kernel
theorem dX5_makeRoom_17 : decode cX5_makeRoom 17 = .ok (.invokevirtual 78, 3) := by decide +kernel
theorem dX5_makeRoom_20 : decode cX5_makeRoom 20 = .ok (.ifCond .eq 51, 3) := by decide +kernel
theorem dX5_makeRoom_23 : decode cX5_makeRoom 23 = .ok (.iload 5, 2) := by decide +kernel
theorem dX5_makeRoom_25 : decode cX5_makeRoom 25 = .ok (.aload_n 0, 1) := by decide +kernel
theorem dX5_makeRoom_26 : decode cX5_makeRoom 26 = .ok (.getfield 22, 3) := by decide +kernel
theorem dX5_makeRoom_29 : decode cX5_makeRoom 29 = .ok (.iload 5, 2) := by decide +kernel
theorem dX5_makeRoom_31 : decode cX5_makeRoom 31 = .ok (.invokestatic 90, 3) := by decide +kernel
theorem dX5_makeRoom_34 : decode cX5_makeRoom 34 = .ok (.invokestatic 98, 3) := by decide +kernel
theorem dX5_makeRoom_37 : decode cX5_makeRoom 37 = .ok (.invokestatic 102, 3) := by decide +kernel
theorem dX5_makeRoom_40 : decode cX5_makeRoom 40 = .ok (.istore 6, 2) := by decide +kernel
theorem dX5_makeRoom_42 : decode cX5_makeRoom 42 = .ok (.iload_n 3, 1) := by decide +kernel
theorem dX5_makeRoom_43 : decode cX5_makeRoom 43 = .ok (.iload 6, 2) := by decide +kernel
theorem dX5_makeRoom_45 : decode cX5_makeRoom 45 = .ok (.ifCond .ne 7, 3) := by decide +kernel
theorem dX5_makeRoom_48 : decode cX5_makeRoom 48 = .ok (.iconst 1, 1) := by decide +kernel
theorem dX5_makeRoom_49 : decode cX5_makeRoom 49 = .ok (.goto 4, 3) := by decide +kernel
theorem dX5_makeRoom_52 : decode cX5_makeRoom 52 = .ok (.iconst 0, 1) := by decide +kernel
theorem dX5_makeRoom_53 : decode cX5_makeRoom 53 = .ok (.iadd, 1) := by decide +kernel
theorem dX5_makeRoom_54 : decode cX5_makeRoom 54 = .ok (.istore_n 3, 1) := by decide +kernel
theorem dX5_makeRoom_55 : decode cX5_makeRoom 55 = .ok (.iload 4, 2) := by decide +kernel
theorem dX5_makeRoom_57 : decode cX5_makeRoom 57 = .ok (.iload 6, 2) := by decide +kernel
theorem dX5_makeRoom_59 : decode cX5_makeRoom 59 = .ok (.iconst 3, 1) := by decide +kernel
theorem dX5_makeRoom_60 : decode cX5_makeRoom 60 = .ok (.if_icmp .gt 7, 3) := by decide +kernel
theorem dX5_makeRoom_63 : decode cX5_makeRoom 63 = .ok (.iconst 1, 1) := by decide +kernel
theorem dX5_makeRoom_64 : decode cX5_makeRoom 64 = .ok (.goto 4, 3) := by decide +kernel
theorem dX5_makeRoom_67 : decode cX5_makeRoom 67 = .ok (.iconst 0, 1) := by decide +kernel
theorem dX5_makeRoom_68 : decode cX5_makeRoom 68 = .ok (.iadd, 1) := by decide +kernel
theorem dX5_makeRoom_69 : decode cX5_makeRoom 69 = .ok (.istore 4, 2) := by decide +kernel
theorem dX5_makeRoom_71 : decode cX5_makeRoom 71 = .ok (.iinc 5 1, 3) := by decide +kernel
theorem dX5_makeRoom_74 : decode cX5_makeRoom 74 = .ok (.goto (-66), 3) := by decide +kernel
theorem dX5_makeRoom_77 : decode cX5_makeRoom 77 = .ok (.iload_n 3, 1) := by decide +kernel
theorem dX5_makeRoom_78 : decode cX5_makeRoom 78 = .ok (.aload_n 0, 1) := by decide +kernel
theorem dX5_makeRoom_79 : decode cX5_makeRoom 79 = .ok (.getfield 25, 3) := by decide +kernel
theorem dX5_makeRoom_82 : decode cX5_makeRoom 82 = .ok (.arraylength, 1) := by decide +kernel
theorem dX5_makeRoom_83 : decode cX5_makeRoom 83 = .ok (.if_icmp .le 20, 3) := by decide +kernel
theorem dX5_makeRoom_86 : decode cX5_makeRoom 86 = .ok (.aload_n 0, 1) := by decide +kernel
theorem dX5_makeRoom_87 : decode cX5_makeRoom 87 = .ok (.iload_n 3, 1) := by decide +kernel
theorem dX5_makeRoom_88 : decode cX5_makeRoom 88 = .ok (.iconst 2, 1) := by decide +kernel
theorem dX5_makeRoom_89 : decode cX5_makeRoom 89 = .ok (.aload_n 0, 1) := by decide +kernel
theorem dX5_makeRoom_90 : decode cX5_makeRoom 90 = .ok (.getfield 25, 3) := by decide +kernel
theorem dX5_makeRoom_93 : decode cX5_makeRoom 93 = .ok (.arraylength, 1) := by decide +kernel
theorem dX5_makeRoom_94 : decode cX5_makeRoom 94 = .ok (.imul, 1) := by decide +kernel
theorem dX5_makeRoom_95 : decode cX5_makeRoom 95 = .ok (.invokestatic 107, 3) := by decide +kernel
theorem dX5_makeRoom_98 : decode cX5_makeRoom 98 = .ok (.newarray .int, 2) := by decide +kernel
theorem dX5_makeRoom_100 : decode cX5_makeRoom 100 = .ok (.putfield 25, 3) := by decide +kernel
theorem dX5_makeRoom_103 : decode cX5_makeRoom 103 = .ok (.iload 4, 2) := by decide +kernel
theorem dX5_makeRoom_105 : decode cX5_makeRoom 105 = .ok (.aload_n 0, 1) := by decide +kernel
theorem dX5_makeRoom_106 : decode cX5_makeRoom 106 = .ok (.getfield 28, 3) := by decide +kernel
theorem dX5_makeRoom_109 : decode cX5_makeRoom 109 = .ok (.arraylength, 1) := by decide +kernel
theorem dX5_makeRoom_110 : decode cX5_makeRoom 110 = .ok (.if_icmp .le 21, 3) := by decide +kernel
theorem dX5_makeRoom_113 : decode cX5_makeRoom 113 = .ok (.aload_n 0, 1) := by decide +kernel
theorem dX5_makeRoom_114 : decode cX5_makeRoom 114 = .ok (.iload 4, 2) := by decide +kernel
theorem dX5_makeRoom_116 : decode cX5_makeRoom 116 = .ok (.iconst 2, 1) := by decide +kernel
theorem dX5_makeRoom_117 : decode cX5_makeRoom 117 = .ok (.aload_n 0, 1) := by decide +kernel
theorem dX5_makeRoom_118 : decode cX5_makeRoom 118 = .ok (.getfield 28, 3) := by decide +kernel
theorem dX5_makeRoom_121 : decode cX5_makeRoom 121 = .ok (.arraylength, 1) := by decide +kernel
theorem dX5_makeRoom_122 : decode cX5_makeRoom 122 = .ok (.imul, 1) := by decide +kernel
theorem dX5_makeRoom_123 : decode cX5_makeRoom 123 = .ok (.invokestatic 107, 3) := by decide +kernel
theorem dX5_makeRoom_126 : decode cX5_makeRoom 126 = .ok (.newarray .int, 2) := by decide +kernel
theorem dX5_makeRoom_128 : decode cX5_makeRoom 128 = .ok (.putfield 28, 3) := by decide +kernel
theorem dX5_makeRoom_131 : decode cX5_makeRoom 131 = .ok (.return_, 1) := by decide +kernel
theorem dX5_sort_0 : decode cX5_sort 0 = .ok (.aload_n 0, 1) := by decide +kernel
theorem dX5_sort_1 : decode cX5_sort 1 = .ok (.iconst 0, 1) := by decide +kernel
theorem dX5_sort_2 : decode cX5_sort 2 = .ok (.putfield 112, 3) := by decide +kernel
theorem dX5_sort_5 : decode cX5_sort 5 = .ok (.aload_n 0, 1) := by decide +kernel
theorem dX5_sort_6 : decode cX5_sort 6 = .ok (.iconst 0, 1) := by decide +kernel
theorem dX5_sort_7 : decode cX5_sort 7 = .ok (.putfield 115, 3) := by decide +kernel
theorem dX5_sort_10 : decode cX5_sort 10 = .ok (.aload_n 0, 1) := by decide +kernel
theorem dX5_sort_11 : decode cX5_sort 11 = .ok (.getfield 18, 3) := by decide +kernel
theorem dX5_sort_14 : decode cX5_sort 14 = .ok (.iconst 0, 1) := by decide +kernel
theorem dX5_sort_15 : decode cX5_sort 15 = .ok (.invokestatic 44, 3) := by decide +kernel
theorem dX5_sort_18 : decode cX5_sort 18 = .ok (.iconst 0, 1) := by decide +kernel
theorem dX5_sort_19 : decode cX5_sort 19 = .ok (.istore_n 3, 1) := by decide +kernel
theorem dX5_sort_20 : decode cX5_sort 20 = .ok (.iload_n 3, 1) := by decide +kernel
theorem dX5_sort_21 : decode cX5_sort 21 = .ok (.iload_n 1, 1) := by decide +kernel
theorem dX5_sort_22 : decode cX5_sort 22 = .ok (.if_icmp .ge 112, 3) := by decide +kernel
theorem dX5_sort_25 : decode cX5_sort 25 = .ok (.aload_n 2, 1) := by decide +kernel
theorem dX5_sort_26 : decode cX5_sort 26 = .ok (.iload_n 3, 1) := by decide +kernel
theorem dX5_sort_27 : decode cX5_sort 27 = .ok (.invokevirtual 78, 3) := by decide +kernel
theorem dX5_sort_30 : decode cX5_sort 30 = .ok (.ifCond .eq 98, 3) := by decide +kernel
theorem dX5_sort_33 : decode cX5_sort 33 = .ok (.iload_n 3, 1) := by decide +kernel
theorem dX5_sort_34 : decode cX5_sort 34 = .ok (.aload_n 0, 1) := by decide +kernel
theorem dX5_sort_35 : decode cX5_sort 35 = .ok (.getfield 22, 3) := by decide +kernel
theorem dX5_sort_38 : decode cX5_sort 38 = .ok (.iload_n 3, 1) := by decide +kernel
theorem dX5_sort_39 : decode cX5_sort 39 = .ok (.invokestatic 90, 3) := by decide +kernel
theorem dX5_sort_42 : decode cX5_sort 42 = .ok (.invokestatic 98, 3) := by decide +kernel
theorem dX5_sort_45 : decode cX5_sort 45 = .ok (.istore 4, 2) := by decide +kernel
theorem dX5_sort_47 : decode cX5_sort 47 = .ok (.aload_n 0, 1) := by decide +kernel
theorem dX5_sort_48 : decode cX5_sort 48 = .ok (.getfield 18, 3) := by decide +kernel
theorem dX5_sort_51 : decode cX5_sort 51 = .ok (.iload 4, 2) := by decide +kernel
theorem dX5_sort_53 : decode cX5_sort 53 = .ok (.iload_n 1, 1) := by decide +kernel
theorem dX5_sort_54 : decode cX5_sort 54 = .ok (.invokestatic 118, 3) := by decide +kernel
theorem dX5_sort_57 : decode cX5_sort 57 = .ok (.iconst 1, 1) := by decide +kernel
theorem dX5_sort_58 : decode cX5_sort 58 = .ok (.invokestatic 94, 3) := by decide +kernel
theorem dX5_sort_61 : decode cX5_sort 61 = .ok (.iload 4, 2) := by decide +kernel
theorem dX5_sort_63 : decode cX5_sort 63 = .ok (.invokestatic 102, 3) := by decide +kernel
theorem dX5_sort_66 : decode cX5_sort 66 = .ok (.iconst 3, 1) := by decide +kernel
theorem dX5_sort_67 : decode cX5_sort 67 = .ok (.if_icmp .gt 34, 3) := by decide +kernel
theorem dX5_sort_70 : decode cX5_sort 70 = .ok (.aload_n 0, 1) := by decide +kernel
theorem dX5_sort_71 : decode cX5_sort 71 = .ok (.getfield 28, 3) := by decide +kernel
theorem dX5_sort_74 : decode cX5_sort 74 = .ok (.aload_n 0, 1) := by decide +kernel
theorem dX5_sort_75 : decode cX5_sort 75 = .ok (.getfield 115, 3) := by decide +kernel
theorem dX5_sort_78 : decode cX5_sort 78 = .ok (.iload_n 3, 1) := by decide +kernel
theorem dX5_sort_79 : decode cX5_sort 79 = .ok (.aload_n 2, 1) := by decide +kernel
theorem dX5_sort_80 : decode cX5_sort 80 = .ok (.iload_n 3, 1) := by decide +kernel
theorem dX5_sort_81 : decode cX5_sort 81 = .ok (.invokevirtual 121, 3) := by decide +kernel
theorem dX5_sort_84 : decode cX5_sort 84 = .ok (.bipush 16, 2) := by decide +kernel
theorem dX5_sort_86 : decode cX5_sort 86 = .ok (.ishl, 1) := by decide +kernel
theorem dX5_sort_87 : decode cX5_sort 87 = .ok (.ior, 1) := by decide +kernel
theorem dX5_sort_88 : decode cX5_sort 88 = .ok (.invokestatic 94, 3) := by decide +kernel
theorem dX5_sort_91 : decode cX5_sort 91 = .ok (.aload_n 0, 1) := by decide +kernel
theorem dX5_sort_92 : decode cX5_sort 92 = .ok (.dup, 1) := by decide +kernel
theorem dX5_sort_93 : decode cX5_sort 93 = .ok (.getfield 115, 3) := by decide +kernel
theorem dX5_sort_96 : decode cX5_sort 96 = .ok (.iconst 1, 1) := by decide +kernel
theorem dX5_sort_97 : decode cX5_sort 97 = .ok (.iadd, 1) := by decide +kernel
theorem dX5_sort_98 : decode cX5_sort 98 = .ok (.putfield 115, 3) := by decide +kernel
theorem dX5_sort_101 : decode cX5_sort 101 = .ok (.iload 4, 2) := by decide +kernel
theorem dX5_sort_103 : decode cX5_sort 103 = .ok (.ifCond .ne 25, 3) := by decide +kernel
theorem dX5_sort_106 : decode cX5_sort 106 = .ok (.aload_n 0, 1) := by decide +kernel
theorem dX5_sort_107 : decode cX5_sort 107 = .ok (.getfield 25, 3) := by decide +kernel
theorem dX5_sort_110 : decode cX5_sort 110 = .ok (.aload_n 0, 1) := by decide +kernel
theorem dX5_sort_111 : decode cX5_sort 111 = .ok (.getfield 112, 3) := by decide +kernel
theorem dX5_sort_114 : decode cX5_sort 114 = .ok (.iload_n 3, 1) := by decide +kernel
theorem dX5_sort_115 : decode cX5_sort 115 = .ok (.invokestatic 94, 3) := by decide +kernel
theorem dX5_sort_118 : decode cX5_sort 118 = .ok (.aload_n 0, 1) := by decide +kernel
theorem dX5_sort_119 : decode cX5_sort 119 = .ok (.dup, 1) := by decide +kernel
theorem dX5_sort_120 : decode cX5_sort 120 = .ok (.getfield 112, 3) := by decide +kernel
theorem dX5_sort_123 : decode cX5_sort 123 = .ok (.iconst 1, 1) := by decide +kernel
theorem dX5_sort_124 : decode cX5_sort 124 = .ok (.iadd, 1) := by decide +kernel
theorem dX5_sort_125 : decode cX5_sort 125 = .ok (.putfield 112, 3) := by decide +kernel
theorem dX5_sort_128 : decode cX5_sort 128 = .ok (.iinc 3 1, 3) := by decide +kernel
theorem dX5_sort_131 : decode cX5_sort 131 = .ok (.goto (-111), 3) := by decide +kernel
theorem dX5_sort_134 : decode cX5_sort 134 = .ok (.return_, 1) := by decide +kernel
theorem dX5_keptBits_0 : decode cX5_keptBits 0 = .ok (.iload_n 0, 1) := by decide +kernel
theorem dX5_keptBits_1 : decode cX5_keptBits 1 = .ok (.iconst (-1), 1) := by decide +kernel
theorem dX5_keptBits_2 : decode cX5_keptBits 2 = .ok (.ixor, 1) := by decide +kernel
theorem dX5_keptBits_3 : decode cX5_keptBits 3 = .ok (.sipush 21845, 3) := by decide +kernel
theorem dX5_keptBits_6 : decode cX5_keptBits 6 = .ok (.iand, 1) := by decide +kernel
theorem dX5_keptBits_7 : decode cX5_keptBits 7 = .ok (.iload_n 1, 1) := by decide +kernel
theorem dX5_keptBits_8 : decode cX5_keptBits 8 = .ok (.iconst 1, 1) := by decide +kernel
theorem dX5_keptBits_9 : decode cX5_keptBits 9 = .ok (.isub, 1) := by decide +kernel
theorem dX5_keptBits_10 : decode cX5_keptBits 10 = .ok (.iand, 1) := by decide +kernel
theorem dX5_keptBits_11 : decode cX5_keptBits 11 = .ok (.invokestatic 124, 3) := by decide +kernel
theorem dX5_keptBits_14 : decode cX5_keptBits 14 = .ok (.ireturn, 1) := by decide +kernel
theorem dX5_narrowed_0 : decode cX5_narrowed 0 = .ok (.iload_n 0, 1) := by decide +kernel
theorem dX5_narrowed_1 : decode cX5_narrowed 1 = .ok (.iload_n 0, 1) := by decide +kernel
theorem dX5_narrowed_2 : decode cX5_narrowed 2 = .ok (.iconst 1, 1) := by decide +kernel
theorem dX5_narrowed_3 : decode cX5_narrowed 3 = .ok (.ishr, 1) := by decide +kernel
theorem dX5_narrowed_4 : decode cX5_narrowed 4 = .ok (.ior, 1) := by decide +kernel
theorem dX5_narrowed_5 : decode cX5_narrowed 5 = .ok (.sipush 13107, 3) := by decide +kernel
theorem dX5_narrowed_8 : decode cX5_narrowed 8 = .ok (.iand, 1) := by decide +kernel
theorem dX5_narrowed_9 : decode cX5_narrowed 9 = .ok (.istore_n 1, 1) := by decide +kernel
theorem dX5_narrowed_10 : decode cX5_narrowed 10 = .ok (.iload_n 1, 1) := by decide +kernel
theorem dX5_narrowed_11 : decode cX5_narrowed 11 = .ok (.iload_n 1, 1) := by decide +kernel
theorem dX5_narrowed_12 : decode cX5_narrowed 12 = .ok (.iconst 2, 1) := by decide +kernel
theorem dX5_narrowed_13 : decode cX5_narrowed 13 = .ok (.ishr, 1) := by decide +kernel
theorem dX5_narrowed_14 : decode cX5_narrowed 14 = .ok (.ior, 1) := by decide +kernel
theorem dX5_narrowed_15 : decode cX5_narrowed 15 = .ok (.sipush 3855, 3) := by decide +kernel
theorem dX5_narrowed_18 : decode cX5_narrowed 18 = .ok (.iand, 1) := by decide +kernel
theorem dX5_narrowed_19 : decode cX5_narrowed 19 = .ok (.istore_n 2, 1) := by decide +kernel
theorem dX5_narrowed_20 : decode cX5_narrowed 20 = .ok (.iload_n 2, 1) := by decide +kernel
theorem dX5_narrowed_21 : decode cX5_narrowed 21 = .ok (.iload_n 2, 1) := by decide +kernel
theorem dX5_narrowed_22 : decode cX5_narrowed 22 = .ok (.iconst 4, 1) := by decide +kernel
theorem dX5_narrowed_23 : decode cX5_narrowed 23 = .ok (.ishr, 1) := by decide +kernel
theorem dX5_narrowed_24 : decode cX5_narrowed 24 = .ok (.ior, 1) := by decide +kernel
theorem dX5_narrowed_25 : decode cX5_narrowed 25 = .ok (.sipush 255, 3) := by decide +kernel
theorem dX5_narrowed_28 : decode cX5_narrowed 28 = .ok (.iand, 1) := by decide +kernel
theorem dX5_narrowed_29 : decode cX5_narrowed 29 = .ok (.ireturn, 1) := by decide +kernel
theorem dX5_closeDownwards_0 : decode cX5_closeDownwards 0 = .ok (.aload_n 0, 1) := by decide +kernel
theorem dX5_closeDownwards_1 : decode cX5_closeDownwards 1 = .ok (.getfield 18, 3) := by decide +kernel
theorem dX5_closeDownwards_4 : decode cX5_closeDownwards 4 = .ok (.arraylength, 1) := by decide +kernel
theorem dX5_closeDownwards_5 : decode cX5_closeDownwards 5 = .ok (.iconst 1, 1) := by decide +kernel
theorem dX5_closeDownwards_6 : decode cX5_closeDownwards 6 = .ok (.isub, 1) := by decide +kernel
theorem dX5_closeDownwards_7 : decode cX5_closeDownwards 7 = .ok (.istore_n 1, 1) := by decide +kernel
theorem dX5_closeDownwards_8 : decode cX5_closeDownwards 8 = .ok (.iload_n 1, 1) := by decide +kernel
theorem dX5_closeDownwards_9 : decode cX5_closeDownwards 9 = .ok (.ifCond .lt 48, 3) := by decide +kernel
theorem dX5_closeDownwards_12 : decode cX5_closeDownwards 12 = .ok (.iconst 0, 1) := by decide +kernel
theorem dX5_closeDownwards_13 : decode cX5_closeDownwards 13 = .ok (.istore_n 2, 1) := by decide +kernel
theorem dX5_closeDownwards_14 : decode cX5_closeDownwards 14 = .ok (.iload_n 2, 1) := by decide +kernel
theorem dX5_closeDownwards_15 : decode cX5_closeDownwards 15 = .ok (.bipush 8, 2) := by decide +kernel
theorem dX5_closeDownwards_17 : decode cX5_closeDownwards 17 = .ok (.if_icmp .ge 34, 3) := by decide +kernel
theorem dX5_closeDownwards_20 : decode cX5_closeDownwards 20 = .ok (.aload_n 0, 1) := by decide +kernel
theorem dX5_closeDownwards_21 : decode cX5_closeDownwards 21 = .ok (.getfield 18, 3) := by decide +kernel
theorem dX5_closeDownwards_24 : decode cX5_closeDownwards 24 = .ok (.iload_n 1, 1) := by decide +kernel
theorem dX5_closeDownwards_25 : decode cX5_closeDownwards 25 = .ok (.iaload, 1) := by decide +kernel
theorem dX5_closeDownwards_26 : decode cX5_closeDownwards 26 = .ok (.iconst 1, 1) := by decide +kernel
theorem dX5_closeDownwards_27 : decode cX5_closeDownwards 27 = .ok (.if_icmp .ne 24, 3) := by decide +kernel
theorem dX5_closeDownwards_30 : decode cX5_closeDownwards 30 = .ok (.aload_n 0, 1) := by decide +kernel
theorem dX5_closeDownwards_31 : decode cX5_closeDownwards 31 = .ok (.getfield 18, 3) := by decide +kernel
theorem dX5_closeDownwards_34 : decode cX5_closeDownwards 34 = .ok (.iload_n 1, 1) := by decide +kernel
theorem dX5_closeDownwards_35 : decode cX5_closeDownwards 35 = .ok (.iconst 1, 1) := by decide +kernel
theorem dX5_closeDownwards_36 : decode cX5_closeDownwards 36 = .ok (.iload_n 2, 1) := by decide +kernel
theorem dX5_closeDownwards_37 : decode cX5_closeDownwards 37 = .ok (.ishl, 1) := by decide +kernel
theorem dX5_closeDownwards_38 : decode cX5_closeDownwards 38 = .ok (.iconst (-1), 1) := by decide +kernel
theorem dX5_closeDownwards_39 : decode cX5_closeDownwards 39 = .ok (.ixor, 1) := by decide +kernel
theorem dX5_closeDownwards_40 : decode cX5_closeDownwards 40 = .ok (.iand, 1) := by decide +kernel
theorem dX5_closeDownwards_41 : decode cX5_closeDownwards 41 = .ok (.iconst 1, 1) := by decide +kernel
theorem dX5_closeDownwards_42 : decode cX5_closeDownwards 42 = .ok (.invokestatic 94, 3) := by decide +kernel
theorem dX5_closeDownwards_45 : decode cX5_closeDownwards 45 = .ok (.iinc 2 1, 3) := by decide +kernel
theorem dX5_closeDownwards_48 : decode cX5_closeDownwards 48 = .ok (.goto (-34), 3) := by decide +kernel
theorem dX5_closeDownwards_51 : decode cX5_closeDownwards 51 = .ok (.iinc 1 (-1), 3) := by decide +kernel
theorem dX5_closeDownwards_54 : decode cX5_closeDownwards 54 = .ok (.goto (-46), 3) := by decide +kernel
theorem dX5_closeDownwards_57 : decode cX5_closeDownwards 57 = .ok (.return_, 1) := by decide +kernel
theorem dX5_hasStanding_0 : decode cX5_hasStanding 0 = .ok (.iload_n 1, 1) := by decide +kernel
theorem dX5_hasStanding_1 : decode cX5_hasStanding 1 = .ok (.ifCond .lt 15, 3) := by decide +kernel
theorem dX5_hasStanding_4 : decode cX5_hasStanding 4 = .ok (.iload_n 1, 1) := by decide +kernel
theorem dX5_hasStanding_5 : decode cX5_hasStanding 5 = .ok (.aload_n 0, 1) := by decide +kernel
theorem dX5_hasStanding_6 : decode cX5_hasStanding 6 = .ok (.getfield 112, 3) := by decide +kernel
theorem dX5_hasStanding_9 : decode cX5_hasStanding 9 = .ok (.if_icmp .ge 7, 3) := by decide +kernel
theorem dX5_hasStanding_12 : decode cX5_hasStanding 12 = .ok (.iconst 1, 1) := by decide +kernel
theorem dX5_hasStanding_13 : decode cX5_hasStanding 13 = .ok (.goto 4, 3) := by decide +kernel
theorem dX5_hasStanding_16 : decode cX5_hasStanding 16 = .ok (.iconst 0, 1) := by decide +kernel
theorem dX5_hasStanding_17 : decode cX5_hasStanding 17 = .ok (.ireturn, 1) := by decide +kernel
theorem dX5_leastUnkept_0 : decode cX5_leastUnkept 0 = .ok (.iconst (-1), 1) := by decide +kernel
theorem dX5_leastUnkept_1 : decode cX5_leastUnkept 1 = .ok (.istore_n 2, 1) := by decide +kernel
theorem dX5_leastUnkept_2 : decode cX5_leastUnkept 2 = .ok (.iconst 0, 1) := by decide +kernel
theorem dX5_leastUnkept_3 : decode cX5_leastUnkept 3 = .ok (.istore_n 3, 1) := by decide +kernel
theorem dX5_leastUnkept_4 : decode cX5_leastUnkept 4 = .ok (.iload_n 3, 1) := by decide +kernel
theorem dX5_leastUnkept_5 : decode cX5_leastUnkept 5 = .ok (.iconst 1, 1) := by decide +kernel
theorem dX5_leastUnkept_6 : decode cX5_leastUnkept 6 = .ok (.aload_n 1, 1) := by decide +kernel
theorem dX5_leastUnkept_7 : decode cX5_leastUnkept 7 = .ok (.getfield 39, 3) := by decide +kernel
theorem dX5_leastUnkept_10 : decode cX5_leastUnkept 10 = .ok (.ishl, 1) := by decide +kernel
theorem dX5_leastUnkept_11 : decode cX5_leastUnkept 11 = .ok (.if_icmp .ge 61, 3) := by decide +kernel
theorem dX5_leastUnkept_14 : decode cX5_leastUnkept 14 = .ok (.iload_n 2, 1) := by decide +kernel
theorem dX5_leastUnkept_15 : decode cX5_leastUnkept 15 = .ok (.iconst (-1), 1) := by decide +kernel
theorem dX5_leastUnkept_16 : decode cX5_leastUnkept 16 = .ok (.if_icmp .eq 14, 3) := by decide +kernel
theorem dX5_leastUnkept_19 : decode cX5_leastUnkept 19 = .ok (.iload_n 3, 1) := by decide +kernel
theorem dX5_leastUnkept_20 : decode cX5_leastUnkept 20 = .ok (.invokestatic 102, 3) := by decide +kernel
theorem dX5_leastUnkept_23 : decode cX5_leastUnkept 23 = .ok (.iload_n 2, 1) := by decide +kernel
theorem dX5_leastUnkept_24 : decode cX5_leastUnkept 24 = .ok (.invokestatic 102, 3) := by decide +kernel
theorem dX5_leastUnkept_27 : decode cX5_leastUnkept 27 = .ok (.if_icmp .ge 7, 3) := by decide +kernel
theorem dX5_leastUnkept_30 : decode cX5_leastUnkept 30 = .ok (.iconst 1, 1) := by decide +kernel
theorem dX5_leastUnkept_31 : decode cX5_leastUnkept 31 = .ok (.goto 4, 3) := by decide +kernel
theorem dX5_leastUnkept_34 : decode cX5_leastUnkept 34 = .ok (.iconst 0, 1) := by decide +kernel
theorem dX5_leastUnkept_35 : decode cX5_leastUnkept 35 = .ok (.istore 4, 2) := by decide +kernel
theorem dX5_leastUnkept_37 : decode cX5_leastUnkept 37 = .ok (.iload 4, 2) := by decide +kernel
theorem dX5_leastUnkept_39 : decode cX5_leastUnkept 39 = .ok (.ifCond .eq 27, 3) := by decide +kernel
theorem dX5_leastUnkept_42 : decode cX5_leastUnkept 42 = .ok (.aload_n 0, 1) := by decide +kernel
theorem dX5_leastUnkept_43 : decode cX5_leastUnkept 43 = .ok (.getfield 18, 3) := by decide +kernel
theorem dX5_leastUnkept_46 : decode cX5_leastUnkept 46 = .ok (.aload_n 1, 1) := by decide +kernel
theorem dX5_leastUnkept_47 : decode cX5_leastUnkept 47 = .ok (.iload_n 3, 1) := by decide +kernel
theorem dX5_leastUnkept_48 : decode cX5_leastUnkept 48 = .ok (.invokevirtual 74, 3) := by decide +kernel
theorem dX5_leastUnkept_51 : decode cX5_leastUnkept 51 = .ok (.sipush 21845, 3) := by decide +kernel
theorem dX5_leastUnkept_54 : decode cX5_leastUnkept 54 = .ok (.iand, 1) := by decide +kernel
theorem dX5_leastUnkept_55 : decode cX5_leastUnkept 55 = .ok (.invokestatic 124, 3) := by decide +kernel
theorem dX5_leastUnkept_58 : decode cX5_leastUnkept 58 = .ok (.invokestatic 90, 3) := by decide +kernel
theorem dX5_leastUnkept_61 : decode cX5_leastUnkept 61 = .ok (.ifCond .ne 5, 3) := by decide +kernel
theorem dX5_leastUnkept_64 : decode cX5_leastUnkept 64 = .ok (.iload_n 3, 1) := by decide +kernel
theorem dX5_leastUnkept_65 : decode cX5_leastUnkept 65 = .ok (.istore_n 2, 1) := by decide +kernel
theorem dX5_leastUnkept_66 : decode cX5_leastUnkept 66 = .ok (.iinc 3 1, 3) := by decide +kernel
theorem dX5_leastUnkept_69 : decode cX5_leastUnkept 69 = .ok (.goto (-65), 3) := by decide +kernel
theorem dX5_leastUnkept_72 : decode cX5_leastUnkept 72 = .ok (.iload_n 2, 1) := by decide +kernel
theorem dX5_leastUnkept_73 : decode cX5_leastUnkept 73 = .ok (.ireturn, 1) := by decide +kernel
theorem dX6_init_0 : decode cX6_init 0 = .ok (.aload_n 0, 1) := by decide +kernel
theorem dX6_init_1 : decode cX6_init 1 = .ok (.invokespecial 3, 3) := by decide +kernel
theorem dX6_init_4 : decode cX6_init 4 = .ok (.aload_n 0, 1) := by decide +kernel
theorem dX6_init_5 : decode cX6_init 5 = .ok (.bipush 64, 2) := by decide +kernel
theorem dX6_init_7 : decode cX6_init 7 = .ok (.newarray .int, 2) := by decide +kernel
theorem dX6_init_9 : decode cX6_init 9 = .ok (.putfield 9, 3) := by decide +kernel
theorem dX6_init_12 : decode cX6_init 12 = .ok (.return_, 1) := by decide +kernel
theorem dX6_hear_0 : decode cX6_hear 0 = .ok (.aload_n 1, 1) := by decide +kernel
theorem dX6_hear_1 : decode cX6_hear 1 = .ok (.getfield 15, 3) := by decide +kernel
theorem dX6_hear_4 : decode cX6_hear 4 = .ok (.astore 5, 2) := by decide +kernel
theorem dX6_hear_6 : decode cX6_hear 6 = .ok (.iconst 0, 1) := by decide +kernel
theorem dX6_hear_7 : decode cX6_hear 7 = .ok (.istore 6, 2) := by decide +kernel
theorem dX6_hear_9 : decode cX6_hear 9 = .ok (.aload_n 0, 1) := by decide +kernel
theorem dX6_hear_10 : decode cX6_hear 10 = .ok (.iconst 0, 1) := by decide +kernel
theorem dX6_hear_11 : decode cX6_hear 11 = .ok (.putfield 20, 3) := by decide +kernel
theorem dX6_hear_14 : decode cX6_hear 14 = .ok (.iconst 0, 1) := by decide +kernel
theorem dX6_hear_15 : decode cX6_hear 15 = .ok (.istore 7, 2) := by decide +kernel
theorem dX6_hear_17 : decode cX6_hear 17 = .ok (.iload 7, 2) := by decide +kernel
theorem dX6_hear_19 : decode cX6_hear 19 = .ok (.aload 5, 2) := by decide +kernel
theorem dX6_hear_21 : decode cX6_hear 21 = .ok (.arraylength, 1) := by decide +kernel
theorem dX6_hear_22 : decode cX6_hear 22 = .ok (.if_icmp .ge 276, 3) := by decide +kernel
theorem dX6_hear_25 : decode cX6_hear 25 = .ok (.iload 7, 2) := by decide +kernel
theorem dX6_hear_27 : decode cX6_hear 27 = .ok (.iload 6, 2) := by decide +kernel
theorem dX6_hear_29 : decode cX6_hear 29 = .ok (.if_icmp .ge 6, 3) := by decide +kernel
theorem dX6_hear_32 : decode cX6_hear 32 = .ok (.goto 260, 3) := by decide +kernel
theorem dX6_hear_35 : decode cX6_hear 35 = .ok (.aload 5, 2) := by decide +kernel
theorem dX6_hear_37 : decode cX6_hear 37 = .ok (.iload 7, 2) := by decide +kernel
theorem dX6_hear_39 : decode cX6_hear 39 = .ok (.iaload, 1) := by decide +kernel
theorem dX6_hear_40 : decode cX6_hear 40 = .ok (.iconst 4, 1) := by decide +kernel
theorem dX6_hear_41 : decode cX6_hear 41 = .ok (.ishr, 1) := by decide +kernel
theorem dX6_hear_42 : decode cX6_hear 42 = .ok (.bipush 15, 2) := by decide +kernel
theorem dX6_hear_44 : decode cX6_hear 44 = .ok (.iand, 1) := by decide +kernel
theorem dX6_hear_45 : decode cX6_hear 45 = .ok (.istore 8, 2) := by decide +kernel
theorem dX6_hear_47 : decode cX6_hear 47 = .ok (.aload 5, 2) := by decide +kernel
theorem dX6_hear_49 : decode cX6_hear 49 = .ok (.iload 7, 2) := by decide +kernel
theorem dX6_hear_51 : decode cX6_hear 51 = .ok (.iaload, 1) := by decide +kernel
theorem dX6_hear_52 : decode cX6_hear 52 = .ok (.bipush 8, 2) := by decide +kernel
theorem dX6_hear_54 : decode cX6_hear 54 = .ok (.ishr, 1) := by decide +kernel
theorem dX6_hear_55 : decode cX6_hear 55 = .ok (.istore 9, 2) := by decide +kernel
theorem dX6_hear_57 : decode cX6_hear 57 = .ok (.aload 5, 2) := by decide +kernel
theorem dX6_hear_59 : decode cX6_hear 59 = .ok (.iload 7, 2) := by decide +kernel
theorem dX6_hear_61 : decode cX6_hear 61 = .ok (.iaload, 1) := by decide +kernel
theorem dX6_hear_62 : decode cX6_hear 62 = .ok (.bipush 15, 2) := by decide +kernel
theorem dX6_hear_64 : decode cX6_hear 64 = .ok (.iand, 1) := by decide +kernel
theorem dX6_hear_65 : decode cX6_hear 65 = .ok (.tableswitch 200 0 15 #[111, 120, 138, 182, 200, 200, 163, 200, 200, 200, 200, 200, 79, 82, 91, 101], 79) := by decide +kernel
theorem dX6_hear_144 : decode cX6_hear 144 = .ok (.iload 9, 2) := by decide +kernel
theorem dX6_hear_146 : decode cX6_hear 146 = .ok (.ireturn, 1) := by decide +kernel
theorem dX6_hear_147 : decode cX6_hear 147 = .ok (.aload 4, 2) := by decide +kernel
theorem dX6_hear_149 : decode cX6_hear 149 = .ok (.iload_n 3, 1) := by decide +kernel
theorem dX6_hear_150 : decode cX6_hear 150 = .ok (.iload 9, 2) := by decide +kernel
theorem dX6_hear_152 : decode cX6_hear 152 = .ok (.invokevirtual 24, 3) := by decide +kernel
theorem dX6_hear_155 : decode cX6_hear 155 = .ok (.ireturn, 1) := by decide +kernel
theorem dX6_hear_156 : decode cX6_hear 156 = .ok (.aload 4, 2) := by decide +kernel
theorem dX6_hear_158 : decode cX6_hear 158 = .ok (.iload_n 3, 1) := by decide +kernel
theorem dX6_hear_159 : decode cX6_hear 159 = .ok (.iload_n 2, 1) := by decide +kernel
theorem dX6_hear_160 : decode cX6_hear 160 = .ok (.iload 8, 2) := by decide +kernel
theorem dX6_hear_162 : decode cX6_hear 162 = .ok (.invokevirtual 30, 3) := by decide +kernel
theorem dX6_hear_165 : decode cX6_hear 165 = .ok (.ireturn, 1) := by decide +kernel
theorem dX6_hear_166 : decode cX6_hear 166 = .ok (.aload 4, 2) := by decide +kernel
theorem dX6_hear_168 : decode cX6_hear 168 = .ok (.iload_n 3, 1) := by decide +kernel
theorem dX6_hear_169 : decode cX6_hear 169 = .ok (.iload_n 2, 1) := by decide +kernel
theorem dX6_hear_170 : decode cX6_hear 170 = .ok (.iload 8, 2) := by decide +kernel
theorem dX6_hear_172 : decode cX6_hear 172 = .ok (.invokevirtual 34, 3) := by decide +kernel
theorem dX6_hear_175 : decode cX6_hear 175 = .ok (.ireturn, 1) := by decide +kernel
theorem dX6_hear_176 : decode cX6_hear 176 = .ok (.aload_n 0, 1) := by decide +kernel
theorem dX6_hear_177 : decode cX6_hear 177 = .ok (.iload 9, 2) := by decide +kernel
theorem dX6_hear_179 : decode cX6_hear 179 = .ok (.invokevirtual 37, 3) := by decide +kernel
theorem dX6_hear_182 : decode cX6_hear 182 = .ok (.goto 110, 3) := by decide +kernel
theorem dX6_hear_185 : decode cX6_hear 185 = .ok (.aload_n 0, 1) := by decide +kernel
theorem dX6_hear_186 : decode cX6_hear 186 = .ok (.aload 4, 2) := by decide +kernel
theorem dX6_hear_188 : decode cX6_hear 188 = .ok (.iload_n 3, 1) := by decide +kernel
theorem dX6_hear_189 : decode cX6_hear 189 = .ok (.iload_n 2, 1) := by decide +kernel
theorem dX6_hear_190 : decode cX6_hear 190 = .ok (.iload 8, 2) := by decide +kernel
theorem dX6_hear_192 : decode cX6_hear 192 = .ok (.iload 9, 2) := by decide +kernel
theorem dX6_hear_194 : decode cX6_hear 194 = .ok (.invokevirtual 41, 3) := by decide +kernel
theorem dX6_hear_197 : decode cX6_hear 197 = .ok (.invokevirtual 37, 3) := by decide +kernel
theorem dX6_hear_200 : decode cX6_hear 200 = .ok (.goto 92, 3) := by decide +kernel
theorem dX6_hear_203 : decode cX6_hear 203 = .ok (.aload_n 0, 1) := by decide +kernel
theorem dX6_hear_204 : decode cX6_hear 204 = .ok (.aload 4, 2) := by decide +kernel
theorem dX6_hear_206 : decode cX6_hear 206 = .ok (.iload_n 3, 1) := by decide +kernel
theorem dX6_hear_207 : decode cX6_hear 207 = .ok (.iload 9, 2) := by decide +kernel
theorem dX6_hear_209 : decode cX6_hear 209 = .ok (.invokevirtual 24, 3) := by decide +kernel
theorem dX6_hear_212 : decode cX6_hear 212 = .ok (.iload 8, 2) := by decide +kernel
theorem dX6_hear_214 : decode cX6_hear 214 = .ok (.if_icmp .ne 7, 3) := by decide +kernel
theorem dX6_hear_217 : decode cX6_hear 217 = .ok (.iconst 1, 1) := by decide +kernel
theorem dX6_hear_218 : decode cX6_hear 218 = .ok (.goto 4, 3) := by decide +kernel
theorem dX6_hear_221 : decode cX6_hear 221 = .ok (.iconst 0, 1) := by decide +kernel
theorem dX6_hear_222 : decode cX6_hear 222 = .ok (.invokevirtual 37, 3) := by decide +kernel
theorem dX6_hear_225 : decode cX6_hear 225 = .ok (.goto 67, 3) := by decide +kernel
theorem dX6_hear_228 : decode cX6_hear 228 = .ok (.aload_n 0, 1) := by decide +kernel
theorem dX6_hear_229 : decode cX6_hear 229 = .ok (.aload_n 0, 1) := by decide +kernel
theorem dX6_hear_230 : decode cX6_hear 230 = .ok (.invokevirtual 45, 3) := by decide +kernel
theorem dX6_hear_233 : decode cX6_hear 233 = .ok (.ifCond .ne 7, 3) := by decide +kernel
theorem dX6_hear_236 : decode cX6_hear 236 = .ok (.iconst 1, 1) := by decide +kernel
theorem dX6_hear_237 : decode cX6_hear 237 = .ok (.goto 4, 3) := by decide +kernel
theorem dX6_hear_240 : decode cX6_hear 240 = .ok (.iconst 0, 1) := by decide +kernel
theorem dX6_hear_241 : decode cX6_hear 241 = .ok (.invokevirtual 37, 3) := by decide +kernel
theorem dX6_hear_244 : decode cX6_hear 244 = .ok (.goto 48, 3) := by decide +kernel
theorem dX6_hear_247 : decode cX6_hear 247 = .ok (.aload_n 0, 1) := by decide +kernel
theorem dX6_hear_248 : decode cX6_hear 248 = .ok (.invokevirtual 45, 3) := by decide +kernel
theorem dX6_hear_251 : decode cX6_hear 251 = .ok (.ifCond .ne 8, 3) := by decide +kernel
theorem dX6_hear_254 : decode cX6_hear 254 = .ok (.iload 9, 2) := by decide +kernel
theorem dX6_hear_256 : decode cX6_hear 256 = .ok (.goto 4, 3) := by decide +kernel
theorem dX6_hear_259 : decode cX6_hear 259 = .ok (.iconst 0, 1) := by decide +kernel
theorem dX6_hear_260 : decode cX6_hear 260 = .ok (.istore 6, 2) := by decide +kernel
theorem dX6_hear_262 : decode cX6_hear 262 = .ok (.goto 30, 3) := by decide +kernel
theorem dX6_hear_265 : decode cX6_hear 265 = .ok (.aload_n 0, 1) := by decide +kernel
theorem dX6_hear_266 : decode cX6_hear 266 = .ok (.invokevirtual 45, 3) := by decide +kernel
theorem dX6_hear_269 : decode cX6_hear 269 = .ok (.istore 10, 2) := by decide +kernel
theorem dX6_hear_271 : decode cX6_hear 271 = .ok (.aload_n 0, 1) := by decide +kernel
theorem dX6_hear_272 : decode cX6_hear 272 = .ok (.aload 5, 2) := by decide +kernel
theorem dX6_hear_274 : decode cX6_hear 274 = .ok (.iload 7, 2) := by decide +kernel
theorem dX6_hear_276 : decode cX6_hear 276 = .ok (.iaload, 1) := by decide +kernel
theorem dX6_hear_277 : decode cX6_hear 277 = .ok (.bipush 15, 2) := by decide +kernel
theorem dX6_hear_279 : decode cX6_hear 279 = .ok (.iand, 1) := by decide +kernel
theorem dX6_hear_280 : decode cX6_hear 280 = .ok (.aload_n 0, 1) := by decide +kernel
theorem dX6_hear_281 : decode cX6_hear 281 = .ok (.invokevirtual 45, 3) := by decide +kernel
theorem dX6_hear_284 : decode cX6_hear 284 = .ok (.iload 10, 2) := by decide +kernel
theorem dX6_hear_286 : decode cX6_hear 286 = .ok (.invokestatic 49, 3) := by decide +kernel
theorem dX6_hear_289 : decode cX6_hear 289 = .ok (.invokevirtual 37, 3) := by decide +kernel
theorem dX6_hear_292 : decode cX6_hear 292 = .ok (.iinc 7 1, 3) := by decide +kernel
theorem dX6_hear_295 : decode cX6_hear 295 = .ok (.goto (-278), 3) := by decide +kernel
theorem dX6_hear_298 : decode cX6_hear 298 = .ok (.iconst 0, 1) := by decide +kernel
theorem dX6_hear_299 : decode cX6_hear 299 = .ok (.ireturn, 1) := by decide +kernel
theorem dX6_firstBroken_0 : decode cX6_firstBroken 0 = .ok (.iconst 0, 1) := by decide +kernel
theorem dX6_firstBroken_1 : decode cX6_firstBroken 1 = .ok (.istore 5, 2) := by decide +kernel
theorem dX6_firstBroken_3 : decode cX6_firstBroken 3 = .ok (.iload 5, 2) := by decide +kernel
theorem dX6_firstBroken_5 : decode cX6_firstBroken 5 = .ok (.iload_n 2, 1) := by decide +kernel
theorem dX6_firstBroken_6 : decode cX6_firstBroken 6 = .ok (.if_icmp .ge 38, 3) := by decide +kernel
theorem dX6_firstBroken_9 : decode cX6_firstBroken 9 = .ok (.aload_n 0, 1) := by decide +kernel
theorem dX6_firstBroken_10 : decode cX6_firstBroken 10 = .ok (.aload_n 1, 1) := by decide +kernel
theorem dX6_firstBroken_11 : decode cX6_firstBroken 11 = .ok (.iload 5, 2) := by decide +kernel
theorem dX6_firstBroken_13 : decode cX6_firstBroken 13 = .ok (.invokevirtual 52, 3) := by decide +kernel
theorem dX6_firstBroken_16 : decode cX6_firstBroken 16 = .ok (.iload 5, 2) := by decide +kernel
theorem dX6_firstBroken_18 : decode cX6_firstBroken 18 = .ok (.iload_n 3, 1) := by decide +kernel
theorem dX6_firstBroken_19 : decode cX6_firstBroken 19 = .ok (.aload 4, 2) := by decide +kernel
theorem dX6_firstBroken_21 : decode cX6_firstBroken 21 = .ok (.invokevirtual 58, 3) := by decide +kernel
theorem dX6_firstBroken_24 : decode cX6_firstBroken 24 = .ok (.aload 4, 2) := by decide +kernel
theorem dX6_firstBroken_26 : decode cX6_firstBroken 26 = .ok (.iload_n 3, 1) := by decide +kernel
theorem dX6_firstBroken_27 : decode cX6_firstBroken 27 = .ok (.iload 5, 2) := by decide +kernel
theorem dX6_firstBroken_29 : decode cX6_firstBroken 29 = .ok (.invokevirtual 24, 3) := by decide +kernel
theorem dX6_firstBroken_32 : decode cX6_firstBroken 32 = .ok (.if_icmp .eq 6, 3) := by decide +kernel
theorem dX6_firstBroken_35 : decode cX6_firstBroken 35 = .ok (.iload 5, 2) := by decide +kernel
theorem dX6_firstBroken_37 : decode cX6_firstBroken 37 = .ok (.ireturn, 1) := by decide +kernel
theorem dX6_firstBroken_38 : decode cX6_firstBroken 38 = .ok (.iinc 5 1, 3) := by decide +kernel
theorem dX6_firstBroken_41 : decode cX6_firstBroken 41 = .ok (.goto (-38), 3) := by decide +kernel
theorem dX6_firstBroken_44 : decode cX6_firstBroken 44 = .ok (.iconst (-1), 1) := by decide +kernel
theorem dX6_firstBroken_45 : decode cX6_firstBroken 45 = .ok (.ireturn, 1) := by decide +kernel
theorem dX6_joined_0 : decode cX6_joined 0 = .ok (.iload_n 0, 1) := by decide +kernel
theorem dX6_joined_1 : decode cX6_joined 1 = .ok (.tableswitch 110 5 11 #[93, 110, 51, 65, 79, 43, 47], 43) := by decide +kernel
theorem dX6_joined_44 : decode cX6_joined 44 = .ok (.iload_n 1, 1) := by decide +kernel
theorem dX6_joined_45 : decode cX6_joined 45 = .ok (.iload_n 2, 1) := by decide +kernel
theorem dX6_joined_46 : decode cX6_joined 46 = .ok (.iadd, 1) := by decide +kernel
theorem dX6_joined_47 : decode cX6_joined 47 = .ok (.ireturn, 1) := by decide +kernel
theorem dX6_joined_48 : decode cX6_joined 48 = .ok (.iload_n 1, 1) := by decide +kernel
theorem dX6_joined_49 : decode cX6_joined 49 = .ok (.iload_n 2, 1) := by decide +kernel
theorem dX6_joined_50 : decode cX6_joined 50 = .ok (.isub, 1) := by decide +kernel
theorem dX6_joined_51 : decode cX6_joined 51 = .ok (.ireturn, 1) := by decide +kernel
theorem dX6_joined_52 : decode cX6_joined 52 = .ok (.iload_n 1, 1) := by decide +kernel
theorem dX6_joined_53 : decode cX6_joined 53 = .ok (.iload_n 2, 1) := by decide +kernel
theorem dX6_joined_54 : decode cX6_joined 54 = .ok (.if_icmp .ge 7, 3) := by decide +kernel
theorem dX6_joined_57 : decode cX6_joined 57 = .ok (.iconst 1, 1) := by decide +kernel
theorem dX6_joined_58 : decode cX6_joined 58 = .ok (.goto 4, 3) := by decide +kernel
theorem dX6_joined_61 : decode cX6_joined 61 = .ok (.iconst 0, 1) := by decide +kernel
theorem dX6_joined_62 : decode cX6_joined 62 = .ok (.istore_n 3, 1) := by decide +kernel
theorem dX6_joined_63 : decode cX6_joined 63 = .ok (.goto 62, 3) := by decide +kernel
theorem dX6_joined_66 : decode cX6_joined 66 = .ok (.iload_n 1, 1) := by decide +kernel
theorem dX6_joined_67 : decode cX6_joined 67 = .ok (.iload_n 2, 1) := by decide +kernel
theorem dX6_joined_68 : decode cX6_joined 68 = .ok (.if_icmp .le 7, 3) := by decide +kernel
theorem dX6_joined_71 : decode cX6_joined 71 = .ok (.iconst 1, 1) := by decide +kernel
theorem dX6_joined_72 : decode cX6_joined 72 = .ok (.goto 4, 3) := by decide +kernel
theorem dX6_joined_75 : decode cX6_joined 75 = .ok (.iconst 0, 1) := by decide +kernel
theorem dX6_joined_76 : decode cX6_joined 76 = .ok (.istore_n 3, 1) := by decide +kernel
theorem dX6_joined_77 : decode cX6_joined 77 = .ok (.goto 48, 3) := by decide +kernel
theorem dX6_joined_80 : decode cX6_joined 80 = .ok (.iload_n 1, 1) := by decide +kernel
theorem dX6_joined_81 : decode cX6_joined 81 = .ok (.iload_n 2, 1) := by decide +kernel
theorem dX6_joined_82 : decode cX6_joined 82 = .ok (.if_icmp .ne 7, 3) := by decide +kernel
theorem dX6_joined_85 : decode cX6_joined 85 = .ok (.iconst 1, 1) := by decide +kernel
theorem dX6_joined_86 : decode cX6_joined 86 = .ok (.goto 4, 3) := by decide +kernel
theorem dX6_joined_89 : decode cX6_joined 89 = .ok (.iconst 0, 1) := by decide +kernel
theorem dX6_joined_90 : decode cX6_joined 90 = .ok (.istore_n 3, 1) := by decide +kernel
theorem dX6_joined_91 : decode cX6_joined 91 = .ok (.goto 34, 3) := by decide +kernel
theorem dX6_joined_94 : decode cX6_joined 94 = .ok (.iload_n 1, 1) := by decide +kernel
theorem dX6_joined_95 : decode cX6_joined 95 = .ok (.ifCond .eq 11, 3) := by decide +kernel
theorem dX6_joined_98 : decode cX6_joined 98 = .ok (.iload_n 2, 1) := by decide +kernel
theorem dX6_joined_99 : decode cX6_joined 99 = .ok (.ifCond .eq 7, 3) := by decide +kernel
theorem dX6_joined_102 : decode cX6_joined 102 = .ok (.iconst 1, 1) := by decide +kernel
theorem dX6_joined_103 : decode cX6_joined 103 = .ok (.goto 4, 3) := by decide +kernel
theorem dX6_joined_106 : decode cX6_joined 106 = .ok (.iconst 0, 1) := by decide +kernel
theorem dX6_joined_107 : decode cX6_joined 107 = .ok (.istore_n 3, 1) := by decide +kernel
theorem dX6_joined_108 : decode cX6_joined 108 = .ok (.goto 17, 3) := by decide +kernel
theorem dX6_joined_111 : decode cX6_joined 111 = .ok (.iload_n 1, 1) := by decide +kernel
theorem dX6_joined_112 : decode cX6_joined 112 = .ok (.ifCond .ne 7, 3) := by decide +kernel
theorem dX6_joined_115 : decode cX6_joined 115 = .ok (.iload_n 2, 1) := by decide +kernel
theorem dX6_joined_116 : decode cX6_joined 116 = .ok (.ifCond .eq 7, 3) := by decide +kernel
theorem dX6_joined_119 : decode cX6_joined 119 = .ok (.iconst 1, 1) := by decide +kernel
theorem dX6_joined_120 : decode cX6_joined 120 = .ok (.goto 4, 3) := by decide +kernel
theorem dX6_joined_123 : decode cX6_joined 123 = .ok (.iconst 0, 1) := by decide +kernel
theorem dX6_joined_124 : decode cX6_joined 124 = .ok (.istore_n 3, 1) := by decide +kernel
theorem dX6_joined_125 : decode cX6_joined 125 = .ok (.iload_n 3, 1) := by decide +kernel
theorem dX6_joined_126 : decode cX6_joined 126 = .ok (.ifCond .eq 7, 3) := by decide +kernel
theorem dX6_joined_129 : decode cX6_joined 129 = .ok (.iconst 1, 1) := by decide +kernel
theorem dX6_joined_130 : decode cX6_joined 130 = .ok (.goto 4, 3) := by decide +kernel
theorem dX6_joined_133 : decode cX6_joined 133 = .ok (.iconst 0, 1) := by decide +kernel
theorem dX6_joined_134 : decode cX6_joined 134 = .ok (.ireturn, 1) := by decide +kernel
theorem dX6_push_0 : decode cX6_push 0 = .ok (.aload_n 0, 1) := by decide +kernel
theorem dX6_push_1 : decode cX6_push 1 = .ok (.getfield 9, 3) := by decide +kernel
theorem dX6_push_4 : decode cX6_push 4 = .ok (.aload_n 0, 1) := by decide +kernel
theorem dX6_push_5 : decode cX6_push 5 = .ok (.getfield 20, 3) := by decide +kernel
theorem dX6_push_8 : decode cX6_push 8 = .ok (.iload_n 1, 1) := by decide +kernel
theorem dX6_push_9 : decode cX6_push 9 = .ok (.invokestatic 62, 3) := by decide +kernel
theorem dX6_push_12 : decode cX6_push 12 = .ok (.aload_n 0, 1) := by decide +kernel
theorem dX6_push_13 : decode cX6_push 13 = .ok (.dup, 1) := by decide +kernel
theorem dX6_push_14 : decode cX6_push 14 = .ok (.getfield 20, 3) := by decide +kernel
theorem dX6_push_17 : decode cX6_push 17 = .ok (.iconst 1, 1) := by decide +kernel
theorem dX6_push_18 : decode cX6_push 18 = .ok (.iadd, 1) := by decide +kernel
theorem dX6_push_19 : decode cX6_push 19 = .ok (.putfield 20, 3) := by decide +kernel
theorem dX6_push_22 : decode cX6_push 22 = .ok (.return_, 1) := by decide +kernel
theorem dX6_pop_0 : decode cX6_pop 0 = .ok (.aload_n 0, 1) := by decide +kernel
theorem dX6_pop_1 : decode cX6_pop 1 = .ok (.dup, 1) := by decide +kernel
theorem dX6_pop_2 : decode cX6_pop 2 = .ok (.getfield 20, 3) := by decide +kernel
theorem dX6_pop_5 : decode cX6_pop 5 = .ok (.iconst 1, 1) := by decide +kernel
theorem dX6_pop_6 : decode cX6_pop 6 = .ok (.isub, 1) := by decide +kernel
theorem dX6_pop_7 : decode cX6_pop 7 = .ok (.putfield 20, 3) := by decide +kernel
theorem dX6_pop_10 : decode cX6_pop 10 = .ok (.aload_n 0, 1) := by decide +kernel
theorem dX6_pop_11 : decode cX6_pop 11 = .ok (.getfield 9, 3) := by decide +kernel
theorem dX6_pop_14 : decode cX6_pop 14 = .ok (.aload_n 0, 1) := by decide +kernel
theorem dX6_pop_15 : decode cX6_pop 15 = .ok (.getfield 20, 3) := by decide +kernel
theorem dX6_pop_18 : decode cX6_pop 18 = .ok (.invokestatic 66, 3) := by decide +kernel
theorem dX6_pop_21 : decode cX6_pop 21 = .ok (.ireturn, 1) := by decide +kernel
theorem dX7_init_0 : decode cX7_init 0 = .ok (.aload_n 0, 1) := by decide +kernel
theorem dX7_init_1 : decode cX7_init 1 = .ok (.invokespecial 3, 3) := by decide +kernel
theorem dX7_init_4 : decode cX7_init 4 = .ok (.aload_n 0, 1) := by decide +kernel
theorem dX7_init_5 : decode cX7_init 5 = .ok (.iconst 3, 1) := by decide +kernel
theorem dX7_init_6 : decode cX7_init 6 = .ok (.newarray .int, 2) := by decide +kernel
theorem dX7_init_8 : decode cX7_init 8 = .ok (.putfield 9, 3) := by decide +kernel
theorem dX7_init_11 : decode cX7_init 11 = .ok (.aload_n 0, 1) := by decide +kernel
theorem dX7_init_12 : decode cX7_init 12 = .ok (.iconst 3, 1) := by decide +kernel
theorem dX7_init_13 : decode cX7_init 13 = .ok (.newarray .int, 2) := by decide +kernel
theorem dX7_init_15 : decode cX7_init 15 = .ok (.putfield 15, 3) := by decide +kernel
theorem dX7_init_18 : decode cX7_init 18 = .ok (.aload_n 0, 1) := by decide +kernel
theorem dX7_init_19 : decode cX7_init 19 = .ok (.bipush 64, 2) := by decide +kernel
theorem dX7_init_21 : decode cX7_init 21 = .ok (.newarray .int, 2) := by decide +kernel
theorem dX7_init_23 : decode cX7_init 23 = .ok (.putfield 18, 3) := by decide +kernel
theorem dX7_init_26 : decode cX7_init 26 = .ok (.return_, 1) := by decide +kernel
theorem dX7_knows_0 : decode cX7_knows 0 = .ok (.aload_n 0, 1) := by decide +kernel
theorem dX7_knows_1 : decode cX7_knows 1 = .ok (.getfield 21, 3) := by decide +kernel
theorem dX7_knows_4 : decode cX7_knows 4 = .ok (.iload_n 1, 1) := by decide +kernel
theorem dX7_knows_5 : decode cX7_knows 5 = .ok (.ishr, 1) := by decide +kernel
theorem dX7_knows_6 : decode cX7_knows 6 = .ok (.iconst 1, 1) := by decide +kernel
theorem dX7_knows_7 : decode cX7_knows 7 = .ok (.iand, 1) := by decide +kernel
theorem dX7_knows_8 : decode cX7_knows 8 = .ok (.iconst 1, 1) := by decide +kernel
theorem dX7_knows_9 : decode cX7_knows 9 = .ok (.if_icmp .ne 7, 3) := by decide +kernel
theorem dX7_knows_12 : decode cX7_knows 12 = .ok (.iconst 1, 1) := by decide +kernel
theorem dX7_knows_13 : decode cX7_knows 13 = .ok (.goto 4, 3) := by decide +kernel
theorem dX7_knows_16 : decode cX7_knows 16 = .ok (.iconst 0, 1) := by decide +kernel
theorem dX7_knows_17 : decode cX7_knows 17 = .ok (.ireturn, 1) := by decide +kernel
theorem dX7_answer_0 : decode cX7_answer 0 = .ok (.aload_n 0, 1) := by decide +kernel
theorem dX7_answer_1 : decode cX7_answer 1 = .ok (.getfield 9, 3) := by decide +kernel
theorem dX7_answer_4 : decode cX7_answer 4 = .ok (.iload_n 1, 1) := by decide +kernel
theorem dX7_answer_5 : decode cX7_answer 5 = .ok (.invokestatic 25, 3) := by decide +kernel
theorem dX7_answer_8 : decode cX7_answer 8 = .ok (.istore_n 3, 1) := by decide +kernel
theorem dX7_answer_9 : decode cX7_answer 9 = .ok (.iload_n 3, 1) := by decide +kernel
theorem dX7_answer_10 : decode cX7_answer 10 = .ok (.iconst (-1), 1) := by decide +kernel
theorem dX7_answer_11 : decode cX7_answer 11 = .ok (.if_icmp .ne 5, 3) := by decide +kernel
theorem dX7_answer_14 : decode cX7_answer 14 = .ok (.iconst (-1), 1) := by decide +kernel
theorem dX7_answer_15 : decode cX7_answer 15 = .ok (.ireturn, 1) := by decide +kernel
theorem dX7_answer_16 : decode cX7_answer 16 = .ok (.iload_n 2, 1) := by decide +kernel
theorem dX7_answer_17 : decode cX7_answer 17 = .ok (.lookupswitch 34 #[(0, 27), (1, 32)], 27) := by decide +kernel
theorem dX7_answer_44 : decode cX7_answer 44 = .ok (.iload_n 3, 1) := by decide +kernel
theorem dX7_answer_45 : decode cX7_answer 45 = .ok (.invokestatic 29, 3) := by decide +kernel
theorem dX7_answer_48 : decode cX7_answer 48 = .ok (.ireturn, 1) := by decide +kernel
theorem dX7_answer_49 : decode cX7_answer 49 = .ok (.iload_n 3, 1) := by decide +kernel
theorem dX7_answer_50 : decode cX7_answer 50 = .ok (.ireturn, 1) := by decide +kernel
theorem dX7_answer_51 : decode cX7_answer 51 = .ok (.aload_n 0, 1) := by decide +kernel
theorem dX7_answer_52 : decode cX7_answer 52 = .ok (.getfield 15, 3) := by decide +kernel
theorem dX7_answer_55 : decode cX7_answer 55 = .ok (.iload_n 1, 1) := by decide +kernel
theorem dX7_answer_56 : decode cX7_answer 56 = .ok (.invokestatic 25, 3) := by decide +kernel
theorem dX7_answer_59 : decode cX7_answer 59 = .ok (.ireturn, 1) := by decide +kernel
theorem dX7_search_0 : decode cX7_search 0 = .ok (.aload_n 0, 1) := by decide +kernel
theorem dX7_search_1 : decode cX7_search 1 = .ok (.dup, 1) := by decide +kernel
theorem dX7_search_2 : decode cX7_search 2 = .ok (.getfield 21, 3) := by decide +kernel
theorem dX7_search_5 : decode cX7_search 5 = .ok (.iconst 1, 1) := by decide +kernel
theorem dX7_search_6 : decode cX7_search 6 = .ok (.iload_n 1, 1) := by decide +kernel
theorem dX7_search_7 : decode cX7_search 7 = .ok (.ishl, 1) := by decide +kernel
theorem dX7_search_8 : decode cX7_search 8 = .ok (.ior, 1) := by decide +kernel
theorem dX7_search_9 : decode cX7_search 9 = .ok (.putfield 21, 3) := by decide +kernel
theorem dX7_search_12 : decode cX7_search 12 = .ok (.aload_n 0, 1) := by decide +kernel
theorem dX7_search_13 : decode cX7_search 13 = .ok (.getfield 9, 3) := by decide +kernel
theorem dX7_search_16 : decode cX7_search 16 = .ok (.iload_n 1, 1) := by decide +kernel
theorem dX7_search_17 : decode cX7_search 17 = .ok (.iconst (-1), 1) := by decide +kernel
theorem dX7_search_18 : decode cX7_search 18 = .ok (.invokestatic 35, 3) := by decide +kernel
theorem dX7_search_21 : decode cX7_search 21 = .ok (.iconst 0, 1) := by decide +kernel
theorem dX7_search_22 : decode cX7_search 22 = .ok (.istore 4, 2) := by decide +kernel
theorem dX7_search_24 : decode cX7_search 24 = .ok (.iload 4, 2) := by decide +kernel
theorem dX7_search_26 : decode cX7_search 26 = .ok (.iconst 3, 1) := by decide +kernel
theorem dX7_search_27 : decode cX7_search 27 = .ok (.if_icmp .gt 85, 3) := by decide +kernel
theorem dX7_search_30 : decode cX7_search 30 = .ok (.iconst 0, 1) := by decide +kernel
theorem dX7_search_31 : decode cX7_search 31 = .ok (.istore 5, 2) := by decide +kernel
theorem dX7_search_33 : decode cX7_search 33 = .ok (.iload 5, 2) := by decide +kernel
theorem dX7_search_35 : decode cX7_search 35 = .ok (.iconst 1, 1) := by decide +kernel
theorem dX7_search_36 : decode cX7_search 36 = .ok (.aload_n 3, 1) := by decide +kernel
theorem dX7_search_37 : decode cX7_search 37 = .ok (.getfield 39, 3) := by decide +kernel
theorem dX7_search_40 : decode cX7_search 40 = .ok (.ishl, 1) := by decide +kernel
theorem dX7_search_41 : decode cX7_search 41 = .ok (.if_icmp .ge 65, 3) := by decide +kernel
theorem dX7_search_44 : decode cX7_search 44 = .ok (.iload 5, 2) := by decide +kernel
theorem dX7_search_46 : decode cX7_search 46 = .ok (.invokestatic 29, 3) := by decide +kernel
theorem dX7_search_49 : decode cX7_search 49 = .ok (.iload 4, 2) := by decide +kernel
theorem dX7_search_51 : decode cX7_search 51 = .ok (.if_icmp .eq 6, 3) := by decide +kernel
theorem dX7_search_54 : decode cX7_search 54 = .ok (.goto 46, 3) := by decide +kernel
theorem dX7_search_57 : decode cX7_search 57 = .ok (.aload_n 0, 1) := by decide +kernel
theorem dX7_search_58 : decode cX7_search 58 = .ok (.iload_n 1, 1) := by decide +kernel
theorem dX7_search_59 : decode cX7_search 59 = .ok (.iload 5, 2) := by decide +kernel
theorem dX7_search_61 : decode cX7_search 61 = .ok (.aload_n 2, 1) := by decide +kernel
theorem dX7_search_62 : decode cX7_search 62 = .ok (.aload_n 3, 1) := by decide +kernel
theorem dX7_search_63 : decode cX7_search 63 = .ok (.invokevirtual 44, 3) := by decide +kernel
theorem dX7_search_66 : decode cX7_search 66 = .ok (.istore 6, 2) := by decide +kernel
theorem dX7_search_68 : decode cX7_search 68 = .ok (.iload 6, 2) := by decide +kernel
theorem dX7_search_70 : decode cX7_search 70 = .ok (.iconst (-1), 1) := by decide +kernel
theorem dX7_search_71 : decode cX7_search 71 = .ok (.if_icmp .eq 29, 3) := by decide +kernel
theorem dX7_search_74 : decode cX7_search 74 = .ok (.aload_n 0, 1) := by decide +kernel
theorem dX7_search_75 : decode cX7_search 75 = .ok (.getfield 9, 3) := by decide +kernel
theorem dX7_search_78 : decode cX7_search 78 = .ok (.iload_n 1, 1) := by decide +kernel
theorem dX7_search_79 : decode cX7_search 79 = .ok (.iload 5, 2) := by decide +kernel
theorem dX7_search_81 : decode cX7_search 81 = .ok (.invokestatic 35, 3) := by decide +kernel
theorem dX7_search_84 : decode cX7_search 84 = .ok (.aload_n 0, 1) := by decide +kernel
theorem dX7_search_85 : decode cX7_search 85 = .ok (.getfield 15, 3) := by decide +kernel
theorem dX7_search_88 : decode cX7_search 88 = .ok (.iload_n 1, 1) := by decide +kernel
theorem dX7_search_89 : decode cX7_search 89 = .ok (.iload 6, 2) := by decide +kernel
theorem dX7_search_91 : decode cX7_search 91 = .ok (.iload 4, 2) := by decide +kernel
theorem dX7_search_93 : decode cX7_search 93 = .ok (.invokestatic 48, 3) := by decide +kernel
theorem dX7_search_96 : decode cX7_search 96 = .ok (.invokestatic 35, 3) := by decide +kernel
theorem dX7_search_99 : decode cX7_search 99 = .ok (.return_, 1) := by decide +kernel
theorem dX7_search_100 : decode cX7_search 100 = .ok (.iinc 5 1, 3) := by decide +kernel
theorem dX7_search_103 : decode cX7_search 103 = .ok (.goto (-70), 3) := by decide +kernel
theorem dX7_search_106 : decode cX7_search 106 = .ok (.iinc 4 1, 3) := by decide +kernel
theorem dX7_search_109 : decode cX7_search 109 = .ok (.goto (-85), 3) := by decide +kernel
theorem dX7_search_112 : decode cX7_search 112 = .ok (.return_, 1) := by decide +kernel
theorem dX7_leastMarks_0 : decode cX7_leastMarks 0 = .ok (.aload 4, 2) := by decide +kernel
theorem dX7_leastMarks_2 : decode cX7_leastMarks 2 = .ok (.iload_n 2, 1) := by decide +kernel
theorem dX7_leastMarks_3 : decode cX7_leastMarks 3 = .ok (.invokevirtual 52, 3) := by decide +kernel
theorem dX7_leastMarks_6 : decode cX7_leastMarks 6 = .ok (.istore 5, 2) := by decide +kernel
theorem dX7_leastMarks_8 : decode cX7_leastMarks 8 = .ok (.aload_n 0, 1) := by decide +kernel
theorem dX7_leastMarks_9 : decode cX7_leastMarks 9 = .ok (.getfield 18, 3) := by decide +kernel
theorem dX7_leastMarks_12 : decode cX7_leastMarks 12 = .ok (.iconst 0, 1) := by decide +kernel
theorem dX7_leastMarks_13 : decode cX7_leastMarks 13 = .ok (.invokestatic 55, 3) := by decide +kernel
theorem dX7_leastMarks_16 : decode cX7_leastMarks 16 = .ok (.iconst 0, 1) := by decide +kernel
theorem dX7_leastMarks_17 : decode cX7_leastMarks 17 = .ok (.istore 6, 2) := by decide +kernel
theorem dX7_leastMarks_19 : decode cX7_leastMarks 19 = .ok (.iload 6, 2) := by decide +kernel
theorem dX7_leastMarks_21 : decode cX7_leastMarks 21 = .ok (.aload_n 3, 1) := by decide +kernel
theorem dX7_leastMarks_22 : decode cX7_leastMarks 22 = .ok (.getfield 61, 3) := by decide +kernel
theorem dX7_leastMarks_25 : decode cX7_leastMarks 25 = .ok (.if_icmp .ge 99, 3) := by decide +kernel
theorem dX7_leastMarks_28 : decode cX7_leastMarks 28 = .ok (.aload_n 3, 1) := by decide +kernel
theorem dX7_leastMarks_29 : decode cX7_leastMarks 29 = .ok (.getfield 66, 3) := by decide +kernel
theorem dX7_leastMarks_32 : decode cX7_leastMarks 32 = .ok (.iload 6, 2) := by decide +kernel
theorem dX7_leastMarks_34 : decode cX7_leastMarks 34 = .ok (.invokestatic 25, 3) := by decide +kernel
theorem dX7_leastMarks_37 : decode cX7_leastMarks 37 = .ok (.ldc 69, 2) := by decide +kernel
theorem dX7_leastMarks_39 : decode cX7_leastMarks 39 = .ok (.iand, 1) := by decide +kernel
theorem dX7_leastMarks_40 : decode cX7_leastMarks 40 = .ok (.istore 7, 2) := by decide +kernel
theorem dX7_leastMarks_42 : decode cX7_leastMarks 42 = .ok (.aload_n 3, 1) := by decide +kernel
theorem dX7_leastMarks_43 : decode cX7_leastMarks 43 = .ok (.getfield 66, 3) := by decide +kernel
theorem dX7_leastMarks_46 : decode cX7_leastMarks 46 = .ok (.iload 6, 2) := by decide +kernel
theorem dX7_leastMarks_48 : decode cX7_leastMarks 48 = .ok (.invokestatic 25, 3) := by decide +kernel
theorem dX7_leastMarks_51 : decode cX7_leastMarks 51 = .ok (.bipush 16, 2) := by decide +kernel
theorem dX7_leastMarks_53 : decode cX7_leastMarks 53 = .ok (.ishr, 1) := by decide +kernel
theorem dX7_leastMarks_54 : decode cX7_leastMarks 54 = .ok (.istore 8, 2) := by decide +kernel
theorem dX7_leastMarks_56 : decode cX7_leastMarks 56 = .ok (.iload 7, 2) := by decide +kernel
theorem dX7_leastMarks_58 : decode cX7_leastMarks 58 = .ok (.aload_n 3, 1) := by decide +kernel
theorem dX7_leastMarks_59 : decode cX7_leastMarks 59 = .ok (.getfield 70, 3) := by decide +kernel
theorem dX7_leastMarks_62 : decode cX7_leastMarks 62 = .ok (.iload 7, 2) := by decide +kernel
theorem dX7_leastMarks_64 : decode cX7_leastMarks 64 = .ok (.invokestatic 25, 3) := by decide +kernel
theorem dX7_leastMarks_67 : decode cX7_leastMarks 67 = .ok (.ixor, 1) := by decide +kernel
theorem dX7_leastMarks_68 : decode cX7_leastMarks 68 = .ok (.iload 5, 2) := by decide +kernel
theorem dX7_leastMarks_70 : decode cX7_leastMarks 70 = .ok (.iconst (-1), 1) := by decide +kernel
theorem dX7_leastMarks_71 : decode cX7_leastMarks 71 = .ok (.ixor, 1) := by decide +kernel
theorem dX7_leastMarks_72 : decode cX7_leastMarks 72 = .ok (.iand, 1) := by decide +kernel
theorem dX7_leastMarks_73 : decode cX7_leastMarks 73 = .ok (.ifCond .ne 45, 3) := by decide +kernel
theorem dX7_leastMarks_76 : decode cX7_leastMarks 76 = .ok (.iload_n 2, 1) := by decide +kernel
theorem dX7_leastMarks_77 : decode cX7_leastMarks 77 = .ok (.iload 7, 2) := by decide +kernel
theorem dX7_leastMarks_79 : decode cX7_leastMarks 79 = .ok (.aload 4, 2) := by decide +kernel
theorem dX7_leastMarks_81 : decode cX7_leastMarks 81 = .ok (.invokestatic 73, 3) := by decide +kernel
theorem dX7_leastMarks_84 : decode cX7_leastMarks 84 = .ok (.istore 9, 2) := by decide +kernel
theorem dX7_leastMarks_86 : decode cX7_leastMarks 86 = .ok (.aload_n 0, 1) := by decide +kernel
theorem dX7_leastMarks_87 : decode cX7_leastMarks 87 = .ok (.getfield 18, 3) := by decide +kernel
theorem dX7_leastMarks_90 : decode cX7_leastMarks 90 = .ok (.iload 9, 2) := by decide +kernel
theorem dX7_leastMarks_92 : decode cX7_leastMarks 92 = .ok (.aload_n 0, 1) := by decide +kernel
theorem dX7_leastMarks_93 : decode cX7_leastMarks 93 = .ok (.getfield 18, 3) := by decide +kernel
theorem dX7_leastMarks_96 : decode cX7_leastMarks 96 = .ok (.iload 9, 2) := by decide +kernel
theorem dX7_leastMarks_98 : decode cX7_leastMarks 98 = .ok (.invokestatic 25, 3) := by decide +kernel
theorem dX7_leastMarks_101 : decode cX7_leastMarks 101 = .ok (.iload 8, 2) := by decide +kernel
theorem dX7_leastMarks_103 : decode cX7_leastMarks 103 = .ok (.iload_n 1, 1) := by decide +kernel
theorem dX7_leastMarks_104 : decode cX7_leastMarks 104 = .ok (.iconst 1, 1) := by decide +kernel
theorem dX7_leastMarks_105 : decode cX7_leastMarks 105 = .ok (.iadd, 1) := by decide +kernel
theorem dX7_leastMarks_106 : decode cX7_leastMarks 106 = .ok (.if_icmp .ne 7, 3) := by decide +kernel
theorem dX7_leastMarks_109 : decode cX7_leastMarks 109 = .ok (.iconst 1, 1) := by decide +kernel
theorem dX7_leastMarks_110 : decode cX7_leastMarks 110 = .ok (.goto 4, 3) := by decide +kernel
theorem dX7_leastMarks_113 : decode cX7_leastMarks 113 = .ok (.iconst 2, 1) := by decide +kernel
theorem dX7_leastMarks_114 : decode cX7_leastMarks 114 = .ok (.ior, 1) := by decide +kernel
theorem dX7_leastMarks_115 : decode cX7_leastMarks 115 = .ok (.invokestatic 35, 3) := by decide +kernel
theorem dX7_leastMarks_118 : decode cX7_leastMarks 118 = .ok (.iinc 6 1, 3) := by decide +kernel
theorem dX7_leastMarks_121 : decode cX7_leastMarks 121 = .ok (.goto (-102), 3) := by decide +kernel
theorem dX7_leastMarks_124 : decode cX7_leastMarks 124 = .ok (.iconst 0, 1) := by decide +kernel
theorem dX7_leastMarks_125 : decode cX7_leastMarks 125 = .ok (.istore 6, 2) := by decide +kernel
theorem dX7_leastMarks_127 : decode cX7_leastMarks 127 = .ok (.iload 6, 2) := by decide +kernel
theorem dX7_leastMarks_129 : decode cX7_leastMarks 129 = .ok (.aload_n 0, 1) := by decide +kernel
theorem dX7_leastMarks_130 : decode cX7_leastMarks 130 = .ok (.getfield 18, 3) := by decide +kernel
theorem dX7_leastMarks_133 : decode cX7_leastMarks 133 = .ok (.arraylength, 1) := by decide +kernel
theorem dX7_leastMarks_134 : decode cX7_leastMarks 134 = .ok (.if_icmp .ge 23, 3) := by decide +kernel
theorem dX7_leastMarks_137 : decode cX7_leastMarks 137 = .ok (.aload_n 0, 1) := by decide +kernel
theorem dX7_leastMarks_138 : decode cX7_leastMarks 138 = .ok (.getfield 18, 3) := by decide +kernel
theorem dX7_leastMarks_141 : decode cX7_leastMarks 141 = .ok (.iload 6, 2) := by decide +kernel
theorem dX7_leastMarks_143 : decode cX7_leastMarks 143 = .ok (.iaload, 1) := by decide +kernel
theorem dX7_leastMarks_144 : decode cX7_leastMarks 144 = .ok (.iconst 1, 1) := by decide +kernel
theorem dX7_leastMarks_145 : decode cX7_leastMarks 145 = .ok (.if_icmp .ne 6, 3) := by decide +kernel
theorem dX7_leastMarks_148 : decode cX7_leastMarks 148 = .ok (.iload 6, 2) := by decide +kernel
theorem dX7_leastMarks_150 : decode cX7_leastMarks 150 = .ok (.ireturn, 1) := by decide +kernel
theorem dX7_leastMarks_151 : decode cX7_leastMarks 151 = .ok (.iinc 6 1, 3) := by decide +kernel
theorem dX7_leastMarks_154 : decode cX7_leastMarks 154 = .ok (.goto (-27), 3) := by decide +kernel
theorem dX7_leastMarks_157 : decode cX7_leastMarks 157 = .ok (.iconst (-1), 1) := by decide +kernel
theorem dX7_leastMarks_158 : decode cX7_leastMarks 158 = .ok (.ireturn, 1) := by decide +kernel
theorem dX7_marksOf_0 : decode cX7_marksOf 0 = .ok (.iconst 0, 1) := by decide +kernel
theorem dX7_marksOf_1 : decode cX7_marksOf 1 = .ok (.istore_n 3, 1) := by decide +kernel
theorem dX7_marksOf_2 : decode cX7_marksOf 2 = .ok (.iconst 0, 1) := by decide +kernel
theorem dX7_marksOf_3 : decode cX7_marksOf 3 = .ok (.istore 4, 2) := by decide +kernel
theorem dX7_marksOf_5 : decode cX7_marksOf 5 = .ok (.iload 4, 2) := by decide +kernel
theorem dX7_marksOf_7 : decode cX7_marksOf 7 = .ok (.aload_n 2, 1) := by decide +kernel
theorem dX7_marksOf_8 : decode cX7_marksOf 8 = .ok (.getfield 39, 3) := by decide +kernel
theorem dX7_marksOf_11 : decode cX7_marksOf 11 = .ok (.if_icmp .ge 31, 3) := by decide +kernel
theorem dX7_marksOf_14 : decode cX7_marksOf 14 = .ok (.iload_n 0, 1) := by decide +kernel
theorem dX7_marksOf_15 : decode cX7_marksOf 15 = .ok (.iload 4, 2) := by decide +kernel
theorem dX7_marksOf_17 : decode cX7_marksOf 17 = .ok (.ishr, 1) := by decide +kernel
theorem dX7_marksOf_18 : decode cX7_marksOf 18 = .ok (.iconst 1, 1) := by decide +kernel
theorem dX7_marksOf_19 : decode cX7_marksOf 19 = .ok (.iand, 1) := by decide +kernel
theorem dX7_marksOf_20 : decode cX7_marksOf 20 = .ok (.iconst 1, 1) := by decide +kernel
theorem dX7_marksOf_21 : decode cX7_marksOf 21 = .ok (.if_icmp .ne 15, 3) := by decide +kernel
theorem dX7_marksOf_24 : decode cX7_marksOf 24 = .ok (.iload_n 3, 1) := by decide +kernel
theorem dX7_marksOf_25 : decode cX7_marksOf 25 = .ok (.iconst 2, 1) := by decide +kernel
theorem dX7_marksOf_26 : decode cX7_marksOf 26 = .ok (.ishl, 1) := by decide +kernel
theorem dX7_marksOf_27 : decode cX7_marksOf 27 = .ok (.aload_n 2, 1) := by decide +kernel
theorem dX7_marksOf_28 : decode cX7_marksOf 28 = .ok (.iload_n 1, 1) := by decide +kernel
theorem dX7_marksOf_29 : decode cX7_marksOf 29 = .ok (.iload 4, 2) := by decide +kernel
theorem dX7_marksOf_31 : decode cX7_marksOf 31 = .ok (.invokevirtual 77, 3) := by decide +kernel
theorem dX7_marksOf_34 : decode cX7_marksOf 34 = .ok (.ior, 1) := by decide +kernel
theorem dX7_marksOf_35 : decode cX7_marksOf 35 = .ok (.istore_n 3, 1) := by decide +kernel
theorem dX7_marksOf_36 : decode cX7_marksOf 36 = .ok (.iinc 4 1, 3) := by decide +kernel
theorem dX7_marksOf_39 : decode cX7_marksOf 39 = .ok (.goto (-34), 3) := by decide +kernel
theorem dX7_marksOf_42 : decode cX7_marksOf 42 = .ok (.iload_n 3, 1) := by decide +kernel
theorem dX7_marksOf_43 : decode cX7_marksOf 43 = .ok (.ireturn, 1) := by decide +kernel
theorem dX7_digits_0 : decode cX7_digits 0 = .ok (.iconst 0, 1) := by decide +kernel
theorem dX7_digits_1 : decode cX7_digits 1 = .ok (.istore_n 2, 1) := by decide +kernel
theorem dX7_digits_2 : decode cX7_digits 2 = .ok (.iload_n 1, 1) := by decide +kernel
theorem dX7_digits_3 : decode cX7_digits 3 = .ok (.iconst 1, 1) := by decide +kernel
theorem dX7_digits_4 : decode cX7_digits 4 = .ok (.isub, 1) := by decide +kernel
theorem dX7_digits_5 : decode cX7_digits 5 = .ok (.istore_n 3, 1) := by decide +kernel
theorem dX7_digits_6 : decode cX7_digits 6 = .ok (.iload_n 3, 1) := by decide +kernel
theorem dX7_digits_7 : decode cX7_digits 7 = .ok (.ifCond .lt 22, 3) := by decide +kernel
theorem dX7_digits_10 : decode cX7_digits 10 = .ok (.iload_n 2, 1) := by decide +kernel
theorem dX7_digits_11 : decode cX7_digits 11 = .ok (.bipush 10, 2) := by decide +kernel
theorem dX7_digits_13 : decode cX7_digits 13 = .ok (.imul, 1) := by decide +kernel
theorem dX7_digits_14 : decode cX7_digits 14 = .ok (.iload_n 0, 1) := by decide +kernel
theorem dX7_digits_15 : decode cX7_digits 15 = .ok (.iconst 2, 1) := by decide +kernel
theorem dX7_digits_16 : decode cX7_digits 16 = .ok (.iload_n 3, 1) := by decide +kernel
theorem dX7_digits_17 : decode cX7_digits 17 = .ok (.imul, 1) := by decide +kernel
theorem dX7_digits_18 : decode cX7_digits 18 = .ok (.ishr, 1) := by decide +kernel
theorem dX7_digits_19 : decode cX7_digits 19 = .ok (.iconst 3, 1) := by decide +kernel
theorem dX7_digits_20 : decode cX7_digits 20 = .ok (.iand, 1) := by decide +kernel
theorem dX7_digits_21 : decode cX7_digits 21 = .ok (.iadd, 1) := by decide +kernel
theorem dX7_digits_22 : decode cX7_digits 22 = .ok (.istore_n 2, 1) := by decide +kernel
theorem dX7_digits_23 : decode cX7_digits 23 = .ok (.iinc 3 (-1), 3) := by decide +kernel
theorem dX7_digits_26 : decode cX7_digits 26 = .ok (.goto (-20), 3) := by decide +kernel
theorem dX7_digits_29 : decode cX7_digits 29 = .ok (.iload_n 2, 1) := by decide +kernel
theorem dX7_digits_30 : decode cX7_digits 30 = .ok (.ireturn, 1) := by decide +kernel
theorem dX8_init_0 : decode cX8_init 0 = .ok (.aload_n 0, 1) := by decide +kernel
theorem dX8_init_1 : decode cX8_init 1 = .ok (.invokespecial 3, 3) := by decide +kernel
theorem dX8_init_4 : decode cX8_init 4 = .ok (.aload_n 0, 1) := by decide +kernel
theorem dX8_init_5 : decode cX8_init 5 = .ok (.sipush 1600, 3) := by decide +kernel
theorem dX8_init_8 : decode cX8_init 8 = .ok (.newarray .int, 2) := by decide +kernel
theorem dX8_init_10 : decode cX8_init 10 = .ok (.putfield 9, 3) := by decide +kernel
theorem dX8_init_13 : decode cX8_init 13 = .ok (.aload_n 0, 1) := by decide +kernel
theorem dX8_init_14 : decode cX8_init 14 = .ok (.bipush 20, 2) := by decide +kernel
theorem dX8_init_16 : decode cX8_init 16 = .ok (.newarray .long, 2) := by decide +kernel
theorem dX8_init_18 : decode cX8_init 18 = .ok (.putfield 15, 3) := by decide +kernel
theorem dX8_init_21 : decode cX8_init 21 = .ok (.aload_n 0, 1) := by decide +kernel
theorem dX8_init_22 : decode cX8_init 22 = .ok (.sipush 1601, 3) := by decide +kernel
theorem dX8_init_25 : decode cX8_init 25 = .ok (.newarray .int, 2) := by decide +kernel
theorem dX8_init_27 : decode cX8_init 27 = .ok (.putfield 19, 3) := by decide +kernel
theorem dX8_init_30 : decode cX8_init 30 = .ok (.aload_n 0, 1) := by decide +kernel
theorem dX8_init_31 : decode cX8_init 31 = .ok (.sipush 1601, 3) := by decide +kernel
theorem dX8_init_34 : decode cX8_init 34 = .ok (.newarray .int, 2) := by decide +kernel
theorem dX8_init_36 : decode cX8_init 36 = .ok (.putfield 22, 3) := by decide +kernel
theorem dX8_init_39 : decode cX8_init 39 = .ok (.aload_n 0, 1) := by decide +kernel
theorem dX8_init_40 : decode cX8_init 40 = .ok (.sipush 1601, 3) := by decide +kernel
theorem dX8_init_43 : decode cX8_init 43 = .ok (.newarray .long, 2) := by decide +kernel
theorem dX8_init_45 : decode cX8_init 45 = .ok (.putfield 25, 3) := by decide +kernel
theorem dX8_init_48 : decode cX8_init 48 = .ok (.iconst 0, 1) := by decide +kernel
theorem dX8_init_49 : decode cX8_init 49 = .ok (.istore_n 1, 1) := by decide +kernel
theorem dX8_init_50 : decode cX8_init 50 = .ok (.lconst 0, 1) := by decide +kernel
theorem dX8_init_51 : decode cX8_init 51 = .ok (.lstore_n 2, 1) := by decide +kernel
theorem dX8_init_52 : decode cX8_init 52 = .ok (.iconst 0, 1) := by decide +kernel
theorem dX8_init_53 : decode cX8_init 53 = .ok (.istore 4, 2) := by decide +kernel
theorem dX8_init_55 : decode cX8_init 55 = .ok (.iload 4, 2) := by decide +kernel
theorem dX8_init_57 : decode cX8_init 57 = .ok (.ldc 28, 2) := by decide +kernel
theorem dX8_init_59 : decode cX8_init 59 = .ok (.invokevirtual 30, 3) := by decide +kernel
theorem dX8_init_62 : decode cX8_init 62 = .ok (.if_icmp .ge 56, 3) := by decide +kernel
theorem dX8_init_65 : decode cX8_init 65 = .ok (.ldc 28, 2) := by decide +kernel
theorem dX8_init_67 : decode cX8_init 67 = .ok (.iload 4, 2) := by decide +kernel
theorem dX8_init_69 : decode cX8_init 69 = .ok (.invokevirtual 36, 3) := by decide +kernel
theorem dX8_init_72 : decode cX8_init 72 = .ok (.istore 5, 2) := by decide +kernel
theorem dX8_init_74 : decode cX8_init 74 = .ok (.iload 5, 2) := by decide +kernel
theorem dX8_init_76 : decode cX8_init 76 = .ok (.bipush 32, 2) := by decide +kernel
theorem dX8_init_78 : decode cX8_init 78 = .ok (.if_icmp .eq 13, 3) := by decide +kernel
theorem dX8_init_81 : decode cX8_init 81 = .ok (.lload_n 2, 1) := by decide +kernel
theorem dX8_init_82 : decode cX8_init 82 = .ok (.iload 5, 2) := by decide +kernel
theorem dX8_init_84 : decode cX8_init 84 = .ok (.invokestatic 40, 3) := by decide +kernel
theorem dX8_init_87 : decode cX8_init 87 = .ok (.lstore_n 2, 1) := by decide +kernel
theorem dX8_init_88 : decode cX8_init 88 = .ok (.goto 24, 3) := by decide +kernel
theorem dX8_init_91 : decode cX8_init 91 = .ok (.iload_n 1, 1) := by decide +kernel
theorem dX8_init_92 : decode cX8_init 92 = .ok (.aload_n 0, 1) := by decide +kernel
theorem dX8_init_93 : decode cX8_init 93 = .ok (.getfield 15, 3) := by decide +kernel
theorem dX8_init_96 : decode cX8_init 96 = .ok (.arraylength, 1) := by decide +kernel
theorem dX8_init_97 : decode cX8_init 97 = .ok (.if_icmp .ge 15, 3) := by decide +kernel
theorem dX8_init_100 : decode cX8_init 100 = .ok (.aload_n 0, 1) := by decide +kernel
theorem dX8_init_101 : decode cX8_init 101 = .ok (.getfield 15, 3) := by decide +kernel
theorem dX8_init_104 : decode cX8_init 104 = .ok (.iload_n 1, 1) := by decide +kernel
theorem dX8_init_105 : decode cX8_init 105 = .ok (.lload_n 2, 1) := by decide +kernel
theorem dX8_init_106 : decode cX8_init 106 = .ok (.lastore, 1) := by decide +kernel
theorem dX8_init_107 : decode cX8_init 107 = .ok (.iinc 1 1, 3) := by decide +kernel
theorem dX8_init_110 : decode cX8_init 110 = .ok (.lconst 0, 1) := by decide +kernel
theorem dX8_init_111 : decode cX8_init 111 = .ok (.lstore_n 2, 1) := by decide +kernel
theorem dX8_init_112 : decode cX8_init 112 = .ok (.iinc 4 1, 3) := by decide +kernel
theorem dX8_init_115 : decode cX8_init 115 = .ok (.goto (-60), 3) := by decide +kernel
theorem dX8_init_118 : decode cX8_init 118 = .ok (.return_, 1) := by decide +kernel
theorem dX8_add_0 : decode cX8_add 0 = .ok (.bipush 24, 2) := by decide +kernel
theorem dX8_add_2 : decode cX8_add 2 = .ok (.istore_n 2, 1) := by decide +kernel
theorem dX8_add_3 : decode cX8_add 3 = .ok (.iload_n 2, 1) := by decide +kernel
theorem dX8_add_4 : decode cX8_add 4 = .ok (.ifCond .lt 37, 3) := by decide +kernel
theorem dX8_add_7 : decode cX8_add 7 = .ok (.aload_n 0, 1) := by decide +kernel
theorem dX8_add_8 : decode cX8_add 8 = .ok (.getfield 9, 3) := by decide +kernel
theorem dX8_add_11 : decode cX8_add 11 = .ok (.aload_n 0, 1) := by decide +kernel
theorem dX8_add_12 : decode cX8_add 12 = .ok (.getfield 44, 3) := by decide +kernel
theorem dX8_add_15 : decode cX8_add 15 = .ok (.iload_n 1, 1) := by decide +kernel
theorem dX8_add_16 : decode cX8_add 16 = .ok (.iload_n 2, 1) := by decide +kernel
theorem dX8_add_17 : decode cX8_add 17 = .ok (.iushr, 1) := by decide +kernel
theorem dX8_add_18 : decode cX8_add 18 = .ok (.sipush 255, 3) := by decide +kernel
theorem dX8_add_21 : decode cX8_add 21 = .ok (.iand, 1) := by decide +kernel
theorem dX8_add_22 : decode cX8_add 22 = .ok (.invokestatic 47, 3) := by decide +kernel
theorem dX8_add_25 : decode cX8_add 25 = .ok (.aload_n 0, 1) := by decide +kernel
theorem dX8_add_26 : decode cX8_add 26 = .ok (.dup, 1) := by decide +kernel
theorem dX8_add_27 : decode cX8_add 27 = .ok (.getfield 44, 3) := by decide +kernel
theorem dX8_add_30 : decode cX8_add 30 = .ok (.iconst 1, 1) := by decide +kernel
theorem dX8_add_31 : decode cX8_add 31 = .ok (.iadd, 1) := by decide +kernel
theorem dX8_add_32 : decode cX8_add 32 = .ok (.putfield 44, 3) := by decide +kernel
theorem dX8_add_35 : decode cX8_add 35 = .ok (.iinc 2 (-8), 3) := by decide +kernel
theorem dX8_add_38 : decode cX8_add 38 = .ok (.goto (-35), 3) := by decide +kernel
theorem dX8_add_41 : decode cX8_add 41 = .ok (.return_, 1) := by decide +kernel
theorem dX8_rewind_0 : decode cX8_rewind 0 = .ok (.aload_n 0, 1) := by decide +kernel
theorem dX8_rewind_1 : decode cX8_rewind 1 = .ok (.invokevirtual 51, 3) := by decide +kernel
theorem dX8_rewind_4 : decode cX8_rewind 4 = .ok (.aload_n 0, 1) := by decide +kernel
theorem dX8_rewind_5 : decode cX8_rewind 5 = .ok (.iconst 0, 1) := by decide +kernel
theorem dX8_rewind_6 : decode cX8_rewind 6 = .ok (.putfield 54, 3) := by decide +kernel
theorem dX8_rewind_9 : decode cX8_rewind 9 = .ok (.aload_n 0, 1) := by decide +kernel
theorem dX8_rewind_10 : decode cX8_rewind 10 = .ok (.invokevirtual 57, 3) := by decide +kernel
theorem dX8_rewind_13 : decode cX8_rewind 13 = .ok (.return_, 1) := by decide +kernel
theorem dX8_advance_0 : decode cX8_advance 0 = .ok (.aload_n 0, 1) := by decide +kernel
theorem dX8_advance_1 : decode cX8_advance 1 = .ok (.getfield 54, 3) := by decide +kernel
theorem dX8_advance_4 : decode cX8_advance 4 = .ok (.ifCond .lt 75, 3) := by decide +kernel
theorem dX8_advance_7 : decode cX8_advance 7 = .ok (.aload_n 0, 1) := by decide +kernel
theorem dX8_advance_8 : decode cX8_advance 8 = .ok (.getfield 54, 3) := by decide +kernel
theorem dX8_advance_11 : decode cX8_advance 11 = .ok (.aload_n 0, 1) := by decide +kernel
theorem dX8_advance_12 : decode cX8_advance 12 = .ok (.getfield 60, 3) := by decide +kernel
theorem dX8_advance_15 : decode cX8_advance 15 = .ok (.if_icmp .ge 64, 3) := by decide +kernel
theorem dX8_advance_18 : decode cX8_advance 18 = .ok (.aload_n 0, 1) := by decide +kernel
theorem dX8_advance_19 : decode cX8_advance 19 = .ok (.getfield 54, 3) := by decide +kernel
theorem dX8_advance_22 : decode cX8_advance 22 = .ok (.aload_n 0, 1) := by decide +kernel
theorem dX8_advance_23 : decode cX8_advance 23 = .ok (.getfield 19, 3) := by decide +kernel
theorem dX8_advance_26 : decode cX8_advance 26 = .ok (.arraylength, 1) := by decide +kernel
theorem dX8_advance_27 : decode cX8_advance 27 = .ok (.if_icmp .ge 52, 3) := by decide +kernel
theorem dX8_advance_30 : decode cX8_advance 30 = .ok (.aload_n 0, 1) := by decide +kernel
theorem dX8_advance_31 : decode cX8_advance 31 = .ok (.aload_n 0, 1) := by decide +kernel
theorem dX8_advance_32 : decode cX8_advance 32 = .ok (.getfield 19, 3) := by decide +kernel
theorem dX8_advance_35 : decode cX8_advance 35 = .ok (.aload_n 0, 1) := by decide +kernel
theorem dX8_advance_36 : decode cX8_advance 36 = .ok (.getfield 54, 3) := by decide +kernel
theorem dX8_advance_39 : decode cX8_advance 39 = .ok (.iaload, 1) := by decide +kernel
theorem dX8_advance_40 : decode cX8_advance 40 = .ok (.putfield 63, 3) := by decide +kernel
theorem dX8_advance_43 : decode cX8_advance 43 = .ok (.aload_n 0, 1) := by decide +kernel
theorem dX8_advance_44 : decode cX8_advance 44 = .ok (.aload_n 0, 1) := by decide +kernel
theorem dX8_advance_45 : decode cX8_advance 45 = .ok (.getfield 22, 3) := by decide +kernel
theorem dX8_advance_48 : decode cX8_advance 48 = .ok (.aload_n 0, 1) := by decide +kernel
theorem dX8_advance_49 : decode cX8_advance 49 = .ok (.getfield 54, 3) := by decide +kernel
theorem dX8_advance_52 : decode cX8_advance 52 = .ok (.iaload, 1) := by decide +kernel
theorem dX8_advance_53 : decode cX8_advance 53 = .ok (.putfield 66, 3) := by decide +kernel
theorem dX8_advance_56 : decode cX8_advance 56 = .ok (.aload_n 0, 1) := by decide +kernel
theorem dX8_advance_57 : decode cX8_advance 57 = .ok (.aload_n 0, 1) := by decide +kernel
theorem dX8_advance_58 : decode cX8_advance 58 = .ok (.getfield 25, 3) := by decide +kernel
theorem dX8_advance_61 : decode cX8_advance 61 = .ok (.aload_n 0, 1) := by decide +kernel
theorem dX8_advance_62 : decode cX8_advance 62 = .ok (.getfield 54, 3) := by decide +kernel
theorem dX8_advance_65 : decode cX8_advance 65 = .ok (.laload, 1) := by decide +kernel
theorem dX8_advance_66 : decode cX8_advance 66 = .ok (.putfield 69, 3) := by decide +kernel
theorem dX8_advance_69 : decode cX8_advance 69 = .ok (.aload_n 0, 1) := by decide +kernel
theorem dX8_advance_70 : decode cX8_advance 70 = .ok (.dup, 1) := by decide +kernel
theorem dX8_advance_71 : decode cX8_advance 71 = .ok (.getfield 54, 3) := by decide +kernel
theorem dX8_advance_74 : decode cX8_advance 74 = .ok (.iconst 1, 1) := by decide +kernel
theorem dX8_advance_75 : decode cX8_advance 75 = .ok (.iadd, 1) := by decide +kernel
theorem dX8_advance_76 : decode cX8_advance 76 = .ok (.putfield 54, 3) := by decide +kernel
theorem dX8_advance_79 : decode cX8_advance 79 = .ok (.return_, 1) := by decide +kernel
theorem dX8_split_0 : decode cX8_split 0 = .ok (.aload_n 0, 1) := by decide +kernel
theorem dX8_split_1 : decode cX8_split 1 = .ok (.getfield 44, 3) := by decide +kernel
theorem dX8_split_4 : decode cX8_split 4 = .ok (.aload_n 0, 1) := by decide +kernel
theorem dX8_split_5 : decode cX8_split 5 = .ok (.getfield 9, 3) := by decide +kernel
theorem dX8_split_8 : decode cX8_split 8 = .ok (.arraylength, 1) := by decide +kernel
theorem dX8_split_9 : decode cX8_split 9 = .ok (.invokestatic 73, 3) := by decide +kernel
theorem dX8_split_12 : decode cX8_split 12 = .ok (.istore_n 1, 1) := by decide +kernel
theorem dX8_split_13 : decode cX8_split 13 = .ok (.iconst 0, 1) := by decide +kernel
theorem dX8_split_14 : decode cX8_split 14 = .ok (.istore_n 2, 1) := by decide +kernel
theorem dX8_split_15 : decode cX8_split 15 = .ok (.aload_n 0, 1) := by decide +kernel
theorem dX8_split_16 : decode cX8_split 16 = .ok (.iconst 0, 1) := by decide +kernel
theorem dX8_split_17 : decode cX8_split 17 = .ok (.putfield 60, 3) := by decide +kernel
theorem dX8_split_20 : decode cX8_split 20 = .ok (.aload_n 0, 1) := by decide +kernel
theorem dX8_split_21 : decode cX8_split 21 = .ok (.bipush 22, 2) := by decide +kernel
theorem dX8_split_23 : decode cX8_split 23 = .ok (.putfield 63, 3) := by decide +kernel
theorem dX8_split_26 : decode cX8_split 26 = .ok (.iconst 0, 1) := by decide +kernel
theorem dX8_split_27 : decode cX8_split 27 = .ok (.istore_n 3, 1) := by decide +kernel
theorem dX8_split_28 : decode cX8_split 28 = .ok (.iload_n 3, 1) := by decide +kernel
theorem dX8_split_29 : decode cX8_split 29 = .ok (.iload_n 1, 1) := by decide +kernel
theorem dX8_split_30 : decode cX8_split 30 = .ok (.if_icmp .gt 158, 3) := by decide +kernel
theorem dX8_split_33 : decode cX8_split 33 = .ok (.aload_n 0, 1) := by decide +kernel
theorem dX8_split_34 : decode cX8_split 34 = .ok (.getfield 63, 3) := by decide +kernel
theorem dX8_split_37 : decode cX8_split 37 = .ok (.bipush 30, 2) := by decide +kernel
theorem dX8_split_39 : decode cX8_split 39 = .ok (.if_icmp .eq 149, 3) := by decide +kernel
theorem dX8_split_42 : decode cX8_split 42 = .ok (.aload_n 0, 1) := by decide +kernel
theorem dX8_split_43 : decode cX8_split 43 = .ok (.getfield 63, 3) := by decide +kernel
theorem dX8_split_46 : decode cX8_split 46 = .ok (.bipush 31, 2) := by decide +kernel
theorem dX8_split_48 : decode cX8_split 48 = .ok (.if_icmp .eq 140, 3) := by decide +kernel
theorem dX8_split_51 : decode cX8_split 51 = .ok (.iload_n 2, 1) := by decide +kernel
theorem dX8_split_52 : decode cX8_split 52 = .ok (.iload_n 1, 1) := by decide +kernel
theorem dX8_split_53 : decode cX8_split 53 = .ok (.if_icmp .ge 23, 3) := by decide +kernel
theorem dX8_split_56 : decode cX8_split 56 = .ok (.aload_n 0, 1) := by decide +kernel
theorem dX8_split_57 : decode cX8_split 57 = .ok (.getfield 9, 3) := by decide +kernel
theorem dX8_split_60 : decode cX8_split 60 = .ok (.iload_n 2, 1) := by decide +kernel
theorem dX8_split_61 : decode cX8_split 61 = .ok (.invokestatic 79, 3) := by decide +kernel
theorem dX8_split_64 : decode cX8_split 64 = .ok (.invokestatic 83, 3) := by decide +kernel
theorem dX8_split_67 : decode cX8_split 67 = .ok (.ifCond .eq 9, 3) := by decide +kernel
theorem dX8_split_70 : decode cX8_split 70 = .ok (.iinc 2 1, 3) := by decide +kernel
theorem dX8_split_73 : decode cX8_split 73 = .ok (.goto (-22), 3) := by decide +kernel
theorem dX8_split_76 : decode cX8_split 76 = .ok (.iload_n 2, 1) := by decide +kernel
theorem dX8_split_77 : decode cX8_split 77 = .ok (.istore 4, 2) := by decide +kernel
theorem dX8_split_79 : decode cX8_split 79 = .ok (.aload_n 0, 1) := by decide +kernel
theorem dX8_split_80 : decode cX8_split 80 = .ok (.getfield 9, 3) := by decide +kernel
theorem dX8_split_83 : decode cX8_split 83 = .ok (.iload_n 2, 1) := by decide +kernel
theorem dX8_split_84 : decode cX8_split 84 = .ok (.invokestatic 79, 3) := by decide +kernel
theorem dX8_split_87 : decode cX8_split 87 = .ok (.istore 5, 2) := by decide +kernel
theorem dX8_split_89 : decode cX8_split 89 = .ok (.aload_n 0, 1) := by decide +kernel
theorem dX8_split_90 : decode cX8_split 90 = .ok (.lconst 0, 1) := by decide +kernel
theorem dX8_split_91 : decode cX8_split 91 = .ok (.putfield 69, 3) := by decide +kernel
theorem dX8_split_94 : decode cX8_split 94 = .ok (.iload_n 2, 1) := by decide +kernel
theorem dX8_split_95 : decode cX8_split 95 = .ok (.iload_n 1, 1) := by decide +kernel
theorem dX8_split_96 : decode cX8_split 96 = .ok (.if_icmp .lt 12, 3) := by decide +kernel
theorem dX8_split_99 : decode cX8_split 99 = .ok (.aload_n 0, 1) := by decide +kernel
theorem dX8_split_100 : decode cX8_split 100 = .ok (.bipush 30, 2) := by decide +kernel
theorem dX8_split_102 : decode cX8_split 102 = .ok (.putfield 63, 3) := by decide +kernel
theorem dX8_split_105 : decode cX8_split 105 = .ok (.goto 71, 3) := by decide +kernel
theorem dX8_split_108 : decode cX8_split 108 = .ok (.iload 5, 2) := by decide +kernel
theorem dX8_split_110 : decode cX8_split 110 = .ok (.invokestatic 87, 3) := by decide +kernel
theorem dX8_split_113 : decode cX8_split 113 = .ok (.ifCond .eq 13, 3) := by decide +kernel
theorem dX8_split_116 : decode cX8_split 116 = .ok (.aload_n 0, 1) := by decide +kernel
theorem dX8_split_117 : decode cX8_split 117 = .ok (.iload_n 2, 1) := by decide +kernel
theorem dX8_split_118 : decode cX8_split 118 = .ok (.iload_n 1, 1) := by decide +kernel
theorem dX8_split_119 : decode cX8_split 119 = .ok (.invokevirtual 90, 3) := by decide +kernel
theorem dX8_split_122 : decode cX8_split 122 = .ok (.istore_n 2, 1) := by decide +kernel
theorem dX8_split_123 : decode cX8_split 123 = .ok (.goto 53, 3) := by decide +kernel
theorem dX8_split_126 : decode cX8_split 126 = .ok (.iload 5, 2) := by decide +kernel
theorem dX8_split_128 : decode cX8_split 128 = .ok (.invokestatic 93, 3) := by decide +kernel
theorem dX8_split_131 : decode cX8_split 131 = .ok (.ifCond .eq 13, 3) := by decide +kernel
theorem dX8_split_134 : decode cX8_split 134 = .ok (.aload_n 0, 1) := by decide +kernel
theorem dX8_split_135 : decode cX8_split 135 = .ok (.iload_n 2, 1) := by decide +kernel
theorem dX8_split_136 : decode cX8_split 136 = .ok (.iload_n 1, 1) := by decide +kernel
theorem dX8_split_137 : decode cX8_split 137 = .ok (.invokevirtual 96, 3) := by decide +kernel
theorem dX8_split_140 : decode cX8_split 140 = .ok (.istore_n 2, 1) := by decide +kernel
theorem dX8_split_141 : decode cX8_split 141 = .ok (.goto 35, 3) := by decide +kernel
theorem dX8_split_144 : decode cX8_split 144 = .ok (.ldc 99, 2) := by decide +kernel
theorem dX8_split_146 : decode cX8_split 146 = .ok (.iload 5, 2) := by decide +kernel
theorem dX8_split_148 : decode cX8_split 148 = .ok (.i2c, 1) := by decide +kernel
theorem dX8_split_149 : decode cX8_split 149 = .ok (.invokevirtual 101, 3) := by decide +kernel
theorem dX8_split_152 : decode cX8_split 152 = .ok (.istore 6, 2) := by decide +kernel
theorem dX8_split_154 : decode cX8_split 154 = .ok (.aload_n 0, 1) := by decide +kernel
theorem dX8_split_155 : decode cX8_split 155 = .ok (.iload 6, 2) := by decide +kernel
theorem dX8_split_157 : decode cX8_split 157 = .ok (.ifCond .ge 8, 3) := by decide +kernel
theorem dX8_split_160 : decode cX8_split 160 = .ok (.bipush 31, 2) := by decide +kernel
theorem dX8_split_162 : decode cX8_split 162 = .ok (.goto 8, 3) := by decide +kernel
theorem dX8_split_165 : decode cX8_split 165 = .ok (.bipush 22, 2) := by decide +kernel
theorem dX8_split_167 : decode cX8_split 167 = .ok (.iload 6, 2) := by decide +kernel
theorem dX8_split_169 : decode cX8_split 169 = .ok (.iadd, 1) := by decide +kernel
theorem dX8_split_170 : decode cX8_split 170 = .ok (.putfield 63, 3) := by decide +kernel
theorem dX8_split_173 : decode cX8_split 173 = .ok (.iinc 2 1, 3) := by decide +kernel
theorem dX8_split_176 : decode cX8_split 176 = .ok (.aload_n 0, 1) := by decide +kernel
theorem dX8_split_177 : decode cX8_split 177 = .ok (.iload 4, 2) := by decide +kernel
theorem dX8_split_179 : decode cX8_split 179 = .ok (.invokevirtual 105, 3) := by decide +kernel
theorem dX8_split_182 : decode cX8_split 182 = .ok (.iinc 3 1, 3) := by decide +kernel
theorem dX8_split_185 : decode cX8_split 185 = .ok (.goto (-157), 3) := by decide +kernel
theorem dX8_split_188 : decode cX8_split 188 = .ok (.return_, 1) := by decide +kernel
theorem dX8_keep_0 : decode cX8_keep 0 = .ok (.aload_n 0, 1) := by decide +kernel
theorem dX8_keep_1 : decode cX8_keep 1 = .ok (.getfield 60, 3) := by decide +kernel
theorem dX8_keep_4 : decode cX8_keep 4 = .ok (.ifCond .lt 61, 3) := by decide +kernel
theorem dX8_keep_7 : decode cX8_keep 7 = .ok (.aload_n 0, 1) := by decide +kernel
theorem dX8_keep_8 : decode cX8_keep 8 = .ok (.getfield 60, 3) := by decide +kernel
theorem dX8_keep_11 : decode cX8_keep 11 = .ok (.aload_n 0, 1) := by decide +kernel
theorem dX8_keep_12 : decode cX8_keep 12 = .ok (.getfield 19, 3) := by decide +kernel
theorem dX8_keep_15 : decode cX8_keep 15 = .ok (.arraylength, 1) := by decide +kernel
theorem dX8_keep_16 : decode cX8_keep 16 = .ok (.if_icmp .ge 49, 3) := by decide +kernel
theorem dX8_keep_19 : decode cX8_keep 19 = .ok (.aload_n 0, 1) := by decide +kernel
theorem dX8_keep_20 : decode cX8_keep 20 = .ok (.getfield 19, 3) := by decide +kernel
theorem dX8_keep_23 : decode cX8_keep 23 = .ok (.aload_n 0, 1) := by decide +kernel
theorem dX8_keep_24 : decode cX8_keep 24 = .ok (.getfield 60, 3) := by decide +kernel
theorem dX8_keep_27 : decode cX8_keep 27 = .ok (.aload_n 0, 1) := by decide +kernel
theorem dX8_keep_28 : decode cX8_keep 28 = .ok (.getfield 63, 3) := by decide +kernel
theorem dX8_keep_31 : decode cX8_keep 31 = .ok (.iastore, 1) := by decide +kernel
theorem dX8_keep_32 : decode cX8_keep 32 = .ok (.aload_n 0, 1) := by decide +kernel
theorem dX8_keep_33 : decode cX8_keep 33 = .ok (.getfield 22, 3) := by decide +kernel
theorem dX8_keep_36 : decode cX8_keep 36 = .ok (.aload_n 0, 1) := by decide +kernel
theorem dX8_keep_37 : decode cX8_keep 37 = .ok (.getfield 60, 3) := by decide +kernel
theorem dX8_keep_40 : decode cX8_keep 40 = .ok (.iload_n 1, 1) := by decide +kernel
theorem dX8_keep_41 : decode cX8_keep 41 = .ok (.iastore, 1) := by decide +kernel
theorem dX8_keep_42 : decode cX8_keep 42 = .ok (.aload_n 0, 1) := by decide +kernel
theorem dX8_keep_43 : decode cX8_keep 43 = .ok (.getfield 25, 3) := by decide +kernel
theorem dX8_keep_46 : decode cX8_keep 46 = .ok (.aload_n 0, 1) := by decide +kernel
theorem dX8_keep_47 : decode cX8_keep 47 = .ok (.getfield 60, 3) := by decide +kernel
theorem dX8_keep_50 : decode cX8_keep 50 = .ok (.aload_n 0, 1) := by decide +kernel
theorem dX8_keep_51 : decode cX8_keep 51 = .ok (.getfield 69, 3) := by decide +kernel
theorem dX8_keep_54 : decode cX8_keep 54 = .ok (.lastore, 1) := by decide +kernel
theorem dX8_keep_55 : decode cX8_keep 55 = .ok (.aload_n 0, 1) := by decide +kernel
theorem dX8_keep_56 : decode cX8_keep 56 = .ok (.dup, 1) := by decide +kernel
theorem dX8_keep_57 : decode cX8_keep 57 = .ok (.getfield 60, 3) := by decide +kernel
theorem dX8_keep_60 : decode cX8_keep 60 = .ok (.iconst 1, 1) := by decide +kernel
theorem dX8_keep_61 : decode cX8_keep 61 = .ok (.iadd, 1) := by decide +kernel
theorem dX8_keep_62 : decode cX8_keep 62 = .ok (.putfield 60, 3) := by decide +kernel
theorem dX8_keep_65 : decode cX8_keep 65 = .ok (.return_, 1) := by decide +kernel
theorem dX8_endOfWord_0 : decode cX8_endOfWord 0 = .ok (.iload_n 1, 1) := by decide +kernel
theorem dX8_endOfWord_1 : decode cX8_endOfWord 1 = .ok (.istore_n 3, 1) := by decide +kernel
theorem dX8_endOfWord_2 : decode cX8_endOfWord 2 = .ok (.iload_n 3, 1) := by decide +kernel
theorem dX8_endOfWord_3 : decode cX8_endOfWord 3 = .ok (.iload_n 2, 1) := by decide +kernel
theorem dX8_endOfWord_4 : decode cX8_endOfWord 4 = .ok (.if_icmp .ge 42, 3) := by decide +kernel
theorem dX8_endOfWord_7 : decode cX8_endOfWord 7 = .ok (.aload_n 0, 1) := by decide +kernel
theorem dX8_endOfWord_8 : decode cX8_endOfWord 8 = .ok (.getfield 9, 3) := by decide +kernel
theorem dX8_endOfWord_11 : decode cX8_endOfWord 11 = .ok (.iload_n 3, 1) := by decide +kernel
theorem dX8_endOfWord_12 : decode cX8_endOfWord 12 = .ok (.invokestatic 79, 3) := by decide +kernel
theorem dX8_endOfWord_15 : decode cX8_endOfWord 15 = .ok (.invokestatic 87, 3) := by decide +kernel
theorem dX8_endOfWord_18 : decode cX8_endOfWord 18 = .ok (.ifCond .eq 28, 3) := by decide +kernel
theorem dX8_endOfWord_21 : decode cX8_endOfWord 21 = .ok (.aload_n 0, 1) := by decide +kernel
theorem dX8_endOfWord_22 : decode cX8_endOfWord 22 = .ok (.aload_n 0, 1) := by decide +kernel
theorem dX8_endOfWord_23 : decode cX8_endOfWord 23 = .ok (.getfield 69, 3) := by decide +kernel
theorem dX8_endOfWord_26 : decode cX8_endOfWord 26 = .ok (.aload_n 0, 1) := by decide +kernel
theorem dX8_endOfWord_27 : decode cX8_endOfWord 27 = .ok (.getfield 9, 3) := by decide +kernel
theorem dX8_endOfWord_30 : decode cX8_endOfWord 30 = .ok (.iload_n 3, 1) := by decide +kernel
theorem dX8_endOfWord_31 : decode cX8_endOfWord 31 = .ok (.invokestatic 79, 3) := by decide +kernel
theorem dX8_endOfWord_34 : decode cX8_endOfWord 34 = .ok (.invokestatic 40, 3) := by decide +kernel
theorem dX8_endOfWord_37 : decode cX8_endOfWord 37 = .ok (.putfield 69, 3) := by decide +kernel
theorem dX8_endOfWord_40 : decode cX8_endOfWord 40 = .ok (.iinc 3 1, 3) := by decide +kernel
theorem dX8_endOfWord_43 : decode cX8_endOfWord 43 = .ok (.goto (-41), 3) := by decide +kernel
theorem dX8_endOfWord_46 : decode cX8_endOfWord 46 = .ok (.aload_n 0, 1) := by decide +kernel
theorem dX8_endOfWord_47 : decode cX8_endOfWord 47 = .ok (.bipush 20, 2) := by decide +kernel
theorem dX8_endOfWord_49 : decode cX8_endOfWord 49 = .ok (.putfield 63, 3) := by decide +kernel
theorem dX8_endOfWord_52 : decode cX8_endOfWord 52 = .ok (.iconst 0, 1) := by decide +kernel
theorem dX8_endOfWord_53 : decode cX8_endOfWord 53 = .ok (.istore 4, 2) := by decide +kernel
theorem dX8_endOfWord_55 : decode cX8_endOfWord 55 = .ok (.iload 4, 2) := by decide +kernel
theorem dX8_endOfWord_57 : decode cX8_endOfWord 57 = .ok (.aload_n 0, 1) := by decide +kernel
theorem dX8_endOfWord_58 : decode cX8_endOfWord 58 = .ok (.getfield 15, 3) := by decide +kernel
theorem dX8_endOfWord_61 : decode cX8_endOfWord 61 = .ok (.arraylength, 1) := by decide +kernel
theorem dX8_endOfWord_62 : decode cX8_endOfWord 62 = .ok (.if_icmp .ge 30, 3) := by decide +kernel
theorem dX8_endOfWord_65 : decode cX8_endOfWord 65 = .ok (.aload_n 0, 1) := by decide +kernel
theorem dX8_endOfWord_66 : decode cX8_endOfWord 66 = .ok (.getfield 15, 3) := by decide +kernel
theorem dX8_endOfWord_69 : decode cX8_endOfWord 69 = .ok (.iload 4, 2) := by decide +kernel
theorem dX8_endOfWord_71 : decode cX8_endOfWord 71 = .ok (.laload, 1) := by decide +kernel
theorem dX8_endOfWord_72 : decode cX8_endOfWord 72 = .ok (.aload_n 0, 1) := by decide +kernel
theorem dX8_endOfWord_73 : decode cX8_endOfWord 73 = .ok (.getfield 69, 3) := by decide +kernel
theorem dX8_endOfWord_76 : decode cX8_endOfWord 76 = .ok (.lcmp, 1) := by decide +kernel
theorem dX8_endOfWord_77 : decode cX8_endOfWord 77 = .ok (.ifCond .ne 9, 3) := by decide +kernel
theorem dX8_endOfWord_80 : decode cX8_endOfWord 80 = .ok (.aload_n 0, 1) := by decide +kernel
theorem dX8_endOfWord_81 : decode cX8_endOfWord 81 = .ok (.iload 4, 2) := by decide +kernel
theorem dX8_endOfWord_83 : decode cX8_endOfWord 83 = .ok (.putfield 63, 3) := by decide +kernel
theorem dX8_endOfWord_86 : decode cX8_endOfWord 86 = .ok (.iinc 4 1, 3) := by decide +kernel
theorem dX8_endOfWord_89 : decode cX8_endOfWord 89 = .ok (.goto (-34), 3) := by decide +kernel
theorem dX8_endOfWord_92 : decode cX8_endOfWord 92 = .ok (.iload_n 3, 1) := by decide +kernel
theorem dX8_endOfWord_93 : decode cX8_endOfWord 93 = .ok (.iload_n 1, 1) := by decide +kernel
theorem dX8_endOfWord_94 : decode cX8_endOfWord 94 = .ok (.isub, 1) := by decide +kernel
theorem dX8_endOfWord_95 : decode cX8_endOfWord 95 = .ok (.bipush 8, 2) := by decide +kernel
theorem dX8_endOfWord_97 : decode cX8_endOfWord 97 = .ok (.if_icmp .le 9, 3) := by decide +kernel
theorem dX8_endOfWord_100 : decode cX8_endOfWord 100 = .ok (.aload_n 0, 1) := by decide +kernel
theorem dX8_endOfWord_101 : decode cX8_endOfWord 101 = .ok (.bipush 31, 2) := by decide +kernel
theorem dX8_endOfWord_103 : decode cX8_endOfWord 103 = .ok (.putfield 63, 3) := by decide +kernel
theorem dX8_endOfWord_106 : decode cX8_endOfWord 106 = .ok (.iload_n 3, 1) := by decide +kernel
theorem dX8_endOfWord_107 : decode cX8_endOfWord 107 = .ok (.ireturn, 1) := by decide +kernel
theorem dX8_endOfNumber_0 : decode cX8_endOfNumber 0 = .ok (.iload_n 1, 1) := by decide +kernel
theorem dX8_endOfNumber_1 : decode cX8_endOfNumber 1 = .ok (.istore_n 3, 1) := by decide +kernel
theorem dX8_endOfNumber_2 : decode cX8_endOfNumber 2 = .ok (.iload_n 3, 1) := by decide +kernel
theorem dX8_endOfNumber_3 : decode cX8_endOfNumber 3 = .ok (.iload_n 2, 1) := by decide +kernel
theorem dX8_endOfNumber_4 : decode cX8_endOfNumber 4 = .ok (.if_icmp .ge 49, 3) := by decide +kernel
theorem dX8_endOfNumber_7 : decode cX8_endOfNumber 7 = .ok (.aload_n 0, 1) := by decide +kernel
theorem dX8_endOfNumber_8 : decode cX8_endOfNumber 8 = .ok (.getfield 9, 3) := by decide +kernel
theorem dX8_endOfNumber_11 : decode cX8_endOfNumber 11 = .ok (.iload_n 3, 1) := by decide +kernel
theorem dX8_endOfNumber_12 : decode cX8_endOfNumber 12 = .ok (.invokestatic 79, 3) := by decide +kernel
theorem dX8_endOfNumber_15 : decode cX8_endOfNumber 15 = .ok (.invokestatic 93, 3) := by decide +kernel
theorem dX8_endOfNumber_18 : decode cX8_endOfNumber 18 = .ok (.ifCond .eq 35, 3) := by decide +kernel
theorem dX8_endOfNumber_21 : decode cX8_endOfNumber 21 = .ok (.aload_n 0, 1) := by decide +kernel
theorem dX8_endOfNumber_22 : decode cX8_endOfNumber 22 = .ok (.aload_n 0, 1) := by decide +kernel
theorem dX8_endOfNumber_23 : decode cX8_endOfNumber 23 = .ok (.getfield 69, 3) := by decide +kernel
theorem dX8_endOfNumber_26 : decode cX8_endOfNumber 26 = .ok (.ldc2_w 109, 3) := by decide +kernel
theorem dX8_endOfNumber_29 : decode cX8_endOfNumber 29 = .ok (.lmul, 1) := by decide +kernel
theorem dX8_endOfNumber_30 : decode cX8_endOfNumber 30 = .ok (.aload_n 0, 1) := by decide +kernel
theorem dX8_endOfNumber_31 : decode cX8_endOfNumber 31 = .ok (.getfield 9, 3) := by decide +kernel
theorem dX8_endOfNumber_34 : decode cX8_endOfNumber 34 = .ok (.iload_n 3, 1) := by decide +kernel
theorem dX8_endOfNumber_35 : decode cX8_endOfNumber 35 = .ok (.invokestatic 79, 3) := by decide +kernel
theorem dX8_endOfNumber_38 : decode cX8_endOfNumber 38 = .ok (.i2l, 1) := by decide +kernel
theorem dX8_endOfNumber_39 : decode cX8_endOfNumber 39 = .ok (.ladd, 1) := by decide +kernel
theorem dX8_endOfNumber_40 : decode cX8_endOfNumber 40 = .ok (.ldc2_w 111, 3) := by decide +kernel
theorem dX8_endOfNumber_43 : decode cX8_endOfNumber 43 = .ok (.lsub, 1) := by decide +kernel
theorem dX8_endOfNumber_44 : decode cX8_endOfNumber 44 = .ok (.putfield 69, 3) := by decide +kernel
theorem dX8_endOfNumber_47 : decode cX8_endOfNumber 47 = .ok (.iinc 3 1, 3) := by decide +kernel
theorem dX8_endOfNumber_50 : decode cX8_endOfNumber 50 = .ok (.goto (-48), 3) := by decide +kernel
theorem dX8_endOfNumber_53 : decode cX8_endOfNumber 53 = .ok (.iload_n 3, 1) := by decide +kernel
theorem dX8_endOfNumber_54 : decode cX8_endOfNumber 54 = .ok (.iload_n 2, 1) := by decide +kernel
theorem dX8_endOfNumber_55 : decode cX8_endOfNumber 55 = .ok (.if_icmp .ge 21, 3) := by decide +kernel
theorem dX8_endOfNumber_58 : decode cX8_endOfNumber 58 = .ok (.aload_n 0, 1) := by decide +kernel
theorem dX8_endOfNumber_59 : decode cX8_endOfNumber 59 = .ok (.getfield 9, 3) := by decide +kernel
theorem dX8_endOfNumber_62 : decode cX8_endOfNumber 62 = .ok (.iload_n 3, 1) := by decide +kernel
theorem dX8_endOfNumber_63 : decode cX8_endOfNumber 63 = .ok (.invokestatic 79, 3) := by decide +kernel
theorem dX8_endOfNumber_66 : decode cX8_endOfNumber 66 = .ok (.invokestatic 87, 3) := by decide +kernel
theorem dX8_endOfNumber_69 : decode cX8_endOfNumber 69 = .ok (.ifCond .eq 7, 3) := by decide +kernel
theorem dX8_endOfNumber_72 : decode cX8_endOfNumber 72 = .ok (.iconst 1, 1) := by decide +kernel
theorem dX8_endOfNumber_73 : decode cX8_endOfNumber 73 = .ok (.goto 4, 3) := by decide +kernel
theorem dX8_endOfNumber_76 : decode cX8_endOfNumber 76 = .ok (.iconst 0, 1) := by decide +kernel
theorem dX8_endOfNumber_77 : decode cX8_endOfNumber 77 = .ok (.istore 4, 2) := by decide +kernel
theorem dX8_endOfNumber_79 : decode cX8_endOfNumber 79 = .ok (.aload_n 0, 1) := by decide +kernel
theorem dX8_endOfNumber_80 : decode cX8_endOfNumber 80 = .ok (.iload 4, 2) := by decide +kernel
theorem dX8_endOfNumber_82 : decode cX8_endOfNumber 82 = .ok (.ifCond .ne 10, 3) := by decide +kernel
theorem dX8_endOfNumber_85 : decode cX8_endOfNumber 85 = .ok (.iload_n 3, 1) := by decide +kernel
theorem dX8_endOfNumber_86 : decode cX8_endOfNumber 86 = .ok (.iload_n 1, 1) := by decide +kernel
theorem dX8_endOfNumber_87 : decode cX8_endOfNumber 87 = .ok (.isub, 1) := by decide +kernel
theorem dX8_endOfNumber_88 : decode cX8_endOfNumber 88 = .ok (.iconst 4, 1) := by decide +kernel
theorem dX8_endOfNumber_89 : decode cX8_endOfNumber 89 = .ok (.if_icmp .le 8, 3) := by decide +kernel
theorem dX8_endOfNumber_92 : decode cX8_endOfNumber 92 = .ok (.bipush 31, 2) := by decide +kernel
theorem dX8_endOfNumber_94 : decode cX8_endOfNumber 94 = .ok (.goto 5, 3) := by decide +kernel
theorem dX8_endOfNumber_97 : decode cX8_endOfNumber 97 = .ok (.bipush 21, 2) := by decide +kernel
theorem dX8_endOfNumber_99 : decode cX8_endOfNumber 99 = .ok (.putfield 63, 3) := by decide +kernel
theorem dX8_endOfNumber_102 : decode cX8_endOfNumber 102 = .ok (.iload_n 3, 1) := by decide +kernel
theorem dX8_endOfNumber_103 : decode cX8_endOfNumber 103 = .ok (.ireturn, 1) := by decide +kernel
theorem dX8_withLetter_0 : decode cX8_withLetter 0 = .ok (.lload_n 0, 1) := by decide +kernel
theorem dX8_withLetter_1 : decode cX8_withLetter 1 = .ok (.iconst 5, 1) := by decide +kernel
theorem dX8_withLetter_2 : decode cX8_withLetter 2 = .ok (.lshl, 1) := by decide +kernel
theorem dX8_withLetter_3 : decode cX8_withLetter 3 = .ok (.iload_n 2, 1) := by decide +kernel
theorem dX8_withLetter_4 : decode cX8_withLetter 4 = .ok (.bipush 97, 2) := by decide +kernel
theorem dX8_withLetter_6 : decode cX8_withLetter 6 = .ok (.isub, 1) := by decide +kernel
theorem dX8_withLetter_7 : decode cX8_withLetter 7 = .ok (.iconst 1, 1) := by decide +kernel
theorem dX8_withLetter_8 : decode cX8_withLetter 8 = .ok (.iadd, 1) := by decide +kernel
theorem dX8_withLetter_9 : decode cX8_withLetter 9 = .ok (.i2l, 1) := by decide +kernel
theorem dX8_withLetter_10 : decode cX8_withLetter 10 = .ok (.lor, 1) := by decide +kernel
theorem dX8_withLetter_11 : decode cX8_withLetter 11 = .ok (.lreturn, 1) := by decide +kernel
theorem dX9_init_0 : decode cX9_init 0 = .ok (.aload_n 0, 1) := by decide +kernel
theorem dX9_init_1 : decode cX9_init 1 = .ok (.invokespecial 3, 3) := by decide +kernel
theorem dX9_init_4 : decode cX9_init 4 = .ok (.return_, 1) := by decide +kernel
theorem dX9_show_0 : decode cX9_show 0 = .ok (.aload_n 0, 1) := by decide +kernel
theorem dX9_show_1 : decode cX9_show 1 = .ok (.iload_n 1, 1) := by decide +kernel
theorem dX9_show_2 : decode cX9_show 2 = .ok (.putfield 9, 3) := by decide +kernel
theorem dX9_show_5 : decode cX9_show 5 = .ok (.aload_n 0, 1) := by decide +kernel
theorem dX9_show_6 : decode cX9_show 6 = .ok (.iconst 1, 1) := by decide +kernel
theorem dX9_show_7 : decode cX9_show 7 = .ok (.iload_n 1, 1) := by decide +kernel
theorem dX9_show_8 : decode cX9_show 8 = .ok (.iconst 1, 1) := by decide +kernel
theorem dX9_show_9 : decode cX9_show 9 = .ok (.isub, 1) := by decide +kernel
theorem dX9_show_10 : decode cX9_show 10 = .ok (.ishl, 1) := by decide +kernel
theorem dX9_show_11 : decode cX9_show 11 = .ok (.putfield 15, 3) := by decide +kernel
theorem dX9_show_14 : decode cX9_show 14 = .ok (.aload_n 0, 1) := by decide +kernel
theorem dX9_show_15 : decode cX9_show 15 = .ok (.iconst 0, 1) := by decide +kernel
theorem dX9_show_16 : decode cX9_show 16 = .ok (.putfield 18, 3) := by decide +kernel
theorem dX9_show_19 : decode cX9_show 19 = .ok (.aload_n 0, 1) := by decide +kernel
theorem dX9_show_20 : decode cX9_show 20 = .ok (.iconst 0, 1) := by decide +kernel
theorem dX9_show_21 : decode cX9_show 21 = .ok (.putfield 21, 3) := by decide +kernel
theorem dX9_show_24 : decode cX9_show 24 = .ok (.aload_n 0, 1) := by decide +kernel
theorem dX9_show_25 : decode cX9_show 25 = .ok (.iconst (-1), 1) := by decide +kernel
theorem dX9_show_26 : decode cX9_show 26 = .ok (.putfield 24, 3) := by decide +kernel
theorem dX9_show_29 : decode cX9_show 29 = .ok (.aload_n 0, 1) := by decide +kernel
theorem dX9_show_30 : decode cX9_show 30 = .ok (.iconst 0, 1) := by decide +kernel
theorem dX9_show_31 : decode cX9_show 31 = .ok (.putfield 27, 3) := by decide +kernel
theorem dX9_show_34 : decode cX9_show 34 = .ok (.iconst 1, 1) := by decide +kernel
theorem dX9_show_35 : decode cX9_show 35 = .ok (.iload_n 1, 1) := by decide +kernel
theorem dX9_show_36 : decode cX9_show 36 = .ok (.aload_n 0, 1) := by decide +kernel
theorem dX9_show_37 : decode cX9_show 37 = .ok (.getfield 15, 3) := by decide +kernel
theorem dX9_show_40 : decode cX9_show 40 = .ok (.imul, 1) := by decide +kernel
theorem dX9_show_41 : decode cX9_show 41 = .ok (.ishl, 1) := by decide +kernel
theorem dX9_show_42 : decode cX9_show 42 = .ok (.istore_n 3, 1) := by decide +kernel
theorem dX9_show_43 : decode cX9_show 43 = .ok (.iconst 0, 1) := by decide +kernel
theorem dX9_show_44 : decode cX9_show 44 = .ok (.istore 4, 2) := by decide +kernel
theorem dX9_show_46 : decode cX9_show 46 = .ok (.iload 4, 2) := by decide +kernel
theorem dX9_show_48 : decode cX9_show 48 = .ok (.iload_n 3, 1) := by decide +kernel
theorem dX9_show_49 : decode cX9_show 49 = .ok (.if_icmp .ge 25, 3) := by decide +kernel
theorem dX9_show_52 : decode cX9_show 52 = .ok (.aload_n 0, 1) := by decide +kernel
theorem dX9_show_53 : decode cX9_show 53 = .ok (.iload_n 2, 1) := by decide +kernel
theorem dX9_show_54 : decode cX9_show 54 = .ok (.iload 4, 2) := by decide +kernel
theorem dX9_show_56 : decode cX9_show 56 = .ok (.invokevirtual 30, 3) := by decide +kernel
theorem dX9_show_59 : decode cX9_show 59 = .ok (.ifCond .eq 9, 3) := by decide +kernel
theorem dX9_show_62 : decode cX9_show 62 = .ok (.aload_n 0, 1) := by decide +kernel
theorem dX9_show_63 : decode cX9_show 63 = .ok (.iload 4, 2) := by decide +kernel
theorem dX9_show_65 : decode cX9_show 65 = .ok (.invokevirtual 34, 3) := by decide +kernel
theorem dX9_show_68 : decode cX9_show 68 = .ok (.iinc 4 1, 3) := by decide +kernel
theorem dX9_show_71 : decode cX9_show 71 = .ok (.goto (-25), 3) := by decide +kernel
theorem dX9_show_74 : decode cX9_show 74 = .ok (.return_, 1) := by decide +kernel
theorem dX9_tally_0 : decode cX9_tally 0 = .ok (.iconst 0, 1) := by decide +kernel
theorem dX9_tally_1 : decode cX9_tally 1 = .ok (.istore_n 2, 1) := by decide +kernel
theorem dX9_tally_2 : decode cX9_tally 2 = .ok (.iconst 0, 1) := by decide +kernel
theorem dX9_tally_3 : decode cX9_tally 3 = .ok (.istore_n 3, 1) := by decide +kernel
theorem dX9_tally_4 : decode cX9_tally 4 = .ok (.iload_n 3, 1) := by decide +kernel
theorem dX9_tally_5 : decode cX9_tally 5 = .ok (.iconst 1, 1) := by decide +kernel
theorem dX9_tally_6 : decode cX9_tally 6 = .ok (.aload_n 0, 1) := by decide +kernel
theorem dX9_tally_7 : decode cX9_tally 7 = .ok (.getfield 9, 3) := by decide +kernel
theorem dX9_tally_10 : decode cX9_tally 10 = .ok (.ishl, 1) := by decide +kernel
theorem dX9_tally_11 : decode cX9_tally 11 = .ok (.if_icmp .ge 26, 3) := by decide +kernel
theorem dX9_tally_14 : decode cX9_tally 14 = .ok (.iload_n 2, 1) := by decide +kernel
theorem dX9_tally_15 : decode cX9_tally 15 = .ok (.aload_n 0, 1) := by decide +kernel
theorem dX9_tally_16 : decode cX9_tally 16 = .ok (.iload_n 1, 1) := by decide +kernel
theorem dX9_tally_17 : decode cX9_tally 17 = .ok (.iload_n 3, 1) := by decide +kernel
theorem dX9_tally_18 : decode cX9_tally 18 = .ok (.invokevirtual 38, 3) := by decide +kernel
theorem dX9_tally_21 : decode cX9_tally 21 = .ok (.ifCond .eq 7, 3) := by decide +kernel
theorem dX9_tally_24 : decode cX9_tally 24 = .ok (.iconst 1, 1) := by decide +kernel
theorem dX9_tally_25 : decode cX9_tally 25 = .ok (.goto 4, 3) := by decide +kernel
theorem dX9_tally_28 : decode cX9_tally 28 = .ok (.iconst 0, 1) := by decide +kernel
theorem dX9_tally_29 : decode cX9_tally 29 = .ok (.iadd, 1) := by decide +kernel
theorem dX9_tally_30 : decode cX9_tally 30 = .ok (.istore_n 2, 1) := by decide +kernel
theorem dX9_tally_31 : decode cX9_tally 31 = .ok (.iinc 3 1, 3) := by decide +kernel
theorem dX9_tally_34 : decode cX9_tally 34 = .ok (.goto (-30), 3) := by decide +kernel
theorem dX9_tally_37 : decode cX9_tally 37 = .ok (.iload_n 2, 1) := by decide +kernel
theorem dX9_tally_38 : decode cX9_tally 38 = .ok (.ifCond .ne 16, 3) := by decide +kernel
theorem dX9_tally_41 : decode cX9_tally 41 = .ok (.aload_n 0, 1) := by decide +kernel
theorem dX9_tally_42 : decode cX9_tally 42 = .ok (.getfield 24, 3) := by decide +kernel
theorem dX9_tally_45 : decode cX9_tally 45 = .ok (.iconst (-1), 1) := by decide +kernel
theorem dX9_tally_46 : decode cX9_tally 46 = .ok (.if_icmp .ne 8, 3) := by decide +kernel
theorem dX9_tally_49 : decode cX9_tally 49 = .ok (.aload_n 0, 1) := by decide +kernel
theorem dX9_tally_50 : decode cX9_tally 50 = .ok (.iload_n 1, 1) := by decide +kernel
theorem dX9_tally_51 : decode cX9_tally 51 = .ok (.putfield 24, 3) := by decide +kernel
theorem dX9_tally_54 : decode cX9_tally 54 = .ok (.aload_n 0, 1) := by decide +kernel
theorem dX9_tally_55 : decode cX9_tally 55 = .ok (.dup, 1) := by decide +kernel
theorem dX9_tally_56 : decode cX9_tally 56 = .ok (.getfield 18, 3) := by decide +kernel
theorem dX9_tally_59 : decode cX9_tally 59 = .ok (.iconst 1, 1) := by decide +kernel
theorem dX9_tally_60 : decode cX9_tally 60 = .ok (.iadd, 1) := by decide +kernel
theorem dX9_tally_61 : decode cX9_tally 61 = .ok (.putfield 18, 3) := by decide +kernel
theorem dX9_tally_64 : decode cX9_tally 64 = .ok (.aload_n 0, 1) := by decide +kernel
theorem dX9_tally_65 : decode cX9_tally 65 = .ok (.dup, 1) := by decide +kernel
theorem dX9_tally_66 : decode cX9_tally 66 = .ok (.getfield 21, 3) := by decide +kernel
theorem dX9_tally_69 : decode cX9_tally 69 = .ok (.iload_n 2, 1) := by decide +kernel
theorem dX9_tally_70 : decode cX9_tally 70 = .ok (.ifCond .ne 7, 3) := by decide +kernel
theorem dX9_tally_73 : decode cX9_tally 73 = .ok (.iconst 1, 1) := by decide +kernel
theorem dX9_tally_74 : decode cX9_tally 74 = .ok (.goto 4, 3) := by decide +kernel
theorem dX9_tally_77 : decode cX9_tally 77 = .ok (.iconst 0, 1) := by decide +kernel
theorem dX9_tally_78 : decode cX9_tally 78 = .ok (.iadd, 1) := by decide +kernel
theorem dX9_tally_79 : decode cX9_tally 79 = .ok (.putfield 21, 3) := by decide +kernel
theorem dX9_tally_82 : decode cX9_tally 82 = .ok (.aload_n 0, 1) := by decide +kernel
theorem dX9_tally_83 : decode cX9_tally 83 = .ok (.aload_n 0, 1) := by decide +kernel
theorem dX9_tally_84 : decode cX9_tally 84 = .ok (.getfield 27, 3) := by decide +kernel
theorem dX9_tally_87 : decode cX9_tally 87 = .ok (.iload_n 2, 1) := by decide +kernel
theorem dX9_tally_88 : decode cX9_tally 88 = .ok (.invokestatic 41, 3) := by decide +kernel
theorem dX9_tally_91 : decode cX9_tally 91 = .ok (.putfield 27, 3) := by decide +kernel
theorem dX9_tally_94 : decode cX9_tally 94 = .ok (.return_, 1) := by decide +kernel
theorem dX9_rowOf_0 : decode cX9_rowOf 0 = .ok (.iload_n 1, 1) := by decide +kernel
theorem dX9_rowOf_1 : decode cX9_rowOf 1 = .ok (.aload_n 0, 1) := by decide +kernel
theorem dX9_rowOf_2 : decode cX9_rowOf 2 = .ok (.getfield 15, 3) := by decide +kernel
theorem dX9_rowOf_5 : decode cX9_rowOf 5 = .ok (.aload_n 0, 1) := by decide +kernel
theorem dX9_rowOf_6 : decode cX9_rowOf 6 = .ok (.getfield 9, 3) := by decide +kernel
theorem dX9_rowOf_9 : decode cX9_rowOf 9 = .ok (.iconst 1, 1) := by decide +kernel
theorem dX9_rowOf_10 : decode cX9_rowOf 10 = .ok (.isub, 1) := by decide +kernel
theorem dX9_rowOf_11 : decode cX9_rowOf 11 = .ok (.iload_n 2, 1) := by decide +kernel
theorem dX9_rowOf_12 : decode cX9_rowOf 12 = .ok (.isub, 1) := by decide +kernel
theorem dX9_rowOf_13 : decode cX9_rowOf 13 = .ok (.imul, 1) := by decide +kernel
theorem dX9_rowOf_14 : decode cX9_rowOf 14 = .ok (.ishr, 1) := by decide +kernel
theorem dX9_rowOf_15 : decode cX9_rowOf 15 = .ok (.iconst 1, 1) := by decide +kernel
theorem dX9_rowOf_16 : decode cX9_rowOf 16 = .ok (.aload_n 0, 1) := by decide +kernel
theorem dX9_rowOf_17 : decode cX9_rowOf 17 = .ok (.getfield 15, 3) := by decide +kernel
theorem dX9_rowOf_20 : decode cX9_rowOf 20 = .ok (.ishl, 1) := by decide +kernel
theorem dX9_rowOf_21 : decode cX9_rowOf 21 = .ok (.iconst 1, 1) := by decide +kernel
theorem dX9_rowOf_22 : decode cX9_rowOf 22 = .ok (.isub, 1) := by decide +kernel
theorem dX9_rowOf_23 : decode cX9_rowOf 23 = .ok (.iand, 1) := by decide +kernel
theorem dX9_rowOf_24 : decode cX9_rowOf 24 = .ok (.ireturn, 1) := by decide +kernel
theorem dX9_agrees_0 : decode cX9_agrees 0 = .ok (.iconst 0, 1) := by decide +kernel
theorem dX9_agrees_1 : decode cX9_agrees 1 = .ok (.istore_n 3, 1) := by decide +kernel
theorem dX9_agrees_2 : decode cX9_agrees 2 = .ok (.iload_n 3, 1) := by decide +kernel
theorem dX9_agrees_3 : decode cX9_agrees 3 = .ok (.aload_n 0, 1) := by decide +kernel
theorem dX9_agrees_4 : decode cX9_agrees 4 = .ok (.getfield 9, 3) := by decide +kernel
theorem dX9_agrees_7 : decode cX9_agrees 7 = .ok (.if_icmp .ge 51, 3) := by decide +kernel
theorem dX9_agrees_10 : decode cX9_agrees 10 = .ok (.iload_n 2, 1) := by decide +kernel
theorem dX9_agrees_11 : decode cX9_agrees 11 = .ok (.iconst 1, 1) := by decide +kernel
theorem dX9_agrees_12 : decode cX9_agrees 12 = .ok (.iload_n 3, 1) := by decide +kernel
theorem dX9_agrees_13 : decode cX9_agrees 13 = .ok (.ishl, 1) := by decide +kernel
theorem dX9_agrees_14 : decode cX9_agrees 14 = .ok (.iconst 1, 1) := by decide +kernel
theorem dX9_agrees_15 : decode cX9_agrees 15 = .ok (.isub, 1) := by decide +kernel
theorem dX9_agrees_16 : decode cX9_agrees 16 = .ok (.iand, 1) := by decide +kernel
theorem dX9_agrees_17 : decode cX9_agrees 17 = .ok (.istore 4, 2) := by decide +kernel
theorem dX9_agrees_19 : decode cX9_agrees 19 = .ok (.iload_n 2, 1) := by decide +kernel
theorem dX9_agrees_20 : decode cX9_agrees 20 = .ok (.iload_n 3, 1) := by decide +kernel
theorem dX9_agrees_21 : decode cX9_agrees 21 = .ok (.iconst 1, 1) := by decide +kernel
theorem dX9_agrees_22 : decode cX9_agrees 22 = .ok (.iadd, 1) := by decide +kernel
theorem dX9_agrees_23 : decode cX9_agrees 23 = .ok (.ishr, 1) := by decide +kernel
theorem dX9_agrees_24 : decode cX9_agrees 24 = .ok (.iload_n 3, 1) := by decide +kernel
theorem dX9_agrees_25 : decode cX9_agrees 25 = .ok (.ishl, 1) := by decide +kernel
theorem dX9_agrees_26 : decode cX9_agrees 26 = .ok (.istore 5, 2) := by decide +kernel
theorem dX9_agrees_28 : decode cX9_agrees 28 = .ok (.aload_n 0, 1) := by decide +kernel
theorem dX9_agrees_29 : decode cX9_agrees 29 = .ok (.iload_n 1, 1) := by decide +kernel
theorem dX9_agrees_30 : decode cX9_agrees 30 = .ok (.iload_n 3, 1) := by decide +kernel
theorem dX9_agrees_31 : decode cX9_agrees 31 = .ok (.invokevirtual 47, 3) := by decide +kernel
theorem dX9_agrees_34 : decode cX9_agrees 34 = .ok (.iload 4, 2) := by decide +kernel
theorem dX9_agrees_36 : decode cX9_agrees 36 = .ok (.iload 5, 2) := by decide +kernel
theorem dX9_agrees_38 : decode cX9_agrees 38 = .ok (.ior, 1) := by decide +kernel
theorem dX9_agrees_39 : decode cX9_agrees 39 = .ok (.ishr, 1) := by decide +kernel
theorem dX9_agrees_40 : decode cX9_agrees 40 = .ok (.iconst 1, 1) := by decide +kernel
theorem dX9_agrees_41 : decode cX9_agrees 41 = .ok (.iand, 1) := by decide +kernel
theorem dX9_agrees_42 : decode cX9_agrees 42 = .ok (.iload_n 2, 1) := by decide +kernel
theorem dX9_agrees_43 : decode cX9_agrees 43 = .ok (.iload_n 3, 1) := by decide +kernel
theorem dX9_agrees_44 : decode cX9_agrees 44 = .ok (.ishr, 1) := by decide +kernel
theorem dX9_agrees_45 : decode cX9_agrees 45 = .ok (.iconst 1, 1) := by decide +kernel
theorem dX9_agrees_46 : decode cX9_agrees 46 = .ok (.iand, 1) := by decide +kernel
theorem dX9_agrees_47 : decode cX9_agrees 47 = .ok (.if_icmp .eq 5, 3) := by decide +kernel
theorem dX9_agrees_50 : decode cX9_agrees 50 = .ok (.iconst 0, 1) := by decide +kernel
theorem dX9_agrees_51 : decode cX9_agrees 51 = .ok (.ireturn, 1) := by decide +kernel
theorem dX9_agrees_52 : decode cX9_agrees 52 = .ok (.iinc 3 1, 3) := by decide +kernel
theorem dX9_agrees_55 : decode cX9_agrees 55 = .ok (.goto (-53), 3) := by decide +kernel
theorem dX9_agrees_58 : decode cX9_agrees 58 = .ok (.iconst 1, 1) := by decide +kernel
theorem dX9_agrees_59 : decode cX9_agrees 59 = .ok (.ireturn, 1) := by decide +kernel
theorem dX9_holdsTo_0 : decode cX9_holdsTo 0 = .ok (.iconst 0, 1) := by decide +kernel
theorem dX9_holdsTo_1 : decode cX9_holdsTo 1 = .ok (.istore_n 3, 1) := by decide +kernel
theorem dX9_holdsTo_2 : decode cX9_holdsTo 2 = .ok (.iload_n 3, 1) := by decide +kernel
theorem dX9_holdsTo_3 : decode cX9_holdsTo 3 = .ok (.aload_n 0, 1) := by decide +kernel
theorem dX9_holdsTo_4 : decode cX9_holdsTo 4 = .ok (.getfield 9, 3) := by decide +kernel
theorem dX9_holdsTo_7 : decode cX9_holdsTo 7 = .ok (.if_icmp .ge 48, 3) := by decide +kernel
theorem dX9_holdsTo_10 : decode cX9_holdsTo 10 = .ok (.aload_n 0, 1) := by decide +kernel
theorem dX9_holdsTo_11 : decode cX9_holdsTo 11 = .ok (.iload_n 2, 1) := by decide +kernel
theorem dX9_holdsTo_12 : decode cX9_holdsTo 12 = .ok (.iload_n 3, 1) := by decide +kernel
theorem dX9_holdsTo_13 : decode cX9_holdsTo 13 = .ok (.invokevirtual 47, 3) := by decide +kernel
theorem dX9_holdsTo_16 : decode cX9_holdsTo 16 = .ok (.istore 4, 2) := by decide +kernel
theorem dX9_holdsTo_18 : decode cX9_holdsTo 18 = .ok (.iload_n 1, 1) := by decide +kernel
theorem dX9_holdsTo_19 : decode cX9_holdsTo 19 = .ok (.iconst 1, 1) := by decide +kernel
theorem dX9_holdsTo_20 : decode cX9_holdsTo 20 = .ok (.if_icmp .ne 13, 3) := by decide +kernel
theorem dX9_holdsTo_23 : decode cX9_holdsTo 23 = .ok (.aload_n 0, 1) := by decide +kernel
theorem dX9_holdsTo_24 : decode cX9_holdsTo 24 = .ok (.iload 4, 2) := by decide +kernel
theorem dX9_holdsTo_26 : decode cX9_holdsTo 26 = .ok (.iload_n 3, 1) := by decide +kernel
theorem dX9_holdsTo_27 : decode cX9_holdsTo 27 = .ok (.invokevirtual 50, 3) := by decide +kernel
theorem dX9_holdsTo_30 : decode cX9_holdsTo 30 = .ok (.ifCond .eq 17, 3) := by decide +kernel
theorem dX9_holdsTo_33 : decode cX9_holdsTo 33 = .ok (.iload_n 1, 1) := by decide +kernel
theorem dX9_holdsTo_34 : decode cX9_holdsTo 34 = .ok (.iconst 2, 1) := by decide +kernel
theorem dX9_holdsTo_35 : decode cX9_holdsTo 35 = .ok (.if_icmp .ne 14, 3) := by decide +kernel
theorem dX9_holdsTo_38 : decode cX9_holdsTo 38 = .ok (.aload_n 0, 1) := by decide +kernel
theorem dX9_holdsTo_39 : decode cX9_holdsTo 39 = .ok (.iload 4, 2) := by decide +kernel
theorem dX9_holdsTo_41 : decode cX9_holdsTo 41 = .ok (.invokevirtual 53, 3) := by decide +kernel
theorem dX9_holdsTo_44 : decode cX9_holdsTo 44 = .ok (.ifCond .ne 5, 3) := by decide +kernel
theorem dX9_holdsTo_47 : decode cX9_holdsTo 47 = .ok (.iconst 0, 1) := by decide +kernel
theorem dX9_holdsTo_48 : decode cX9_holdsTo 48 = .ok (.ireturn, 1) := by decide +kernel
theorem dX9_holdsTo_49 : decode cX9_holdsTo 49 = .ok (.iinc 3 1, 3) := by decide +kernel
theorem dX9_holdsTo_52 : decode cX9_holdsTo 52 = .ok (.goto (-50), 3) := by decide +kernel
theorem dX9_holdsTo_55 : decode cX9_holdsTo 55 = .ok (.iconst 1, 1) := by decide +kernel
theorem dX9_holdsTo_56 : decode cX9_holdsTo 56 = .ok (.ireturn, 1) := by decide +kernel
theorem dX9_goesByElders_0 : decode cX9_goesByElders 0 = .ok (.iconst 0, 1) := by decide +kernel
theorem dX9_goesByElders_1 : decode cX9_goesByElders 1 = .ok (.istore_n 3, 1) := by decide +kernel
theorem dX9_goesByElders_2 : decode cX9_goesByElders 2 = .ok (.iload_n 3, 1) := by decide +kernel
theorem dX9_goesByElders_3 : decode cX9_goesByElders 3 = .ok (.aload_n 0, 1) := by decide +kernel
theorem dX9_goesByElders_4 : decode cX9_goesByElders 4 = .ok (.getfield 15, 3) := by decide +kernel
theorem dX9_goesByElders_7 : decode cX9_goesByElders 7 = .ok (.if_icmp .ge 34, 3) := by decide +kernel
theorem dX9_goesByElders_10 : decode cX9_goesByElders 10 = .ok (.iload_n 3, 1) := by decide +kernel
theorem dX9_goesByElders_11 : decode cX9_goesByElders 11 = .ok (.iconst 1, 1) := by decide +kernel
theorem dX9_goesByElders_12 : decode cX9_goesByElders 12 = .ok (.iload_n 2, 1) := by decide +kernel
theorem dX9_goesByElders_13 : decode cX9_goesByElders 13 = .ok (.ishl, 1) := by decide +kernel
theorem dX9_goesByElders_14 : decode cX9_goesByElders 14 = .ok (.iconst 1, 1) := by decide +kernel
theorem dX9_goesByElders_15 : decode cX9_goesByElders 15 = .ok (.isub, 1) := by decide +kernel
theorem dX9_goesByElders_16 : decode cX9_goesByElders 16 = .ok (.iand, 1) := by decide +kernel
theorem dX9_goesByElders_17 : decode cX9_goesByElders 17 = .ok (.istore 4, 2) := by decide +kernel
theorem dX9_goesByElders_19 : decode cX9_goesByElders 19 = .ok (.iload_n 1, 1) := by decide +kernel
theorem dX9_goesByElders_20 : decode cX9_goesByElders 20 = .ok (.iload_n 3, 1) := by decide +kernel
theorem dX9_goesByElders_21 : decode cX9_goesByElders 21 = .ok (.ishr, 1) := by decide +kernel
theorem dX9_goesByElders_22 : decode cX9_goesByElders 22 = .ok (.iconst 1, 1) := by decide +kernel
theorem dX9_goesByElders_23 : decode cX9_goesByElders 23 = .ok (.iand, 1) := by decide +kernel
theorem dX9_goesByElders_24 : decode cX9_goesByElders 24 = .ok (.iload_n 1, 1) := by decide +kernel
theorem dX9_goesByElders_25 : decode cX9_goesByElders 25 = .ok (.iload 4, 2) := by decide +kernel
theorem dX9_goesByElders_27 : decode cX9_goesByElders 27 = .ok (.ishr, 1) := by decide +kernel
theorem dX9_goesByElders_28 : decode cX9_goesByElders 28 = .ok (.iconst 1, 1) := by decide +kernel
theorem dX9_goesByElders_29 : decode cX9_goesByElders 29 = .ok (.iand, 1) := by decide +kernel
theorem dX9_goesByElders_30 : decode cX9_goesByElders 30 = .ok (.if_icmp .eq 5, 3) := by decide +kernel
theorem dX9_goesByElders_33 : decode cX9_goesByElders 33 = .ok (.iconst 0, 1) := by decide +kernel
theorem dX9_goesByElders_34 : decode cX9_goesByElders 34 = .ok (.ireturn, 1) := by decide +kernel
theorem dX9_goesByElders_35 : decode cX9_goesByElders 35 = .ok (.iinc 3 1, 3) := by decide +kernel
theorem dX9_goesByElders_38 : decode cX9_goesByElders 38 = .ok (.goto (-36), 3) := by decide +kernel
theorem dX9_goesByElders_41 : decode cX9_goesByElders 41 = .ok (.iconst 1, 1) := by decide +kernel
theorem dX9_goesByElders_42 : decode cX9_goesByElders 42 = .ok (.ireturn, 1) := by decide +kernel
theorem dX9_grows_0 : decode cX9_grows 0 = .ok (.iconst 0, 1) := by decide +kernel
theorem dX9_grows_1 : decode cX9_grows 1 = .ok (.istore_n 2, 1) := by decide +kernel
theorem dX9_grows_2 : decode cX9_grows 2 = .ok (.iload_n 2, 1) := by decide +kernel
theorem dX9_grows_3 : decode cX9_grows 3 = .ok (.aload_n 0, 1) := by decide +kernel
theorem dX9_grows_4 : decode cX9_grows 4 = .ok (.getfield 15, 3) := by decide +kernel
theorem dX9_grows_7 : decode cX9_grows 7 = .ok (.if_icmp .ge 43, 3) := by decide +kernel
theorem dX9_grows_10 : decode cX9_grows 10 = .ok (.iconst 1, 1) := by decide +kernel
theorem dX9_grows_11 : decode cX9_grows 11 = .ok (.istore_n 3, 1) := by decide +kernel
theorem dX9_grows_12 : decode cX9_grows 12 = .ok (.iload_n 3, 1) := by decide +kernel
theorem dX9_grows_13 : decode cX9_grows 13 = .ok (.aload_n 0, 1) := by decide +kernel
theorem dX9_grows_14 : decode cX9_grows 14 = .ok (.getfield 15, 3) := by decide +kernel
theorem dX9_grows_17 : decode cX9_grows 17 = .ok (.if_icmp .ge 27, 3) := by decide +kernel
theorem dX9_grows_20 : decode cX9_grows 20 = .ok (.iload_n 1, 1) := by decide +kernel
theorem dX9_grows_21 : decode cX9_grows 21 = .ok (.iload_n 2, 1) := by decide +kernel
theorem dX9_grows_22 : decode cX9_grows 22 = .ok (.ishr, 1) := by decide +kernel
theorem dX9_grows_23 : decode cX9_grows 23 = .ok (.iconst 1, 1) := by decide +kernel
theorem dX9_grows_24 : decode cX9_grows 24 = .ok (.iand, 1) := by decide +kernel
theorem dX9_grows_25 : decode cX9_grows 25 = .ok (.iload_n 1, 1) := by decide +kernel
theorem dX9_grows_26 : decode cX9_grows 26 = .ok (.iload_n 2, 1) := by decide +kernel
theorem dX9_grows_27 : decode cX9_grows 27 = .ok (.iload_n 3, 1) := by decide +kernel
theorem dX9_grows_28 : decode cX9_grows 28 = .ok (.ior, 1) := by decide +kernel
theorem dX9_grows_29 : decode cX9_grows 29 = .ok (.ishr, 1) := by decide +kernel
theorem dX9_grows_30 : decode cX9_grows 30 = .ok (.iconst 1, 1) := by decide +kernel
theorem dX9_grows_31 : decode cX9_grows 31 = .ok (.iand, 1) := by decide +kernel
theorem dX9_grows_32 : decode cX9_grows 32 = .ok (.if_icmp .le 5, 3) := by decide +kernel
theorem dX9_grows_35 : decode cX9_grows 35 = .ok (.iconst 0, 1) := by decide +kernel
theorem dX9_grows_36 : decode cX9_grows 36 = .ok (.ireturn, 1) := by decide +kernel
theorem dX9_grows_37 : decode cX9_grows 37 = .ok (.iload_n 3, 1) := by decide +kernel
theorem dX9_grows_38 : decode cX9_grows 38 = .ok (.iconst 1, 1) := by decide +kernel
theorem dX9_grows_39 : decode cX9_grows 39 = .ok (.ishl, 1) := by decide +kernel
theorem dX9_grows_40 : decode cX9_grows 40 = .ok (.istore_n 3, 1) := by decide +kernel
theorem dX9_grows_41 : decode cX9_grows 41 = .ok (.goto (-29), 3) := by decide +kernel
theorem dX9_grows_44 : decode cX9_grows 44 = .ok (.iinc 2 1, 3) := by decide +kernel
theorem dX9_grows_47 : decode cX9_grows 47 = .ok (.goto (-45), 3) := by decide +kernel
theorem dX9_grows_50 : decode cX9_grows 50 = .ok (.iconst 1, 1) := by decide +kernel
theorem dX9_grows_51 : decode cX9_grows 51 = .ok (.ireturn, 1) := by decide +kernel
theorem dX10_init_0 : decode cX10_init 0 = .ok (.aload_n 0, 1) := by decide +kernel
theorem dX10_init_1 : decode cX10_init 1 = .ok (.invokespecial 3, 3) := by decide +kernel
theorem dX10_init_4 : decode cX10_init 4 = .ok (.aload_n 0, 1) := by decide +kernel
theorem dX10_init_5 : decode cX10_init 5 = .ok (.iconst 3, 1) := by decide +kernel
theorem dX10_init_6 : decode cX10_init 6 = .ok (.newarray .long, 2) := by decide +kernel
theorem dX10_init_8 : decode cX10_init 8 = .ok (.putfield 9, 3) := by decide +kernel
theorem dX10_init_11 : decode cX10_init 11 = .ok (.aload_n 0, 1) := by decide +kernel
theorem dX10_init_12 : decode cX10_init 12 = .ok (.iconst 4, 1) := by decide +kernel
theorem dX10_init_13 : decode cX10_init 13 = .ok (.newarray .long, 2) := by decide +kernel
theorem dX10_init_15 : decode cX10_init 15 = .ok (.putfield 15, 3) := by decide +kernel
theorem dX10_init_18 : decode cX10_init 18 = .ok (.aload_n 0, 1) := by decide +kernel
theorem dX10_init_19 : decode cX10_init 19 = .ok (.bipush 8, 2) := by decide +kernel
theorem dX10_init_21 : decode cX10_init 21 = .ok (.newarray .long, 2) := by decide +kernel
theorem dX10_init_23 : decode cX10_init 23 = .ok (.putfield 18, 3) := by decide +kernel
theorem dX10_init_26 : decode cX10_init 26 = .ok (.aload_n 0, 1) := by decide +kernel
theorem dX10_init_27 : decode cX10_init 27 = .ok (.bipush 8, 2) := by decide +kernel
theorem dX10_init_29 : decode cX10_init 29 = .ok (.newarray .int, 2) := by decide +kernel
theorem dX10_init_31 : decode cX10_init 31 = .ok (.putfield 21, 3) := by decide +kernel
theorem dX10_init_34 : decode cX10_init 34 = .ok (.aload_n 0, 1) := by decide +kernel
theorem dX10_init_35 : decode cX10_init 35 = .ok (.bipush 8, 2) := by decide +kernel
theorem dX10_init_37 : decode cX10_init 37 = .ok (.newarray .int, 2) := by decide +kernel
theorem dX10_init_39 : decode cX10_init 39 = .ok (.putfield 25, 3) := by decide +kernel
theorem dX10_init_42 : decode cX10_init 42 = .ok (.aload_n 0, 1) := by decide +kernel
theorem dX10_init_43 : decode cX10_init 43 = .ok (.bipush 8, 2) := by decide +kernel
theorem dX10_init_45 : decode cX10_init 45 = .ok (.anewarray 28, 3) := by decide +kernel
theorem dX10_init_48 : decode cX10_init 48 = .ok (.putfield 30, 3) := by decide +kernel
theorem dX10_init_51 : decode cX10_init 51 = .ok (.return_, 1) := by decide +kernel
theorem dX10_clear_0 : decode cX10_clear 0 = .ok (.aload_n 0, 1) := by decide +kernel
theorem dX10_clear_1 : decode cX10_clear 1 = .ok (.iconst 0, 1) := by decide +kernel
theorem dX10_clear_2 : decode cX10_clear 2 = .ok (.putfield 34, 3) := by decide +kernel
theorem dX10_clear_5 : decode cX10_clear 5 = .ok (.aload_n 0, 1) := by decide +kernel
theorem dX10_clear_6 : decode cX10_clear 6 = .ok (.iconst 0, 1) := by decide +kernel
theorem dX10_clear_7 : decode cX10_clear 7 = .ok (.putfield 38, 3) := by decide +kernel
theorem dX10_clear_10 : decode cX10_clear 10 = .ok (.aload_n 0, 1) := by decide +kernel
theorem dX10_clear_11 : decode cX10_clear 11 = .ok (.iconst 0, 1) := by decide +kernel
theorem dX10_clear_12 : decode cX10_clear 12 = .ok (.putfield 41, 3) := by decide +kernel
theorem dX10_clear_15 : decode cX10_clear 15 = .ok (.aload_n 0, 1) := by decide +kernel
theorem dX10_clear_16 : decode cX10_clear 16 = .ok (.iconst 0, 1) := by decide +kernel
theorem dX10_clear_17 : decode cX10_clear 17 = .ok (.putfield 44, 3) := by decide +kernel
theorem dX10_clear_20 : decode cX10_clear 20 = .ok (.iconst 0, 1) := by decide +kernel
theorem dX10_clear_21 : decode cX10_clear 21 = .ok (.istore_n 1, 1) := by decide +kernel
theorem dX10_clear_22 : decode cX10_clear 22 = .ok (.iload_n 1, 1) := by decide +kernel
theorem dX10_clear_23 : decode cX10_clear 23 = .ok (.aload_n 0, 1) := by decide +kernel
theorem dX10_clear_24 : decode cX10_clear 24 = .ok (.getfield 30, 3) := by decide +kernel
theorem dX10_clear_27 : decode cX10_clear 27 = .ok (.arraylength, 1) := by decide +kernel
theorem dX10_clear_28 : decode cX10_clear 28 = .ok (.if_icmp .ge 16, 3) := by decide +kernel
theorem dX10_clear_31 : decode cX10_clear 31 = .ok (.aload_n 0, 1) := by decide +kernel
theorem dX10_clear_32 : decode cX10_clear 32 = .ok (.getfield 30, 3) := by decide +kernel
theorem dX10_clear_35 : decode cX10_clear 35 = .ok (.iload_n 1, 1) := by decide +kernel
theorem dX10_clear_36 : decode cX10_clear 36 = .ok (.aconst_null, 1) := by decide +kernel
theorem dX10_clear_37 : decode cX10_clear 37 = .ok (.aastore, 1) := by decide +kernel
theorem dX10_clear_38 : decode cX10_clear 38 = .ok (.iinc 1 1, 3) := by decide +kernel
theorem dX10_clear_41 : decode cX10_clear 41 = .ok (.goto (-19), 3) := by decide +kernel
theorem dX10_clear_44 : decode cX10_clear 44 = .ok (.return_, 1) := by decide +kernel
theorem dX10_becomeWider_0 : decode cX10_becomeWider 0 = .ok (.aload_n 0, 1) := by decide +kernel
theorem dX10_becomeWider_1 : decode cX10_becomeWider 1 = .ok (.aload_n 1, 1) := by decide +kernel
theorem dX10_becomeWider_2 : decode cX10_becomeWider 2 = .ok (.getfield 34, 3) := by decide +kernel
theorem dX10_becomeWider_5 : decode cX10_becomeWider 5 = .ok (.putfield 34, 3) := by decide +kernel
theorem dX10_becomeWider_8 : decode cX10_becomeWider 8 = .ok (.aload_n 0, 1) := by decide +kernel
theorem dX10_becomeWider_9 : decode cX10_becomeWider 9 = .ok (.aload_n 1, 1) := by decide +kernel
theorem dX10_becomeWider_10 : decode cX10_becomeWider 10 = .ok (.getfield 41, 3) := by decide +kernel
theorem dX10_becomeWider_13 : decode cX10_becomeWider 13 = .ok (.putfield 41, 3) := by decide +kernel
theorem dX10_becomeWider_16 : decode cX10_becomeWider 16 = .ok (.iconst 0, 1) := by decide +kernel
theorem dX10_becomeWider_17 : decode cX10_becomeWider 17 = .ok (.istore_n 3, 1) := by decide +kernel
theorem dX10_becomeWider_18 : decode cX10_becomeWider 18 = .ok (.iload_n 3, 1) := by decide +kernel
theorem dX10_becomeWider_19 : decode cX10_becomeWider 19 = .ok (.aload_n 0, 1) := by decide +kernel
theorem dX10_becomeWider_20 : decode cX10_becomeWider 20 = .ok (.getfield 41, 3) := by decide +kernel
theorem dX10_becomeWider_23 : decode cX10_becomeWider 23 = .ok (.if_icmp .ge 41, 3) := by decide +kernel
theorem dX10_becomeWider_26 : decode cX10_becomeWider 26 = .ok (.aload_n 0, 1) := by decide +kernel
theorem dX10_becomeWider_27 : decode cX10_becomeWider 27 = .ok (.getfield 21, 3) := by decide +kernel
theorem dX10_becomeWider_30 : decode cX10_becomeWider 30 = .ok (.iload_n 3, 1) := by decide +kernel
theorem dX10_becomeWider_31 : decode cX10_becomeWider 31 = .ok (.aload_n 1, 1) := by decide +kernel
theorem dX10_becomeWider_32 : decode cX10_becomeWider 32 = .ok (.getfield 21, 3) := by decide +kernel
theorem dX10_becomeWider_35 : decode cX10_becomeWider 35 = .ok (.iload_n 3, 1) := by decide +kernel
theorem dX10_becomeWider_36 : decode cX10_becomeWider 36 = .ok (.invokestatic 47, 3) := by decide +kernel
theorem dX10_becomeWider_39 : decode cX10_becomeWider 39 = .ok (.invokestatic 51, 3) := by decide +kernel
theorem dX10_becomeWider_42 : decode cX10_becomeWider 42 = .ok (.aload_n 0, 1) := by decide +kernel
theorem dX10_becomeWider_43 : decode cX10_becomeWider 43 = .ok (.getfield 25, 3) := by decide +kernel
theorem dX10_becomeWider_46 : decode cX10_becomeWider 46 = .ok (.iload_n 3, 1) := by decide +kernel
theorem dX10_becomeWider_47 : decode cX10_becomeWider 47 = .ok (.aload_n 1, 1) := by decide +kernel
theorem dX10_becomeWider_48 : decode cX10_becomeWider 48 = .ok (.getfield 25, 3) := by decide +kernel
theorem dX10_becomeWider_51 : decode cX10_becomeWider 51 = .ok (.iload_n 3, 1) := by decide +kernel
theorem dX10_becomeWider_52 : decode cX10_becomeWider 52 = .ok (.invokestatic 47, 3) := by decide +kernel
theorem dX10_becomeWider_55 : decode cX10_becomeWider 55 = .ok (.invokestatic 51, 3) := by decide +kernel
theorem dX10_becomeWider_58 : decode cX10_becomeWider 58 = .ok (.iinc 3 1, 3) := by decide +kernel
theorem dX10_becomeWider_61 : decode cX10_becomeWider 61 = .ok (.goto (-43), 3) := by decide +kernel
theorem dX10_becomeWider_64 : decode cX10_becomeWider 64 = .ok (.aload_n 0, 1) := by decide +kernel
theorem dX10_becomeWider_65 : decode cX10_becomeWider 65 = .ok (.iload_n 2, 1) := by decide +kernel
theorem dX10_becomeWider_66 : decode cX10_becomeWider 66 = .ok (.iconst 1, 1) := by decide +kernel
theorem dX10_becomeWider_67 : decode cX10_becomeWider 67 = .ok (.invokevirtual 55, 3) := by decide +kernel
theorem dX10_becomeWider_70 : decode cX10_becomeWider 70 = .ok (.return_, 1) := by decide +kernel
theorem dX10_addVoter_0 : decode cX10_addVoter 0 = .ok (.aload_n 0, 1) := by decide +kernel
theorem dX10_addVoter_1 : decode cX10_addVoter 1 = .ok (.getfield 21, 3) := by decide +kernel
theorem dX10_addVoter_4 : decode cX10_addVoter 4 = .ok (.aload_n 0, 1) := by decide +kernel
theorem dX10_addVoter_5 : decode cX10_addVoter 5 = .ok (.getfield 41, 3) := by decide +kernel
theorem dX10_addVoter_8 : decode cX10_addVoter 8 = .ok (.iload_n 1, 1) := by decide +kernel
theorem dX10_addVoter_9 : decode cX10_addVoter 9 = .ok (.invokestatic 51, 3) := by decide +kernel
theorem dX10_addVoter_12 : decode cX10_addVoter 12 = .ok (.aload_n 0, 1) := by decide +kernel
theorem dX10_addVoter_13 : decode cX10_addVoter 13 = .ok (.getfield 25, 3) := by decide +kernel
theorem dX10_addVoter_16 : decode cX10_addVoter 16 = .ok (.aload_n 0, 1) := by decide +kernel
theorem dX10_addVoter_17 : decode cX10_addVoter 17 = .ok (.getfield 41, 3) := by decide +kernel
theorem dX10_addVoter_20 : decode cX10_addVoter 20 = .ok (.iload_n 2, 1) := by decide +kernel
theorem dX10_addVoter_21 : decode cX10_addVoter 21 = .ok (.invokestatic 51, 3) := by decide +kernel
theorem dX10_addVoter_24 : decode cX10_addVoter 24 = .ok (.aload_n 0, 1) := by decide +kernel
theorem dX10_addVoter_25 : decode cX10_addVoter 25 = .ok (.dup, 1) := by decide +kernel
theorem dX10_addVoter_26 : decode cX10_addVoter 26 = .ok (.getfield 41, 3) := by decide +kernel
theorem dX10_addVoter_29 : decode cX10_addVoter 29 = .ok (.iconst 1, 1) := by decide +kernel
theorem dX10_addVoter_30 : decode cX10_addVoter 30 = .ok (.iadd, 1) := by decide +kernel
theorem dX10_addVoter_31 : decode cX10_addVoter 31 = .ok (.putfield 41, 3) := by decide +kernel
theorem dX10_addVoter_34 : decode cX10_addVoter 34 = .ok (.return_, 1) := by decide +kernel
theorem dX10_tellBallot_0 : decode cX10_tellBallot 0 = .ok (.iload_n 1, 1) := by decide +kernel
theorem dX10_tellBallot_1 : decode cX10_tellBallot 1 = .ok (.ifCond .lt 31, 3) := by decide +kernel
theorem dX10_tellBallot_4 : decode cX10_tellBallot 4 = .ok (.iload_n 1, 1) := by decide +kernel
theorem dX10_tellBallot_5 : decode cX10_tellBallot 5 = .ok (.aload_n 0, 1) := by decide +kernel
theorem dX10_tellBallot_6 : decode cX10_tellBallot 6 = .ok (.getfield 30, 3) := by decide +kernel
theorem dX10_tellBallot_9 : decode cX10_tellBallot 9 = .ok (.arraylength, 1) := by decide +kernel
theorem dX10_tellBallot_10 : decode cX10_tellBallot 10 = .ok (.if_icmp .ge 22, 3) := by decide +kernel
theorem dX10_tellBallot_13 : decode cX10_tellBallot 13 = .ok (.aload_n 0, 1) := by decide +kernel
theorem dX10_tellBallot_14 : decode cX10_tellBallot 14 = .ok (.getfield 30, 3) := by decide +kernel
theorem dX10_tellBallot_17 : decode cX10_tellBallot 17 = .ok (.iload_n 1, 1) := by decide +kernel
theorem dX10_tellBallot_18 : decode cX10_tellBallot 18 = .ok (.aload_n 2, 1) := by decide +kernel
theorem dX10_tellBallot_19 : decode cX10_tellBallot 19 = .ok (.aastore, 1) := by decide +kernel
theorem dX10_tellBallot_20 : decode cX10_tellBallot 20 = .ok (.aload_n 0, 1) := by decide +kernel
theorem dX10_tellBallot_21 : decode cX10_tellBallot 21 = .ok (.dup, 1) := by decide +kernel
theorem dX10_tellBallot_22 : decode cX10_tellBallot 22 = .ok (.getfield 44, 3) := by decide +kernel
theorem dX10_tellBallot_25 : decode cX10_tellBallot 25 = .ok (.iconst 1, 1) := by decide +kernel
theorem dX10_tellBallot_26 : decode cX10_tellBallot 26 = .ok (.iload_n 1, 1) := by decide +kernel
theorem dX10_tellBallot_27 : decode cX10_tellBallot 27 = .ok (.ishl, 1) := by decide +kernel
theorem dX10_tellBallot_28 : decode cX10_tellBallot 28 = .ok (.ior, 1) := by decide +kernel
theorem dX10_tellBallot_29 : decode cX10_tellBallot 29 = .ok (.putfield 44, 3) := by decide +kernel
theorem dX10_tellBallot_32 : decode cX10_tellBallot 32 = .ok (.return_, 1) := by decide +kernel
theorem dX10_hasName_0 : decode cX10_hasName 0 = .ok (.iload_n 1, 1) := by decide +kernel
theorem dX10_hasName_1 : decode cX10_hasName 1 = .ok (.ifCond .lt 15, 3) := by decide +kernel
theorem dX10_hasName_4 : decode cX10_hasName 4 = .ok (.iload_n 1, 1) := by decide +kernel
theorem dX10_hasName_5 : decode cX10_hasName 5 = .ok (.aload_n 0, 1) := by decide +kernel
theorem dX10_hasName_6 : decode cX10_hasName 6 = .ok (.getfield 34, 3) := by decide +kernel
theorem dX10_hasName_9 : decode cX10_hasName 9 = .ok (.if_icmp .ge 7, 3) := by decide +kernel
theorem dX10_hasName_12 : decode cX10_hasName 12 = .ok (.iconst 1, 1) := by decide +kernel
theorem dX10_hasName_13 : decode cX10_hasName 13 = .ok (.goto 4, 3) := by decide +kernel
theorem dX10_hasName_16 : decode cX10_hasName 16 = .ok (.iconst 0, 1) := by decide +kernel
theorem dX10_hasName_17 : decode cX10_hasName 17 = .ok (.ireturn, 1) := by decide +kernel
theorem dX10_hasVoter_0 : decode cX10_hasVoter 0 = .ok (.iload_n 1, 1) := by decide +kernel
theorem dX10_hasVoter_1 : decode cX10_hasVoter 1 = .ok (.ifCond .lt 15, 3) := by decide +kernel
theorem dX10_hasVoter_4 : decode cX10_hasVoter 4 = .ok (.iload_n 1, 1) := by decide +kernel
theorem dX10_hasVoter_5 : decode cX10_hasVoter 5 = .ok (.aload_n 0, 1) := by decide +kernel
theorem dX10_hasVoter_6 : decode cX10_hasVoter 6 = .ok (.getfield 41, 3) := by decide +kernel
theorem dX10_hasVoter_9 : decode cX10_hasVoter 9 = .ok (.if_icmp .ge 7, 3) := by decide +kernel
theorem dX10_hasVoter_12 : decode cX10_hasVoter 12 = .ok (.iconst 1, 1) := by decide +kernel
theorem dX10_hasVoter_13 : decode cX10_hasVoter 13 = .ok (.goto 4, 3) := by decide +kernel
theorem dX10_hasVoter_16 : decode cX10_hasVoter 16 = .ok (.iconst 0, 1) := by decide +kernel
theorem dX10_hasVoter_17 : decode cX10_hasVoter 17 = .ok (.ireturn, 1) := by decide +kernel
theorem dX10_hasMark_0 : decode cX10_hasMark 0 = .ok (.iload_n 1, 1) := by decide +kernel
theorem dX10_hasMark_1 : decode cX10_hasMark 1 = .ok (.ifCond .lt 15, 3) := by decide +kernel
theorem dX10_hasMark_4 : decode cX10_hasMark 4 = .ok (.iload_n 1, 1) := by decide +kernel
theorem dX10_hasMark_5 : decode cX10_hasMark 5 = .ok (.aload_n 0, 1) := by decide +kernel
theorem dX10_hasMark_6 : decode cX10_hasMark 6 = .ok (.getfield 34, 3) := by decide +kernel
theorem dX10_hasMark_9 : decode cX10_hasMark 9 = .ok (.if_icmp .gt 7, 3) := by decide +kernel
theorem dX10_hasMark_12 : decode cX10_hasMark 12 = .ok (.iconst 1, 1) := by decide +kernel
theorem dX10_hasMark_13 : decode cX10_hasMark 13 = .ok (.goto 4, 3) := by decide +kernel
theorem dX10_hasMark_16 : decode cX10_hasMark 16 = .ok (.iconst 0, 1) := by decide +kernel
theorem dX10_hasMark_17 : decode cX10_hasMark 17 = .ok (.ireturn, 1) := by decide +kernel
theorem dX10_shiftOf_0 : decode cX10_shiftOf 0 = .ok (.iconst 2, 1) := by decide +kernel
theorem dX10_shiftOf_1 : decode cX10_shiftOf 1 = .ok (.aload_n 0, 1) := by decide +kernel
theorem dX10_shiftOf_2 : decode cX10_shiftOf 2 = .ok (.getfield 41, 3) := by decide +kernel
theorem dX10_shiftOf_5 : decode cX10_shiftOf 5 = .ok (.iconst 1, 1) := by decide +kernel
theorem dX10_shiftOf_6 : decode cX10_shiftOf 6 = .ok (.isub, 1) := by decide +kernel
theorem dX10_shiftOf_7 : decode cX10_shiftOf 7 = .ok (.iload_n 1, 1) := by decide +kernel
theorem dX10_shiftOf_8 : decode cX10_shiftOf 8 = .ok (.isub, 1) := by decide +kernel
theorem dX10_shiftOf_9 : decode cX10_shiftOf 9 = .ok (.imul, 1) := by decide +kernel
theorem dX10_shiftOf_10 : decode cX10_shiftOf 10 = .ok (.ireturn, 1) := by decide +kernel
theorem dX10_markOf_0 : decode cX10_markOf 0 = .ok (.iload_n 1, 1) := by decide +kernel
theorem dX10_markOf_1 : decode cX10_markOf 1 = .ok (.aload_n 0, 1) := by decide +kernel
theorem dX10_markOf_2 : decode cX10_markOf 2 = .ok (.iload_n 2, 1) := by decide +kernel
theorem dX10_markOf_3 : decode cX10_markOf 3 = .ok (.invokevirtual 59, 3) := by decide +kernel
theorem dX10_markOf_6 : decode cX10_markOf 6 = .ok (.ishr, 1) := by decide +kernel
theorem dX10_markOf_7 : decode cX10_markOf 7 = .ok (.iconst 3, 1) := by decide +kernel
theorem dX10_markOf_8 : decode cX10_markOf 8 = .ok (.iand, 1) := by decide +kernel
theorem dX10_markOf_9 : decode cX10_markOf 9 = .ok (.ireturn, 1) := by decide +kernel
theorem dX10_withMark_0 : decode cX10_withMark 0 = .ok (.iload_n 1, 1) := by decide +kernel
theorem dX10_withMark_1 : decode cX10_withMark 1 = .ok (.iconst 3, 1) := by decide +kernel
theorem dX10_withMark_2 : decode cX10_withMark 2 = .ok (.aload_n 0, 1) := by decide +kernel
theorem dX10_withMark_3 : decode cX10_withMark 3 = .ok (.iload_n 2, 1) := by decide +kernel
theorem dX10_withMark_4 : decode cX10_withMark 4 = .ok (.invokevirtual 59, 3) := by decide +kernel
theorem dX10_withMark_7 : decode cX10_withMark 7 = .ok (.ishl, 1) := by decide +kernel
theorem dX10_withMark_8 : decode cX10_withMark 8 = .ok (.iconst (-1), 1) := by decide +kernel
theorem dX10_withMark_9 : decode cX10_withMark 9 = .ok (.ixor, 1) := by decide +kernel
theorem dX10_withMark_10 : decode cX10_withMark 10 = .ok (.iand, 1) := by decide +kernel
theorem dX10_withMark_11 : decode cX10_withMark 11 = .ok (.iload_n 3, 1) := by decide +kernel
theorem dX10_withMark_12 : decode cX10_withMark 12 = .ok (.aload_n 0, 1) := by decide +kernel
theorem dX10_withMark_13 : decode cX10_withMark 13 = .ok (.iload_n 2, 1) := by decide +kernel
theorem dX10_withMark_14 : decode cX10_withMark 14 = .ok (.invokevirtual 59, 3) := by decide +kernel
theorem dX10_withMark_17 : decode cX10_withMark 17 = .ok (.ishl, 1) := by decide +kernel
theorem dX10_withMark_18 : decode cX10_withMark 18 = .ok (.ior, 1) := by decide +kernel
theorem dX10_withMark_19 : decode cX10_withMark 19 = .ok (.ireturn, 1) := by decide +kernel
theorem dX10_canBe_0 : decode cX10_canBe 0 = .ok (.aload_n 0, 1) := by decide +kernel
theorem dX10_canBe_1 : decode cX10_canBe 1 = .ok (.getfield 34, 3) := by decide +kernel
theorem dX10_canBe_4 : decode cX10_canBe 4 = .ok (.tableswitch 69 0 2 #[28, 38, 51], 28) := by decide +kernel
theorem dX10_canBe_32 : decode cX10_canBe 32 = .ok (.iload_n 1, 1) := by decide +kernel
theorem dX10_canBe_33 : decode cX10_canBe 33 = .ok (.ifCond .ne 7, 3) := by decide +kernel
theorem dX10_canBe_36 : decode cX10_canBe 36 = .ok (.iconst 1, 1) := by decide +kernel
theorem dX10_canBe_37 : decode cX10_canBe 37 = .ok (.goto 4, 3) := by decide +kernel
theorem dX10_canBe_40 : decode cX10_canBe 40 = .ok (.iconst 0, 1) := by decide +kernel
theorem dX10_canBe_41 : decode cX10_canBe 41 = .ok (.ireturn, 1) := by decide +kernel
theorem dX10_canBe_42 : decode cX10_canBe 42 = .ok (.iload_n 1, 1) := by decide +kernel
theorem dX10_canBe_43 : decode cX10_canBe 43 = .ok (.ldc 63, 2) := by decide +kernel
theorem dX10_canBe_45 : decode cX10_canBe 45 = .ok (.iand, 1) := by decide +kernel
theorem dX10_canBe_46 : decode cX10_canBe 46 = .ok (.ifCond .ne 7, 3) := by decide +kernel
theorem dX10_canBe_49 : decode cX10_canBe 49 = .ok (.iconst 1, 1) := by decide +kernel
theorem dX10_canBe_50 : decode cX10_canBe 50 = .ok (.goto 4, 3) := by decide +kernel
theorem dX10_canBe_53 : decode cX10_canBe 53 = .ok (.iconst 0, 1) := by decide +kernel
theorem dX10_canBe_54 : decode cX10_canBe 54 = .ok (.ireturn, 1) := by decide +kernel
theorem dX10_canBe_55 : decode cX10_canBe 55 = .ok (.iload_n 1, 1) := by decide +kernel
theorem dX10_canBe_56 : decode cX10_canBe 56 = .ok (.iload_n 1, 1) := by decide +kernel
theorem dX10_canBe_57 : decode cX10_canBe 57 = .ok (.iconst 1, 1) := by decide +kernel
theorem dX10_canBe_58 : decode cX10_canBe 58 = .ok (.ishr, 1) := by decide +kernel
theorem dX10_canBe_59 : decode cX10_canBe 59 = .ok (.iand, 1) := by decide +kernel
theorem dX10_canBe_60 : decode cX10_canBe 60 = .ok (.sipush 21845, 3) := by decide +kernel
theorem dX10_canBe_63 : decode cX10_canBe 63 = .ok (.iand, 1) := by decide +kernel
theorem dX10_canBe_64 : decode cX10_canBe 64 = .ok (.ifCond .ne 7, 3) := by decide +kernel
theorem dX10_canBe_67 : decode cX10_canBe 67 = .ok (.iconst 1, 1) := by decide +kernel
theorem dX10_canBe_68 : decode cX10_canBe 68 = .ok (.goto 4, 3) := by decide +kernel
theorem dX10_canBe_71 : decode cX10_canBe 71 = .ok (.iconst 0, 1) := by decide +kernel
theorem dX10_canBe_72 : decode cX10_canBe 72 = .ok (.ireturn, 1) := by decide +kernel
theorem dX10_canBe_73 : decode cX10_canBe 73 = .ok (.iconst 1, 1) := by decide +kernel
theorem dX10_canBe_74 : decode cX10_canBe 74 = .ok (.ireturn, 1) := by decide +kernel
theorem dX10_bitsInRows_0 : decode cX10_bitsInRows 0 = .ok (.iconst 0, 1) := by decide +kernel
theorem dX10_bitsInRows_1 : decode cX10_bitsInRows 1 = .ok (.istore_n 2, 1) := by decide +kernel
theorem dX10_bitsInRows_2 : decode cX10_bitsInRows 2 = .ok (.iconst 0, 1) := by decide +kernel
theorem dX10_bitsInRows_3 : decode cX10_bitsInRows 3 = .ok (.istore_n 3, 1) := by decide +kernel
theorem dX10_bitsInRows_4 : decode cX10_bitsInRows 4 = .ok (.iload_n 3, 1) := by decide +kernel
theorem dX10_bitsInRows_5 : decode cX10_bitsInRows 5 = .ok (.aload_n 0, 1) := by decide +kernel
theorem dX10_bitsInRows_6 : decode cX10_bitsInRows 6 = .ok (.getfield 41, 3) := by decide +kernel
theorem dX10_bitsInRows_9 : decode cX10_bitsInRows 9 = .ok (.if_icmp .ge 28, 3) := by decide +kernel
theorem dX10_bitsInRows_12 : decode cX10_bitsInRows 12 = .ok (.iload_n 1, 1) := by decide +kernel
theorem dX10_bitsInRows_13 : decode cX10_bitsInRows 13 = .ok (.iload_n 3, 1) := by decide +kernel
theorem dX10_bitsInRows_14 : decode cX10_bitsInRows 14 = .ok (.ishr, 1) := by decide +kernel
theorem dX10_bitsInRows_15 : decode cX10_bitsInRows 15 = .ok (.iconst 1, 1) := by decide +kernel
theorem dX10_bitsInRows_16 : decode cX10_bitsInRows 16 = .ok (.iand, 1) := by decide +kernel
theorem dX10_bitsInRows_17 : decode cX10_bitsInRows 17 = .ok (.iconst 1, 1) := by decide +kernel
theorem dX10_bitsInRows_18 : decode cX10_bitsInRows 18 = .ok (.if_icmp .ne 13, 3) := by decide +kernel
theorem dX10_bitsInRows_21 : decode cX10_bitsInRows 21 = .ok (.iload_n 2, 1) := by decide +kernel
theorem dX10_bitsInRows_22 : decode cX10_bitsInRows 22 = .ok (.iconst 3, 1) := by decide +kernel
theorem dX10_bitsInRows_23 : decode cX10_bitsInRows 23 = .ok (.aload_n 0, 1) := by decide +kernel
theorem dX10_bitsInRows_24 : decode cX10_bitsInRows 24 = .ok (.iload_n 3, 1) := by decide +kernel
theorem dX10_bitsInRows_25 : decode cX10_bitsInRows 25 = .ok (.invokevirtual 59, 3) := by decide +kernel
theorem dX10_bitsInRows_28 : decode cX10_bitsInRows 28 = .ok (.ishl, 1) := by decide +kernel
theorem dX10_bitsInRows_29 : decode cX10_bitsInRows 29 = .ok (.ior, 1) := by decide +kernel
theorem dX10_bitsInRows_30 : decode cX10_bitsInRows 30 = .ok (.istore_n 2, 1) := by decide +kernel
theorem dX10_bitsInRows_31 : decode cX10_bitsInRows 31 = .ok (.iinc 3 1, 3) := by decide +kernel
theorem dX10_bitsInRows_34 : decode cX10_bitsInRows 34 = .ok (.goto (-30), 3) := by decide +kernel
theorem dX10_bitsInRows_37 : decode cX10_bitsInRows 37 = .ok (.iload_n 2, 1) := by decide +kernel
theorem dX10_bitsInRows_38 : decode cX10_bitsInRows 38 = .ok (.ireturn, 1) := by decide +kernel
theorem dX10_looksOf_0 : decode cX10_looksOf 0 = .ok (.aload_n 2, 1) := by decide +kernel
theorem dX10_looksOf_1 : decode cX10_looksOf 1 = .ok (.getfield 64, 3) := by decide +kernel
theorem dX10_looksOf_4 : decode cX10_looksOf 4 = .ok (.istore_n 3, 1) := by decide +kernel
theorem dX10_looksOf_5 : decode cX10_looksOf 5 = .ok (.iconst 0, 1) := by decide +kernel
theorem dX10_looksOf_6 : decode cX10_looksOf 6 = .ok (.istore 4, 2) := by decide +kernel
theorem dX10_looksOf_8 : decode cX10_looksOf 8 = .ok (.iload 4, 2) := by decide +kernel
theorem dX10_looksOf_10 : decode cX10_looksOf 10 = .ok (.aload_n 0, 1) := by decide +kernel
theorem dX10_looksOf_11 : decode cX10_looksOf 11 = .ok (.getfield 41, 3) := by decide +kernel
theorem dX10_looksOf_14 : decode cX10_looksOf 14 = .ok (.if_icmp .ge 43, 3) := by decide +kernel
theorem dX10_looksOf_17 : decode cX10_looksOf 17 = .ok (.iconst 1, 1) := by decide +kernel
theorem dX10_looksOf_18 : decode cX10_looksOf 18 = .ok (.iconst 1, 1) := by decide +kernel
theorem dX10_looksOf_19 : decode cX10_looksOf 19 = .ok (.aload_n 0, 1) := by decide +kernel
theorem dX10_looksOf_20 : decode cX10_looksOf 20 = .ok (.getfield 21, 3) := by decide +kernel
theorem dX10_looksOf_23 : decode cX10_looksOf 23 = .ok (.iload 4, 2) := by decide +kernel
theorem dX10_looksOf_25 : decode cX10_looksOf 25 = .ok (.invokestatic 47, 3) := by decide +kernel
theorem dX10_looksOf_28 : decode cX10_looksOf 28 = .ok (.iconst 1, 1) := by decide +kernel
theorem dX10_looksOf_29 : decode cX10_looksOf 29 = .ok (.iadd, 1) := by decide +kernel
theorem dX10_looksOf_30 : decode cX10_looksOf 30 = .ok (.ishl, 1) := by decide +kernel
theorem dX10_looksOf_31 : decode cX10_looksOf 31 = .ok (.ior, 1) := by decide +kernel
theorem dX10_looksOf_32 : decode cX10_looksOf 32 = .ok (.istore 5, 2) := by decide +kernel
theorem dX10_looksOf_34 : decode cX10_looksOf 34 = .ok (.aload_n 2, 1) := by decide +kernel
theorem dX10_looksOf_35 : decode cX10_looksOf 35 = .ok (.getfield 65, 3) := by decide +kernel
theorem dX10_looksOf_38 : decode cX10_looksOf 38 = .ok (.iload 5, 2) := by decide +kernel
theorem dX10_looksOf_40 : decode cX10_looksOf 40 = .ok (.iand, 1) := by decide +kernel
theorem dX10_looksOf_41 : decode cX10_looksOf 41 = .ok (.ifCond .eq 10, 3) := by decide +kernel
theorem dX10_looksOf_44 : decode cX10_looksOf 44 = .ok (.iload_n 3, 1) := by decide +kernel
theorem dX10_looksOf_45 : decode cX10_looksOf 45 = .ok (.iconst 1, 1) := by decide +kernel
theorem dX10_looksOf_46 : decode cX10_looksOf 46 = .ok (.iload 4, 2) := by decide +kernel
theorem dX10_looksOf_48 : decode cX10_looksOf 48 = .ok (.ishl, 1) := by decide +kernel
theorem dX10_looksOf_49 : decode cX10_looksOf 49 = .ok (.ior, 1) := by decide +kernel
theorem dX10_looksOf_50 : decode cX10_looksOf 50 = .ok (.istore_n 3, 1) := by decide +kernel
theorem dX10_looksOf_51 : decode cX10_looksOf 51 = .ok (.iinc 4 1, 3) := by decide +kernel
theorem dX10_looksOf_54 : decode cX10_looksOf 54 = .ok (.goto (-46), 3) := by decide +kernel
theorem dX10_looksOf_57 : decode cX10_looksOf 57 = .ok (.iload_n 3, 1) := by decide +kernel
theorem dX10_looksOf_58 : decode cX10_looksOf 58 = .ok (.iconst 1, 1) := by decide +kernel
theorem dX10_looksOf_59 : decode cX10_looksOf 59 = .ok (.iload_n 1, 1) := by decide +kernel
theorem dX10_looksOf_60 : decode cX10_looksOf 60 = .ok (.ishl, 1) := by decide +kernel
theorem dX10_looksOf_61 : decode cX10_looksOf 61 = .ok (.iconst (-1), 1) := by decide +kernel
theorem dX10_looksOf_62 : decode cX10_looksOf 62 = .ok (.ixor, 1) := by decide +kernel
theorem dX10_looksOf_63 : decode cX10_looksOf 63 = .ok (.iand, 1) := by decide +kernel
theorem dX10_looksOf_64 : decode cX10_looksOf 64 = .ok (.ireturn, 1) := by decide +kernel
theorem dX10_votes_0 : decode cX10_votes 0 = .ok (.iconst 0, 1) := by decide +kernel
theorem dX10_votes_1 : decode cX10_votes 1 = .ok (.istore 5, 2) := by decide +kernel
theorem dX10_votes_3 : decode cX10_votes 3 = .ok (.iload_n 1, 1) := by decide +kernel
theorem dX10_votes_4 : decode cX10_votes 4 = .ok (.istore 6, 2) := by decide +kernel
theorem dX10_votes_6 : decode cX10_votes 6 = .ok (.aload_n 0, 1) := by decide +kernel
theorem dX10_votes_7 : decode cX10_votes 7 = .ok (.getfield 41, 3) := by decide +kernel
theorem dX10_votes_10 : decode cX10_votes 10 = .ok (.iconst 1, 1) := by decide +kernel
theorem dX10_votes_11 : decode cX10_votes 11 = .ok (.isub, 1) := by decide +kernel
theorem dX10_votes_12 : decode cX10_votes 12 = .ok (.istore 7, 2) := by decide +kernel
theorem dX10_votes_14 : decode cX10_votes 14 = .ok (.iload 7, 2) := by decide +kernel
theorem dX10_votes_16 : decode cX10_votes 16 = .ok (.ifCond .lt 79, 3) := by decide +kernel
theorem dX10_votes_19 : decode cX10_votes 19 = .ok (.iload 6, 2) := by decide +kernel
theorem dX10_votes_21 : decode cX10_votes 21 = .ok (.iconst 3, 1) := by decide +kernel
theorem dX10_votes_22 : decode cX10_votes 22 = .ok (.iand, 1) := by decide +kernel
theorem dX10_votes_23 : decode cX10_votes 23 = .ok (.iload 4, 2) := by decide +kernel
theorem dX10_votes_25 : decode cX10_votes 25 = .ok (.if_icmp .ne 58, 3) := by decide +kernel
theorem dX10_votes_28 : decode cX10_votes 28 = .ok (.iload 7, 2) := by decide +kernel
theorem dX10_votes_30 : decode cX10_votes 30 = .ok (.iload_n 2, 1) := by decide +kernel
theorem dX10_votes_31 : decode cX10_votes 31 = .ok (.if_icmp .eq 52, 3) := by decide +kernel
theorem dX10_votes_34 : decode cX10_votes 34 = .ok (.iload_n 3, 1) := by decide +kernel
theorem dX10_votes_35 : decode cX10_votes 35 = .ok (.ifCond .eq 18, 3) := by decide +kernel
theorem dX10_votes_38 : decode cX10_votes 38 = .ok (.iload_n 3, 1) := by decide +kernel
theorem dX10_votes_39 : decode cX10_votes 39 = .ok (.aload_n 0, 1) := by decide +kernel
theorem dX10_votes_40 : decode cX10_votes 40 = .ok (.getfield 21, 3) := by decide +kernel
theorem dX10_votes_43 : decode cX10_votes 43 = .ok (.iload 7, 2) := by decide +kernel
theorem dX10_votes_45 : decode cX10_votes 45 = .ok (.invokestatic 47, 3) := by decide +kernel
theorem dX10_votes_48 : decode cX10_votes 48 = .ok (.iconst 1, 1) := by decide +kernel
theorem dX10_votes_49 : decode cX10_votes 49 = .ok (.iadd, 1) := by decide +kernel
theorem dX10_votes_50 : decode cX10_votes 50 = .ok (.if_icmp .ne 7, 3) := by decide +kernel
theorem dX10_votes_53 : decode cX10_votes 53 = .ok (.iconst 1, 1) := by decide +kernel
theorem dX10_votes_54 : decode cX10_votes 54 = .ok (.goto 4, 3) := by decide +kernel
theorem dX10_votes_57 : decode cX10_votes 57 = .ok (.iconst 0, 1) := by decide +kernel
theorem dX10_votes_58 : decode cX10_votes 58 = .ok (.istore 8, 2) := by decide +kernel
theorem dX10_votes_60 : decode cX10_votes 60 = .ok (.iload 5, 2) := by decide +kernel
theorem dX10_votes_62 : decode cX10_votes 62 = .ok (.iload 8, 2) := by decide +kernel
theorem dX10_votes_64 : decode cX10_votes 64 = .ok (.ifCond .eq 15, 3) := by decide +kernel
theorem dX10_votes_67 : decode cX10_votes 67 = .ok (.aload_n 0, 1) := by decide +kernel
theorem dX10_votes_68 : decode cX10_votes 68 = .ok (.getfield 25, 3) := by decide +kernel
theorem dX10_votes_71 : decode cX10_votes 71 = .ok (.iload 7, 2) := by decide +kernel
theorem dX10_votes_73 : decode cX10_votes 73 = .ok (.invokestatic 47, 3) := by decide +kernel
theorem dX10_votes_76 : decode cX10_votes 76 = .ok (.goto 4, 3) := by decide +kernel
theorem dX10_votes_79 : decode cX10_votes 79 = .ok (.iconst 0, 1) := by decide +kernel
theorem dX10_votes_80 : decode cX10_votes 80 = .ok (.iadd, 1) := by decide +kernel
theorem dX10_votes_81 : decode cX10_votes 81 = .ok (.istore 5, 2) := by decide +kernel
theorem dX10_votes_83 : decode cX10_votes 83 = .ok (.iload 6, 2) := by decide +kernel
theorem dX10_votes_85 : decode cX10_votes 85 = .ok (.iconst 2, 1) := by decide +kernel
theorem dX10_votes_86 : decode cX10_votes 86 = .ok (.ishr, 1) := by decide +kernel
theorem dX10_votes_87 : decode cX10_votes 87 = .ok (.istore 6, 2) := by decide +kernel
theorem dX10_votes_89 : decode cX10_votes 89 = .ok (.iinc 7 (-1), 3) := by decide +kernel
theorem dX10_votes_92 : decode cX10_votes 92 = .ok (.goto (-78), 3) := by decide +kernel
theorem dX10_votes_95 : decode cX10_votes 95 = .ok (.iload 5, 2) := by decide +kernel
theorem dX10_votes_97 : decode cX10_votes 97 = .ok (.ireturn, 1) := by decide +kernel
theorem dX10_mostVoted_0 : decode cX10_mostVoted 0 = .ok (.iconst 0, 1) := by decide +kernel
theorem dX10_mostVoted_1 : decode cX10_mostVoted 1 = .ok (.istore 4, 2) := by decide +kernel
theorem dX10_mostVoted_3 : decode cX10_mostVoted 3 = .ok (.iconst 0, 1) := by decide +kernel
theorem dX10_mostVoted_4 : decode cX10_mostVoted 4 = .ok (.istore 5, 2) := by decide +kernel
theorem dX10_mostVoted_6 : decode cX10_mostVoted 6 = .ok (.iconst 1, 1) := by decide +kernel
theorem dX10_mostVoted_7 : decode cX10_mostVoted 7 = .ok (.istore 6, 2) := by decide +kernel
theorem dX10_mostVoted_9 : decode cX10_mostVoted 9 = .ok (.iload 6, 2) := by decide +kernel
theorem dX10_mostVoted_11 : decode cX10_mostVoted 11 = .ok (.aload_n 0, 1) := by decide +kernel
theorem dX10_mostVoted_12 : decode cX10_mostVoted 12 = .ok (.getfield 34, 3) := by decide +kernel
theorem dX10_mostVoted_15 : decode cX10_mostVoted 15 = .ok (.if_icmp .gt 35, 3) := by decide +kernel
theorem dX10_mostVoted_18 : decode cX10_mostVoted 18 = .ok (.aload_n 0, 1) := by decide +kernel
theorem dX10_mostVoted_19 : decode cX10_mostVoted 19 = .ok (.iload_n 1, 1) := by decide +kernel
theorem dX10_mostVoted_20 : decode cX10_mostVoted 20 = .ok (.iload_n 2, 1) := by decide +kernel
theorem dX10_mostVoted_21 : decode cX10_mostVoted 21 = .ok (.iload_n 3, 1) := by decide +kernel
theorem dX10_mostVoted_22 : decode cX10_mostVoted 22 = .ok (.iload 6, 2) := by decide +kernel
theorem dX10_mostVoted_24 : decode cX10_mostVoted 24 = .ok (.invokevirtual 66, 3) := by decide +kernel
theorem dX10_mostVoted_27 : decode cX10_mostVoted 27 = .ok (.istore 7, 2) := by decide +kernel
theorem dX10_mostVoted_29 : decode cX10_mostVoted 29 = .ok (.iload 7, 2) := by decide +kernel
theorem dX10_mostVoted_31 : decode cX10_mostVoted 31 = .ok (.iload 5, 2) := by decide +kernel
theorem dX10_mostVoted_33 : decode cX10_mostVoted 33 = .ok (.if_icmp .le 11, 3) := by decide +kernel
theorem dX10_mostVoted_36 : decode cX10_mostVoted 36 = .ok (.iload 6, 2) := by decide +kernel
theorem dX10_mostVoted_38 : decode cX10_mostVoted 38 = .ok (.istore 4, 2) := by decide +kernel
theorem dX10_mostVoted_40 : decode cX10_mostVoted 40 = .ok (.iload 7, 2) := by decide +kernel
theorem dX10_mostVoted_42 : decode cX10_mostVoted 42 = .ok (.istore 5, 2) := by decide +kernel
theorem dX10_mostVoted_44 : decode cX10_mostVoted 44 = .ok (.iinc 6 1, 3) := by decide +kernel
theorem dX10_mostVoted_47 : decode cX10_mostVoted 47 = .ok (.goto (-38), 3) := by decide +kernel
theorem dX10_mostVoted_50 : decode cX10_mostVoted 50 = .ok (.iload 4, 2) := by decide +kernel
theorem dX10_mostVoted_52 : decode cX10_mostVoted 52 = .ok (.ireturn, 1) := by decide +kernel
theorem dX10_fewestVoted_0 : decode cX10_fewestVoted 0 = .ok (.iconst 0, 1) := by decide +kernel
theorem dX10_fewestVoted_1 : decode cX10_fewestVoted 1 = .ok (.istore 4, 2) := by decide +kernel
theorem dX10_fewestVoted_3 : decode cX10_fewestVoted 3 = .ok (.iconst 0, 1) := by decide +kernel
theorem dX10_fewestVoted_4 : decode cX10_fewestVoted 4 = .ok (.istore 5, 2) := by decide +kernel
theorem dX10_fewestVoted_6 : decode cX10_fewestVoted 6 = .ok (.iconst 1, 1) := by decide +kernel
theorem dX10_fewestVoted_7 : decode cX10_fewestVoted 7 = .ok (.istore 6, 2) := by decide +kernel
theorem dX10_fewestVoted_9 : decode cX10_fewestVoted 9 = .ok (.iload 6, 2) := by decide +kernel
theorem dX10_fewestVoted_11 : decode cX10_fewestVoted 11 = .ok (.aload_n 0, 1) := by decide +kernel
theorem dX10_fewestVoted_12 : decode cX10_fewestVoted 12 = .ok (.getfield 34, 3) := by decide +kernel
theorem dX10_fewestVoted_15 : decode cX10_fewestVoted 15 = .ok (.if_icmp .gt 40, 3) := by decide +kernel
theorem dX10_fewestVoted_18 : decode cX10_fewestVoted 18 = .ok (.aload_n 0, 1) := by decide +kernel
theorem dX10_fewestVoted_19 : decode cX10_fewestVoted 19 = .ok (.iload_n 1, 1) := by decide +kernel
theorem dX10_fewestVoted_20 : decode cX10_fewestVoted 20 = .ok (.iload_n 2, 1) := by decide +kernel
theorem dX10_fewestVoted_21 : decode cX10_fewestVoted 21 = .ok (.iload_n 3, 1) := by decide +kernel
theorem dX10_fewestVoted_22 : decode cX10_fewestVoted 22 = .ok (.iload 6, 2) := by decide +kernel
theorem dX10_fewestVoted_24 : decode cX10_fewestVoted 24 = .ok (.invokevirtual 66, 3) := by decide +kernel
theorem dX10_fewestVoted_27 : decode cX10_fewestVoted 27 = .ok (.istore 7, 2) := by decide +kernel
theorem dX10_fewestVoted_29 : decode cX10_fewestVoted 29 = .ok (.iload 4, 2) := by decide +kernel
theorem dX10_fewestVoted_31 : decode cX10_fewestVoted 31 = .ok (.ifCond .eq 10, 3) := by decide +kernel
theorem dX10_fewestVoted_34 : decode cX10_fewestVoted 34 = .ok (.iload 7, 2) := by decide +kernel
theorem dX10_fewestVoted_36 : decode cX10_fewestVoted 36 = .ok (.iload 5, 2) := by decide +kernel
theorem dX10_fewestVoted_38 : decode cX10_fewestVoted 38 = .ok (.if_icmp .ge 11, 3) := by decide +kernel
theorem dX10_fewestVoted_41 : decode cX10_fewestVoted 41 = .ok (.iload 6, 2) := by decide +kernel
theorem dX10_fewestVoted_43 : decode cX10_fewestVoted 43 = .ok (.istore 4, 2) := by decide +kernel
theorem dX10_fewestVoted_45 : decode cX10_fewestVoted 45 = .ok (.iload 7, 2) := by decide +kernel
theorem dX10_fewestVoted_47 : decode cX10_fewestVoted 47 = .ok (.istore 5, 2) := by decide +kernel
theorem dX10_fewestVoted_49 : decode cX10_fewestVoted 49 = .ok (.iinc 6 1, 3) := by decide +kernel
theorem dX10_fewestVoted_52 : decode cX10_fewestVoted 52 = .ok (.goto (-43), 3) := by decide +kernel
theorem dX10_fewestVoted_55 : decode cX10_fewestVoted 55 = .ok (.iload 4, 2) := by decide +kernel
theorem dX10_fewestVoted_57 : decode cX10_fewestVoted 57 = .ok (.ireturn, 1) := by decide +kernel
theorem dX10_chosenIn_0 : decode cX10_chosenIn 0 = .ok (.iconst 0, 1) := by decide +kernel
theorem dX10_chosenIn_1 : decode cX10_chosenIn 1 = .ok (.istore_n 2, 1) := by decide +kernel
theorem dX10_chosenIn_2 : decode cX10_chosenIn 2 = .ok (.iconst 0, 1) := by decide +kernel
theorem dX10_chosenIn_3 : decode cX10_chosenIn 3 = .ok (.istore_n 3, 1) := by decide +kernel
theorem dX10_chosenIn_4 : decode cX10_chosenIn 4 = .ok (.iconst 1, 1) := by decide +kernel
theorem dX10_chosenIn_5 : decode cX10_chosenIn 5 = .ok (.istore 4, 2) := by decide +kernel
theorem dX10_chosenIn_7 : decode cX10_chosenIn 7 = .ok (.iload 4, 2) := by decide +kernel
theorem dX10_chosenIn_9 : decode cX10_chosenIn 9 = .ok (.aload_n 0, 1) := by decide +kernel
theorem dX10_chosenIn_10 : decode cX10_chosenIn 10 = .ok (.getfield 34, 3) := by decide +kernel
theorem dX10_chosenIn_13 : decode cX10_chosenIn 13 = .ok (.if_icmp .gt 43, 3) := by decide +kernel
theorem dX10_chosenIn_16 : decode cX10_chosenIn 16 = .ok (.aload_n 0, 1) := by decide +kernel
theorem dX10_chosenIn_17 : decode cX10_chosenIn 17 = .ok (.iload_n 1, 1) := by decide +kernel
theorem dX10_chosenIn_18 : decode cX10_chosenIn 18 = .ok (.iconst (-1), 1) := by decide +kernel
theorem dX10_chosenIn_19 : decode cX10_chosenIn 19 = .ok (.iconst 0, 1) := by decide +kernel
theorem dX10_chosenIn_20 : decode cX10_chosenIn 20 = .ok (.iload 4, 2) := by decide +kernel
theorem dX10_chosenIn_22 : decode cX10_chosenIn 22 = .ok (.invokevirtual 66, 3) := by decide +kernel
theorem dX10_chosenIn_25 : decode cX10_chosenIn 25 = .ok (.istore 5, 2) := by decide +kernel
theorem dX10_chosenIn_27 : decode cX10_chosenIn 27 = .ok (.iload 5, 2) := by decide +kernel
theorem dX10_chosenIn_29 : decode cX10_chosenIn 29 = .ok (.iload_n 3, 1) := by decide +kernel
theorem dX10_chosenIn_30 : decode cX10_chosenIn 30 = .ok (.if_icmp .le 12, 3) := by decide +kernel
theorem dX10_chosenIn_33 : decode cX10_chosenIn 33 = .ok (.iload 4, 2) := by decide +kernel
theorem dX10_chosenIn_35 : decode cX10_chosenIn 35 = .ok (.istore_n 2, 1) := by decide +kernel
theorem dX10_chosenIn_36 : decode cX10_chosenIn 36 = .ok (.iload 5, 2) := by decide +kernel
theorem dX10_chosenIn_38 : decode cX10_chosenIn 38 = .ok (.istore_n 3, 1) := by decide +kernel
theorem dX10_chosenIn_39 : decode cX10_chosenIn 39 = .ok (.goto 11, 3) := by decide +kernel
theorem dX10_chosenIn_42 : decode cX10_chosenIn 42 = .ok (.iload 5, 2) := by decide +kernel
theorem dX10_chosenIn_44 : decode cX10_chosenIn 44 = .ok (.iload_n 3, 1) := by decide +kernel
theorem dX10_chosenIn_45 : decode cX10_chosenIn 45 = .ok (.if_icmp .ne 5, 3) := by decide +kernel
theorem dX10_chosenIn_48 : decode cX10_chosenIn 48 = .ok (.iconst 0, 1) := by decide +kernel
theorem dX10_chosenIn_49 : decode cX10_chosenIn 49 = .ok (.istore_n 2, 1) := by decide +kernel
theorem dX10_chosenIn_50 : decode cX10_chosenIn 50 = .ok (.iinc 4 1, 3) := by decide +kernel
theorem dX10_chosenIn_53 : decode cX10_chosenIn 53 = .ok (.goto (-46), 3) := by decide +kernel
theorem dX10_chosenIn_56 : decode cX10_chosenIn 56 = .ok (.iload_n 2, 1) := by decide +kernel
theorem dX10_chosenIn_57 : decode cX10_chosenIn 57 = .ok (.ireturn, 1) := by decide +kernel
theorem dX11_init_0 : decode cX11_init 0 = .ok (.aload_n 0, 1) := by decide +kernel
theorem dX11_init_1 : decode cX11_init 1 = .ok (.invokespecial 1, 3) := by decide +kernel
theorem dX11_init_4 : decode cX11_init 4 = .ok (.aload_n 0, 1) := by decide +kernel
theorem dX11_init_5 : decode cX11_init 5 = .ok (.new 7, 3) := by decide +kernel
theorem dX11_init_8 : decode cX11_init 8 = .ok (.dup, 1) := by decide +kernel
theorem dX11_init_9 : decode cX11_init 9 = .ok (.invokespecial 9, 3) := by decide +kernel
theorem dX11_init_12 : decode cX11_init 12 = .ok (.putfield 10, 3) := by decide +kernel
theorem dX11_init_15 : decode cX11_init 15 = .ok (.aload_n 0, 1) := by decide +kernel
theorem dX11_init_16 : decode cX11_init 16 = .ok (.aload_n 0, 1) := by decide +kernel
theorem dX11_init_17 : decode cX11_init 17 = .ok (.getfield 10, 3) := by decide +kernel
theorem dX11_init_20 : decode cX11_init 20 = .ok (.getfield 16, 3) := by decide +kernel
theorem dX11_init_23 : decode cX11_init 23 = .ok (.putfield 20, 3) := by decide +kernel
theorem dX11_init_26 : decode cX11_init 26 = .ok (.aload_n 0, 1) := by decide +kernel
theorem dX11_init_27 : decode cX11_init 27 = .ok (.new 21, 3) := by decide +kernel
theorem dX11_init_30 : decode cX11_init 30 = .ok (.dup, 1) := by decide +kernel
theorem dX11_init_31 : decode cX11_init 31 = .ok (.invokespecial 23, 3) := by decide +kernel
theorem dX11_init_34 : decode cX11_init 34 = .ok (.putfield 24, 3) := by decide +kernel
theorem dX11_init_37 : decode cX11_init 37 = .ok (.aload_n 0, 1) := by decide +kernel
theorem dX11_init_38 : decode cX11_init 38 = .ok (.new 28, 3) := by decide +kernel
theorem dX11_init_41 : decode cX11_init 41 = .ok (.dup, 1) := by decide +kernel
theorem dX11_init_42 : decode cX11_init 42 = .ok (.invokespecial 30, 3) := by decide +kernel
theorem dX11_init_45 : decode cX11_init 45 = .ok (.putfield 31, 3) := by decide +kernel
theorem dX11_init_48 : decode cX11_init 48 = .ok (.aload_n 0, 1) := by decide +kernel
theorem dX11_init_49 : decode cX11_init 49 = .ok (.new 35, 3) := by decide +kernel
theorem dX11_init_52 : decode cX11_init 52 = .ok (.dup, 1) := by decide +kernel
theorem dX11_init_53 : decode cX11_init 53 = .ok (.invokespecial 37, 3) := by decide +kernel
theorem dX11_init_56 : decode cX11_init 56 = .ok (.putfield 38, 3) := by decide +kernel
theorem dX11_init_59 : decode cX11_init 59 = .ok (.aload_n 0, 1) := by decide +kernel
theorem dX11_init_60 : decode cX11_init 60 = .ok (.new 42, 3) := by decide +kernel
theorem dX11_init_63 : decode cX11_init 63 = .ok (.dup, 1) := by decide +kernel
theorem dX11_init_64 : decode cX11_init 64 = .ok (.invokespecial 44, 3) := by decide +kernel
theorem dX11_init_67 : decode cX11_init 67 = .ok (.putfield 45, 3) := by decide +kernel
theorem dX11_init_70 : decode cX11_init 70 = .ok (.aload_n 0, 1) := by decide +kernel
theorem dX11_init_71 : decode cX11_init 71 = .ok (.new 49, 3) := by decide +kernel
theorem dX11_init_74 : decode cX11_init 74 = .ok (.dup, 1) := by decide +kernel
theorem dX11_init_75 : decode cX11_init 75 = .ok (.invokespecial 51, 3) := by decide +kernel
theorem dX11_init_78 : decode cX11_init 78 = .ok (.putfield 52, 3) := by decide +kernel
theorem dX11_init_81 : decode cX11_init 81 = .ok (.aload_n 0, 1) := by decide +kernel
theorem dX11_init_82 : decode cX11_init 82 = .ok (.new 56, 3) := by decide +kernel
theorem dX11_init_85 : decode cX11_init 85 = .ok (.dup, 1) := by decide +kernel
theorem dX11_init_86 : decode cX11_init 86 = .ok (.invokespecial 58, 3) := by decide +kernel
theorem dX11_init_89 : decode cX11_init 89 = .ok (.putfield 59, 3) := by decide +kernel
theorem dX11_init_92 : decode cX11_init 92 = .ok (.aload_n 0, 1) := by decide +kernel
theorem dX11_init_93 : decode cX11_init 93 = .ok (.new 63, 3) := by decide +kernel
theorem dX11_init_96 : decode cX11_init 96 = .ok (.dup, 1) := by decide +kernel
theorem dX11_init_97 : decode cX11_init 97 = .ok (.invokespecial 65, 3) := by decide +kernel
theorem dX11_init_100 : decode cX11_init 100 = .ok (.putfield 66, 3) := by decide +kernel
theorem dX11_init_103 : decode cX11_init 103 = .ok (.aload_n 0, 1) := by decide +kernel
theorem dX11_init_104 : decode cX11_init 104 = .ok (.iconst 3, 1) := by decide +kernel
theorem dX11_init_105 : decode cX11_init 105 = .ok (.anewarray 63, 3) := by decide +kernel
theorem dX11_init_108 : decode cX11_init 108 = .ok (.putfield 70, 3) := by decide +kernel
theorem dX11_init_111 : decode cX11_init 111 = .ok (.iconst 0, 1) := by decide +kernel
theorem dX11_init_112 : decode cX11_init 112 = .ok (.istore_n 1, 1) := by decide +kernel
theorem dX11_init_113 : decode cX11_init 113 = .ok (.iload_n 1, 1) := by decide +kernel
theorem dX11_init_114 : decode cX11_init 114 = .ok (.aload_n 0, 1) := by decide +kernel
theorem dX11_init_115 : decode cX11_init 115 = .ok (.getfield 70, 3) := by decide +kernel
theorem dX11_init_118 : decode cX11_init 118 = .ok (.arraylength, 1) := by decide +kernel
theorem dX11_init_119 : decode cX11_init 119 = .ok (.if_icmp .ge 22, 3) := by decide +kernel
theorem dX11_init_122 : decode cX11_init 122 = .ok (.aload_n 0, 1) := by decide +kernel
theorem dX11_init_123 : decode cX11_init 123 = .ok (.getfield 70, 3) := by decide +kernel
theorem dX11_init_126 : decode cX11_init 126 = .ok (.iload_n 1, 1) := by decide +kernel
theorem dX11_init_127 : decode cX11_init 127 = .ok (.new 63, 3) := by decide +kernel
theorem dX11_init_130 : decode cX11_init 130 = .ok (.dup, 1) := by decide +kernel
theorem dX11_init_131 : decode cX11_init 131 = .ok (.invokespecial 65, 3) := by decide +kernel
theorem dX11_init_134 : decode cX11_init 134 = .ok (.aastore, 1) := by decide +kernel
theorem dX11_init_135 : decode cX11_init 135 = .ok (.iinc 1 1, 3) := by decide +kernel
theorem dX11_init_138 : decode cX11_init 138 = .ok (.goto (-25), 3) := by decide +kernel
theorem dX11_init_141 : decode cX11_init 141 = .ok (.aload_n 0, 1) := by decide +kernel
theorem dX11_init_142 : decode cX11_init 142 = .ok (.new 56, 3) := by decide +kernel
theorem dX11_init_145 : decode cX11_init 145 = .ok (.dup, 1) := by decide +kernel
theorem dX11_init_146 : decode cX11_init 146 = .ok (.invokespecial 58, 3) := by decide +kernel
theorem dX11_init_149 : decode cX11_init 149 = .ok (.putfield 74, 3) := by decide +kernel
theorem dX11_init_152 : decode cX11_init 152 = .ok (.aload_n 0, 1) := by decide +kernel
theorem dX11_init_153 : decode cX11_init 153 = .ok (.new 56, 3) := by decide +kernel
theorem dX11_init_156 : decode cX11_init 156 = .ok (.dup, 1) := by decide +kernel
theorem dX11_init_157 : decode cX11_init 157 = .ok (.invokespecial 58, 3) := by decide +kernel
theorem dX11_init_160 : decode cX11_init 160 = .ok (.putfield 77, 3) := by decide +kernel
theorem dX11_init_163 : decode cX11_init 163 = .ok (.aload_n 0, 1) := by decide +kernel
theorem dX11_init_164 : decode cX11_init 164 = .ok (.iconst (-1), 1) := by decide +kernel
theorem dX11_init_165 : decode cX11_init 165 = .ok (.putfield 80, 3) := by decide +kernel
theorem dX11_init_168 : decode cX11_init 168 = .ok (.return_, 1) := by decide +kernel
theorem dX11_feed_0 : decode cX11_feed 0 = .ok (.aload_n 0, 1) := by decide +kernel
theorem dX11_feed_1 : decode cX11_feed 1 = .ok (.getfield 20, 3) := by decide +kernel
theorem dX11_feed_4 : decode cX11_feed 4 = .ok (.getfield 84, 3) := by decide +kernel
theorem dX11_feed_7 : decode cX11_feed 7 = .ok (.bipush 20, 2) := by decide +kernel
theorem dX11_feed_9 : decode cX11_feed 9 = .ok (.iadd, 1) := by decide +kernel
theorem dX11_feed_10 : decode cX11_feed 10 = .ok (.sipush 1600, 3) := by decide +kernel
theorem dX11_feed_13 : decode cX11_feed 13 = .ok (.if_icmp .le 5, 3) := by decide +kernel
theorem dX11_feed_16 : decode cX11_feed 16 = .ok (.iconst (-1), 1) := by decide +kernel
theorem dX11_feed_17 : decode cX11_feed 17 = .ok (.ireturn, 1) := by decide +kernel
theorem dX11_feed_18 : decode cX11_feed 18 = .ok (.aload_n 0, 1) := by decide +kernel
theorem dX11_feed_19 : decode cX11_feed 19 = .ok (.getfield 20, 3) := by decide +kernel
theorem dX11_feed_22 : decode cX11_feed 22 = .ok (.iload_n 1, 1) := by decide +kernel
theorem dX11_feed_23 : decode cX11_feed 23 = .ok (.invokevirtual 89, 3) := by decide +kernel
theorem dX11_feed_26 : decode cX11_feed 26 = .ok (.aload_n 0, 1) := by decide +kernel
theorem dX11_feed_27 : decode cX11_feed 27 = .ok (.getfield 20, 3) := by decide +kernel
theorem dX11_feed_30 : decode cX11_feed 30 = .ok (.iload_n 2, 1) := by decide +kernel
theorem dX11_feed_31 : decode cX11_feed 31 = .ok (.invokevirtual 89, 3) := by decide +kernel
theorem dX11_feed_34 : decode cX11_feed 34 = .ok (.aload_n 0, 1) := by decide +kernel
theorem dX11_feed_35 : decode cX11_feed 35 = .ok (.getfield 20, 3) := by decide +kernel
theorem dX11_feed_38 : decode cX11_feed 38 = .ok (.iload_n 3, 1) := by decide +kernel
theorem dX11_feed_39 : decode cX11_feed 39 = .ok (.invokevirtual 89, 3) := by decide +kernel
theorem dX11_feed_42 : decode cX11_feed 42 = .ok (.aload_n 0, 1) := by decide +kernel
theorem dX11_feed_43 : decode cX11_feed 43 = .ok (.getfield 20, 3) := by decide +kernel
theorem dX11_feed_46 : decode cX11_feed 46 = .ok (.iload 4, 2) := by decide +kernel
theorem dX11_feed_48 : decode cX11_feed 48 = .ok (.invokevirtual 89, 3) := by decide +kernel
theorem dX11_feed_51 : decode cX11_feed 51 = .ok (.aload_n 0, 1) := by decide +kernel
theorem dX11_feed_52 : decode cX11_feed 52 = .ok (.getfield 20, 3) := by decide +kernel
theorem dX11_feed_55 : decode cX11_feed 55 = .ok (.iload 5, 2) := by decide +kernel
theorem dX11_feed_57 : decode cX11_feed 57 = .ok (.invokevirtual 89, 3) := by decide +kernel
theorem dX11_feed_60 : decode cX11_feed 60 = .ok (.aload_n 0, 1) := by decide +kernel
theorem dX11_feed_61 : decode cX11_feed 61 = .ok (.getfield 20, 3) := by decide +kernel
theorem dX11_feed_64 : decode cX11_feed 64 = .ok (.getfield 84, 3) := by decide +kernel
theorem dX11_feed_67 : decode cX11_feed 67 = .ok (.ireturn, 1) := by decide +kernel
theorem dX11_end_0 : decode cX11_end 0 = .ok (.iload_n 1, 1) := by decide +kernel
theorem dX11_end_1 : decode cX11_end 1 = .ok (.ifCond .lt 14, 3) := by decide +kernel
theorem dX11_end_4 : decode cX11_end 4 = .ok (.iload_n 1, 1) := by decide +kernel
theorem dX11_end_5 : decode cX11_end 5 = .ok (.aload_n 0, 1) := by decide +kernel
theorem dX11_end_6 : decode cX11_end 6 = .ok (.getfield 20, 3) := by decide +kernel
theorem dX11_end_9 : decode cX11_end 9 = .ok (.getfield 84, 3) := by decide +kernel
theorem dX11_end_12 : decode cX11_end 12 = .ok (.if_icmp .le 5, 3) := by decide +kernel
theorem dX11_end_15 : decode cX11_end 15 = .ok (.iconst (-1), 1) := by decide +kernel
theorem dX11_end_16 : decode cX11_end 16 = .ok (.ireturn, 1) := by decide +kernel
theorem dX11_end_17 : decode cX11_end 17 = .ok (.aload_n 0, 1) := by decide +kernel
theorem dX11_end_18 : decode cX11_end 18 = .ok (.getfield 20, 3) := by decide +kernel
theorem dX11_end_21 : decode cX11_end 21 = .ok (.iload_n 1, 1) := by decide +kernel
theorem dX11_end_22 : decode cX11_end 22 = .ok (.putfield 84, 3) := by decide +kernel
theorem dX11_end_25 : decode cX11_end 25 = .ok (.iload_n 1, 1) := by decide +kernel
theorem dX11_end_26 : decode cX11_end 26 = .ok (.ireturn, 1) := by decide +kernel
theorem dX11_roll_0 : decode cX11_roll 0 = .ok (.aload_n 0, 1) := by decide +kernel
theorem dX11_roll_1 : decode cX11_roll 1 = .ok (.getfield 10, 3) := by decide +kernel
theorem dX11_roll_4 : decode cX11_roll 4 = .ok (.aload_n 0, 1) := by decide +kernel
theorem dX11_roll_5 : decode cX11_roll 5 = .ok (.getfield 77, 3) := by decide +kernel
theorem dX11_roll_8 : decode cX11_roll 8 = .ok (.invokevirtual 93, 3) := by decide +kernel
theorem dX11_roll_11 : decode cX11_roll 11 = .ok (.istore_n 1, 1) := by decide +kernel
theorem dX11_roll_12 : decode cX11_roll 12 = .ok (.aload_n 0, 1) := by decide +kernel
theorem dX11_roll_13 : decode cX11_roll 13 = .ok (.invokevirtual 97, 3) := by decide +kernel
theorem dX11_roll_16 : decode cX11_roll 16 = .ok (.iload_n 1, 1) := by decide +kernel
theorem dX11_roll_17 : decode cX11_roll 17 = .ok (.ifCond .ne 5, 3) := by decide +kernel
theorem dX11_roll_20 : decode cX11_roll 20 = .ok (.iconst (-1), 1) := by decide +kernel
theorem dX11_roll_21 : decode cX11_roll 21 = .ok (.ireturn, 1) := by decide +kernel
theorem dX11_roll_22 : decode cX11_roll 22 = .ok (.aload_n 0, 1) := by decide +kernel
theorem dX11_roll_23 : decode cX11_roll 23 = .ok (.getfield 74, 3) := by decide +kernel
theorem dX11_roll_26 : decode cX11_roll 26 = .ok (.astore_n 2, 1) := by decide +kernel
theorem dX11_roll_27 : decode cX11_roll 27 = .ok (.aload_n 0, 1) := by decide +kernel
theorem dX11_roll_28 : decode cX11_roll 28 = .ok (.aload_n 0, 1) := by decide +kernel
theorem dX11_roll_29 : decode cX11_roll 29 = .ok (.getfield 77, 3) := by decide +kernel
theorem dX11_roll_32 : decode cX11_roll 32 = .ok (.putfield 74, 3) := by decide +kernel
theorem dX11_roll_35 : decode cX11_roll 35 = .ok (.aload_n 0, 1) := by decide +kernel
theorem dX11_roll_36 : decode cX11_roll 36 = .ok (.aload_n 2, 1) := by decide +kernel
theorem dX11_roll_37 : decode cX11_roll 37 = .ok (.putfield 77, 3) := by decide +kernel
theorem dX11_roll_40 : decode cX11_roll 40 = .ok (.aload_n 0, 1) := by decide +kernel
theorem dX11_roll_41 : decode cX11_roll 41 = .ok (.getfield 66, 3) := by decide +kernel
theorem dX11_roll_44 : decode cX11_roll 44 = .ok (.aload_n 0, 1) := by decide +kernel
theorem dX11_roll_45 : decode cX11_roll 45 = .ok (.getfield 74, 3) := by decide +kernel
theorem dX11_roll_48 : decode cX11_roll 48 = .ok (.invokevirtual 100, 3) := by decide +kernel
theorem dX11_roll_51 : decode cX11_roll 51 = .ok (.iconst 0, 1) := by decide +kernel
theorem dX11_roll_52 : decode cX11_roll 52 = .ok (.istore_n 3, 1) := by decide +kernel
theorem dX11_roll_53 : decode cX11_roll 53 = .ok (.iload_n 3, 1) := by decide +kernel
theorem dX11_roll_54 : decode cX11_roll 54 = .ok (.iconst 3, 1) := by decide +kernel
theorem dX11_roll_55 : decode cX11_roll 55 = .ok (.if_icmp .ge 17, 3) := by decide +kernel
theorem dX11_roll_58 : decode cX11_roll 58 = .ok (.aload_n 0, 1) := by decide +kernel
theorem dX11_roll_59 : decode cX11_roll 59 = .ok (.iload_n 3, 1) := by decide +kernel
theorem dX11_roll_60 : decode cX11_roll 60 = .ok (.invokevirtual 104, 3) := by decide +kernel
theorem dX11_roll_63 : decode cX11_roll 63 = .ok (.invokestatic 108, 3) := by decide +kernel
theorem dX11_roll_66 : decode cX11_roll 66 = .ok (.iinc 3 1, 3) := by decide +kernel
theorem dX11_roll_69 : decode cX11_roll 69 = .ok (.goto (-16), 3) := by decide +kernel
theorem dX11_roll_72 : decode cX11_roll 72 = .ok (.aload_n 0, 1) := by decide +kernel
theorem dX11_roll_73 : decode cX11_roll 73 = .ok (.sipush 255, 3) := by decide +kernel
theorem dX11_roll_76 : decode cX11_roll 76 = .ok (.invokevirtual 112, 3) := by decide +kernel
theorem dX11_roll_79 : decode cX11_roll 79 = .ok (.aload_n 0, 1) := by decide +kernel
theorem dX11_roll_80 : decode cX11_roll 80 = .ok (.getfield 74, 3) := by decide +kernel
theorem dX11_roll_83 : decode cX11_roll 83 = .ok (.getfield 115, 3) := by decide +kernel
theorem dX11_roll_86 : decode cX11_roll 86 = .ok (.ireturn, 1) := by decide +kernel
theorem dX11_reword_0 : decode cX11_reword 0 = .ok (.aload_n 0, 1) := by decide +kernel
theorem dX11_reword_1 : decode cX11_reword 1 = .ok (.getfield 74, 3) := by decide +kernel
theorem dX11_reword_4 : decode cX11_reword 4 = .ok (.iload_n 1, 1) := by decide +kernel
theorem dX11_reword_5 : decode cX11_reword 5 = .ok (.invokevirtual 118, 3) := by decide +kernel
theorem dX11_reword_8 : decode cX11_reword 8 = .ok (.ifCond .ne 6, 3) := by decide +kernel
theorem dX11_reword_11 : decode cX11_reword 11 = .ok (.bipush (-2), 2) := by decide +kernel
theorem dX11_reword_13 : decode cX11_reword 13 = .ok (.ireturn, 1) := by decide +kernel
theorem dX11_reword_14 : decode cX11_reword 14 = .ok (.aload_n 0, 1) := by decide +kernel
theorem dX11_reword_15 : decode cX11_reword 15 = .ok (.getfield 66, 3) := by decide +kernel
theorem dX11_reword_18 : decode cX11_reword 18 = .ok (.invokevirtual 122, 3) := by decide +kernel
theorem dX11_reword_21 : decode cX11_reword 21 = .ok (.aload_n 0, 1) := by decide +kernel
theorem dX11_reword_22 : decode cX11_reword 22 = .ok (.getfield 66, 3) := by decide +kernel
theorem dX11_reword_25 : decode cX11_reword 25 = .ok (.iload_n 1, 1) := by decide +kernel
theorem dX11_reword_26 : decode cX11_reword 26 = .ok (.invokevirtual 126, 3) := by decide +kernel
theorem dX11_reword_29 : decode cX11_reword 29 = .ok (.getfield 130, 3) := by decide +kernel
theorem dX11_reword_32 : decode cX11_reword 32 = .ok (.isub, 1) := by decide +kernel
theorem dX11_reword_33 : decode cX11_reword 33 = .ok (.istore_n 2, 1) := by decide +kernel
theorem dX11_reword_34 : decode cX11_reword 34 = .ok (.aload_n 0, 1) := by decide +kernel
theorem dX11_reword_35 : decode cX11_reword 35 = .ok (.getfield 10, 3) := by decide +kernel
theorem dX11_reword_38 : decode cX11_reword 38 = .ok (.aload_n 0, 1) := by decide +kernel
theorem dX11_reword_39 : decode cX11_reword 39 = .ok (.getfield 74, 3) := by decide +kernel
theorem dX11_reword_42 : decode cX11_reword 42 = .ok (.iload_n 1, 1) := by decide +kernel
theorem dX11_reword_43 : decode cX11_reword 43 = .ok (.iload_n 2, 1) := by decide +kernel
theorem dX11_reword_44 : decode cX11_reword 44 = .ok (.invokevirtual 134, 3) := by decide +kernel
theorem dX11_reword_47 : decode cX11_reword 47 = .ok (.istore_n 3, 1) := by decide +kernel
theorem dX11_reword_48 : decode cX11_reword 48 = .ok (.aload_n 0, 1) := by decide +kernel
theorem dX11_reword_49 : decode cX11_reword 49 = .ok (.invokevirtual 97, 3) := by decide +kernel
theorem dX11_reword_52 : decode cX11_reword 52 = .ok (.iload_n 3, 1) := by decide +kernel
theorem dX11_reword_53 : decode cX11_reword 53 = .ok (.ifCond .ne 5, 3) := by decide +kernel
theorem dX11_reword_56 : decode cX11_reword 56 = .ok (.iconst (-1), 1) := by decide +kernel
theorem dX11_reword_57 : decode cX11_reword 57 = .ok (.ireturn, 1) := by decide +kernel
theorem dX11_reword_58 : decode cX11_reword 58 = .ok (.aload_n 0, 1) := by decide +kernel
theorem dX11_reword_59 : decode cX11_reword 59 = .ok (.getfield 66, 3) := by decide +kernel
theorem dX11_reword_62 : decode cX11_reword 62 = .ok (.iload_n 1, 1) := by decide +kernel
theorem dX11_reword_63 : decode cX11_reword 63 = .ok (.aload_n 0, 1) := by decide +kernel
theorem dX11_reword_64 : decode cX11_reword 64 = .ok (.getfield 10, 3) := by decide +kernel
theorem dX11_reword_67 : decode cX11_reword 67 = .ok (.invokevirtual 138, 3) := by decide +kernel
theorem dX11_reword_70 : decode cX11_reword 70 = .ok (.invokevirtual 142, 3) := by decide +kernel
theorem dX11_reword_73 : decode cX11_reword 73 = .ok (.aload_n 0, 1) := by decide +kernel
theorem dX11_reword_74 : decode cX11_reword 74 = .ok (.iconst 1, 1) := by decide +kernel
theorem dX11_reword_75 : decode cX11_reword 75 = .ok (.iload_n 1, 1) := by decide +kernel
theorem dX11_reword_76 : decode cX11_reword 76 = .ok (.ishl, 1) := by decide +kernel
theorem dX11_reword_77 : decode cX11_reword 77 = .ok (.invokevirtual 112, 3) := by decide +kernel
theorem dX11_reword_80 : decode cX11_reword 80 = .ok (.aload_n 0, 1) := by decide +kernel
theorem dX11_reword_81 : decode cX11_reword 81 = .ok (.getfield 66, 3) := by decide +kernel
theorem dX11_reword_84 : decode cX11_reword 84 = .ok (.invokevirtual 122, 3) := by decide +kernel
theorem dX11_reword_87 : decode cX11_reword 87 = .ok (.ireturn, 1) := by decide +kernel
theorem dX11_fault_0 : decode cX11_fault 0 = .ok (.iload_n 1, 1) := by decide +kernel
theorem dX11_fault_1 : decode cX11_fault 1 = .ok (.ifCond .ne 8, 3) := by decide +kernel
theorem dX11_fault_4 : decode cX11_fault 4 = .ok (.aload_n 0, 1) := by decide +kernel
theorem dX11_fault_5 : decode cX11_fault 5 = .ok (.getfield 146, 3) := by decide +kernel
theorem dX11_fault_8 : decode cX11_fault 8 = .ok (.ireturn, 1) := by decide +kernel
theorem dX11_fault_9 : decode cX11_fault 9 = .ok (.iload_n 1, 1) := by decide +kernel
theorem dX11_fault_10 : decode cX11_fault 10 = .ok (.iconst 1, 1) := by decide +kernel
theorem dX11_fault_11 : decode cX11_fault 11 = .ok (.if_icmp .ne 10, 3) := by decide +kernel
theorem dX11_fault_14 : decode cX11_fault 14 = .ok (.aload_n 0, 1) := by decide +kernel
theorem dX11_fault_15 : decode cX11_fault 15 = .ok (.getfield 80, 3) := by decide +kernel
theorem dX11_fault_18 : decode cX11_fault 18 = .ok (.goto 4, 3) := by decide +kernel
theorem dX11_fault_21 : decode cX11_fault 21 = .ok (.iconst (-1), 1) := by decide +kernel
theorem dX11_fault_22 : decode cX11_fault 22 = .ok (.ireturn, 1) := by decide +kernel
theorem dX11_countings_0 : decode cX11_countings 0 = .ok (.aload_n 0, 1) := by decide +kernel
theorem dX11_countings_1 : decode cX11_countings 1 = .ok (.getfield 31, 3) := by decide +kernel
theorem dX11_countings_4 : decode cX11_countings 4 = .ok (.aload_n 0, 1) := by decide +kernel
theorem dX11_countings_5 : decode cX11_countings 5 = .ok (.getfield 74, 3) := by decide +kernel
theorem dX11_countings_8 : decode cX11_countings 8 = .ok (.aload_n 0, 1) := by decide +kernel
theorem dX11_countings_9 : decode cX11_countings 9 = .ok (.getfield 66, 3) := by decide +kernel
theorem dX11_countings_12 : decode cX11_countings 12 = .ok (.invokevirtual 149, 3) := by decide +kernel
theorem dX11_countings_15 : decode cX11_countings 15 = .ok (.aload_n 0, 1) := by decide +kernel
theorem dX11_countings_16 : decode cX11_countings 16 = .ok (.getfield 31, 3) := by decide +kernel
theorem dX11_countings_19 : decode cX11_countings 19 = .ok (.getfield 153, 3) := by decide +kernel
theorem dX11_countings_22 : decode cX11_countings 22 = .ok (.ireturn, 1) := by decide +kernel
theorem dX11_counting_0 : decode cX11_counting 0 = .ok (.aload_n 0, 1) := by decide +kernel
theorem dX11_counting_1 : decode cX11_counting 1 = .ok (.getfield 31, 3) := by decide +kernel
theorem dX11_counting_4 : decode cX11_counting 4 = .ok (.aload_n 0, 1) := by decide +kernel
theorem dX11_counting_5 : decode cX11_counting 5 = .ok (.getfield 74, 3) := by decide +kernel
theorem dX11_counting_8 : decode cX11_counting 8 = .ok (.aload_n 0, 1) := by decide +kernel
theorem dX11_counting_9 : decode cX11_counting 9 = .ok (.getfield 66, 3) := by decide +kernel
theorem dX11_counting_12 : decode cX11_counting 12 = .ok (.invokevirtual 149, 3) := by decide +kernel
theorem dX11_counting_15 : decode cX11_counting 15 = .ok (.aload_n 0, 1) := by decide +kernel
theorem dX11_counting_16 : decode cX11_counting 16 = .ok (.getfield 31, 3) := by decide +kernel
theorem dX11_counting_19 : decode cX11_counting 19 = .ok (.iload_n 1, 1) := by decide +kernel
theorem dX11_counting_20 : decode cX11_counting 20 = .ok (.invokevirtual 156, 3) := by decide +kernel
theorem dX11_counting_23 : decode cX11_counting 23 = .ok (.ifCond .eq 14, 3) := by decide +kernel
theorem dX11_counting_26 : decode cX11_counting 26 = .ok (.aload_n 0, 1) := by decide +kernel
theorem dX11_counting_27 : decode cX11_counting 27 = .ok (.getfield 74, 3) := by decide +kernel
theorem dX11_counting_30 : decode cX11_counting 30 = .ok (.iload_n 2, 1) := by decide +kernel
theorem dX11_counting_31 : decode cX11_counting 31 = .ok (.invokevirtual 118, 3) := by decide +kernel
theorem dX11_counting_34 : decode cX11_counting 34 = .ok (.ifCond .ne 5, 3) := by decide +kernel
theorem dX11_counting_37 : decode cX11_counting 37 = .ok (.iconst (-1), 1) := by decide +kernel
theorem dX11_counting_38 : decode cX11_counting 38 = .ok (.ireturn, 1) := by decide +kernel
theorem dX11_counting_39 : decode cX11_counting 39 = .ok (.aload_n 0, 1) := by decide +kernel
theorem dX11_counting_40 : decode cX11_counting 40 = .ok (.getfield 74, 3) := by decide +kernel
theorem dX11_counting_43 : decode cX11_counting 43 = .ok (.aload_n 0, 1) := by decide +kernel
theorem dX11_counting_44 : decode cX11_counting 44 = .ok (.getfield 31, 3) := by decide +kernel
theorem dX11_counting_47 : decode cX11_counting 47 = .ok (.getfield 159, 3) := by decide +kernel
theorem dX11_counting_50 : decode cX11_counting 50 = .ok (.iload_n 1, 1) := by decide +kernel
theorem dX11_counting_51 : decode cX11_counting 51 = .ok (.invokestatic 163, 3) := by decide +kernel
theorem dX11_counting_54 : decode cX11_counting 54 = .ok (.iload_n 2, 1) := by decide +kernel
theorem dX11_counting_55 : decode cX11_counting 55 = .ok (.invokevirtual 167, 3) := by decide +kernel
theorem dX11_counting_58 : decode cX11_counting 58 = .ok (.ireturn, 1) := by decide +kernel
theorem dX11_chosen_0 : decode cX11_chosen 0 = .ok (.aload_n 0, 1) := by decide +kernel
theorem dX11_chosen_1 : decode cX11_chosen 1 = .ok (.getfield 31, 3) := by decide +kernel
theorem dX11_chosen_4 : decode cX11_chosen 4 = .ok (.aload_n 0, 1) := by decide +kernel
theorem dX11_chosen_5 : decode cX11_chosen 5 = .ok (.getfield 74, 3) := by decide +kernel
theorem dX11_chosen_8 : decode cX11_chosen 8 = .ok (.aload_n 0, 1) := by decide +kernel
theorem dX11_chosen_9 : decode cX11_chosen 9 = .ok (.getfield 66, 3) := by decide +kernel
theorem dX11_chosen_12 : decode cX11_chosen 12 = .ok (.invokevirtual 149, 3) := by decide +kernel
theorem dX11_chosen_15 : decode cX11_chosen 15 = .ok (.aload_n 0, 1) := by decide +kernel
theorem dX11_chosen_16 : decode cX11_chosen 16 = .ok (.getfield 31, 3) := by decide +kernel
theorem dX11_chosen_19 : decode cX11_chosen 19 = .ok (.iload_n 1, 1) := by decide +kernel
theorem dX11_chosen_20 : decode cX11_chosen 20 = .ok (.invokevirtual 156, 3) := by decide +kernel
theorem dX11_chosen_23 : decode cX11_chosen 23 = .ok (.ifCond .ne 6, 3) := by decide +kernel
theorem dX11_chosen_26 : decode cX11_chosen 26 = .ok (.bipush (-2), 2) := by decide +kernel
theorem dX11_chosen_28 : decode cX11_chosen 28 = .ok (.ireturn, 1) := by decide +kernel
theorem dX11_chosen_29 : decode cX11_chosen 29 = .ok (.aload_n 0, 1) := by decide +kernel
theorem dX11_chosen_30 : decode cX11_chosen 30 = .ok (.getfield 74, 3) := by decide +kernel
theorem dX11_chosen_33 : decode cX11_chosen 33 = .ok (.aload_n 0, 1) := by decide +kernel
theorem dX11_chosen_34 : decode cX11_chosen 34 = .ok (.getfield 31, 3) := by decide +kernel
theorem dX11_chosen_37 : decode cX11_chosen 37 = .ok (.getfield 159, 3) := by decide +kernel
theorem dX11_chosen_40 : decode cX11_chosen 40 = .ok (.iload_n 1, 1) := by decide +kernel
theorem dX11_chosen_41 : decode cX11_chosen 41 = .ok (.invokestatic 163, 3) := by decide +kernel
theorem dX11_chosen_44 : decode cX11_chosen 44 = .ok (.invokevirtual 171, 3) := by decide +kernel
theorem dX11_chosen_47 : decode cX11_chosen 47 = .ok (.iconst 1, 1) := by decide +kernel
theorem dX11_chosen_48 : decode cX11_chosen 48 = .ok (.isub, 1) := by decide +kernel
theorem dX11_chosen_49 : decode cX11_chosen 49 = .ok (.ireturn, 1) := by decide +kernel
theorem dX11_wins_0 : decode cX11_wins 0 = .ok (.aload_n 0, 1) := by decide +kernel
theorem dX11_wins_1 : decode cX11_wins 1 = .ok (.getfield 31, 3) := by decide +kernel
theorem dX11_wins_4 : decode cX11_wins 4 = .ok (.aload_n 0, 1) := by decide +kernel
theorem dX11_wins_5 : decode cX11_wins 5 = .ok (.getfield 74, 3) := by decide +kernel
theorem dX11_wins_8 : decode cX11_wins 8 = .ok (.aload_n 0, 1) := by decide +kernel
theorem dX11_wins_9 : decode cX11_wins 9 = .ok (.getfield 66, 3) := by decide +kernel
theorem dX11_wins_12 : decode cX11_wins 12 = .ok (.invokevirtual 149, 3) := by decide +kernel
theorem dX11_wins_15 : decode cX11_wins 15 = .ok (.aload_n 0, 1) := by decide +kernel
theorem dX11_wins_16 : decode cX11_wins 16 = .ok (.getfield 74, 3) := by decide +kernel
theorem dX11_wins_19 : decode cX11_wins 19 = .ok (.iload_n 1, 1) := by decide +kernel
theorem dX11_wins_20 : decode cX11_wins 20 = .ok (.invokevirtual 175, 3) := by decide +kernel
theorem dX11_wins_23 : decode cX11_wins 23 = .ok (.ifCond .eq 13, 3) := by decide +kernel
theorem dX11_wins_26 : decode cX11_wins 26 = .ok (.aload_n 0, 1) := by decide +kernel
theorem dX11_wins_27 : decode cX11_wins 27 = .ok (.getfield 31, 3) := by decide +kernel
theorem dX11_wins_30 : decode cX11_wins 30 = .ok (.getfield 153, 3) := by decide +kernel
theorem dX11_wins_33 : decode cX11_wins 33 = .ok (.ifCond .ne 5, 3) := by decide +kernel
theorem dX11_wins_36 : decode cX11_wins 36 = .ok (.iconst (-1), 1) := by decide +kernel
theorem dX11_wins_37 : decode cX11_wins 37 = .ok (.ireturn, 1) := by decide +kernel
theorem dX11_wins_38 : decode cX11_wins 38 = .ok (.iconst 0, 1) := by decide +kernel
theorem dX11_wins_39 : decode cX11_wins 39 = .ok (.istore_n 2, 1) := by decide +kernel
theorem dX11_wins_40 : decode cX11_wins 40 = .ok (.iconst 0, 1) := by decide +kernel
theorem dX11_wins_41 : decode cX11_wins 41 = .ok (.istore_n 3, 1) := by decide +kernel
theorem dX11_wins_42 : decode cX11_wins 42 = .ok (.iload_n 3, 1) := by decide +kernel
theorem dX11_wins_43 : decode cX11_wins 43 = .ok (.aload_n 0, 1) := by decide +kernel
theorem dX11_wins_44 : decode cX11_wins 44 = .ok (.getfield 31, 3) := by decide +kernel
theorem dX11_wins_47 : decode cX11_wins 47 = .ok (.getfield 153, 3) := by decide +kernel
theorem dX11_wins_50 : decode cX11_wins 50 = .ok (.if_icmp .ge 36, 3) := by decide +kernel
theorem dX11_wins_53 : decode cX11_wins 53 = .ok (.aload_n 0, 1) := by decide +kernel
theorem dX11_wins_54 : decode cX11_wins 54 = .ok (.getfield 74, 3) := by decide +kernel
theorem dX11_wins_57 : decode cX11_wins 57 = .ok (.aload_n 0, 1) := by decide +kernel
theorem dX11_wins_58 : decode cX11_wins 58 = .ok (.getfield 31, 3) := by decide +kernel
theorem dX11_wins_61 : decode cX11_wins 61 = .ok (.getfield 159, 3) := by decide +kernel
theorem dX11_wins_64 : decode cX11_wins 64 = .ok (.iload_n 3, 1) := by decide +kernel
theorem dX11_wins_65 : decode cX11_wins 65 = .ok (.invokestatic 163, 3) := by decide +kernel
theorem dX11_wins_68 : decode cX11_wins 68 = .ok (.invokevirtual 171, 3) := by decide +kernel
theorem dX11_wins_71 : decode cX11_wins 71 = .ok (.iload_n 1, 1) := by decide +kernel
theorem dX11_wins_72 : decode cX11_wins 72 = .ok (.iconst 1, 1) := by decide +kernel
theorem dX11_wins_73 : decode cX11_wins 73 = .ok (.iadd, 1) := by decide +kernel
theorem dX11_wins_74 : decode cX11_wins 74 = .ok (.if_icmp .ne 6, 3) := by decide +kernel
theorem dX11_wins_77 : decode cX11_wins 77 = .ok (.iinc 2 1, 3) := by decide +kernel
theorem dX11_wins_80 : decode cX11_wins 80 = .ok (.iinc 3 1, 3) := by decide +kernel
theorem dX11_wins_83 : decode cX11_wins 83 = .ok (.goto (-41), 3) := by decide +kernel
theorem dX11_wins_86 : decode cX11_wins 86 = .ok (.iload_n 2, 1) := by decide +kernel
theorem dX11_wins_87 : decode cX11_wins 87 = .ok (.aload_n 0, 1) := by decide +kernel
theorem dX11_wins_88 : decode cX11_wins 88 = .ok (.getfield 31, 3) := by decide +kernel
theorem dX11_wins_91 : decode cX11_wins 91 = .ok (.getfield 153, 3) := by decide +kernel
theorem dX11_wins_94 : decode cX11_wins 94 = .ok (.if_icmp .ne 5, 3) := by decide +kernel
theorem dX11_wins_97 : decode cX11_wins 97 = .ok (.iconst 2, 1) := by decide +kernel
theorem dX11_wins_98 : decode cX11_wins 98 = .ok (.ireturn, 1) := by decide +kernel
theorem dX11_wins_99 : decode cX11_wins 99 = .ok (.iload_n 2, 1) := by decide +kernel
theorem dX11_wins_100 : decode cX11_wins 100 = .ok (.ifCond .le 7, 3) := by decide +kernel
theorem dX11_wins_103 : decode cX11_wins 103 = .ok (.iconst 1, 1) := by decide +kernel
theorem dX11_wins_104 : decode cX11_wins 104 = .ok (.goto 4, 3) := by decide +kernel
theorem dX11_wins_107 : decode cX11_wins 107 = .ok (.iconst 0, 1) := by decide +kernel
theorem dX11_wins_108 : decode cX11_wins 108 = .ok (.ireturn, 1) := by decide +kernel
theorem dX11_says_0 : decode cX11_says 0 = .ok (.aload_n 0, 1) := by decide +kernel
theorem dX11_says_1 : decode cX11_says 1 = .ok (.getfield 74, 3) := by decide +kernel
theorem dX11_says_4 : decode cX11_says 4 = .ok (.iload_n 1, 1) := by decide +kernel
theorem dX11_says_5 : decode cX11_says 5 = .ok (.invokevirtual 118, 3) := by decide +kernel
theorem dX11_says_8 : decode cX11_says 8 = .ok (.ifCond .ne 5, 3) := by decide +kernel
theorem dX11_says_11 : decode cX11_says 11 = .ok (.iconst (-1), 1) := by decide +kernel
theorem dX11_says_12 : decode cX11_says 12 = .ok (.ireturn, 1) := by decide +kernel
theorem dX11_says_13 : decode cX11_says 13 = .ok (.aload_n 0, 1) := by decide +kernel
theorem dX11_says_14 : decode cX11_says 14 = .ok (.getfield 24, 3) := by decide +kernel
theorem dX11_says_17 : decode cX11_says 17 = .ok (.aload_n 0, 1) := by decide +kernel
theorem dX11_says_18 : decode cX11_says 18 = .ok (.getfield 66, 3) := by decide +kernel
theorem dX11_says_21 : decode cX11_says 21 = .ok (.iload_n 1, 1) := by decide +kernel
theorem dX11_says_22 : decode cX11_says 22 = .ok (.invokevirtual 126, 3) := by decide +kernel
theorem dX11_says_25 : decode cX11_says 25 = .ok (.iload_n 1, 1) := by decide +kernel
theorem dX11_says_26 : decode cX11_says 26 = .ok (.aload_n 0, 1) := by decide +kernel
theorem dX11_says_27 : decode cX11_says 27 = .ok (.getfield 66, 3) := by decide +kernel
theorem dX11_says_30 : decode cX11_says 30 = .ok (.getfield 178, 3) := by decide +kernel
theorem dX11_says_33 : decode cX11_says 33 = .ok (.aload_n 0, 1) := by decide +kernel
theorem dX11_says_34 : decode cX11_says 34 = .ok (.getfield 74, 3) := by decide +kernel
theorem dX11_says_37 : decode cX11_says 37 = .ok (.invokevirtual 181, 3) := by decide +kernel
theorem dX11_says_40 : decode cX11_says 40 = .ok (.ireturn, 1) := by decide +kernel
theorem dX11_looks_0 : decode cX11_looks 0 = .ok (.aload_n 0, 1) := by decide +kernel
theorem dX11_looks_1 : decode cX11_looks 1 = .ok (.getfield 74, 3) := by decide +kernel
theorem dX11_looks_4 : decode cX11_looks 4 = .ok (.iload_n 1, 1) := by decide +kernel
theorem dX11_looks_5 : decode cX11_looks 5 = .ok (.invokevirtual 118, 3) := by decide +kernel
theorem dX11_looks_8 : decode cX11_looks 8 = .ok (.ifCond .ne 5, 3) := by decide +kernel
theorem dX11_looks_11 : decode cX11_looks 11 = .ok (.iconst (-1), 1) := by decide +kernel
theorem dX11_looks_12 : decode cX11_looks 12 = .ok (.ireturn, 1) := by decide +kernel
theorem dX11_looks_13 : decode cX11_looks 13 = .ok (.aload_n 0, 1) := by decide +kernel
theorem dX11_looks_14 : decode cX11_looks 14 = .ok (.getfield 74, 3) := by decide +kernel
theorem dX11_looks_17 : decode cX11_looks 17 = .ok (.iload_n 1, 1) := by decide +kernel
theorem dX11_looks_18 : decode cX11_looks 18 = .ok (.aload_n 0, 1) := by decide +kernel
theorem dX11_looks_19 : decode cX11_looks 19 = .ok (.getfield 66, 3) := by decide +kernel
theorem dX11_looks_22 : decode cX11_looks 22 = .ok (.iload_n 1, 1) := by decide +kernel
theorem dX11_looks_23 : decode cX11_looks 23 = .ok (.invokevirtual 126, 3) := by decide +kernel
theorem dX11_looks_26 : decode cX11_looks 26 = .ok (.invokevirtual 185, 3) := by decide +kernel
theorem dX11_looks_29 : decode cX11_looks 29 = .ok (.ireturn, 1) := by decide +kernel
theorem dX11_part_0 : decode cX11_part 0 = .ok (.aload_n 0, 1) := by decide +kernel
theorem dX11_part_1 : decode cX11_part 1 = .ok (.getfield 74, 3) := by decide +kernel
theorem dX11_part_4 : decode cX11_part 4 = .ok (.iload_n 1, 1) := by decide +kernel
theorem dX11_part_5 : decode cX11_part 5 = .ok (.invokevirtual 118, 3) := by decide +kernel
theorem dX11_part_8 : decode cX11_part 8 = .ok (.ifCond .ne 5, 3) := by decide +kernel
theorem dX11_part_11 : decode cX11_part 11 = .ok (.iconst (-1), 1) := by decide +kernel
theorem dX11_part_12 : decode cX11_part 12 = .ok (.ireturn, 1) := by decide +kernel
theorem dX11_part_13 : decode cX11_part 13 = .ok (.aload_n 0, 1) := by decide +kernel
theorem dX11_part_14 : decode cX11_part 14 = .ok (.iload_n 1, 1) := by decide +kernel
theorem dX11_part_15 : decode cX11_part 15 = .ok (.invokevirtual 189, 3) := by decide +kernel
theorem dX11_part_18 : decode cX11_part 18 = .ok (.istore_n 2, 1) := by decide +kernel
theorem dX11_part_19 : decode cX11_part 19 = .ok (.iconst 0, 1) := by decide +kernel
theorem dX11_part_20 : decode cX11_part 20 = .ok (.istore_n 3, 1) := by decide +kernel
theorem dX11_part_21 : decode cX11_part 21 = .ok (.iconst 0, 1) := by decide +kernel
theorem dX11_part_22 : decode cX11_part 22 = .ok (.istore 4, 2) := by decide +kernel
theorem dX11_part_24 : decode cX11_part 24 = .ok (.iload 4, 2) := by decide +kernel
theorem dX11_part_26 : decode cX11_part 26 = .ok (.aload_n 0, 1) := by decide +kernel
theorem dX11_part_27 : decode cX11_part 27 = .ok (.getfield 74, 3) := by decide +kernel
theorem dX11_part_30 : decode cX11_part 30 = .ok (.getfield 115, 3) := by decide +kernel
theorem dX11_part_33 : decode cX11_part 33 = .ok (.if_icmp .ge 52, 3) := by decide +kernel
theorem dX11_part_36 : decode cX11_part 36 = .ok (.iload_n 2, 1) := by decide +kernel
theorem dX11_part_37 : decode cX11_part 37 = .ok (.iload 4, 2) := by decide +kernel
theorem dX11_part_39 : decode cX11_part 39 = .ok (.ishr, 1) := by decide +kernel
theorem dX11_part_40 : decode cX11_part 40 = .ok (.iconst 1, 1) := by decide +kernel
theorem dX11_part_41 : decode cX11_part 41 = .ok (.iand, 1) := by decide +kernel
theorem dX11_part_42 : decode cX11_part 42 = .ok (.iconst 1, 1) := by decide +kernel
theorem dX11_part_43 : decode cX11_part 43 = .ok (.if_icmp .ne 7, 3) := by decide +kernel
theorem dX11_part_46 : decode cX11_part 46 = .ok (.iconst 1, 1) := by decide +kernel
theorem dX11_part_47 : decode cX11_part 47 = .ok (.goto 4, 3) := by decide +kernel
theorem dX11_part_50 : decode cX11_part 50 = .ok (.iconst 0, 1) := by decide +kernel
theorem dX11_part_51 : decode cX11_part 51 = .ok (.istore 5, 2) := by decide +kernel
theorem dX11_part_53 : decode cX11_part 53 = .ok (.iload 5, 2) := by decide +kernel
theorem dX11_part_55 : decode cX11_part 55 = .ok (.ifCond .eq 24, 3) := by decide +kernel
theorem dX11_part_58 : decode cX11_part 58 = .ok (.aload_n 0, 1) := by decide +kernel
theorem dX11_part_59 : decode cX11_part 59 = .ok (.iload 4, 2) := by decide +kernel
theorem dX11_part_61 : decode cX11_part 61 = .ok (.invokevirtual 189, 3) := by decide +kernel
theorem dX11_part_64 : decode cX11_part 64 = .ok (.iload_n 1, 1) := by decide +kernel
theorem dX11_part_65 : decode cX11_part 65 = .ok (.ishr, 1) := by decide +kernel
theorem dX11_part_66 : decode cX11_part 66 = .ok (.iconst 1, 1) := by decide +kernel
theorem dX11_part_67 : decode cX11_part 67 = .ok (.iand, 1) := by decide +kernel
theorem dX11_part_68 : decode cX11_part 68 = .ok (.iconst 1, 1) := by decide +kernel
theorem dX11_part_69 : decode cX11_part 69 = .ok (.if_icmp .ne 10, 3) := by decide +kernel
theorem dX11_part_72 : decode cX11_part 72 = .ok (.iload_n 3, 1) := by decide +kernel
theorem dX11_part_73 : decode cX11_part 73 = .ok (.iconst 1, 1) := by decide +kernel
theorem dX11_part_74 : decode cX11_part 74 = .ok (.iload 4, 2) := by decide +kernel
theorem dX11_part_76 : decode cX11_part 76 = .ok (.ishl, 1) := by decide +kernel
theorem dX11_part_77 : decode cX11_part 77 = .ok (.ior, 1) := by decide +kernel
theorem dX11_part_78 : decode cX11_part 78 = .ok (.istore_n 3, 1) := by decide +kernel
theorem dX11_part_79 : decode cX11_part 79 = .ok (.iinc 4 1, 3) := by decide +kernel
theorem dX11_part_82 : decode cX11_part 82 = .ok (.goto (-58), 3) := by decide +kernel
theorem dX11_part_85 : decode cX11_part 85 = .ok (.iload_n 3, 1) := by decide +kernel
theorem dX11_part_86 : decode cX11_part 86 = .ok (.ireturn, 1) := by decide +kernel
theorem dX11_telling_0 : decode cX11_telling 0 = .ok (.aload_n 0, 1) := by decide +kernel
theorem dX11_telling_1 : decode cX11_telling 1 = .ok (.getfield 31, 3) := by decide +kernel
theorem dX11_telling_4 : decode cX11_telling 4 = .ok (.aload_n 0, 1) := by decide +kernel
theorem dX11_telling_5 : decode cX11_telling 5 = .ok (.getfield 74, 3) := by decide +kernel
theorem dX11_telling_8 : decode cX11_telling 8 = .ok (.aload_n 0, 1) := by decide +kernel
theorem dX11_telling_9 : decode cX11_telling 9 = .ok (.getfield 66, 3) := by decide +kernel
theorem dX11_telling_12 : decode cX11_telling 12 = .ok (.invokevirtual 149, 3) := by decide +kernel
theorem dX11_telling_15 : decode cX11_telling 15 = .ok (.aload_n 0, 1) := by decide +kernel
theorem dX11_telling_16 : decode cX11_telling 16 = .ok (.getfield 31, 3) := by decide +kernel
theorem dX11_telling_19 : decode cX11_telling 19 = .ok (.aload_n 0, 1) := by decide +kernel
theorem dX11_telling_20 : decode cX11_telling 20 = .ok (.getfield 74, 3) := by decide +kernel
theorem dX11_telling_23 : decode cX11_telling 23 = .ok (.invokevirtual 192, 3) := by decide +kernel
theorem dX11_telling_26 : decode cX11_telling 26 = .ok (.ireturn, 1) := by decide +kernel
theorem dX11_mark_0 : decode cX11_mark 0 = .ok (.aload_n 0, 1) := by decide +kernel
theorem dX11_mark_1 : decode cX11_mark 1 = .ok (.getfield 74, 3) := by decide +kernel
theorem dX11_mark_4 : decode cX11_mark 4 = .ok (.iload_n 1, 1) := by decide +kernel
theorem dX11_mark_5 : decode cX11_mark 5 = .ok (.invokevirtual 118, 3) := by decide +kernel
theorem dX11_mark_8 : decode cX11_mark 8 = .ok (.ifCond .eq 14, 3) := by decide +kernel
theorem dX11_mark_11 : decode cX11_mark 11 = .ok (.aload_n 0, 1) := by decide +kernel
theorem dX11_mark_12 : decode cX11_mark 12 = .ok (.getfield 74, 3) := by decide +kernel
theorem dX11_mark_15 : decode cX11_mark 15 = .ok (.iload_n 2, 1) := by decide +kernel
theorem dX11_mark_16 : decode cX11_mark 16 = .ok (.invokevirtual 196, 3) := by decide +kernel
theorem dX11_mark_19 : decode cX11_mark 19 = .ok (.ifCond .ne 5, 3) := by decide +kernel
theorem dX11_mark_22 : decode cX11_mark 22 = .ok (.iconst 0, 1) := by decide +kernel
theorem dX11_mark_23 : decode cX11_mark 23 = .ok (.ireturn, 1) := by decide +kernel
theorem dX11_mark_24 : decode cX11_mark 24 = .ok (.aload_n 0, 1) := by decide +kernel
theorem dX11_mark_25 : decode cX11_mark 25 = .ok (.getfield 66, 3) := by decide +kernel
theorem dX11_mark_28 : decode cX11_mark 28 = .ok (.aload_n 0, 1) := by decide +kernel
theorem dX11_mark_29 : decode cX11_mark 29 = .ok (.getfield 74, 3) := by decide +kernel
theorem dX11_mark_32 : decode cX11_mark 32 = .ok (.aload_n 0, 1) := by decide +kernel
theorem dX11_mark_33 : decode cX11_mark 33 = .ok (.getfield 66, 3) := by decide +kernel
theorem dX11_mark_36 : decode cX11_mark 36 = .ok (.getfield 178, 3) := by decide +kernel
theorem dX11_mark_39 : decode cX11_mark 39 = .ok (.iload_n 1, 1) := by decide +kernel
theorem dX11_mark_40 : decode cX11_mark 40 = .ok (.iload_n 2, 1) := by decide +kernel
theorem dX11_mark_41 : decode cX11_mark 41 = .ok (.invokevirtual 199, 3) := by decide +kernel
theorem dX11_mark_44 : decode cX11_mark 44 = .ok (.putfield 178, 3) := by decide +kernel
theorem dX11_mark_47 : decode cX11_mark 47 = .ok (.iconst 1, 1) := by decide +kernel
theorem dX11_mark_48 : decode cX11_mark 48 = .ok (.ireturn, 1) := by decide +kernel
theorem dX11_open_0 : decode cX11_open 0 = .ok (.aload_n 0, 1) := by decide +kernel
theorem dX11_open_1 : decode cX11_open 1 = .ok (.getfield 74, 3) := by decide +kernel
theorem dX11_open_4 : decode cX11_open 4 = .ok (.iload_n 1, 1) := by decide +kernel
theorem dX11_open_5 : decode cX11_open 5 = .ok (.invokevirtual 118, 3) := by decide +kernel
theorem dX11_open_8 : decode cX11_open 8 = .ok (.ifCond .ne 5, 3) := by decide +kernel
theorem dX11_open_11 : decode cX11_open 11 = .ok (.iconst (-1), 1) := by decide +kernel
theorem dX11_open_12 : decode cX11_open 12 = .ok (.ireturn, 1) := by decide +kernel
theorem dX11_open_13 : decode cX11_open 13 = .ok (.aload_n 0, 1) := by decide +kernel
theorem dX11_open_14 : decode cX11_open 14 = .ok (.getfield 24, 3) := by decide +kernel
theorem dX11_open_17 : decode cX11_open 17 = .ok (.aload_n 0, 1) := by decide +kernel
theorem dX11_open_18 : decode cX11_open 18 = .ok (.getfield 66, 3) := by decide +kernel
theorem dX11_open_21 : decode cX11_open 21 = .ok (.iload_n 1, 1) := by decide +kernel
theorem dX11_open_22 : decode cX11_open 22 = .ok (.invokevirtual 126, 3) := by decide +kernel
theorem dX11_open_25 : decode cX11_open 25 = .ok (.iload_n 1, 1) := by decide +kernel
theorem dX11_open_26 : decode cX11_open 26 = .ok (.aload_n 0, 1) := by decide +kernel
theorem dX11_open_27 : decode cX11_open 27 = .ok (.getfield 66, 3) := by decide +kernel
theorem dX11_open_30 : decode cX11_open 30 = .ok (.getfield 178, 3) := by decide +kernel
theorem dX11_open_33 : decode cX11_open 33 = .ok (.aload_n 0, 1) := by decide +kernel
theorem dX11_open_34 : decode cX11_open 34 = .ok (.getfield 74, 3) := by decide +kernel
theorem dX11_open_37 : decode cX11_open 37 = .ok (.invokevirtual 181, 3) := by decide +kernel
theorem dX11_open_40 : decode cX11_open 40 = .ok (.istore_n 2, 1) := by decide +kernel
theorem dX11_open_41 : decode cX11_open 41 = .ok (.aload_n 0, 1) := by decide +kernel
theorem dX11_open_42 : decode cX11_open 42 = .ok (.getfield 66, 3) := by decide +kernel
theorem dX11_open_45 : decode cX11_open 45 = .ok (.aload_n 0, 1) := by decide +kernel
theorem dX11_open_46 : decode cX11_open 46 = .ok (.getfield 74, 3) := by decide +kernel
theorem dX11_open_49 : decode cX11_open 49 = .ok (.aload_n 0, 1) := by decide +kernel
theorem dX11_open_50 : decode cX11_open 50 = .ok (.getfield 66, 3) := by decide +kernel
theorem dX11_open_53 : decode cX11_open 53 = .ok (.getfield 178, 3) := by decide +kernel
theorem dX11_open_56 : decode cX11_open 56 = .ok (.iload_n 1, 1) := by decide +kernel
theorem dX11_open_57 : decode cX11_open 57 = .ok (.iload_n 2, 1) := by decide +kernel
theorem dX11_open_58 : decode cX11_open 58 = .ok (.invokevirtual 199, 3) := by decide +kernel
theorem dX11_open_61 : decode cX11_open 61 = .ok (.putfield 178, 3) := by decide +kernel
theorem dX11_open_64 : decode cX11_open 64 = .ok (.iload_n 2, 1) := by decide +kernel
theorem dX11_open_65 : decode cX11_open 65 = .ok (.ireturn, 1) := by decide +kernel
theorem dX11_has_0 : decode cX11_has 0 = .ok (.aload_n 0, 1) := by decide +kernel
theorem dX11_has_1 : decode cX11_has 1 = .ok (.getfield 74, 3) := by decide +kernel
theorem dX11_has_4 : decode cX11_has 4 = .ok (.iload_n 1, 1) := by decide +kernel
theorem dX11_has_5 : decode cX11_has 5 = .ok (.invokevirtual 118, 3) := by decide +kernel
theorem dX11_has_8 : decode cX11_has 8 = .ok (.ifCond .eq 21, 3) := by decide +kernel
theorem dX11_has_11 : decode cX11_has 11 = .ok (.aload_n 0, 1) := by decide +kernel
theorem dX11_has_12 : decode cX11_has 12 = .ok (.getfield 74, 3) := by decide +kernel
theorem dX11_has_15 : decode cX11_has 15 = .ok (.aload_n 0, 1) := by decide +kernel
theorem dX11_has_16 : decode cX11_has 16 = .ok (.getfield 66, 3) := by decide +kernel
theorem dX11_has_19 : decode cX11_has 19 = .ok (.getfield 178, 3) := by decide +kernel
theorem dX11_has_22 : decode cX11_has 22 = .ok (.iload_n 1, 1) := by decide +kernel
theorem dX11_has_23 : decode cX11_has 23 = .ok (.invokevirtual 167, 3) := by decide +kernel
theorem dX11_has_26 : decode cX11_has 26 = .ok (.goto 4, 3) := by decide +kernel
theorem dX11_has_29 : decode cX11_has 29 = .ok (.iconst (-1), 1) := by decide +kernel
theorem dX11_has_30 : decode cX11_has 30 = .ok (.ireturn, 1) := by decide +kernel
theorem dX11_judge_0 : decode cX11_judge 0 = .ok (.aload_n 0, 1) := by decide +kernel
theorem dX11_judge_1 : decode cX11_judge 1 = .ok (.getfield 24, 3) := by decide +kernel
theorem dX11_judge_4 : decode cX11_judge 4 = .ok (.aload_n 0, 1) := by decide +kernel
theorem dX11_judge_5 : decode cX11_judge 5 = .ok (.getfield 66, 3) := by decide +kernel
theorem dX11_judge_8 : decode cX11_judge 8 = .ok (.aload_n 0, 1) := by decide +kernel
theorem dX11_judge_9 : decode cX11_judge 9 = .ok (.getfield 74, 3) := by decide +kernel
theorem dX11_judge_12 : decode cX11_judge 12 = .ok (.getfield 115, 3) := by decide +kernel
theorem dX11_judge_15 : decode cX11_judge 15 = .ok (.aload_n 0, 1) := by decide +kernel
theorem dX11_judge_16 : decode cX11_judge 16 = .ok (.getfield 66, 3) := by decide +kernel
theorem dX11_judge_19 : decode cX11_judge 19 = .ok (.getfield 178, 3) := by decide +kernel
theorem dX11_judge_22 : decode cX11_judge 22 = .ok (.aload_n 0, 1) := by decide +kernel
theorem dX11_judge_23 : decode cX11_judge 23 = .ok (.getfield 74, 3) := by decide +kernel
theorem dX11_judge_26 : decode cX11_judge 26 = .ok (.invokevirtual 203, 3) := by decide +kernel
theorem dX11_judge_29 : decode cX11_judge 29 = .ok (.ireturn, 1) := by decide +kernel
theorem dX11_rest_0 : decode cX11_rest 0 = .ok (.aload_n 0, 1) := by decide +kernel
theorem dX11_rest_1 : decode cX11_rest 1 = .ok (.getfield 38, 3) := by decide +kernel
theorem dX11_rest_4 : decode cX11_rest 4 = .ok (.iload_n 1, 1) := by decide +kernel
theorem dX11_rest_5 : decode cX11_rest 5 = .ok (.aload_n 0, 1) := by decide +kernel
theorem dX11_rest_6 : decode cX11_rest 6 = .ok (.getfield 74, 3) := by decide +kernel
theorem dX11_rest_9 : decode cX11_rest 9 = .ok (.getfield 115, 3) := by decide +kernel
theorem dX11_rest_12 : decode cX11_rest 12 = .ok (.invokevirtual 207, 3) := by decide +kernel
theorem dX11_rest_15 : decode cX11_rest 15 = .ok (.ifCond .ne 6, 3) := by decide +kernel
theorem dX11_rest_18 : decode cX11_rest 18 = .ok (.bipush (-2), 2) := by decide +kernel
theorem dX11_rest_20 : decode cX11_rest 20 = .ok (.ireturn, 1) := by decide +kernel
theorem dX11_rest_21 : decode cX11_rest 21 = .ok (.aload_n 0, 1) := by decide +kernel
theorem dX11_rest_22 : decode cX11_rest 22 = .ok (.getfield 31, 3) := by decide +kernel
theorem dX11_rest_25 : decode cX11_rest 25 = .ok (.aload_n 0, 1) := by decide +kernel
theorem dX11_rest_26 : decode cX11_rest 26 = .ok (.getfield 74, 3) := by decide +kernel
theorem dX11_rest_29 : decode cX11_rest 29 = .ok (.aload_n 0, 1) := by decide +kernel
theorem dX11_rest_30 : decode cX11_rest 30 = .ok (.getfield 66, 3) := by decide +kernel
theorem dX11_rest_33 : decode cX11_rest 33 = .ok (.invokevirtual 149, 3) := by decide +kernel
theorem dX11_rest_36 : decode cX11_rest 36 = .ok (.aload_n 0, 1) := by decide +kernel
theorem dX11_rest_37 : decode cX11_rest 37 = .ok (.getfield 38, 3) := by decide +kernel
theorem dX11_rest_40 : decode cX11_rest 40 = .ok (.aload_n 0, 1) := by decide +kernel
theorem dX11_rest_41 : decode cX11_rest 41 = .ok (.getfield 31, 3) := by decide +kernel
theorem dX11_rest_44 : decode cX11_rest 44 = .ok (.getfield 211, 3) := by decide +kernel
theorem dX11_rest_47 : decode cX11_rest 47 = .ok (.bipush 40, 2) := by decide +kernel
theorem dX11_rest_49 : decode cX11_rest 49 = .ok (.invokevirtual 214, 3) := by decide +kernel
theorem dX11_rest_52 : decode cX11_rest 52 = .ok (.ireturn, 1) := by decide +kernel
theorem dX11_soonest_0 : decode cX11_soonest 0 = .ok (.iload_n 1, 1) := by decide +kernel
theorem dX11_soonest_1 : decode cX11_soonest 1 = .ok (.ifCond .eq 10, 3) := by decide +kernel
theorem dX11_soonest_4 : decode cX11_soonest 4 = .ok (.iload_n 1, 1) := by decide +kernel
theorem dX11_soonest_5 : decode cX11_soonest 5 = .ok (.iconst 1, 1) := by decide +kernel
theorem dX11_soonest_6 : decode cX11_soonest 6 = .ok (.if_icmp .eq 5, 3) := by decide +kernel
theorem dX11_soonest_9 : decode cX11_soonest 9 = .ok (.iconst (-1), 1) := by decide +kernel
theorem dX11_soonest_10 : decode cX11_soonest 10 = .ok (.ireturn, 1) := by decide +kernel
theorem dX11_soonest_11 : decode cX11_soonest 11 = .ok (.aload_n 0, 1) := by decide +kernel
theorem dX11_soonest_12 : decode cX11_soonest 12 = .ok (.getfield 38, 3) := by decide +kernel
theorem dX11_soonest_15 : decode cX11_soonest 15 = .ok (.getfield 217, 3) := by decide +kernel
theorem dX11_soonest_18 : decode cX11_soonest 18 = .ok (.ifCond .ne 39, 3) := by decide +kernel
theorem dX11_soonest_21 : decode cX11_soonest 21 = .ok (.aload_n 0, 1) := by decide +kernel
theorem dX11_soonest_22 : decode cX11_soonest 22 = .ok (.getfield 31, 3) := by decide +kernel
theorem dX11_soonest_25 : decode cX11_soonest 25 = .ok (.aload_n 0, 1) := by decide +kernel
theorem dX11_soonest_26 : decode cX11_soonest 26 = .ok (.getfield 74, 3) := by decide +kernel
theorem dX11_soonest_29 : decode cX11_soonest 29 = .ok (.aload_n 0, 1) := by decide +kernel
theorem dX11_soonest_30 : decode cX11_soonest 30 = .ok (.getfield 66, 3) := by decide +kernel
theorem dX11_soonest_33 : decode cX11_soonest 33 = .ok (.invokevirtual 149, 3) := by decide +kernel
theorem dX11_soonest_36 : decode cX11_soonest 36 = .ok (.aload_n 0, 1) := by decide +kernel
theorem dX11_soonest_37 : decode cX11_soonest 37 = .ok (.getfield 38, 3) := by decide +kernel
theorem dX11_soonest_40 : decode cX11_soonest 40 = .ok (.aload_n 0, 1) := by decide +kernel
theorem dX11_soonest_41 : decode cX11_soonest 41 = .ok (.getfield 31, 3) := by decide +kernel
theorem dX11_soonest_44 : decode cX11_soonest 44 = .ok (.getfield 211, 3) := by decide +kernel
theorem dX11_soonest_47 : decode cX11_soonest 47 = .ok (.aload_n 0, 1) := by decide +kernel
theorem dX11_soonest_48 : decode cX11_soonest 48 = .ok (.getfield 74, 3) := by decide +kernel
theorem dX11_soonest_51 : decode cX11_soonest 51 = .ok (.getfield 115, 3) := by decide +kernel
theorem dX11_soonest_54 : decode cX11_soonest 54 = .ok (.invokevirtual 221, 3) := by decide +kernel
theorem dX11_soonest_57 : decode cX11_soonest 57 = .ok (.iload_n 1, 1) := by decide +kernel
theorem dX11_soonest_58 : decode cX11_soonest 58 = .ok (.ifCond .ne 13, 3) := by decide +kernel
theorem dX11_soonest_61 : decode cX11_soonest 61 = .ok (.aload_n 0, 1) := by decide +kernel
theorem dX11_soonest_62 : decode cX11_soonest 62 = .ok (.getfield 38, 3) := by decide +kernel
theorem dX11_soonest_65 : decode cX11_soonest 65 = .ok (.getfield 225, 3) := by decide +kernel
theorem dX11_soonest_68 : decode cX11_soonest 68 = .ok (.goto 10, 3) := by decide +kernel
theorem dX11_soonest_71 : decode cX11_soonest 71 = .ok (.aload_n 0, 1) := by decide +kernel
theorem dX11_soonest_72 : decode cX11_soonest 72 = .ok (.getfield 38, 3) := by decide +kernel
theorem dX11_soonest_75 : decode cX11_soonest 75 = .ok (.getfield 228, 3) := by decide +kernel
theorem dX11_soonest_78 : decode cX11_soonest 78 = .ok (.ireturn, 1) := by decide +kernel
theorem dX11_sway_0 : decode cX11_sway 0 = .ok (.aload_n 0, 1) := by decide +kernel
theorem dX11_sway_1 : decode cX11_sway 1 = .ok (.getfield 74, 3) := by decide +kernel
theorem dX11_sway_4 : decode cX11_sway 4 = .ok (.iload_n 1, 1) := by decide +kernel
theorem dX11_sway_5 : decode cX11_sway 5 = .ok (.invokevirtual 175, 3) := by decide +kernel
theorem dX11_sway_8 : decode cX11_sway 8 = .ok (.ifCond .eq 12, 3) := by decide +kernel
theorem dX11_sway_11 : decode cX11_sway 11 = .ok (.iload_n 2, 1) := by decide +kernel
theorem dX11_sway_12 : decode cX11_sway 12 = .ok (.ifCond .lt 8, 3) := by decide +kernel
theorem dX11_sway_15 : decode cX11_sway 15 = .ok (.iload_n 2, 1) := by decide +kernel
theorem dX11_sway_16 : decode cX11_sway 16 = .ok (.iconst 2, 1) := by decide +kernel
theorem dX11_sway_17 : decode cX11_sway 17 = .ok (.if_icmp .le 5, 3) := by decide +kernel
theorem dX11_sway_20 : decode cX11_sway 20 = .ok (.iconst (-1), 1) := by decide +kernel
theorem dX11_sway_21 : decode cX11_sway 21 = .ok (.ireturn, 1) := by decide +kernel
theorem dX11_sway_22 : decode cX11_sway 22 = .ok (.aload_n 0, 1) := by decide +kernel
theorem dX11_sway_23 : decode cX11_sway 23 = .ok (.getfield 45, 3) := by decide +kernel
theorem dX11_sway_26 : decode cX11_sway 26 = .ok (.iload_n 1, 1) := by decide +kernel
theorem dX11_sway_27 : decode cX11_sway 27 = .ok (.invokevirtual 231, 3) := by decide +kernel
theorem dX11_sway_30 : decode cX11_sway 30 = .ok (.ifCond .ne 34, 3) := by decide +kernel
theorem dX11_sway_33 : decode cX11_sway 33 = .ok (.aload_n 0, 1) := by decide +kernel
theorem dX11_sway_34 : decode cX11_sway 34 = .ok (.getfield 31, 3) := by decide +kernel
theorem dX11_sway_37 : decode cX11_sway 37 = .ok (.aload_n 0, 1) := by decide +kernel
theorem dX11_sway_38 : decode cX11_sway 38 = .ok (.getfield 74, 3) := by decide +kernel
theorem dX11_sway_41 : decode cX11_sway 41 = .ok (.aload_n 0, 1) := by decide +kernel
theorem dX11_sway_42 : decode cX11_sway 42 = .ok (.getfield 66, 3) := by decide +kernel
theorem dX11_sway_45 : decode cX11_sway 45 = .ok (.invokevirtual 149, 3) := by decide +kernel
theorem dX11_sway_48 : decode cX11_sway 48 = .ok (.aload_n 0, 1) := by decide +kernel
theorem dX11_sway_49 : decode cX11_sway 49 = .ok (.getfield 45, 3) := by decide +kernel
theorem dX11_sway_52 : decode cX11_sway 52 = .ok (.iload_n 1, 1) := by decide +kernel
theorem dX11_sway_53 : decode cX11_sway 53 = .ok (.aload_n 0, 1) := by decide +kernel
theorem dX11_sway_54 : decode cX11_sway 54 = .ok (.getfield 31, 3) := by decide +kernel
theorem dX11_sway_57 : decode cX11_sway 57 = .ok (.aload_n 0, 1) := by decide +kernel
theorem dX11_sway_58 : decode cX11_sway 58 = .ok (.getfield 74, 3) := by decide +kernel
theorem dX11_sway_61 : decode cX11_sway 61 = .ok (.invokevirtual 234, 3) := by decide +kernel
theorem dX11_sway_64 : decode cX11_sway 64 = .ok (.aload_n 0, 1) := by decide +kernel
theorem dX11_sway_65 : decode cX11_sway 65 = .ok (.getfield 45, 3) := by decide +kernel
theorem dX11_sway_68 : decode cX11_sway 68 = .ok (.iload_n 1, 1) := by decide +kernel
theorem dX11_sway_69 : decode cX11_sway 69 = .ok (.iload_n 2, 1) := by decide +kernel
theorem dX11_sway_70 : decode cX11_sway 70 = .ok (.invokevirtual 237, 3) := by decide +kernel
theorem dX11_sway_73 : decode cX11_sway 73 = .ok (.ireturn, 1) := by decide +kernel
theorem dX11_more_0 : decode cX11_more 0 = .ok (.iload_n 1, 1) := by decide +kernel
theorem dX11_more_1 : decode cX11_more 1 = .ok (.ifCond .lt 29, 3) := by decide +kernel
theorem dX11_more_4 : decode cX11_more 4 = .ok (.iload_n 1, 1) := by decide +kernel
theorem dX11_more_5 : decode cX11_more 5 = .ok (.aload_n 0, 1) := by decide +kernel
theorem dX11_more_6 : decode cX11_more 6 = .ok (.getfield 74, 3) := by decide +kernel
theorem dX11_more_9 : decode cX11_more 9 = .ok (.getfield 240, 3) := by decide +kernel
theorem dX11_more_12 : decode cX11_more 12 = .ok (.if_icmp .ge 18, 3) := by decide +kernel
theorem dX11_more_15 : decode cX11_more 15 = .ok (.aload_n 0, 1) := by decide +kernel
theorem dX11_more_16 : decode cX11_more 16 = .ok (.getfield 74, 3) := by decide +kernel
theorem dX11_more_19 : decode cX11_more 19 = .ok (.iload_n 2, 1) := by decide +kernel
theorem dX11_more_20 : decode cX11_more 20 = .ok (.invokevirtual 196, 3) := by decide +kernel
theorem dX11_more_23 : decode cX11_more 23 = .ok (.ifCond .eq 7, 3) := by decide +kernel
theorem dX11_more_26 : decode cX11_more 26 = .ok (.iconst 1, 1) := by decide +kernel
theorem dX11_more_27 : decode cX11_more 27 = .ok (.goto 4, 3) := by decide +kernel
theorem dX11_more_30 : decode cX11_more 30 = .ok (.iconst 0, 1) := by decide +kernel
theorem dX11_more_31 : decode cX11_more 31 = .ok (.istore_n 3, 1) := by decide +kernel
theorem dX11_more_32 : decode cX11_more 32 = .ok (.iload_n 3, 1) := by decide +kernel
theorem dX11_more_33 : decode cX11_more 33 = .ok (.ifCond .eq 15, 3) := by decide +kernel
theorem dX11_more_36 : decode cX11_more 36 = .ok (.aload_n 0, 1) := by decide +kernel
theorem dX11_more_37 : decode cX11_more 37 = .ok (.getfield 74, 3) := by decide +kernel
theorem dX11_more_40 : decode cX11_more 40 = .ok (.getfield 115, 3) := by decide +kernel
theorem dX11_more_43 : decode cX11_more 43 = .ok (.bipush 8, 2) := by decide +kernel
theorem dX11_more_45 : decode cX11_more 45 = .ok (.if_icmp .lt 5, 3) := by decide +kernel
theorem dX11_more_48 : decode cX11_more 48 = .ok (.iconst (-1), 1) := by decide +kernel
theorem dX11_more_49 : decode cX11_more 49 = .ok (.ireturn, 1) := by decide +kernel
theorem dX11_more_50 : decode cX11_more 50 = .ok (.aload_n 0, 1) := by decide +kernel
theorem dX11_more_51 : decode cX11_more 51 = .ok (.getfield 59, 3) := by decide +kernel
theorem dX11_more_54 : decode cX11_more 54 = .ok (.aload_n 0, 1) := by decide +kernel
theorem dX11_more_55 : decode cX11_more 55 = .ok (.getfield 74, 3) := by decide +kernel
theorem dX11_more_58 : decode cX11_more 58 = .ok (.iload_n 1, 1) := by decide +kernel
theorem dX11_more_59 : decode cX11_more 59 = .ok (.invokevirtual 243, 3) := by decide +kernel
theorem dX11_more_62 : decode cX11_more 62 = .ok (.iconst 0, 1) := by decide +kernel
theorem dX11_more_63 : decode cX11_more 63 = .ok (.istore 4, 2) := by decide +kernel
theorem dX11_more_65 : decode cX11_more 65 = .ok (.iconst 1, 1) := by decide +kernel
theorem dX11_more_66 : decode cX11_more 66 = .ok (.iconst 2, 1) := by decide +kernel
theorem dX11_more_67 : decode cX11_more 67 = .ok (.aload_n 0, 1) := by decide +kernel
theorem dX11_more_68 : decode cX11_more 68 = .ok (.getfield 74, 3) := by decide +kernel
theorem dX11_more_71 : decode cX11_more 71 = .ok (.getfield 115, 3) := by decide +kernel
theorem dX11_more_74 : decode cX11_more 74 = .ok (.imul, 1) := by decide +kernel
theorem dX11_more_75 : decode cX11_more 75 = .ok (.ishl, 1) := by decide +kernel
theorem dX11_more_76 : decode cX11_more 76 = .ok (.istore 5, 2) := by decide +kernel
theorem dX11_more_78 : decode cX11_more 78 = .ok (.iconst 0, 1) := by decide +kernel
theorem dX11_more_79 : decode cX11_more 79 = .ok (.istore 6, 2) := by decide +kernel
theorem dX11_more_81 : decode cX11_more 81 = .ok (.iload 6, 2) := by decide +kernel
theorem dX11_more_83 : decode cX11_more 83 = .ok (.iload 5, 2) := by decide +kernel
theorem dX11_more_85 : decode cX11_more 85 = .ok (.if_icmp .ge 56, 3) := by decide +kernel
theorem dX11_more_88 : decode cX11_more 88 = .ok (.aload_n 0, 1) := by decide +kernel
theorem dX11_more_89 : decode cX11_more 89 = .ok (.getfield 74, 3) := by decide +kernel
theorem dX11_more_92 : decode cX11_more 92 = .ok (.iload 6, 2) := by decide +kernel
theorem dX11_more_94 : decode cX11_more 94 = .ok (.invokevirtual 247, 3) := by decide +kernel
theorem dX11_more_97 : decode cX11_more 97 = .ok (.ifCond .eq 38, 3) := by decide +kernel
theorem dX11_more_100 : decode cX11_more 100 = .ok (.aload_n 0, 1) := by decide +kernel
theorem dX11_more_101 : decode cX11_more 101 = .ok (.getfield 24, 3) := by decide +kernel
theorem dX11_more_104 : decode cX11_more 104 = .ok (.aload_n 0, 1) := by decide +kernel
theorem dX11_more_105 : decode cX11_more 105 = .ok (.getfield 66, 3) := by decide +kernel
theorem dX11_more_108 : decode cX11_more 108 = .ok (.aload_n 0, 1) := by decide +kernel
theorem dX11_more_109 : decode cX11_more 109 = .ok (.getfield 74, 3) := by decide +kernel
theorem dX11_more_112 : decode cX11_more 112 = .ok (.getfield 115, 3) := by decide +kernel
theorem dX11_more_115 : decode cX11_more 115 = .ok (.iload 6, 2) := by decide +kernel
theorem dX11_more_117 : decode cX11_more 117 = .ok (.iconst 2, 1) := by decide +kernel
theorem dX11_more_118 : decode cX11_more 118 = .ok (.ishl, 1) := by decide +kernel
theorem dX11_more_119 : decode cX11_more 119 = .ok (.iload_n 2, 1) := by decide +kernel
theorem dX11_more_120 : decode cX11_more 120 = .ok (.ior, 1) := by decide +kernel
theorem dX11_more_121 : decode cX11_more 121 = .ok (.aload_n 0, 1) := by decide +kernel
theorem dX11_more_122 : decode cX11_more 122 = .ok (.getfield 59, 3) := by decide +kernel
theorem dX11_more_125 : decode cX11_more 125 = .ok (.invokevirtual 203, 3) := by decide +kernel
theorem dX11_more_128 : decode cX11_more 128 = .ok (.iconst (-1), 1) := by decide +kernel
theorem dX11_more_129 : decode cX11_more 129 = .ok (.if_icmp .ne 6, 3) := by decide +kernel
theorem dX11_more_132 : decode cX11_more 132 = .ok (.iinc 4 1, 3) := by decide +kernel
theorem dX11_more_135 : decode cX11_more 135 = .ok (.iinc 6 1, 3) := by decide +kernel
theorem dX11_more_138 : decode cX11_more 138 = .ok (.goto (-57), 3) := by decide +kernel
theorem dX11_more_141 : decode cX11_more 141 = .ok (.iload 4, 2) := by decide +kernel
theorem dX11_more_143 : decode cX11_more 143 = .ok (.ireturn, 1) := by decide +kernel
theorem dX11_shown_0 : decode cX11_shown 0 = .ok (.iload_n 1, 1) := by decide +kernel
theorem dX11_shown_1 : decode cX11_shown 1 = .ok (.iconst 2, 1) := by decide +kernel
theorem dX11_shown_2 : decode cX11_shown 2 = .ok (.if_icmp .lt 17, 3) := by decide +kernel
theorem dX11_shown_5 : decode cX11_shown 5 = .ok (.iload_n 1, 1) := by decide +kernel
theorem dX11_shown_6 : decode cX11_shown 6 = .ok (.iconst 3, 1) := by decide +kernel
theorem dX11_shown_7 : decode cX11_shown 7 = .ok (.if_icmp .gt 12, 3) := by decide +kernel
theorem dX11_shown_10 : decode cX11_shown 10 = .ok (.iload_n 2, 1) := by decide +kernel
theorem dX11_shown_11 : decode cX11_shown 11 = .ok (.ifCond .lt 8, 3) := by decide +kernel
theorem dX11_shown_14 : decode cX11_shown 14 = .ok (.iload_n 2, 1) := by decide +kernel
theorem dX11_shown_15 : decode cX11_shown 15 = .ok (.iconst 2, 1) := by decide +kernel
theorem dX11_shown_16 : decode cX11_shown 16 = .ok (.if_icmp .le 5, 3) := by decide +kernel
theorem dX11_shown_19 : decode cX11_shown 19 = .ok (.iconst (-1), 1) := by decide +kernel
theorem dX11_shown_20 : decode cX11_shown 20 = .ok (.ireturn, 1) := by decide +kernel
theorem dX11_shown_21 : decode cX11_shown 21 = .ok (.aload_n 0, 1) := by decide +kernel
theorem dX11_shown_22 : decode cX11_shown 22 = .ok (.getfield 52, 3) := by decide +kernel
theorem dX11_shown_25 : decode cX11_shown 25 = .ok (.iload_n 1, 1) := by decide +kernel
theorem dX11_shown_26 : decode cX11_shown 26 = .ok (.iload_n 2, 1) := by decide +kernel
theorem dX11_shown_27 : decode cX11_shown 27 = .ok (.invokevirtual 250, 3) := by decide +kernel
theorem dX11_shown_30 : decode cX11_shown 30 = .ok (.iload_n 3, 1) := by decide +kernel
theorem dX11_shown_31 : decode cX11_shown 31 = .ok (.tableswitch 61 0 3 #[29, 37, 45, 53], 29) := by decide +kernel
theorem dX11_shown_60 : decode cX11_shown 60 = .ok (.aload_n 0, 1) := by decide +kernel
theorem dX11_shown_61 : decode cX11_shown 61 = .ok (.getfield 52, 3) := by decide +kernel
theorem dX11_shown_64 : decode cX11_shown 64 = .ok (.getfield 254, 3) := by decide +kernel
theorem dX11_shown_67 : decode cX11_shown 67 = .ok (.ireturn, 1) := by decide +kernel
theorem dX11_shown_68 : decode cX11_shown 68 = .ok (.aload_n 0, 1) := by decide +kernel
theorem dX11_shown_69 : decode cX11_shown 69 = .ok (.getfield 52, 3) := by decide +kernel
theorem dX11_shown_72 : decode cX11_shown 72 = .ok (.getfield 257, 3) := by decide +kernel
theorem dX11_shown_75 : decode cX11_shown 75 = .ok (.ireturn, 1) := by decide +kernel
theorem dX11_shown_76 : decode cX11_shown 76 = .ok (.aload_n 0, 1) := by decide +kernel
theorem dX11_shown_77 : decode cX11_shown 77 = .ok (.getfield 52, 3) := by decide +kernel
theorem dX11_shown_80 : decode cX11_shown 80 = .ok (.getfield 260, 3) := by decide +kernel
theorem dX11_shown_83 : decode cX11_shown 83 = .ok (.ireturn, 1) := by decide +kernel
theorem dX11_shown_84 : decode cX11_shown 84 = .ok (.aload_n 0, 1) := by decide +kernel
theorem dX11_shown_85 : decode cX11_shown 85 = .ok (.getfield 52, 3) := by decide +kernel
theorem dX11_shown_88 : decode cX11_shown 88 = .ok (.getfield 263, 3) := by decide +kernel
theorem dX11_shown_91 : decode cX11_shown 91 = .ok (.ireturn, 1) := by decide +kernel
theorem dX11_shown_92 : decode cX11_shown 92 = .ok (.iconst (-1), 1) := by decide +kernel
theorem dX11_shown_93 : decode cX11_shown 93 = .ok (.ireturn, 1) := by decide +kernel
theorem dX11_hand_0 : decode cX11_hand 0 = .ok (.aload_n 0, 1) := by decide +kernel
theorem dX11_hand_1 : decode cX11_hand 1 = .ok (.getfield 74, 3) := by decide +kernel
theorem dX11_hand_4 : decode cX11_hand 4 = .ok (.iload_n 1, 1) := by decide +kernel
theorem dX11_hand_5 : decode cX11_hand 5 = .ok (.invokevirtual 118, 3) := by decide +kernel
theorem dX11_hand_8 : decode cX11_hand 8 = .ok (.ifCond .eq 14, 3) := by decide +kernel
theorem dX11_hand_11 : decode cX11_hand 11 = .ok (.aload_n 0, 1) := by decide +kernel
theorem dX11_hand_12 : decode cX11_hand 12 = .ok (.getfield 74, 3) := by decide +kernel
theorem dX11_hand_15 : decode cX11_hand 15 = .ok (.iload_n 2, 1) := by decide +kernel
theorem dX11_hand_16 : decode cX11_hand 16 = .ok (.invokevirtual 196, 3) := by decide +kernel
theorem dX11_hand_19 : decode cX11_hand 19 = .ok (.ifCond .ne 5, 3) := by decide +kernel
theorem dX11_hand_22 : decode cX11_hand 22 = .ok (.iconst (-1), 1) := by decide +kernel
theorem dX11_hand_23 : decode cX11_hand 23 = .ok (.ireturn, 1) := by decide +kernel
theorem dX11_hand_24 : decode cX11_hand 24 = .ok (.aload_n 0, 1) := by decide +kernel
theorem dX11_hand_25 : decode cX11_hand 25 = .ok (.getfield 66, 3) := by decide +kernel
theorem dX11_hand_28 : decode cX11_hand 28 = .ok (.getfield 266, 3) := by decide +kernel
theorem dX11_hand_31 : decode cX11_hand 31 = .ok (.iload_n 1, 1) := by decide +kernel
theorem dX11_hand_32 : decode cX11_hand 32 = .ok (.iload_n 2, 1) := by decide +kernel
theorem dX11_hand_33 : decode cX11_hand 33 = .ok (.aload_n 0, 1) := by decide +kernel
theorem dX11_hand_34 : decode cX11_hand 34 = .ok (.getfield 270, 3) := by decide +kernel
theorem dX11_hand_37 : decode cX11_hand 37 = .ok (.invokevirtual 273, 3) := by decide +kernel
theorem dX11_hand_40 : decode cX11_hand 40 = .ok (.ireturn, 1) := by decide +kernel
theorem dX11_untell_0 : decode cX11_untell 0 = .ok (.aload_n 0, 1) := by decide +kernel
theorem dX11_untell_1 : decode cX11_untell 1 = .ok (.getfield 66, 3) := by decide +kernel
theorem dX11_untell_4 : decode cX11_untell 4 = .ok (.getfield 266, 3) := by decide +kernel
theorem dX11_untell_7 : decode cX11_untell 7 = .ok (.iload_n 1, 1) := by decide +kernel
theorem dX11_untell_8 : decode cX11_untell 8 = .ok (.aload_n 0, 1) := by decide +kernel
theorem dX11_untell_9 : decode cX11_untell 9 = .ok (.getfield 270, 3) := by decide +kernel
theorem dX11_untell_12 : decode cX11_untell 12 = .ok (.invokevirtual 278, 3) := by decide +kernel
theorem dX11_untell_15 : decode cX11_untell 15 = .ok (.ireturn, 1) := by decide +kernel
theorem dX11_later_0 : decode cX11_later 0 = .ok (.iload_n 1, 1) := by decide +kernel
theorem dX11_later_1 : decode cX11_later 1 = .ok (.ifCond .lt 22, 3) := by decide +kernel
theorem dX11_later_4 : decode cX11_later 4 = .ok (.iload_n 1, 1) := by decide +kernel
theorem dX11_later_5 : decode cX11_later 5 = .ok (.sipush 1000, 3) := by decide +kernel
theorem dX11_later_8 : decode cX11_later 8 = .ok (.if_icmp .gt 15, 3) := by decide +kernel
theorem dX11_later_11 : decode cX11_later 11 = .ok (.aload_n 0, 1) := by decide +kernel
theorem dX11_later_12 : decode cX11_later 12 = .ok (.getfield 270, 3) := by decide +kernel
theorem dX11_later_15 : decode cX11_later 15 = .ok (.iload_n 1, 1) := by decide +kernel
theorem dX11_later_16 : decode cX11_later 16 = .ok (.iadd, 1) := by decide +kernel
theorem dX11_later_17 : decode cX11_later 17 = .ok (.ldc_w 281, 3) := by decide +kernel
theorem dX11_later_20 : decode cX11_later 20 = .ok (.if_icmp .le 5, 3) := by decide +kernel
theorem dX11_later_23 : decode cX11_later 23 = .ok (.iconst (-1), 1) := by decide +kernel
theorem dX11_later_24 : decode cX11_later 24 = .ok (.ireturn, 1) := by decide +kernel
theorem dX11_later_25 : decode cX11_later 25 = .ok (.aload_n 0, 1) := by decide +kernel
theorem dX11_later_26 : decode cX11_later 26 = .ok (.dup, 1) := by decide +kernel
theorem dX11_later_27 : decode cX11_later 27 = .ok (.getfield 270, 3) := by decide +kernel
theorem dX11_later_30 : decode cX11_later 30 = .ok (.iload_n 1, 1) := by decide +kernel
theorem dX11_later_31 : decode cX11_later 31 = .ok (.iadd, 1) := by decide +kernel
theorem dX11_later_32 : decode cX11_later 32 = .ok (.putfield 270, 3) := by decide +kernel
theorem dX11_later_35 : decode cX11_later 35 = .ok (.aload_n 0, 1) := by decide +kernel
theorem dX11_later_36 : decode cX11_later 36 = .ok (.getfield 270, 3) := by decide +kernel
theorem dX11_later_39 : decode cX11_later 39 = .ok (.ireturn, 1) := by decide +kernel
theorem dX11_left_0 : decode cX11_left 0 = .ok (.aload_n 0, 1) := by decide +kernel
theorem dX11_left_1 : decode cX11_left 1 = .ok (.getfield 31, 3) := by decide +kernel
theorem dX11_left_4 : decode cX11_left 4 = .ok (.aload_n 0, 1) := by decide +kernel
theorem dX11_left_5 : decode cX11_left 5 = .ok (.getfield 74, 3) := by decide +kernel
theorem dX11_left_8 : decode cX11_left 8 = .ok (.aload_n 0, 1) := by decide +kernel
theorem dX11_left_9 : decode cX11_left 9 = .ok (.getfield 66, 3) := by decide +kernel
theorem dX11_left_12 : decode cX11_left 12 = .ok (.invokevirtual 149, 3) := by decide +kernel
theorem dX11_left_15 : decode cX11_left 15 = .ok (.aload_n 0, 1) := by decide +kernel
theorem dX11_left_16 : decode cX11_left 16 = .ok (.getfield 66, 3) := by decide +kernel
theorem dX11_left_19 : decode cX11_left 19 = .ok (.getfield 266, 3) := by decide +kernel
theorem dX11_left_22 : decode cX11_left 22 = .ok (.iload_n 1, 1) := by decide +kernel
theorem dX11_left_23 : decode cX11_left 23 = .ok (.aload_n 0, 1) := by decide +kernel
theorem dX11_left_24 : decode cX11_left 24 = .ok (.getfield 74, 3) := by decide +kernel
theorem dX11_left_27 : decode cX11_left 27 = .ok (.invokevirtual 282, 3) := by decide +kernel
theorem dX11_left_30 : decode cX11_left 30 = .ok (.ifCond .ne 5, 3) := by decide +kernel
theorem dX11_left_33 : decode cX11_left 33 = .ok (.iconst 0, 1) := by decide +kernel
theorem dX11_left_34 : decode cX11_left 34 = .ok (.ireturn, 1) := by decide +kernel
theorem dX11_left_35 : decode cX11_left 35 = .ok (.iconst 0, 1) := by decide +kernel
theorem dX11_left_36 : decode cX11_left 36 = .ok (.istore_n 2, 1) := by decide +kernel
theorem dX11_left_37 : decode cX11_left 37 = .ok (.iconst 0, 1) := by decide +kernel
theorem dX11_left_38 : decode cX11_left 38 = .ok (.istore_n 3, 1) := by decide +kernel
theorem dX11_left_39 : decode cX11_left 39 = .ok (.iload_n 3, 1) := by decide +kernel
theorem dX11_left_40 : decode cX11_left 40 = .ok (.aload_n 0, 1) := by decide +kernel
theorem dX11_left_41 : decode cX11_left 41 = .ok (.getfield 31, 3) := by decide +kernel
theorem dX11_left_44 : decode cX11_left 44 = .ok (.getfield 153, 3) := by decide +kernel
theorem dX11_left_47 : decode cX11_left 47 = .ok (.if_icmp .ge 36, 3) := by decide +kernel
theorem dX11_left_50 : decode cX11_left 50 = .ok (.aload_n 0, 1) := by decide +kernel
theorem dX11_left_51 : decode cX11_left 51 = .ok (.getfield 66, 3) := by decide +kernel
theorem dX11_left_54 : decode cX11_left 54 = .ok (.getfield 266, 3) := by decide +kernel
theorem dX11_left_57 : decode cX11_left 57 = .ok (.aload_n 0, 1) := by decide +kernel
theorem dX11_left_58 : decode cX11_left 58 = .ok (.getfield 31, 3) := by decide +kernel
theorem dX11_left_61 : decode cX11_left 61 = .ok (.getfield 159, 3) := by decide +kernel
theorem dX11_left_64 : decode cX11_left 64 = .ok (.iload_n 3, 1) := by decide +kernel
theorem dX11_left_65 : decode cX11_left 65 = .ok (.invokestatic 163, 3) := by decide +kernel
theorem dX11_left_68 : decode cX11_left 68 = .ok (.invokevirtual 286, 3) := by decide +kernel
theorem dX11_left_71 : decode cX11_left 71 = .ok (.ifCond .eq 6, 3) := by decide +kernel
theorem dX11_left_74 : decode cX11_left 74 = .ok (.iinc 2 1, 3) := by decide +kernel
theorem dX11_left_77 : decode cX11_left 77 = .ok (.iinc 3 1, 3) := by decide +kernel
theorem dX11_left_80 : decode cX11_left 80 = .ok (.goto (-41), 3) := by decide +kernel
theorem dX11_left_83 : decode cX11_left 83 = .ok (.iload_n 2, 1) := by decide +kernel
theorem dX11_left_84 : decode cX11_left 84 = .ok (.ireturn, 1) := by decide +kernel
theorem dX11_sure_0 : decode cX11_sure 0 = .ok (.aload_n 0, 1) := by decide +kernel
theorem dX11_sure_1 : decode cX11_sure 1 = .ok (.getfield 31, 3) := by decide +kernel
theorem dX11_sure_4 : decode cX11_sure 4 = .ok (.aload_n 0, 1) := by decide +kernel
theorem dX11_sure_5 : decode cX11_sure 5 = .ok (.getfield 74, 3) := by decide +kernel
theorem dX11_sure_8 : decode cX11_sure 8 = .ok (.aload_n 0, 1) := by decide +kernel
theorem dX11_sure_9 : decode cX11_sure 9 = .ok (.getfield 66, 3) := by decide +kernel
theorem dX11_sure_12 : decode cX11_sure 12 = .ok (.invokevirtual 149, 3) := by decide +kernel
theorem dX11_sure_15 : decode cX11_sure 15 = .ok (.aload_n 0, 1) := by decide +kernel
theorem dX11_sure_16 : decode cX11_sure 16 = .ok (.getfield 74, 3) := by decide +kernel
theorem dX11_sure_19 : decode cX11_sure 19 = .ok (.iload_n 1, 1) := by decide +kernel
theorem dX11_sure_20 : decode cX11_sure 20 = .ok (.invokevirtual 118, 3) := by decide +kernel
theorem dX11_sure_23 : decode cX11_sure 23 = .ok (.ifCond .eq 21, 3) := by decide +kernel
theorem dX11_sure_26 : decode cX11_sure 26 = .ok (.aload_n 0, 1) := by decide +kernel
theorem dX11_sure_27 : decode cX11_sure 27 = .ok (.getfield 66, 3) := by decide +kernel
theorem dX11_sure_30 : decode cX11_sure 30 = .ok (.getfield 266, 3) := by decide +kernel
theorem dX11_sure_33 : decode cX11_sure 33 = .ok (.iload_n 2, 1) := by decide +kernel
theorem dX11_sure_34 : decode cX11_sure 34 = .ok (.aload_n 0, 1) := by decide +kernel
theorem dX11_sure_35 : decode cX11_sure 35 = .ok (.getfield 74, 3) := by decide +kernel
theorem dX11_sure_38 : decode cX11_sure 38 = .ok (.invokevirtual 282, 3) := by decide +kernel
theorem dX11_sure_41 : decode cX11_sure 41 = .ok (.ifCond .ne 5, 3) := by decide +kernel
theorem dX11_sure_44 : decode cX11_sure 44 = .ok (.iconst (-1), 1) := by decide +kernel
theorem dX11_sure_45 : decode cX11_sure 45 = .ok (.ireturn, 1) := by decide +kernel
theorem dX11_sure_46 : decode cX11_sure 46 = .ok (.iconst (-1), 1) := by decide +kernel
theorem dX11_sure_47 : decode cX11_sure 47 = .ok (.istore_n 3, 1) := by decide +kernel
theorem dX11_sure_48 : decode cX11_sure 48 = .ok (.iconst 0, 1) := by decide +kernel
theorem dX11_sure_49 : decode cX11_sure 49 = .ok (.istore 4, 2) := by decide +kernel
theorem dX11_sure_51 : decode cX11_sure 51 = .ok (.iload 4, 2) := by decide +kernel
theorem dX11_sure_53 : decode cX11_sure 53 = .ok (.aload_n 0, 1) := by decide +kernel
theorem dX11_sure_54 : decode cX11_sure 54 = .ok (.getfield 31, 3) := by decide +kernel
theorem dX11_sure_57 : decode cX11_sure 57 = .ok (.getfield 153, 3) := by decide +kernel
theorem dX11_sure_60 : decode cX11_sure 60 = .ok (.if_icmp .ge 70, 3) := by decide +kernel
theorem dX11_sure_63 : decode cX11_sure 63 = .ok (.aload_n 0, 1) := by decide +kernel
theorem dX11_sure_64 : decode cX11_sure 64 = .ok (.getfield 31, 3) := by decide +kernel
theorem dX11_sure_67 : decode cX11_sure 67 = .ok (.getfield 159, 3) := by decide +kernel
theorem dX11_sure_70 : decode cX11_sure 70 = .ok (.iload 4, 2) := by decide +kernel
theorem dX11_sure_72 : decode cX11_sure 72 = .ok (.invokestatic 163, 3) := by decide +kernel
theorem dX11_sure_75 : decode cX11_sure 75 = .ok (.istore 5, 2) := by decide +kernel
theorem dX11_sure_77 : decode cX11_sure 77 = .ok (.aload_n 0, 1) := by decide +kernel
theorem dX11_sure_78 : decode cX11_sure 78 = .ok (.getfield 66, 3) := by decide +kernel
theorem dX11_sure_81 : decode cX11_sure 81 = .ok (.getfield 266, 3) := by decide +kernel
theorem dX11_sure_84 : decode cX11_sure 84 = .ok (.iload 5, 2) := by decide +kernel
theorem dX11_sure_86 : decode cX11_sure 86 = .ok (.invokevirtual 286, 3) := by decide +kernel
theorem dX11_sure_89 : decode cX11_sure 89 = .ok (.ifCond .ne 6, 3) := by decide +kernel
theorem dX11_sure_92 : decode cX11_sure 92 = .ok (.goto 32, 3) := by decide +kernel
theorem dX11_sure_95 : decode cX11_sure 95 = .ok (.aload_n 0, 1) := by decide +kernel
theorem dX11_sure_96 : decode cX11_sure 96 = .ok (.getfield 74, 3) := by decide +kernel
theorem dX11_sure_99 : decode cX11_sure 99 = .ok (.iload 5, 2) := by decide +kernel
theorem dX11_sure_101 : decode cX11_sure 101 = .ok (.iload_n 1, 1) := by decide +kernel
theorem dX11_sure_102 : decode cX11_sure 102 = .ok (.invokevirtual 167, 3) := by decide +kernel
theorem dX11_sure_105 : decode cX11_sure 105 = .ok (.istore 6, 2) := by decide +kernel
theorem dX11_sure_107 : decode cX11_sure 107 = .ok (.iload_n 3, 1) := by decide +kernel
theorem dX11_sure_108 : decode cX11_sure 108 = .ok (.iconst (-1), 1) := by decide +kernel
theorem dX11_sure_109 : decode cX11_sure 109 = .ok (.if_icmp .eq 12, 3) := by decide +kernel
theorem dX11_sure_112 : decode cX11_sure 112 = .ok (.iload_n 3, 1) := by decide +kernel
theorem dX11_sure_113 : decode cX11_sure 113 = .ok (.iload 6, 2) := by decide +kernel
theorem dX11_sure_115 : decode cX11_sure 115 = .ok (.if_icmp .eq 6, 3) := by decide +kernel
theorem dX11_sure_118 : decode cX11_sure 118 = .ok (.bipush (-2), 2) := by decide +kernel
theorem dX11_sure_120 : decode cX11_sure 120 = .ok (.ireturn, 1) := by decide +kernel
theorem dX11_sure_121 : decode cX11_sure 121 = .ok (.iload 6, 2) := by decide +kernel
theorem dX11_sure_123 : decode cX11_sure 123 = .ok (.istore_n 3, 1) := by decide +kernel
theorem dX11_sure_124 : decode cX11_sure 124 = .ok (.iinc 4 1, 3) := by decide +kernel
theorem dX11_sure_127 : decode cX11_sure 127 = .ok (.goto (-76), 3) := by decide +kernel
theorem dX11_sure_130 : decode cX11_sure 130 = .ok (.iload_n 3, 1) := by decide +kernel
theorem dX11_sure_131 : decode cX11_sure 131 = .ok (.ireturn, 1) := by decide +kernel
theorem dX11_image_0 : decode cX11_image 0 = .ok (.aload_n 0, 1) := by decide +kernel
theorem dX11_image_1 : decode cX11_image 1 = .ok (.iload_n 1, 1) := by decide +kernel
theorem dX11_image_2 : decode cX11_image 2 = .ok (.invokevirtual 104, 3) := by decide +kernel
theorem dX11_image_5 : decode cX11_image 5 = .ok (.astore_n 2, 1) := by decide +kernel
theorem dX11_image_6 : decode cX11_image 6 = .ok (.aload_n 2, 1) := by decide +kernel
theorem dX11_image_7 : decode cX11_image 7 = .ok (.ifnonnull 5, 3) := by decide +kernel
theorem dX11_image_10 : decode cX11_image 10 = .ok (.iconst (-1), 1) := by decide +kernel
theorem dX11_image_11 : decode cX11_image 11 = .ok (.ireturn, 1) := by decide +kernel
theorem dX11_image_12 : decode cX11_image 12 = .ok (.aload_n 2, 1) := by decide +kernel
theorem dX11_image_13 : decode cX11_image 13 = .ok (.aload_n 0, 1) := by decide +kernel
theorem dX11_image_14 : decode cX11_image 14 = .ok (.getfield 66, 3) := by decide +kernel
theorem dX11_image_17 : decode cX11_image 17 = .ok (.invokevirtual 289, 3) := by decide +kernel
theorem dX11_image_20 : decode cX11_image 20 = .ok (.aload_n 2, 1) := by decide +kernel
theorem dX11_image_21 : decode cX11_image 21 = .ok (.iconst 1, 1) := by decide +kernel
theorem dX11_image_22 : decode cX11_image 22 = .ok (.putfield 292, 3) := by decide +kernel
theorem dX11_image_25 : decode cX11_image 25 = .ok (.aload_n 0, 1) := by decide +kernel
theorem dX11_image_26 : decode cX11_image 26 = .ok (.getfield 66, 3) := by decide +kernel
theorem dX11_image_29 : decode cX11_image 29 = .ok (.getfield 266, 3) := by decide +kernel
theorem dX11_image_32 : decode cX11_image 32 = .ok (.getfield 295, 3) := by decide +kernel
theorem dX11_image_35 : decode cX11_image 35 = .ok (.ireturn, 1) := by decide +kernel
theorem dX11_back_0 : decode cX11_back 0 = .ok (.aload_n 0, 1) := by decide +kernel
theorem dX11_back_1 : decode cX11_back 1 = .ok (.iload_n 1, 1) := by decide +kernel
theorem dX11_back_2 : decode cX11_back 2 = .ok (.invokevirtual 104, 3) := by decide +kernel
theorem dX11_back_5 : decode cX11_back 5 = .ok (.astore_n 2, 1) := by decide +kernel
theorem dX11_back_6 : decode cX11_back 6 = .ok (.aload_n 2, 1) := by decide +kernel
theorem dX11_back_7 : decode cX11_back 7 = .ok (.ifnull 10, 3) := by decide +kernel
theorem dX11_back_10 : decode cX11_back 10 = .ok (.aload_n 2, 1) := by decide +kernel
theorem dX11_back_11 : decode cX11_back 11 = .ok (.getfield 292, 3) := by decide +kernel
theorem dX11_back_14 : decode cX11_back 14 = .ok (.ifCond .ne 5, 3) := by decide +kernel
theorem dX11_back_17 : decode cX11_back 17 = .ok (.iconst (-1), 1) := by decide +kernel
theorem dX11_back_18 : decode cX11_back 18 = .ok (.ireturn, 1) := by decide +kernel
theorem dX11_back_19 : decode cX11_back 19 = .ok (.aload_n 0, 1) := by decide +kernel
theorem dX11_back_20 : decode cX11_back 20 = .ok (.getfield 66, 3) := by decide +kernel
theorem dX11_back_23 : decode cX11_back 23 = .ok (.aload_n 2, 1) := by decide +kernel
theorem dX11_back_24 : decode cX11_back 24 = .ok (.invokevirtual 296, 3) := by decide +kernel
theorem dX11_back_27 : decode cX11_back 27 = .ok (.istore_n 3, 1) := by decide +kernel
theorem dX11_back_28 : decode cX11_back 28 = .ok (.aload_n 0, 1) := by decide +kernel
theorem dX11_back_29 : decode cX11_back 29 = .ok (.getfield 66, 3) := by decide +kernel
theorem dX11_back_32 : decode cX11_back 32 = .ok (.aload_n 2, 1) := by decide +kernel
theorem dX11_back_33 : decode cX11_back 33 = .ok (.invokevirtual 289, 3) := by decide +kernel
theorem dX11_back_36 : decode cX11_back 36 = .ok (.aload_n 0, 1) := by decide +kernel
theorem dX11_back_37 : decode cX11_back 37 = .ok (.iload_n 3, 1) := by decide +kernel
theorem dX11_back_38 : decode cX11_back 38 = .ok (.invokevirtual 112, 3) := by decide +kernel
theorem dX11_back_41 : decode cX11_back 41 = .ok (.aload_n 0, 1) := by decide +kernel
theorem dX11_back_42 : decode cX11_back 42 = .ok (.getfield 66, 3) := by decide +kernel
theorem dX11_back_45 : decode cX11_back 45 = .ok (.getfield 266, 3) := by decide +kernel
theorem dX11_back_48 : decode cX11_back 48 = .ok (.getfield 295, 3) := by decide +kernel
theorem dX11_back_51 : decode cX11_back 51 = .ok (.ireturn, 1) := by decide +kernel
theorem dX11_about_0 : decode cX11_about 0 = .ok (.iload_n 1, 1) := by decide +kernel
theorem dX11_about_1 : decode cX11_about 1 = .ok (.tableswitch 114 0 7 #[47, 55, 63, 71, 82, 93, 98, 106], 47) := by decide +kernel
theorem dX11_about_48 : decode cX11_about 48 = .ok (.aload_n 0, 1) := by decide +kernel
theorem dX11_about_49 : decode cX11_about 49 = .ok (.getfield 74, 3) := by decide +kernel
theorem dX11_about_52 : decode cX11_about 52 = .ok (.getfield 300, 3) := by decide +kernel
theorem dX11_about_55 : decode cX11_about 55 = .ok (.ireturn, 1) := by decide +kernel
theorem dX11_about_56 : decode cX11_about 56 = .ok (.aload_n 0, 1) := by decide +kernel
theorem dX11_about_57 : decode cX11_about 57 = .ok (.getfield 74, 3) := by decide +kernel
theorem dX11_about_60 : decode cX11_about 60 = .ok (.getfield 240, 3) := by decide +kernel
theorem dX11_about_63 : decode cX11_about 63 = .ok (.ireturn, 1) := by decide +kernel
theorem dX11_about_64 : decode cX11_about 64 = .ok (.aload_n 0, 1) := by decide +kernel
theorem dX11_about_65 : decode cX11_about 65 = .ok (.getfield 74, 3) := by decide +kernel
theorem dX11_about_68 : decode cX11_about 68 = .ok (.getfield 115, 3) := by decide +kernel
theorem dX11_about_71 : decode cX11_about 71 = .ok (.ireturn, 1) := by decide +kernel
theorem dX11_about_72 : decode cX11_about 72 = .ok (.aload_n 0, 1) := by decide +kernel
theorem dX11_about_73 : decode cX11_about 73 = .ok (.getfield 74, 3) := by decide +kernel
theorem dX11_about_76 : decode cX11_about 76 = .ok (.getfield 303, 3) := by decide +kernel
theorem dX11_about_79 : decode cX11_about 79 = .ok (.invokestatic 306, 3) := by decide +kernel
theorem dX11_about_82 : decode cX11_about 82 = .ok (.ireturn, 1) := by decide +kernel
theorem dX11_about_83 : decode cX11_about 83 = .ok (.aload_n 0, 1) := by decide +kernel
theorem dX11_about_84 : decode cX11_about 84 = .ok (.getfield 66, 3) := by decide +kernel
theorem dX11_about_87 : decode cX11_about 87 = .ok (.getfield 266, 3) := by decide +kernel
theorem dX11_about_90 : decode cX11_about 90 = .ok (.getfield 295, 3) := by decide +kernel
theorem dX11_about_93 : decode cX11_about 93 = .ok (.ireturn, 1) := by decide +kernel
theorem dX11_about_94 : decode cX11_about 94 = .ok (.aload_n 0, 1) := by decide +kernel
theorem dX11_about_95 : decode cX11_about 95 = .ok (.getfield 270, 3) := by decide +kernel
theorem dX11_about_98 : decode cX11_about 98 = .ok (.ireturn, 1) := by decide +kernel
theorem dX11_about_99 : decode cX11_about 99 = .ok (.aload_n 0, 1) := by decide +kernel
theorem dX11_about_100 : decode cX11_about 100 = .ok (.getfield 20, 3) := by decide +kernel
theorem dX11_about_103 : decode cX11_about 103 = .ok (.getfield 84, 3) := by decide +kernel
theorem dX11_about_106 : decode cX11_about 106 = .ok (.ireturn, 1) := by decide +kernel
theorem dX11_about_107 : decode cX11_about 107 = .ok (.aload_n 0, 1) := by decide +kernel
theorem dX11_about_108 : decode cX11_about 108 = .ok (.getfield 66, 3) := by decide +kernel
theorem dX11_about_111 : decode cX11_about 111 = .ok (.invokevirtual 122, 3) := by decide +kernel
theorem dX11_about_114 : decode cX11_about 114 = .ok (.ireturn, 1) := by decide +kernel
theorem dX11_about_115 : decode cX11_about 115 = .ok (.iconst (-1), 1) := by decide +kernel
theorem dX11_about_116 : decode cX11_about 116 = .ok (.ireturn, 1) := by decide +kernel
theorem dX11_boxAt_0 : decode cX11_boxAt 0 = .ok (.iload_n 1, 1) := by decide +kernel
theorem dX11_boxAt_1 : decode cX11_boxAt 1 = .ok (.ifCond .lt 21, 3) := by decide +kernel
theorem dX11_boxAt_4 : decode cX11_boxAt 4 = .ok (.iload_n 1, 1) := by decide +kernel
theorem dX11_boxAt_5 : decode cX11_boxAt 5 = .ok (.aload_n 0, 1) := by decide +kernel
theorem dX11_boxAt_6 : decode cX11_boxAt 6 = .ok (.getfield 70, 3) := by decide +kernel
theorem dX11_boxAt_9 : decode cX11_boxAt 9 = .ok (.arraylength, 1) := by decide +kernel
theorem dX11_boxAt_10 : decode cX11_boxAt 10 = .ok (.if_icmp .ge 12, 3) := by decide +kernel
theorem dX11_boxAt_13 : decode cX11_boxAt 13 = .ok (.aload_n 0, 1) := by decide +kernel
theorem dX11_boxAt_14 : decode cX11_boxAt 14 = .ok (.getfield 70, 3) := by decide +kernel
theorem dX11_boxAt_17 : decode cX11_boxAt 17 = .ok (.iload_n 1, 1) := by decide +kernel
theorem dX11_boxAt_18 : decode cX11_boxAt 18 = .ok (.aaload, 1) := by decide +kernel
theorem dX11_boxAt_19 : decode cX11_boxAt 19 = .ok (.goto 4, 3) := by decide +kernel
theorem dX11_boxAt_22 : decode cX11_boxAt 22 = .ok (.aconst_null, 1) := by decide +kernel
theorem dX11_boxAt_23 : decode cX11_boxAt 23 = .ok (.areturn, 1) := by decide +kernel
theorem dX11_empty_0 : decode cX11_empty 0 = .ok (.aload_n 0, 1) := by decide +kernel
theorem dX11_empty_1 : decode cX11_empty 1 = .ok (.ifnull 8, 3) := by decide +kernel
theorem dX11_empty_4 : decode cX11_empty 4 = .ok (.aload_n 0, 1) := by decide +kernel
theorem dX11_empty_5 : decode cX11_empty 5 = .ok (.iconst 0, 1) := by decide +kernel
theorem dX11_empty_6 : decode cX11_empty 6 = .ok (.putfield 292, 3) := by decide +kernel
theorem dX11_empty_9 : decode cX11_empty 9 = .ok (.return_, 1) := by decide +kernel
theorem dX11_endReading_0 : decode cX11_endReading 0 = .ok (.aload_n 0, 1) := by decide +kernel
theorem dX11_endReading_1 : decode cX11_endReading 1 = .ok (.getfield 20, 3) := by decide +kernel
theorem dX11_endReading_4 : decode cX11_endReading 4 = .ok (.iconst 0, 1) := by decide +kernel
theorem dX11_endReading_5 : decode cX11_endReading 5 = .ok (.putfield 84, 3) := by decide +kernel
theorem dX11_endReading_8 : decode cX11_endReading 8 = .ok (.aload_n 0, 1) := by decide +kernel
theorem dX11_endReading_9 : decode cX11_endReading 9 = .ok (.aload_n 0, 1) := by decide +kernel
theorem dX11_endReading_10 : decode cX11_endReading 10 = .ok (.getfield 10, 3) := by decide +kernel
theorem dX11_endReading_13 : decode cX11_endReading 13 = .ok (.getfield 311, 3) := by decide +kernel
theorem dX11_endReading_16 : decode cX11_endReading 16 = .ok (.putfield 146, 3) := by decide +kernel
theorem dX11_endReading_19 : decode cX11_endReading 19 = .ok (.aload_n 0, 1) := by decide +kernel
theorem dX11_endReading_20 : decode cX11_endReading 20 = .ok (.aload_n 0, 1) := by decide +kernel
theorem dX11_endReading_21 : decode cX11_endReading 21 = .ok (.getfield 10, 3) := by decide +kernel
theorem dX11_endReading_24 : decode cX11_endReading 24 = .ok (.getfield 314, 3) := by decide +kernel
theorem dX11_endReading_27 : decode cX11_endReading 27 = .ok (.putfield 80, 3) := by decide +kernel
theorem dX11_endReading_30 : decode cX11_endReading 30 = .ok (.return_, 1) := by decide +kernel
theorem dX11_forget_0 : decode cX11_forget 0 = .ok (.iload_n 1, 1) := by decide +kernel
theorem dX11_forget_1 : decode cX11_forget 1 = .ok (.ifCond .eq 27, 3) := by decide +kernel
theorem dX11_forget_4 : decode cX11_forget 4 = .ok (.aload_n 0, 1) := by decide +kernel
theorem dX11_forget_5 : decode cX11_forget 5 = .ok (.getfield 31, 3) := by decide +kernel
theorem dX11_forget_8 : decode cX11_forget 8 = .ok (.iload_n 1, 1) := by decide +kernel
theorem dX11_forget_9 : decode cX11_forget 9 = .ok (.invokevirtual 317, 3) := by decide +kernel
theorem dX11_forget_12 : decode cX11_forget 12 = .ok (.aload_n 0, 1) := by decide +kernel
theorem dX11_forget_13 : decode cX11_forget 13 = .ok (.getfield 38, 3) := by decide +kernel
theorem dX11_forget_16 : decode cX11_forget 16 = .ok (.iconst 0, 1) := by decide +kernel
theorem dX11_forget_17 : decode cX11_forget 17 = .ok (.putfield 217, 3) := by decide +kernel
theorem dX11_forget_20 : decode cX11_forget 20 = .ok (.aload_n 0, 1) := by decide +kernel
theorem dX11_forget_21 : decode cX11_forget 21 = .ok (.getfield 45, 3) := by decide +kernel
theorem dX11_forget_24 : decode cX11_forget 24 = .ok (.iconst 0, 1) := by decide +kernel
theorem dX11_forget_25 : decode cX11_forget 25 = .ok (.putfield 318, 3) := by decide +kernel
theorem dX11_forget_28 : decode cX11_forget 28 = .ok (.return_, 1) := by decide +kernel
theorem dX11_reachedFrom_0 : decode cX11_reachedFrom 0 = .ok (.iconst 1, 1) := by decide +kernel
theorem dX11_reachedFrom_1 : decode cX11_reachedFrom 1 = .ok (.iload_n 1, 1) := by decide +kernel
theorem dX11_reachedFrom_2 : decode cX11_reachedFrom 2 = .ok (.ishl, 1) := by decide +kernel
theorem dX11_reachedFrom_3 : decode cX11_reachedFrom 3 = .ok (.istore_n 2, 1) := by decide +kernel
theorem dX11_reachedFrom_4 : decode cX11_reachedFrom 4 = .ok (.iconst 0, 1) := by decide +kernel
theorem dX11_reachedFrom_5 : decode cX11_reachedFrom 5 = .ok (.istore_n 3, 1) := by decide +kernel
theorem dX11_reachedFrom_6 : decode cX11_reachedFrom 6 = .ok (.iload_n 3, 1) := by decide +kernel
theorem dX11_reachedFrom_7 : decode cX11_reachedFrom 7 = .ok (.bipush 8, 2) := by decide +kernel
theorem dX11_reachedFrom_9 : decode cX11_reachedFrom 9 = .ok (.if_icmp .ge 61, 3) := by decide +kernel
theorem dX11_reachedFrom_12 : decode cX11_reachedFrom 12 = .ok (.iconst 0, 1) := by decide +kernel
theorem dX11_reachedFrom_13 : decode cX11_reachedFrom 13 = .ok (.istore 4, 2) := by decide +kernel
theorem dX11_reachedFrom_15 : decode cX11_reachedFrom 15 = .ok (.iload 4, 2) := by decide +kernel
theorem dX11_reachedFrom_17 : decode cX11_reachedFrom 17 = .ok (.aload_n 0, 1) := by decide +kernel
theorem dX11_reachedFrom_18 : decode cX11_reachedFrom 18 = .ok (.getfield 74, 3) := by decide +kernel
theorem dX11_reachedFrom_21 : decode cX11_reachedFrom 21 = .ok (.getfield 115, 3) := by decide +kernel
theorem dX11_reachedFrom_24 : decode cX11_reachedFrom 24 = .ok (.if_icmp .ge 40, 3) := by decide +kernel
theorem dX11_reachedFrom_27 : decode cX11_reachedFrom 27 = .ok (.iload_n 2, 1) := by decide +kernel
theorem dX11_reachedFrom_28 : decode cX11_reachedFrom 28 = .ok (.iload 4, 2) := by decide +kernel
theorem dX11_reachedFrom_30 : decode cX11_reachedFrom 30 = .ok (.ishr, 1) := by decide +kernel
theorem dX11_reachedFrom_31 : decode cX11_reachedFrom 31 = .ok (.iconst 1, 1) := by decide +kernel
theorem dX11_reachedFrom_32 : decode cX11_reachedFrom 32 = .ok (.iand, 1) := by decide +kernel
theorem dX11_reachedFrom_33 : decode cX11_reachedFrom 33 = .ok (.iconst 1, 1) := by decide +kernel
theorem dX11_reachedFrom_34 : decode cX11_reachedFrom 34 = .ok (.if_icmp .ne 24, 3) := by decide +kernel
theorem dX11_reachedFrom_37 : decode cX11_reachedFrom 37 = .ok (.iload_n 2, 1) := by decide +kernel
theorem dX11_reachedFrom_38 : decode cX11_reachedFrom 38 = .ok (.aload_n 0, 1) := by decide +kernel
theorem dX11_reachedFrom_39 : decode cX11_reachedFrom 39 = .ok (.getfield 74, 3) := by decide +kernel
theorem dX11_reachedFrom_42 : decode cX11_reachedFrom 42 = .ok (.iload 4, 2) := by decide +kernel
theorem dX11_reachedFrom_44 : decode cX11_reachedFrom 44 = .ok (.aload_n 0, 1) := by decide +kernel
theorem dX11_reachedFrom_45 : decode cX11_reachedFrom 45 = .ok (.getfield 66, 3) := by decide +kernel
theorem dX11_reachedFrom_48 : decode cX11_reachedFrom 48 = .ok (.iload 4, 2) := by decide +kernel
theorem dX11_reachedFrom_50 : decode cX11_reachedFrom 50 = .ok (.invokevirtual 126, 3) := by decide +kernel
theorem dX11_reachedFrom_53 : decode cX11_reachedFrom 53 = .ok (.invokevirtual 185, 3) := by decide +kernel
theorem dX11_reachedFrom_56 : decode cX11_reachedFrom 56 = .ok (.ior, 1) := by decide +kernel
theorem dX11_reachedFrom_57 : decode cX11_reachedFrom 57 = .ok (.istore_n 2, 1) := by decide +kernel
theorem dX11_reachedFrom_58 : decode cX11_reachedFrom 58 = .ok (.iinc 4 1, 3) := by decide +kernel
theorem dX11_reachedFrom_61 : decode cX11_reachedFrom 61 = .ok (.goto (-46), 3) := by decide +kernel
theorem dX11_reachedFrom_64 : decode cX11_reachedFrom 64 = .ok (.iinc 3 1, 3) := by decide +kernel
theorem dX11_reachedFrom_67 : decode cX11_reachedFrom 67 = .ok (.goto (-61), 3) := by decide +kernel
theorem dX11_reachedFrom_70 : decode cX11_reachedFrom 70 = .ok (.iload_n 2, 1) := by decide +kernel
theorem dX11_reachedFrom_71 : decode cX11_reachedFrom 71 = .ok (.ireturn, 1) := by decide +kernel
theorem dX11_at_0 : decode cX11_at 0 = .ok (.iload_n 1, 1) := by decide +kernel
theorem dX11_at_1 : decode cX11_at 1 = .ok (.ifCond .lt 15, 3) := by decide +kernel
theorem dX11_at_4 : decode cX11_at 4 = .ok (.iload_n 1, 1) := by decide +kernel
theorem dX11_at_5 : decode cX11_at 5 = .ok (.aload_n 0, 1) := by decide +kernel
theorem dX11_at_6 : decode cX11_at 6 = .ok (.arraylength, 1) := by decide +kernel
theorem dX11_at_7 : decode cX11_at 7 = .ok (.if_icmp .ge 9, 3) := by decide +kernel
theorem dX11_at_10 : decode cX11_at 10 = .ok (.aload_n 0, 1) := by decide +kernel
theorem dX11_at_11 : decode cX11_at 11 = .ok (.iload_n 1, 1) := by decide +kernel
theorem dX11_at_12 : decode cX11_at 12 = .ok (.iaload, 1) := by decide +kernel
theorem dX11_at_13 : decode cX11_at 13 = .ok (.goto 4, 3) := by decide +kernel
theorem dX11_at_16 : decode cX11_at 16 = .ok (.iconst 0, 1) := by decide +kernel
theorem dX11_at_17 : decode cX11_at 17 = .ok (.ireturn, 1) := by decide +kernel
theorem dX11_put_0 : decode cX11_put 0 = .ok (.iload_n 1, 1) := by decide +kernel
theorem dX11_put_1 : decode cX11_put 1 = .ok (.ifCond .lt 13, 3) := by decide +kernel
theorem dX11_put_4 : decode cX11_put 4 = .ok (.iload_n 1, 1) := by decide +kernel
theorem dX11_put_5 : decode cX11_put 5 = .ok (.aload_n 0, 1) := by decide +kernel
theorem dX11_put_6 : decode cX11_put 6 = .ok (.arraylength, 1) := by decide +kernel
theorem dX11_put_7 : decode cX11_put 7 = .ok (.if_icmp .ge 7, 3) := by decide +kernel
theorem dX11_put_10 : decode cX11_put 10 = .ok (.aload_n 0, 1) := by decide +kernel
theorem dX11_put_11 : decode cX11_put 11 = .ok (.iload_n 1, 1) := by decide +kernel
theorem dX11_put_12 : decode cX11_put 12 = .ok (.iload_n 2, 1) := by decide +kernel
theorem dX11_put_13 : decode cX11_put 13 = .ok (.iastore, 1) := by decide +kernel
theorem dX11_put_14 : decode cX11_put 14 = .ok (.return_, 1) := by decide +kernel
theorem dX11_isBlank_0 : decode cX11_isBlank 0 = .ok (.iload_n 0, 1) := by decide +kernel
theorem dX11_isBlank_1 : decode cX11_isBlank 1 = .ok (.bipush 32, 2) := by decide +kernel
theorem dX11_isBlank_3 : decode cX11_isBlank 3 = .ok (.if_icmp .eq 9, 3) := by decide +kernel
theorem dX11_isBlank_6 : decode cX11_isBlank 6 = .ok (.iload_n 0, 1) := by decide +kernel
theorem dX11_isBlank_7 : decode cX11_isBlank 7 = .ok (.bipush 10, 2) := by decide +kernel
theorem dX11_isBlank_9 : decode cX11_isBlank 9 = .ok (.if_icmp .ne 7, 3) := by decide +kernel
theorem dX11_isBlank_12 : decode cX11_isBlank 12 = .ok (.iconst 1, 1) := by decide +kernel
theorem dX11_isBlank_13 : decode cX11_isBlank 13 = .ok (.goto 4, 3) := by decide +kernel
theorem dX11_isBlank_16 : decode cX11_isBlank 16 = .ok (.iconst 0, 1) := by decide +kernel
theorem dX11_isBlank_17 : decode cX11_isBlank 17 = .ok (.ireturn, 1) := by decide +kernel
theorem dX11_isLetter_0 : decode cX11_isLetter 0 = .ok (.iload_n 0, 1) := by decide +kernel
theorem dX11_isLetter_1 : decode cX11_isLetter 1 = .ok (.bipush 97, 2) := by decide +kernel
theorem dX11_isLetter_3 : decode cX11_isLetter 3 = .ok (.if_icmp .lt 13, 3) := by decide +kernel
theorem dX11_isLetter_6 : decode cX11_isLetter 6 = .ok (.iload_n 0, 1) := by decide +kernel
theorem dX11_isLetter_7 : decode cX11_isLetter 7 = .ok (.bipush 122, 2) := by decide +kernel
theorem dX11_isLetter_9 : decode cX11_isLetter 9 = .ok (.if_icmp .gt 7, 3) := by decide +kernel
theorem dX11_isLetter_12 : decode cX11_isLetter 12 = .ok (.iconst 1, 1) := by decide +kernel
theorem dX11_isLetter_13 : decode cX11_isLetter 13 = .ok (.goto 4, 3) := by decide +kernel
theorem dX11_isLetter_16 : decode cX11_isLetter 16 = .ok (.iconst 0, 1) := by decide +kernel
theorem dX11_isLetter_17 : decode cX11_isLetter 17 = .ok (.ireturn, 1) := by decide +kernel
theorem dX11_isDigit_0 : decode cX11_isDigit 0 = .ok (.iload_n 0, 1) := by decide +kernel
theorem dX11_isDigit_1 : decode cX11_isDigit 1 = .ok (.bipush 48, 2) := by decide +kernel
theorem dX11_isDigit_3 : decode cX11_isDigit 3 = .ok (.if_icmp .lt 13, 3) := by decide +kernel
theorem dX11_isDigit_6 : decode cX11_isDigit 6 = .ok (.iload_n 0, 1) := by decide +kernel
theorem dX11_isDigit_7 : decode cX11_isDigit 7 = .ok (.bipush 57, 2) := by decide +kernel
theorem dX11_isDigit_9 : decode cX11_isDigit 9 = .ok (.if_icmp .gt 7, 3) := by decide +kernel
theorem dX11_isDigit_12 : decode cX11_isDigit 12 = .ok (.iconst 1, 1) := by decide +kernel
theorem dX11_isDigit_13 : decode cX11_isDigit 13 = .ok (.goto 4, 3) := by decide +kernel
theorem dX11_isDigit_16 : decode cX11_isDigit 16 = .ok (.iconst 0, 1) := by decide +kernel
theorem dX11_isDigit_17 : decode cX11_isDigit 17 = .ok (.ireturn, 1) := by decide +kernel
