theorem dX2_init_0 : decode cX2_init 0 = .ok (.aload_n 0, 1) := by decide +kernel
theorem dX2_init_1 : decode cX2_init 1 = .ok (.invokespecial 3, 3) := by decide +kernel
theorem dX2_init_4 : decode cX2_init 4 = .ok (.aload_n 0, 1) := by decide +kernel
theorem dX2_init_5 : decode cX2_init 5 = .ok (.bipush 20, 2) := by decide +kernel
theorem dX2_init_7 : decode cX2_init 7 = .ok (.newarray .int, 2) := by decide +kernel
theorem dX2_init_9 : decode cX2_init 9 = .ok (.putfield 9, 3) := by decide +kernel
theorem dX2_init_12 : decode cX2_init 12 = .ok (.aload_n 0, 1) := by decide +kernel
theorem dX2_init_13 : decode cX2_init 13 = .ok (.bipush 20, 2) := by decide +kernel
theorem dX2_init_15 : decode cX2_init 15 = .ok (.newarray .int, 2) := by decide +kernel
theorem dX2_init_17 : decode cX2_init 17 = .ok (.putfield 15, 3) := by decide +kernel
theorem dX2_init_20 : decode cX2_init 20 = .ok (.aload_n 0, 1) := by decide +kernel
theorem dX2_init_21 : decode cX2_init 21 = .ok (.bipush 20, 2) := by decide +kernel
theorem dX2_init_23 : decode cX2_init 23 = .ok (.newarray .int, 2) := by decide +kernel
theorem dX2_init_25 : decode cX2_init 25 = .ok (.putfield 18, 3) := by decide +kernel
theorem dX2_init_28 : decode cX2_init 28 = .ok (.aload_n 0, 1) := by decide +kernel
theorem dX2_init_29 : decode cX2_init 29 = .ok (.bipush 20, 2) := by decide +kernel
theorem dX2_init_31 : decode cX2_init 31 = .ok (.newarray .int, 2) := by decide +kernel
theorem dX2_init_33 : decode cX2_init 33 = .ok (.putfield 21, 3) := by decide +kernel
theorem dX2_init_36 : decode cX2_init 36 = .ok (.return_, 1) := by decide +kernel
theorem dX2_tell_0 : decode cX2_tell 0 = .ok (.aload_n 0, 1) := by decide +kernel
theorem dX2_tell_1 : decode cX2_tell 1 = .ok (.getfield 24, 3) := by decide +kernel
theorem dX2_tell_4 : decode cX2_tell 4 = .ok (.bipush 20, 2) := by decide +kernel
theorem dX2_tell_6 : decode cX2_tell 6 = .ok (.if_icmp .lt 5, 3) := by decide +kernel
theorem dX2_tell_9 : decode cX2_tell 9 = .ok (.iconst (-1), 1) := by decide +kernel
theorem dX2_tell_10 : decode cX2_tell 10 = .ok (.ireturn, 1) := by decide +kernel
theorem dX2_tell_11 : decode cX2_tell 11 = .ok (.aload_n 0, 1) := by decide +kernel
theorem dX2_tell_12 : decode cX2_tell 12 = .ok (.getfield 9, 3) := by decide +kernel
theorem dX2_tell_15 : decode cX2_tell 15 = .ok (.aload_n 0, 1) := by decide +kernel
theorem dX2_tell_16 : decode cX2_tell 16 = .ok (.getfield 24, 3) := by decide +kernel
theorem dX2_tell_19 : decode cX2_tell 19 = .ok (.iload_n 1, 1) := by decide +kernel
theorem dX2_tell_20 : decode cX2_tell 20 = .ok (.invokestatic 28, 3) := by decide +kernel
theorem dX2_tell_23 : decode cX2_tell 23 = .ok (.aload_n 0, 1) := by decide +kernel
theorem dX2_tell_24 : decode cX2_tell 24 = .ok (.getfield 15, 3) := by decide +kernel
theorem dX2_tell_27 : decode cX2_tell 27 = .ok (.aload_n 0, 1) := by decide +kernel
theorem dX2_tell_28 : decode cX2_tell 28 = .ok (.getfield 24, 3) := by decide +kernel
theorem dX2_tell_31 : decode cX2_tell 31 = .ok (.iload_n 2, 1) := by decide +kernel
theorem dX2_tell_32 : decode cX2_tell 32 = .ok (.invokestatic 28, 3) := by decide +kernel
theorem dX2_tell_35 : decode cX2_tell 35 = .ok (.aload_n 0, 1) := by decide +kernel
theorem dX2_tell_36 : decode cX2_tell 36 = .ok (.getfield 18, 3) := by decide +kernel
theorem dX2_tell_39 : decode cX2_tell 39 = .ok (.aload_n 0, 1) := by decide +kernel
theorem dX2_tell_40 : decode cX2_tell 40 = .ok (.getfield 24, 3) := by decide +kernel
theorem dX2_tell_43 : decode cX2_tell 43 = .ok (.iload_n 3, 1) := by decide +kernel
theorem dX2_tell_44 : decode cX2_tell 44 = .ok (.invokestatic 28, 3) := by decide +kernel
theorem dX2_tell_47 : decode cX2_tell 47 = .ok (.aload_n 0, 1) := by decide +kernel
theorem dX2_tell_48 : decode cX2_tell 48 = .ok (.getfield 21, 3) := by decide +kernel
theorem dX2_tell_51 : decode cX2_tell 51 = .ok (.aload_n 0, 1) := by decide +kernel
theorem dX2_tell_52 : decode cX2_tell 52 = .ok (.getfield 24, 3) := by decide +kernel
theorem dX2_tell_55 : decode cX2_tell 55 = .ok (.iconst (-1), 1) := by decide +kernel
theorem dX2_tell_56 : decode cX2_tell 56 = .ok (.invokestatic 28, 3) := by decide +kernel
theorem dX2_tell_59 : decode cX2_tell 59 = .ok (.aload_n 0, 1) := by decide +kernel
theorem dX2_tell_60 : decode cX2_tell 60 = .ok (.dup, 1) := by decide +kernel
theorem dX2_tell_61 : decode cX2_tell 61 = .ok (.getfield 24, 3) := by decide +kernel
theorem dX2_tell_64 : decode cX2_tell 64 = .ok (.iconst 1, 1) := by decide +kernel
theorem dX2_tell_65 : decode cX2_tell 65 = .ok (.iadd, 1) := by decide +kernel
theorem dX2_tell_66 : decode cX2_tell 66 = .ok (.putfield 24, 3) := by decide +kernel
theorem dX2_tell_69 : decode cX2_tell 69 = .ok (.aload_n 0, 1) := by decide +kernel
theorem dX2_tell_70 : decode cX2_tell 70 = .ok (.getfield 24, 3) := by decide +kernel
theorem dX2_tell_73 : decode cX2_tell 73 = .ok (.iconst 1, 1) := by decide +kernel
theorem dX2_tell_74 : decode cX2_tell 74 = .ok (.isub, 1) := by decide +kernel
theorem dX2_tell_75 : decode cX2_tell 75 = .ok (.ireturn, 1) := by decide +kernel
theorem dX2_takeBack_0 : decode cX2_takeBack 0 = .ok (.iload_n 1, 1) := by decide +kernel
theorem dX2_takeBack_1 : decode cX2_takeBack 1 = .ok (.ifCond .lt 23, 3) := by decide +kernel
theorem dX2_takeBack_4 : decode cX2_takeBack 4 = .ok (.iload_n 1, 1) := by decide +kernel
theorem dX2_takeBack_5 : decode cX2_takeBack 5 = .ok (.aload_n 0, 1) := by decide +kernel
theorem dX2_takeBack_6 : decode cX2_takeBack 6 = .ok (.getfield 24, 3) := by decide +kernel
theorem dX2_takeBack_9 : decode cX2_takeBack 9 = .ok (.if_icmp .ge 15, 3) := by decide +kernel
theorem dX2_takeBack_12 : decode cX2_takeBack 12 = .ok (.aload_n 0, 1) := by decide +kernel
theorem dX2_takeBack_13 : decode cX2_takeBack 13 = .ok (.getfield 21, 3) := by decide +kernel
theorem dX2_takeBack_16 : decode cX2_takeBack 16 = .ok (.iload_n 1, 1) := by decide +kernel
theorem dX2_takeBack_17 : decode cX2_takeBack 17 = .ok (.invokestatic 32, 3) := by decide +kernel
theorem dX2_takeBack_20 : decode cX2_takeBack 20 = .ok (.iconst (-1), 1) := by decide +kernel
theorem dX2_takeBack_21 : decode cX2_takeBack 21 = .ok (.if_icmp .eq 5, 3) := by decide +kernel
theorem dX2_takeBack_24 : decode cX2_takeBack 24 = .ok (.iconst 0, 1) := by decide +kernel
theorem dX2_takeBack_25 : decode cX2_takeBack 25 = .ok (.ireturn, 1) := by decide +kernel
theorem dX2_takeBack_26 : decode cX2_takeBack 26 = .ok (.aload_n 0, 1) := by decide +kernel
theorem dX2_takeBack_27 : decode cX2_takeBack 27 = .ok (.getfield 21, 3) := by decide +kernel
theorem dX2_takeBack_30 : decode cX2_takeBack 30 = .ok (.iload_n 1, 1) := by decide +kernel
theorem dX2_takeBack_31 : decode cX2_takeBack 31 = .ok (.iload_n 2, 1) := by decide +kernel
theorem dX2_takeBack_32 : decode cX2_takeBack 32 = .ok (.invokestatic 28, 3) := by decide +kernel
theorem dX2_takeBack_35 : decode cX2_takeBack 35 = .ok (.iconst 1, 1) := by decide +kernel
theorem dX2_takeBack_36 : decode cX2_takeBack 36 = .ok (.ireturn, 1) := by decide +kernel
theorem dX2_become_0 : decode cX2_become 0 = .ok (.aload_n 0, 1) := by decide +kernel
theorem dX2_become_1 : decode cX2_become 1 = .ok (.aload_n 1, 1) := by decide +kernel
theorem dX2_become_2 : decode cX2_become 2 = .ok (.getfield 24, 3) := by decide +kernel
theorem dX2_become_5 : decode cX2_become 5 = .ok (.putfield 24, 3) := by decide +kernel
theorem dX2_become_8 : decode cX2_become 8 = .ok (.iconst 0, 1) := by decide +kernel
theorem dX2_become_9 : decode cX2_become 9 = .ok (.istore_n 2, 1) := by decide +kernel
theorem dX2_become_10 : decode cX2_become 10 = .ok (.iload_n 2, 1) := by decide +kernel
theorem dX2_become_11 : decode cX2_become 11 = .ok (.bipush 20, 2) := by decide +kernel
theorem dX2_become_13 : decode cX2_become 13 = .ok (.if_icmp .ge 73, 3) := by decide +kernel
theorem dX2_become_16 : decode cX2_become 16 = .ok (.aload_n 0, 1) := by decide +kernel
theorem dX2_become_17 : decode cX2_become 17 = .ok (.getfield 9, 3) := by decide +kernel
theorem dX2_become_20 : decode cX2_become 20 = .ok (.iload_n 2, 1) := by decide +kernel
theorem dX2_become_21 : decode cX2_become 21 = .ok (.aload_n 1, 1) := by decide +kernel
theorem dX2_become_22 : decode cX2_become 22 = .ok (.getfield 9, 3) := by decide +kernel
theorem dX2_become_25 : decode cX2_become 25 = .ok (.iload_n 2, 1) := by decide +kernel
theorem dX2_become_26 : decode cX2_become 26 = .ok (.invokestatic 32, 3) := by decide +kernel
theorem dX2_become_29 : decode cX2_become 29 = .ok (.invokestatic 28, 3) := by decide +kernel
theorem dX2_become_32 : decode cX2_become 32 = .ok (.aload_n 0, 1) := by decide +kernel
theorem dX2_become_33 : decode cX2_become 33 = .ok (.getfield 15, 3) := by decide +kernel
theorem dX2_become_36 : decode cX2_become 36 = .ok (.iload_n 2, 1) := by decide +kernel
theorem dX2_become_37 : decode cX2_become 37 = .ok (.aload_n 1, 1) := by decide +kernel
theorem dX2_become_38 : decode cX2_become 38 = .ok (.getfield 15, 3) := by decide +kernel
theorem dX2_become_41 : decode cX2_become 41 = .ok (.iload_n 2, 1) := by decide +kernel
theorem dX2_become_42 : decode cX2_become 42 = .ok (.invokestatic 32, 3) := by decide +kernel
theorem dX2_become_45 : decode cX2_become 45 = .ok (.invokestatic 28, 3) := by decide +kernel
theorem dX2_become_48 : decode cX2_become 48 = .ok (.aload_n 0, 1) := by decide +kernel
theorem dX2_become_49 : decode cX2_become 49 = .ok (.getfield 18, 3) := by decide +kernel
theorem dX2_become_52 : decode cX2_become 52 = .ok (.iload_n 2, 1) := by decide +kernel
theorem dX2_become_53 : decode cX2_become 53 = .ok (.aload_n 1, 1) := by decide +kernel
theorem dX2_become_54 : decode cX2_become 54 = .ok (.getfield 18, 3) := by decide +kernel
theorem dX2_become_57 : decode cX2_become 57 = .ok (.iload_n 2, 1) := by decide +kernel
theorem dX2_become_58 : decode cX2_become 58 = .ok (.invokestatic 32, 3) := by decide +kernel
theorem dX2_become_61 : decode cX2_become 61 = .ok (.invokestatic 28, 3) := by decide +kernel
theorem dX2_become_64 : decode cX2_become 64 = .ok (.aload_n 0, 1) := by decide +kernel
theorem dX2_become_65 : decode cX2_become 65 = .ok (.getfield 21, 3) := by decide +kernel
theorem dX2_become_68 : decode cX2_become 68 = .ok (.iload_n 2, 1) := by decide +kernel
theorem dX2_become_69 : decode cX2_become 69 = .ok (.aload_n 1, 1) := by decide +kernel
theorem dX2_become_70 : decode cX2_become 70 = .ok (.getfield 21, 3) := by decide +kernel
theorem dX2_become_73 : decode cX2_become 73 = .ok (.iload_n 2, 1) := by decide +kernel
theorem dX2_become_74 : decode cX2_become 74 = .ok (.invokestatic 32, 3) := by decide +kernel
theorem dX2_become_77 : decode cX2_become 77 = .ok (.invokestatic 28, 3) := by decide +kernel
theorem dX2_become_80 : decode cX2_become 80 = .ok (.iinc 2 1, 3) := by decide +kernel
theorem dX2_become_83 : decode cX2_become 83 = .ok (.goto (-73), 3) := by decide +kernel
theorem dX2_become_86 : decode cX2_become 86 = .ok (.return_, 1) := by decide +kernel
theorem dX2_countsAt_0 : decode cX2_countsAt 0 = .ok (.aload_n 0, 1) := by decide +kernel
theorem dX2_countsAt_1 : decode cX2_countsAt 1 = .ok (.getfield 21, 3) := by decide +kernel
theorem dX2_countsAt_4 : decode cX2_countsAt 4 = .ok (.iload_n 1, 1) := by decide +kernel
theorem dX2_countsAt_5 : decode cX2_countsAt 5 = .ok (.invokestatic 32, 3) := by decide +kernel
theorem dX2_countsAt_8 : decode cX2_countsAt 8 = .ok (.istore_n 3, 1) := by decide +kernel
theorem dX2_countsAt_9 : decode cX2_countsAt 9 = .ok (.aload_n 0, 1) := by decide +kernel
theorem dX2_countsAt_10 : decode cX2_countsAt 10 = .ok (.getfield 18, 3) := by decide +kernel
theorem dX2_countsAt_13 : decode cX2_countsAt 13 = .ok (.iload_n 1, 1) := by decide +kernel
theorem dX2_countsAt_14 : decode cX2_countsAt 14 = .ok (.invokestatic 32, 3) := by decide +kernel
theorem dX2_countsAt_17 : decode cX2_countsAt 17 = .ok (.iload_n 2, 1) := by decide +kernel
theorem dX2_countsAt_18 : decode cX2_countsAt 18 = .ok (.if_icmp .gt 17, 3) := by decide +kernel
theorem dX2_countsAt_21 : decode cX2_countsAt 21 = .ok (.iload_n 3, 1) := by decide +kernel
theorem dX2_countsAt_22 : decode cX2_countsAt 22 = .ok (.iconst (-1), 1) := by decide +kernel
theorem dX2_countsAt_23 : decode cX2_countsAt 23 = .ok (.if_icmp .eq 8, 3) := by decide +kernel
theorem dX2_countsAt_26 : decode cX2_countsAt 26 = .ok (.iload_n 3, 1) := by decide +kernel
theorem dX2_countsAt_27 : decode cX2_countsAt 27 = .ok (.iload_n 2, 1) := by decide +kernel
theorem dX2_countsAt_28 : decode cX2_countsAt 28 = .ok (.if_icmp .le 7, 3) := by decide +kernel
theorem dX2_countsAt_31 : decode cX2_countsAt 31 = .ok (.iconst 1, 1) := by decide +kernel
theorem dX2_countsAt_32 : decode cX2_countsAt 32 = .ok (.goto 4, 3) := by decide +kernel
theorem dX2_countsAt_35 : decode cX2_countsAt 35 = .ok (.iconst 0, 1) := by decide +kernel
theorem dX2_countsAt_36 : decode cX2_countsAt 36 = .ok (.ireturn, 1) := by decide +kernel
theorem dX2_gather_0 : decode cX2_gather 0 = .ok (.aload_n 0, 1) := by decide +kernel
theorem dX2_gather_1 : decode cX2_gather 1 = .ok (.iconst 0, 1) := by decide +kernel
theorem dX2_gather_2 : decode cX2_gather 2 = .ok (.putfield 36, 3) := by decide +kernel
theorem dX2_gather_5 : decode cX2_gather 5 = .ok (.aload_n 0, 1) := by decide +kernel
theorem dX2_gather_6 : decode cX2_gather 6 = .ok (.iconst 0, 1) := by decide +kernel
theorem dX2_gather_7 : decode cX2_gather 7 = .ok (.putfield 39, 3) := by decide +kernel
theorem dX2_gather_10 : decode cX2_gather 10 = .ok (.iconst 0, 1) := by decide +kernel
theorem dX2_gather_11 : decode cX2_gather 11 = .ok (.istore_n 3, 1) := by decide +kernel
theorem dX2_gather_12 : decode cX2_gather 12 = .ok (.iload_n 3, 1) := by decide +kernel
theorem dX2_gather_13 : decode cX2_gather 13 = .ok (.aload_n 0, 1) := by decide +kernel
theorem dX2_gather_14 : decode cX2_gather 14 = .ok (.getfield 24, 3) := by decide +kernel
theorem dX2_gather_17 : decode cX2_gather 17 = .ok (.if_icmp .ge 103, 3) := by decide +kernel
theorem dX2_gather_20 : decode cX2_gather 20 = .ok (.aload_n 0, 1) := by decide +kernel
theorem dX2_gather_21 : decode cX2_gather 21 = .ok (.iload_n 3, 1) := by decide +kernel
theorem dX2_gather_22 : decode cX2_gather 22 = .ok (.iload_n 1, 1) := by decide +kernel
theorem dX2_gather_23 : decode cX2_gather 23 = .ok (.invokevirtual 42, 3) := by decide +kernel
theorem dX2_gather_26 : decode cX2_gather 26 = .ok (.ifCond .eq 88, 3) := by decide +kernel
theorem dX2_gather_29 : decode cX2_gather 29 = .ok (.aload_n 2, 1) := by decide +kernel
theorem dX2_gather_30 : decode cX2_gather 30 = .ok (.iconst 1, 1) := by decide +kernel
theorem dX2_gather_31 : decode cX2_gather 31 = .ok (.aload_n 0, 1) := by decide +kernel
theorem dX2_gather_32 : decode cX2_gather 32 = .ok (.getfield 9, 3) := by decide +kernel
theorem dX2_gather_35 : decode cX2_gather 35 = .ok (.iload_n 3, 1) := by decide +kernel
theorem dX2_gather_36 : decode cX2_gather 36 = .ok (.invokestatic 32, 3) := by decide +kernel
theorem dX2_gather_39 : decode cX2_gather 39 = .ok (.ishl, 1) := by decide +kernel
theorem dX2_gather_40 : decode cX2_gather 40 = .ok (.invokevirtual 46, 3) := by decide +kernel
theorem dX2_gather_43 : decode cX2_gather 43 = .ok (.istore 4, 2) := by decide +kernel
theorem dX2_gather_45 : decode cX2_gather 45 = .ok (.aload_n 2, 1) := by decide +kernel
theorem dX2_gather_46 : decode cX2_gather 46 = .ok (.iconst 0, 1) := by decide +kernel
theorem dX2_gather_47 : decode cX2_gather 47 = .ok (.aload_n 0, 1) := by decide +kernel
theorem dX2_gather_48 : decode cX2_gather 48 = .ok (.getfield 9, 3) := by decide +kernel
theorem dX2_gather_51 : decode cX2_gather 51 = .ok (.iload_n 3, 1) := by decide +kernel
theorem dX2_gather_52 : decode cX2_gather 52 = .ok (.invokestatic 32, 3) := by decide +kernel
theorem dX2_gather_55 : decode cX2_gather 55 = .ok (.aload_n 0, 1) := by decide +kernel
theorem dX2_gather_56 : decode cX2_gather 56 = .ok (.getfield 15, 3) := by decide +kernel
theorem dX2_gather_59 : decode cX2_gather 59 = .ok (.iload_n 3, 1) := by decide +kernel
theorem dX2_gather_60 : decode cX2_gather 60 = .ok (.invokestatic 32, 3) := by decide +kernel
theorem dX2_gather_63 : decode cX2_gather 63 = .ok (.invokevirtual 52, 3) := by decide +kernel
theorem dX2_gather_66 : decode cX2_gather 66 = .ok (.istore 5, 2) := by decide +kernel
theorem dX2_gather_68 : decode cX2_gather 68 = .ok (.aload_n 0, 1) := by decide +kernel
theorem dX2_gather_69 : decode cX2_gather 69 = .ok (.getfield 36, 3) := by decide +kernel
theorem dX2_gather_72 : decode cX2_gather 72 = .ok (.iload 4, 2) := by decide +kernel
theorem dX2_gather_74 : decode cX2_gather 74 = .ok (.iand, 1) := by decide +kernel
theorem dX2_gather_75 : decode cX2_gather 75 = .ok (.ifCond .eq 17, 3) := by decide +kernel
theorem dX2_gather_78 : decode cX2_gather 78 = .ok (.aload_n 0, 1) := by decide +kernel
theorem dX2_gather_79 : decode cX2_gather 79 = .ok (.getfield 39, 3) := by decide +kernel
theorem dX2_gather_82 : decode cX2_gather 82 = .ok (.iload 4, 2) := by decide +kernel
theorem dX2_gather_84 : decode cX2_gather 84 = .ok (.iand, 1) := by decide +kernel
theorem dX2_gather_85 : decode cX2_gather 85 = .ok (.iload 5, 2) := by decide +kernel
theorem dX2_gather_87 : decode cX2_gather 87 = .ok (.if_icmp .eq 5, 3) := by decide +kernel
theorem dX2_gather_90 : decode cX2_gather 90 = .ok (.iconst 0, 1) := by decide +kernel
theorem dX2_gather_91 : decode cX2_gather 91 = .ok (.ireturn, 1) := by decide +kernel
theorem dX2_gather_92 : decode cX2_gather 92 = .ok (.aload_n 0, 1) := by decide +kernel
theorem dX2_gather_93 : decode cX2_gather 93 = .ok (.dup, 1) := by decide +kernel
theorem dX2_gather_94 : decode cX2_gather 94 = .ok (.getfield 36, 3) := by decide +kernel
theorem dX2_gather_97 : decode cX2_gather 97 = .ok (.iload 4, 2) := by decide +kernel
theorem dX2_gather_99 : decode cX2_gather 99 = .ok (.ior, 1) := by decide +kernel
theorem dX2_gather_100 : decode cX2_gather 100 = .ok (.putfield 36, 3) := by decide +kernel
theorem dX2_gather_103 : decode cX2_gather 103 = .ok (.aload_n 0, 1) := by decide +kernel
theorem dX2_gather_104 : decode cX2_gather 104 = .ok (.dup, 1) := by decide +kernel
theorem dX2_gather_105 : decode cX2_gather 105 = .ok (.getfield 39, 3) := by decide +kernel
theorem dX2_gather_108 : decode cX2_gather 108 = .ok (.iload 5, 2) := by decide +kernel
theorem dX2_gather_110 : decode cX2_gather 110 = .ok (.ior, 1) := by decide +kernel
theorem dX2_gather_111 : decode cX2_gather 111 = .ok (.putfield 39, 3) := by decide +kernel
theorem dX2_gather_114 : decode cX2_gather 114 = .ok (.iinc 3 1, 3) := by decide +kernel
theorem dX2_gather_117 : decode cX2_gather 117 = .ok (.goto (-105), 3) := by decide +kernel
theorem dX2_gather_120 : decode cX2_gather 120 = .ok (.iconst 1, 1) := by decide +kernel
theorem dX2_gather_121 : decode cX2_gather 121 = .ok (.ireturn, 1) := by decide +kernel
theorem dX2_agreeWith_0 : decode cX2_agreeWith 0 = .ok (.iload_n 1, 1) := by decide +kernel
theorem dX2_agreeWith_1 : decode cX2_agreeWith 1 = .ok (.aload_n 0, 1) := by decide +kernel
theorem dX2_agreeWith_2 : decode cX2_agreeWith 2 = .ok (.getfield 36, 3) := by decide +kernel
theorem dX2_agreeWith_5 : decode cX2_agreeWith 5 = .ok (.iand, 1) := by decide +kernel
theorem dX2_agreeWith_6 : decode cX2_agreeWith 6 = .ok (.aload_n 0, 1) := by decide +kernel
theorem dX2_agreeWith_7 : decode cX2_agreeWith 7 = .ok (.getfield 39, 3) := by decide +kernel
theorem dX2_agreeWith_10 : decode cX2_agreeWith 10 = .ok (.if_icmp .ne 7, 3) := by decide +kernel
theorem dX2_agreeWith_13 : decode cX2_agreeWith 13 = .ok (.iconst 1, 1) := by decide +kernel
theorem dX2_agreeWith_14 : decode cX2_agreeWith 14 = .ok (.goto 4, 3) := by decide +kernel
theorem dX2_agreeWith_17 : decode cX2_agreeWith 17 = .ok (.iconst 0, 1) := by decide +kernel
theorem dX2_agreeWith_18 : decode cX2_agreeWith 18 = .ok (.ireturn, 1) := by decide +kernel
theorem dX10_init_0 : decode cX10_init 0 = .ok (.aload_n 0, 1) := by decide +kernel
theorem dX10_init_1 : decode cX10_init 1 = .ok (.invokespecial 3, 3) := by decide +kernel
theorem dX10_init_4 : decode cX10_init 4 = .ok (.aload_n 0, 1) := by decide +kernel
theorem dX10_init_5 : decode cX10_init 5 = .ok (.iconst 3, 1) := by decide +kernel
theorem dX10_init_6 : decode cX10_init 6 = .ok (.newarray .long, 2) := by decide +kernel
theorem dX10_init_8 : decode cX10_init 8 = .ok (.putfield 9, 3) := by decide +kernel
theorem dX10_init_11 : decode cX10_init 11 = .ok (.aload_n 0, 1) := by decide +kernel
theorem dX10_init_12 : decode cX10_init 12 = .ok (.iconst 4, 1) := by decide +kernel
theorem dX10_init_13 : decode cX10_init 13 = .ok (.newarray .long, 2) := by decide +kernel
theorem dX10_init_15 : decode cX10_init 15 = .ok (.putfield 15, 3) := by decide +kernel
theorem dX10_init_18 : decode cX10_init 18 = .ok (.aload_n 0, 1) := by decide +kernel
theorem dX10_init_19 : decode cX10_init 19 = .ok (.bipush 8, 2) := by decide +kernel
theorem dX10_init_21 : decode cX10_init 21 = .ok (.newarray .long, 2) := by decide +kernel
theorem dX10_init_23 : decode cX10_init 23 = .ok (.putfield 18, 3) := by decide +kernel
theorem dX10_init_26 : decode cX10_init 26 = .ok (.aload_n 0, 1) := by decide +kernel
theorem dX10_init_27 : decode cX10_init 27 = .ok (.bipush 8, 2) := by decide +kernel
theorem dX10_init_29 : decode cX10_init 29 = .ok (.newarray .int, 2) := by decide +kernel
theorem dX10_init_31 : decode cX10_init 31 = .ok (.putfield 21, 3) := by decide +kernel
theorem dX10_init_34 : decode cX10_init 34 = .ok (.aload_n 0, 1) := by decide +kernel
theorem dX10_init_35 : decode cX10_init 35 = .ok (.bipush 8, 2) := by decide +kernel
theorem dX10_init_37 : decode cX10_init 37 = .ok (.newarray .int, 2) := by decide +kernel
theorem dX10_init_39 : decode cX10_init 39 = .ok (.putfield 25, 3) := by decide +kernel
theorem dX10_init_42 : decode cX10_init 42 = .ok (.aload_n 0, 1) := by decide +kernel
theorem dX10_init_43 : decode cX10_init 43 = .ok (.bipush 8, 2) := by decide +kernel
theorem dX10_init_45 : decode cX10_init 45 = .ok (.anewarray 28, 3) := by decide +kernel
theorem dX10_init_48 : decode cX10_init 48 = .ok (.putfield 30, 3) := by decide +kernel
theorem dX10_init_51 : decode cX10_init 51 = .ok (.return_, 1) := by decide +kernel
theorem dX10_clear_0 : decode cX10_clear 0 = .ok (.aload_n 0, 1) := by decide +kernel
theorem dX10_clear_1 : decode cX10_clear 1 = .ok (.iconst 0, 1) := by decide +kernel
theorem dX10_clear_2 : decode cX10_clear 2 = .ok (.putfield 34, 3) := by decide +kernel
theorem dX10_clear_5 : decode cX10_clear 5 = .ok (.aload_n 0, 1) := by decide +kernel
theorem dX10_clear_6 : decode cX10_clear 6 = .ok (.iconst 0, 1) := by decide +kernel
theorem dX10_clear_7 : decode cX10_clear 7 = .ok (.putfield 38, 3) := by decide +kernel
theorem dX10_clear_10 : decode cX10_clear 10 = .ok (.aload_n 0, 1) := by decide +kernel
theorem dX10_clear_11 : decode cX10_clear 11 = .ok (.iconst 0, 1) := by decide +kernel
theorem dX10_clear_12 : decode cX10_clear 12 = .ok (.putfield 41, 3) := by decide +kernel
theorem dX10_clear_15 : decode cX10_clear 15 = .ok (.aload_n 0, 1) := by decide +kernel
theorem dX10_clear_16 : decode cX10_clear 16 = .ok (.iconst 0, 1) := by decide +kernel
theorem dX10_clear_17 : decode cX10_clear 17 = .ok (.putfield 44, 3) := by decide +kernel
theorem dX10_clear_20 : decode cX10_clear 20 = .ok (.iconst 0, 1) := by decide +kernel
theorem dX10_clear_21 : decode cX10_clear 21 = .ok (.istore_n 1, 1) := by decide +kernel
theorem dX10_clear_22 : decode cX10_clear 22 = .ok (.iload_n 1, 1) := by decide +kernel
theorem dX10_clear_23 : decode cX10_clear 23 = .ok (.aload_n 0, 1) := by decide +kernel
theorem dX10_clear_24 : decode cX10_clear 24 = .ok (.getfield 30, 3) := by decide +kernel
theorem dX10_clear_27 : decode cX10_clear 27 = .ok (.arraylength, 1) := by decide +kernel
theorem dX10_clear_28 : decode cX10_clear 28 = .ok (.if_icmp .ge 16, 3) := by decide +kernel
theorem dX10_clear_31 : decode cX10_clear 31 = .ok (.aload_n 0, 1) := by decide +kernel
theorem dX10_clear_32 : decode cX10_clear 32 = .ok (.getfield 30, 3) := by decide +kernel
theorem dX10_clear_35 : decode cX10_clear 35 = .ok (.iload_n 1, 1) := by decide +kernel
theorem dX10_clear_36 : decode cX10_clear 36 = .ok (.aconst_null, 1) := by decide +kernel
theorem dX10_clear_37 : decode cX10_clear 37 = .ok (.aastore, 1) := by decide +kernel
theorem dX10_clear_38 : decode cX10_clear 38 = .ok (.iinc 1 1, 3) := by decide +kernel
theorem dX10_clear_41 : decode cX10_clear 41 = .ok (.goto (-19), 3) := by decide +kernel
theorem dX10_clear_44 : decode cX10_clear 44 = .ok (.return_, 1) := by decide +kernel
theorem dX10_becomeWider_0 : decode cX10_becomeWider 0 = .ok (.aload_n 0, 1) := by decide +kernel
theorem dX10_becomeWider_1 : decode cX10_becomeWider 1 = .ok (.aload_n 1, 1) := by decide +kernel
theorem dX10_becomeWider_2 : decode cX10_becomeWider 2 = .ok (.getfield 34, 3) := by decide +kernel
theorem dX10_becomeWider_5 : decode cX10_becomeWider 5 = .ok (.putfield 34, 3) := by decide +kernel
theorem dX10_becomeWider_8 : decode cX10_becomeWider 8 = .ok (.aload_n 0, 1) := by decide +kernel
theorem dX10_becomeWider_9 : decode cX10_becomeWider 9 = .ok (.aload_n 1, 1) := by decide +kernel
theorem dX10_becomeWider_10 : decode cX10_becomeWider 10 = .ok (.getfield 41, 3) := by decide +kernel
theorem dX10_becomeWider_13 : decode cX10_becomeWider 13 = .ok (.putfield 41, 3) := by decide +kernel
theorem dX10_becomeWider_16 : decode cX10_becomeWider 16 = .ok (.iconst 0, 1) := by decide +kernel
theorem dX10_becomeWider_17 : decode cX10_becomeWider 17 = .ok (.istore_n 3, 1) := by decide +kernel
theorem dX10_becomeWider_18 : decode cX10_becomeWider 18 = .ok (.iload_n 3, 1) := by decide +kernel
theorem dX10_becomeWider_19 : decode cX10_becomeWider 19 = .ok (.aload_n 0, 1) := by decide +kernel
theorem dX10_becomeWider_20 : decode cX10_becomeWider 20 = .ok (.getfield 41, 3) := by decide +kernel
theorem dX10_becomeWider_23 : decode cX10_becomeWider 23 = .ok (.if_icmp .ge 41, 3) := by decide +kernel
theorem dX10_becomeWider_26 : decode cX10_becomeWider 26 = .ok (.aload_n 0, 1) := by decide +kernel
theorem dX10_becomeWider_27 : decode cX10_becomeWider 27 = .ok (.getfield 21, 3) := by decide +kernel
theorem dX10_becomeWider_30 : decode cX10_becomeWider 30 = .ok (.iload_n 3, 1) := by decide +kernel
theorem dX10_becomeWider_31 : decode cX10_becomeWider 31 = .ok (.aload_n 1, 1) := by decide +kernel
theorem dX10_becomeWider_32 : decode cX10_becomeWider 32 = .ok (.getfield 21, 3) := by decide +kernel
theorem dX10_becomeWider_35 : decode cX10_becomeWider 35 = .ok (.iload_n 3, 1) := by decide +kernel
theorem dX10_becomeWider_36 : decode cX10_becomeWider 36 = .ok (.invokestatic 47, 3) := by decide +kernel
theorem dX10_becomeWider_39 : decode cX10_becomeWider 39 = .ok (.invokestatic 51, 3) := by decide +kernel
theorem dX10_becomeWider_42 : decode cX10_becomeWider 42 = .ok (.aload_n 0, 1) := by decide +kernel
theorem dX10_becomeWider_43 : decode cX10_becomeWider 43 = .ok (.getfield 25, 3) := by decide +kernel
theorem dX10_becomeWider_46 : decode cX10_becomeWider 46 = .ok (.iload_n 3, 1) := by decide +kernel
theorem dX10_becomeWider_47 : decode cX10_becomeWider 47 = .ok (.aload_n 1, 1) := by decide +kernel
theorem dX10_becomeWider_48 : decode cX10_becomeWider 48 = .ok (.getfield 25, 3) := by decide +kernel
theorem dX10_becomeWider_51 : decode cX10_becomeWider 51 = .ok (.iload_n 3, 1) := by decide +kernel
theorem dX10_becomeWider_52 : decode cX10_becomeWider 52 = .ok (.invokestatic 47, 3) := by decide +kernel
theorem dX10_becomeWider_55 : decode cX10_becomeWider 55 = .ok (.invokestatic 51, 3) := by decide +kernel
theorem dX10_becomeWider_58 : decode cX10_becomeWider 58 = .ok (.iinc 3 1, 3) := by decide +kernel
theorem dX10_becomeWider_61 : decode cX10_becomeWider 61 = .ok (.goto (-43), 3) := by decide +kernel
theorem dX10_becomeWider_64 : decode cX10_becomeWider 64 = .ok (.aload_n 0, 1) := by decide +kernel
theorem dX10_becomeWider_65 : decode cX10_becomeWider 65 = .ok (.iload_n 2, 1) := by decide +kernel
theorem dX10_becomeWider_66 : decode cX10_becomeWider 66 = .ok (.iconst 1, 1) := by decide +kernel
theorem dX10_becomeWider_67 : decode cX10_becomeWider 67 = .ok (.invokevirtual 55, 3) := by decide +kernel
theorem dX10_becomeWider_70 : decode cX10_becomeWider 70 = .ok (.return_, 1) := by decide +kernel
theorem dX10_addVoter_0 : decode cX10_addVoter 0 = .ok (.aload_n 0, 1) := by decide +kernel
theorem dX10_addVoter_1 : decode cX10_addVoter 1 = .ok (.getfield 21, 3) := by decide +kernel
theorem dX10_addVoter_4 : decode cX10_addVoter 4 = .ok (.aload_n 0, 1) := by decide +kernel
theorem dX10_addVoter_5 : decode cX10_addVoter 5 = .ok (.getfield 41, 3) := by decide +kernel
theorem dX10_addVoter_8 : decode cX10_addVoter 8 = .ok (.iload_n 1, 1) := by decide +kernel
theorem dX10_addVoter_9 : decode cX10_addVoter 9 = .ok (.invokestatic 51, 3) := by decide +kernel
theorem dX10_addVoter_12 : decode cX10_addVoter 12 = .ok (.aload_n 0, 1) := by decide +kernel
theorem dX10_addVoter_13 : decode cX10_addVoter 13 = .ok (.getfield 25, 3) := by decide +kernel
theorem dX10_addVoter_16 : decode cX10_addVoter 16 = .ok (.aload_n 0, 1) := by decide +kernel
theorem dX10_addVoter_17 : decode cX10_addVoter 17 = .ok (.getfield 41, 3) := by decide +kernel
theorem dX10_addVoter_20 : decode cX10_addVoter 20 = .ok (.iload_n 2, 1) := by decide +kernel
theorem dX10_addVoter_21 : decode cX10_addVoter 21 = .ok (.invokestatic 51, 3) := by decide +kernel
theorem dX10_addVoter_24 : decode cX10_addVoter 24 = .ok (.aload_n 0, 1) := by decide +kernel
theorem dX10_addVoter_25 : decode cX10_addVoter 25 = .ok (.dup, 1) := by decide +kernel
theorem dX10_addVoter_26 : decode cX10_addVoter 26 = .ok (.getfield 41, 3) := by decide +kernel
theorem dX10_addVoter_29 : decode cX10_addVoter 29 = .ok (.iconst 1, 1) := by decide +kernel
theorem dX10_addVoter_30 : decode cX10_addVoter 30 = .ok (.iadd, 1) := by decide +kernel
theorem dX10_addVoter_31 : decode cX10_addVoter 31 = .ok (.putfield 41, 3) := by decide +kernel
theorem dX10_addVoter_34 : decode cX10_addVoter 34 = .ok (.return_, 1) := by decide +kernel
theorem dX10_tellBallot_0 : decode cX10_tellBallot 0 = .ok (.iload_n 1, 1) := by decide +kernel
theorem dX10_tellBallot_1 : decode cX10_tellBallot 1 = .ok (.ifCond .lt 31, 3) := by decide +kernel
theorem dX10_tellBallot_4 : decode cX10_tellBallot 4 = .ok (.iload_n 1, 1) := by decide +kernel
theorem dX10_tellBallot_5 : decode cX10_tellBallot 5 = .ok (.aload_n 0, 1) := by decide +kernel
theorem dX10_tellBallot_6 : decode cX10_tellBallot 6 = .ok (.getfield 30, 3) := by decide +kernel
theorem dX10_tellBallot_9 : decode cX10_tellBallot 9 = .ok (.arraylength, 1) := by decide +kernel
theorem dX10_tellBallot_10 : decode cX10_tellBallot 10 = .ok (.if_icmp .ge 22, 3) := by decide +kernel
theorem dX10_tellBallot_13 : decode cX10_tellBallot 13 = .ok (.aload_n 0, 1) := by decide +kernel
theorem dX10_tellBallot_14 : decode cX10_tellBallot 14 = .ok (.getfield 30, 3) := by decide +kernel
theorem dX10_tellBallot_17 : decode cX10_tellBallot 17 = .ok (.iload_n 1, 1) := by decide +kernel
theorem dX10_tellBallot_18 : decode cX10_tellBallot 18 = .ok (.aload_n 2, 1) := by decide +kernel
theorem dX10_tellBallot_19 : decode cX10_tellBallot 19 = .ok (.aastore, 1) := by decide +kernel
theorem dX10_tellBallot_20 : decode cX10_tellBallot 20 = .ok (.aload_n 0, 1) := by decide +kernel
theorem dX10_tellBallot_21 : decode cX10_tellBallot 21 = .ok (.dup, 1) := by decide +kernel
theorem dX10_tellBallot_22 : decode cX10_tellBallot 22 = .ok (.getfield 44, 3) := by decide +kernel
theorem dX10_tellBallot_25 : decode cX10_tellBallot 25 = .ok (.iconst 1, 1) := by decide +kernel
theorem dX10_tellBallot_26 : decode cX10_tellBallot 26 = .ok (.iload_n 1, 1) := by decide +kernel
theorem dX10_tellBallot_27 : decode cX10_tellBallot 27 = .ok (.ishl, 1) := by decide +kernel
theorem dX10_tellBallot_28 : decode cX10_tellBallot 28 = .ok (.ior, 1) := by decide +kernel
theorem dX10_tellBallot_29 : decode cX10_tellBallot 29 = .ok (.putfield 44, 3) := by decide +kernel
theorem dX10_tellBallot_32 : decode cX10_tellBallot 32 = .ok (.return_, 1) := by decide +kernel
theorem dX10_hasName_0 : decode cX10_hasName 0 = .ok (.iload_n 1, 1) := by decide +kernel
theorem dX10_hasName_1 : decode cX10_hasName 1 = .ok (.ifCond .lt 15, 3) := by decide +kernel
theorem dX10_hasName_4 : decode cX10_hasName 4 = .ok (.iload_n 1, 1) := by decide +kernel
theorem dX10_hasName_5 : decode cX10_hasName 5 = .ok (.aload_n 0, 1) := by decide +kernel
theorem dX10_hasName_6 : decode cX10_hasName 6 = .ok (.getfield 34, 3) := by decide +kernel
theorem dX10_hasName_9 : decode cX10_hasName 9 = .ok (.if_icmp .ge 7, 3) := by decide +kernel
theorem dX10_hasName_12 : decode cX10_hasName 12 = .ok (.iconst 1, 1) := by decide +kernel
theorem dX10_hasName_13 : decode cX10_hasName 13 = .ok (.goto 4, 3) := by decide +kernel
theorem dX10_hasName_16 : decode cX10_hasName 16 = .ok (.iconst 0, 1) := by decide +kernel
theorem dX10_hasName_17 : decode cX10_hasName 17 = .ok (.ireturn, 1) := by decide +kernel
theorem dX10_hasVoter_0 : decode cX10_hasVoter 0 = .ok (.iload_n 1, 1) := by decide +kernel
theorem dX10_hasVoter_1 : decode cX10_hasVoter 1 = .ok (.ifCond .lt 15, 3) := by decide +kernel
theorem dX10_hasVoter_4 : decode cX10_hasVoter 4 = .ok (.iload_n 1, 1) := by decide +kernel
theorem dX10_hasVoter_5 : decode cX10_hasVoter 5 = .ok (.aload_n 0, 1) := by decide +kernel
theorem dX10_hasVoter_6 : decode cX10_hasVoter 6 = .ok (.getfield 41, 3) := by decide +kernel
theorem dX10_hasVoter_9 : decode cX10_hasVoter 9 = .ok (.if_icmp .ge 7, 3) := by decide +kernel
theorem dX10_hasVoter_12 : decode cX10_hasVoter 12 = .ok (.iconst 1, 1) := by decide +kernel
theorem dX10_hasVoter_13 : decode cX10_hasVoter 13 = .ok (.goto 4, 3) := by decide +kernel
theorem dX10_hasVoter_16 : decode cX10_hasVoter 16 = .ok (.iconst 0, 1) := by decide +kernel
theorem dX10_hasVoter_17 : decode cX10_hasVoter 17 = .ok (.ireturn, 1) := by decide +kernel
theorem dX10_hasMark_0 : decode cX10_hasMark 0 = .ok (.iload_n 1, 1) := by decide +kernel
theorem dX10_hasMark_1 : decode cX10_hasMark 1 = .ok (.ifCond .lt 15, 3) := by decide +kernel
theorem dX10_hasMark_4 : decode cX10_hasMark 4 = .ok (.iload_n 1, 1) := by decide +kernel
theorem dX10_hasMark_5 : decode cX10_hasMark 5 = .ok (.aload_n 0, 1) := by decide +kernel
theorem dX10_hasMark_6 : decode cX10_hasMark 6 = .ok (.getfield 34, 3) := by decide +kernel
theorem dX10_hasMark_9 : decode cX10_hasMark 9 = .ok (.if_icmp .gt 7, 3) := by decide +kernel
theorem dX10_hasMark_12 : decode cX10_hasMark 12 = .ok (.iconst 1, 1) := by decide +kernel
theorem dX10_hasMark_13 : decode cX10_hasMark 13 = .ok (.goto 4, 3) := by decide +kernel
theorem dX10_hasMark_16 : decode cX10_hasMark 16 = .ok (.iconst 0, 1) := by decide +kernel
theorem dX10_hasMark_17 : decode cX10_hasMark 17 = .ok (.ireturn, 1) := by decide +kernel
theorem dX10_shiftOf_0 : decode cX10_shiftOf 0 = .ok (.iconst 2, 1) := by decide +kernel
theorem dX10_shiftOf_1 : decode cX10_shiftOf 1 = .ok (.aload_n 0, 1) := by decide +kernel
theorem dX10_shiftOf_2 : decode cX10_shiftOf 2 = .ok (.getfield 41, 3) := by decide +kernel
theorem dX10_shiftOf_5 : decode cX10_shiftOf 5 = .ok (.iconst 1, 1) := by decide +kernel
theorem dX10_shiftOf_6 : decode cX10_shiftOf 6 = .ok (.isub, 1) := by decide +kernel
theorem dX10_shiftOf_7 : decode cX10_shiftOf 7 = .ok (.iload_n 1, 1) := by decide +kernel
theorem dX10_shiftOf_8 : decode cX10_shiftOf 8 = .ok (.isub, 1) := by decide +kernel
theorem dX10_shiftOf_9 : decode cX10_shiftOf 9 = .ok (.imul, 1) := by decide +kernel
theorem dX10_shiftOf_10 : decode cX10_shiftOf 10 = .ok (.ireturn, 1) := by decide +kernel
theorem dX10_markOf_0 : decode cX10_markOf 0 = .ok (.iload_n 1, 1) := by decide +kernel
theorem dX10_markOf_1 : decode cX10_markOf 1 = .ok (.aload_n 0, 1) := by decide +kernel
theorem dX10_markOf_2 : decode cX10_markOf 2 = .ok (.iload_n 2, 1) := by decide +kernel
theorem dX10_markOf_3 : decode cX10_markOf 3 = .ok (.invokevirtual 59, 3) := by decide +kernel
theorem dX10_markOf_6 : decode cX10_markOf 6 = .ok (.ishr, 1) := by decide +kernel
theorem dX10_markOf_7 : decode cX10_markOf 7 = .ok (.iconst 3, 1) := by decide +kernel
theorem dX10_markOf_8 : decode cX10_markOf 8 = .ok (.iand, 1) := by decide +kernel
theorem dX10_markOf_9 : decode cX10_markOf 9 = .ok (.ireturn, 1) := by decide +kernel
theorem dX10_withMark_0 : decode cX10_withMark 0 = .ok (.iload_n 1, 1) := by decide +kernel
theorem dX10_withMark_1 : decode cX10_withMark 1 = .ok (.iconst 3, 1) := by decide +kernel
theorem dX10_withMark_2 : decode cX10_withMark 2 = .ok (.aload_n 0, 1) := by decide +kernel
theorem dX10_withMark_3 : decode cX10_withMark 3 = .ok (.iload_n 2, 1) := by decide +kernel
theorem dX10_withMark_4 : decode cX10_withMark 4 = .ok (.invokevirtual 59, 3) := by decide +kernel
theorem dX10_withMark_7 : decode cX10_withMark 7 = .ok (.ishl, 1) := by decide +kernel
theorem dX10_withMark_8 : decode cX10_withMark 8 = .ok (.iconst (-1), 1) := by decide +kernel
theorem dX10_withMark_9 : decode cX10_withMark 9 = .ok (.ixor, 1) := by decide +kernel
theorem dX10_withMark_10 : decode cX10_withMark 10 = .ok (.iand, 1) := by decide +kernel
theorem dX10_withMark_11 : decode cX10_withMark 11 = .ok (.iload_n 3, 1) := by decide +kernel
theorem dX10_withMark_12 : decode cX10_withMark 12 = .ok (.aload_n 0, 1) := by decide +kernel
theorem dX10_withMark_13 : decode cX10_withMark 13 = .ok (.iload_n 2, 1) := by decide +kernel
theorem dX10_withMark_14 : decode cX10_withMark 14 = .ok (.invokevirtual 59, 3) := by decide +kernel
theorem dX10_withMark_17 : decode cX10_withMark 17 = .ok (.ishl, 1) := by decide +kernel
theorem dX10_withMark_18 : decode cX10_withMark 18 = .ok (.ior, 1) := by decide +kernel
theorem dX10_withMark_19 : decode cX10_withMark 19 = .ok (.ireturn, 1) := by decide +kernel
theorem dX10_canBe_0 : decode cX10_canBe 0 = .ok (.aload_n 0, 1) := by decide +kernel
theorem dX10_canBe_1 : decode cX10_canBe 1 = .ok (.getfield 34, 3) := by decide +kernel
theorem dX10_canBe_4 : decode cX10_canBe 4 = .ok (.tableswitch 69 0 2 #[28, 38, 51], 28) := by decide +kernel
theorem dX10_canBe_32 : decode cX10_canBe 32 = .ok (.iload_n 1, 1) := by decide +kernel
theorem dX10_canBe_33 : decode cX10_canBe 33 = .ok (.ifCond .ne 7, 3) := by decide +kernel
theorem dX10_canBe_36 : decode cX10_canBe 36 = .ok (.iconst 1, 1) := by decide +kernel
theorem dX10_canBe_37 : decode cX10_canBe 37 = .ok (.goto 4, 3) := by decide +kernel
theorem dX10_canBe_40 : decode cX10_canBe 40 = .ok (.iconst 0, 1) := by decide +kernel
theorem dX10_canBe_41 : decode cX10_canBe 41 = .ok (.ireturn, 1) := by decide +kernel
theorem dX10_canBe_42 : decode cX10_canBe 42 = .ok (.iload_n 1, 1) := by decide +kernel
theorem dX10_canBe_43 : decode cX10_canBe 43 = .ok (.ldc 63, 2) := by decide +kernel
theorem dX10_canBe_45 : decode cX10_canBe 45 = .ok (.iand, 1) := by decide +kernel
theorem dX10_canBe_46 : decode cX10_canBe 46 = .ok (.ifCond .ne 7, 3) := by decide +kernel
theorem dX10_canBe_49 : decode cX10_canBe 49 = .ok (.iconst 1, 1) := by decide +kernel
theorem dX10_canBe_50 : decode cX10_canBe 50 = .ok (.goto 4, 3) := by decide +kernel
theorem dX10_canBe_53 : decode cX10_canBe 53 = .ok (.iconst 0, 1) := by decide +kernel
theorem dX10_canBe_54 : decode cX10_canBe 54 = .ok (.ireturn, 1) := by decide +kernel
theorem dX10_canBe_55 : decode cX10_canBe 55 = .ok (.iload_n 1, 1) := by decide +kernel
theorem dX10_canBe_56 : decode cX10_canBe 56 = .ok (.iload_n 1, 1) := by decide +kernel
theorem dX10_canBe_57 : decode cX10_canBe 57 = .ok (.iconst 1, 1) := by decide +kernel
theorem dX10_canBe_58 : decode cX10_canBe 58 = .ok (.ishr, 1) := by decide +kernel
theorem dX10_canBe_59 : decode cX10_canBe 59 = .ok (.iand, 1) := by decide +kernel
theorem dX10_canBe_60 : decode cX10_canBe 60 = .ok (.sipush 21845, 3) := by decide +kernel
theorem dX10_canBe_63 : decode cX10_canBe 63 = .ok (.iand, 1) := by decide +kernel
theorem dX10_canBe_64 : decode cX10_canBe 64 = .ok (.ifCond .ne 7, 3) := by decide +kernel
theorem dX10_canBe_67 : decode cX10_canBe 67 = .ok (.iconst 1, 1) := by decide +kernel
theorem dX10_canBe_68 : decode cX10_canBe 68 = .ok (.goto 4, 3) := by decide +kernel
theorem dX10_canBe_71 : decode cX10_canBe 71 = .ok (.iconst 0, 1) := by decide +kernel
theorem dX10_canBe_72 : decode cX10_canBe 72 = .ok (.ireturn, 1) := by decide +kernel
theorem dX10_canBe_73 : decode cX10_canBe 73 = .ok (.iconst 1, 1) := by decide +kernel
theorem dX10_canBe_74 : decode cX10_canBe 74 = .ok (.ireturn, 1) := by decide +kernel
theorem dX10_bitsInRows_0 : decode cX10_bitsInRows 0 = .ok (.iconst 0, 1) := by decide +kernel
theorem dX10_bitsInRows_1 : decode cX10_bitsInRows 1 = .ok (.istore_n 2, 1) := by decide +kernel
theorem dX10_bitsInRows_2 : decode cX10_bitsInRows 2 = .ok (.iconst 0, 1) := by decide +kernel
theorem dX10_bitsInRows_3 : decode cX10_bitsInRows 3 = .ok (.istore_n 3, 1) := by decide +kernel
theorem dX10_bitsInRows_4 : decode cX10_bitsInRows 4 = .ok (.iload_n 3, 1) := by decide +kernel
theorem dX10_bitsInRows_5 : decode cX10_bitsInRows 5 = .ok (.aload_n 0, 1) := by decide +kernel
theorem dX10_bitsInRows_6 : decode cX10_bitsInRows 6 = .ok (.getfield 41, 3) := by decide +kernel
theorem dX10_bitsInRows_9 : decode cX10_bitsInRows 9 = .ok (.if_icmp .ge 28, 3) := by decide +kernel
theorem dX10_bitsInRows_12 : decode cX10_bitsInRows 12 = .ok (.iload_n 1, 1) := by decide +kernel
theorem dX10_bitsInRows_13 : decode cX10_bitsInRows 13 = .ok (.iload_n 3, 1) := by decide +kernel
theorem dX10_bitsInRows_14 : decode cX10_bitsInRows 14 = .ok (.ishr, 1) := by decide +kernel
theorem dX10_bitsInRows_15 : decode cX10_bitsInRows 15 = .ok (.iconst 1, 1) := by decide +kernel
theorem dX10_bitsInRows_16 : decode cX10_bitsInRows 16 = .ok (.iand, 1) := by decide +kernel
theorem dX10_bitsInRows_17 : decode cX10_bitsInRows 17 = .ok (.iconst 1, 1) := by decide +kernel
theorem dX10_bitsInRows_18 : decode cX10_bitsInRows 18 = .ok (.if_icmp .ne 13, 3) := by decide +kernel
theorem dX10_bitsInRows_21 : decode cX10_bitsInRows 21 = .ok (.iload_n 2, 1) := by decide +kernel
theorem dX10_bitsInRows_22 : decode cX10_bitsInRows 22 = .ok (.iconst 3, 1) := by decide +kernel
theorem dX10_bitsInRows_23 : decode cX10_bitsInRows 23 = .ok (.aload_n 0, 1) := by decide +kernel
theorem dX10_bitsInRows_24 : decode cX10_bitsInRows 24 = .ok (.iload_n 3, 1) := by decide +kernel
theorem dX10_bitsInRows_25 : decode cX10_bitsInRows 25 = .ok (.invokevirtual 59, 3) := by decide +kernel
theorem dX10_bitsInRows_28 : decode cX10_bitsInRows 28 = .ok (.ishl, 1) := by decide +kernel
theorem dX10_bitsInRows_29 : decode cX10_bitsInRows 29 = .ok (.ior, 1) := by decide +kernel
theorem dX10_bitsInRows_30 : decode cX10_bitsInRows 30 = .ok (.istore_n 2, 1) := by decide +kernel
theorem dX10_bitsInRows_31 : decode cX10_bitsInRows 31 = .ok (.iinc 3 1, 3) := by decide +kernel
theorem dX10_bitsInRows_34 : decode cX10_bitsInRows 34 = .ok (.goto (-30), 3) := by decide +kernel
theorem dX10_bitsInRows_37 : decode cX10_bitsInRows 37 = .ok (.iload_n 2, 1) := by decide +kernel
theorem dX10_bitsInRows_38 : decode cX10_bitsInRows 38 = .ok (.ireturn, 1) := by decide +kernel
theorem dX10_looksOf_0 : decode cX10_looksOf 0 = .ok (.aload_n 2, 1) := by decide +kernel
theorem dX10_looksOf_1 : decode cX10_looksOf 1 = .ok (.getfield 64, 3) := by decide +kernel
theorem dX10_looksOf_4 : decode cX10_looksOf 4 = .ok (.istore_n 3, 1) := by decide +kernel
theorem dX10_looksOf_5 : decode cX10_looksOf 5 = .ok (.iconst 0, 1) := by decide +kernel
theorem dX10_looksOf_6 : decode cX10_looksOf 6 = .ok (.istore 4, 2) := by decide +kernel
theorem dX10_looksOf_8 : decode cX10_looksOf 8 = .ok (.iload 4, 2) := by decide +kernel
theorem dX10_looksOf_10 : decode cX10_looksOf 10 = .ok (.aload_n 0, 1) := by decide +kernel
theorem dX10_looksOf_11 : decode cX10_looksOf 11 = .ok (.getfield 41, 3) := by decide +kernel
theorem dX10_looksOf_14 : decode cX10_looksOf 14 = .ok (.if_icmp .ge 43, 3) := by decide +kernel
theorem dX10_looksOf_17 : decode cX10_looksOf 17 = .ok (.iconst 1, 1) := by decide +kernel
theorem dX10_looksOf_18 : decode cX10_looksOf 18 = .ok (.iconst 1, 1) := by decide +kernel
theorem dX10_looksOf_19 : decode cX10_looksOf 19 = .ok (.aload_n 0, 1) := by decide +kernel
theorem dX10_looksOf_20 : decode cX10_looksOf 20 = .ok (.getfield 21, 3) := by decide +kernel
theorem dX10_looksOf_23 : decode cX10_looksOf 23 = .ok (.iload 4, 2) := by decide +kernel
theorem dX10_looksOf_25 : decode cX10_looksOf 25 = .ok (.invokestatic 47, 3) := by decide +kernel
theorem dX10_looksOf_28 : decode cX10_looksOf 28 = .ok (.iconst 1, 1) := by decide +kernel
theorem dX10_looksOf_29 : decode cX10_looksOf 29 = .ok (.iadd, 1) := by decide +kernel
theorem dX10_looksOf_30 : decode cX10_looksOf 30 = .ok (.ishl, 1) := by decide +kernel
theorem dX10_looksOf_31 : decode cX10_looksOf 31 = .ok (.ior, 1) := by decide +kernel
theorem dX10_looksOf_32 : decode cX10_looksOf 32 = .ok (.istore 5, 2) := by decide +kernel
theorem dX10_looksOf_34 : decode cX10_looksOf 34 = .ok (.aload_n 2, 1) := by decide +kernel
theorem dX10_looksOf_35 : decode cX10_looksOf 35 = .ok (.getfield 65, 3) := by decide +kernel
theorem dX10_looksOf_38 : decode cX10_looksOf 38 = .ok (.iload 5, 2) := by decide +kernel
theorem dX10_looksOf_40 : decode cX10_looksOf 40 = .ok (.iand, 1) := by decide +kernel
theorem dX10_looksOf_41 : decode cX10_looksOf 41 = .ok (.ifCond .eq 10, 3) := by decide +kernel
theorem dX10_looksOf_44 : decode cX10_looksOf 44 = .ok (.iload_n 3, 1) := by decide +kernel
theorem dX10_looksOf_45 : decode cX10_looksOf 45 = .ok (.iconst 1, 1) := by decide +kernel
theorem dX10_looksOf_46 : decode cX10_looksOf 46 = .ok (.iload 4, 2) := by decide +kernel
theorem dX10_looksOf_48 : decode cX10_looksOf 48 = .ok (.ishl, 1) := by decide +kernel
theorem dX10_looksOf_49 : decode cX10_looksOf 49 = .ok (.ior, 1) := by decide +kernel
theorem dX10_looksOf_50 : decode cX10_looksOf 50 = .ok (.istore_n 3, 1) := by decide +kernel
theorem dX10_looksOf_51 : decode cX10_looksOf 51 = .ok (.iinc 4 1, 3) := by decide +kernel
theorem dX10_looksOf_54 : decode cX10_looksOf 54 = .ok (.goto (-46), 3) := by decide +kernel
theorem dX10_looksOf_57 : decode cX10_looksOf 57 = .ok (.iload_n 3, 1) := by decide +kernel
theorem dX10_looksOf_58 : decode cX10_looksOf 58 = .ok (.iconst 1, 1) := by decide +kernel
theorem dX10_looksOf_59 : decode cX10_looksOf 59 = .ok (.iload_n 1, 1) := by decide +kernel
theorem dX10_looksOf_60 : decode cX10_looksOf 60 = .ok (.ishl, 1) := by decide +kernel
theorem dX10_looksOf_61 : decode cX10_looksOf 61 = .ok (.iconst (-1), 1) := by decide +kernel
theorem dX10_looksOf_62 : decode cX10_looksOf 62 = .ok (.ixor, 1) := by decide +kernel
theorem dX10_looksOf_63 : decode cX10_looksOf 63 = .ok (.iand, 1) := by decide +kernel
theorem dX10_looksOf_64 : decode cX10_looksOf 64 = .ok (.ireturn, 1) := by decide +kernel
theorem dX10_votes_0 : decode cX10_votes 0 = .ok (.iconst 0, 1) := by decide +kernel
theorem dX10_votes_1 : decode cX10_votes 1 = .ok (.istore 5, 2) := by decide +kernel
theorem dX10_votes_3 : decode cX10_votes 3 = .ok (.iload_n 1, 1) := by decide +kernel
theorem dX10_votes_4 : decode cX10_votes 4 = .ok (.istore 6, 2) := by decide +kernel
theorem dX10_votes_6 : decode cX10_votes 6 = .ok (.aload_n 0, 1) := by decide +kernel
theorem dX10_votes_7 : decode cX10_votes 7 = .ok (.getfield 41, 3) := by decide +kernel
theorem dX10_votes_10 : decode cX10_votes 10 = .ok (.iconst 1, 1) := by decide +kernel
theorem dX10_votes_11 : decode cX10_votes 11 = .ok (.isub, 1) := by decide +kernel
theorem dX10_votes_12 : decode cX10_votes 12 = .ok (.istore 7, 2) := by decide +kernel
theorem dX10_votes_14 : decode cX10_votes 14 = .ok (.iload 7, 2) := by decide +kernel
theorem dX10_votes_16 : decode cX10_votes 16 = .ok (.ifCond .lt 79, 3) := by decide +kernel
theorem dX10_votes_19 : decode cX10_votes 19 = .ok (.iload 6, 2) := by decide +kernel
theorem dX10_votes_21 : decode cX10_votes 21 = .ok (.iconst 3, 1) := by decide +kernel
theorem dX10_votes_22 : decode cX10_votes 22 = .ok (.iand, 1) := by decide +kernel
theorem dX10_votes_23 : decode cX10_votes 23 = .ok (.iload 4, 2) := by decide +kernel
theorem dX10_votes_25 : decode cX10_votes 25 = .ok (.if_icmp .ne 58, 3) := by decide +kernel
theorem dX10_votes_28 : decode cX10_votes 28 = .ok (.iload 7, 2) := by decide +kernel
theorem dX10_votes_30 : decode cX10_votes 30 = .ok (.iload_n 2, 1) := by decide +kernel
theorem dX10_votes_31 : decode cX10_votes 31 = .ok (.if_icmp .eq 52, 3) := by decide +kernel
theorem dX10_votes_34 : decode cX10_votes 34 = .ok (.iload_n 3, 1) := by decide +kernel
theorem dX10_votes_35 : decode cX10_votes 35 = .ok (.ifCond .eq 18, 3) := by decide +kernel
theorem dX10_votes_38 : decode cX10_votes 38 = .ok (.iload_n 3, 1) := by decide +kernel
theorem dX10_votes_39 : decode cX10_votes 39 = .ok (.aload_n 0, 1) := by decide +kernel
theorem dX10_votes_40 : decode cX10_votes 40 = .ok (.getfield 21, 3) := by decide +kernel
theorem dX10_votes_43 : decode cX10_votes 43 = .ok (.iload 7, 2) := by decide +kernel
theorem dX10_votes_45 : decode cX10_votes 45 = .ok (.invokestatic 47, 3) := by decide +kernel
theorem dX10_votes_48 : decode cX10_votes 48 = .ok (.iconst 1, 1) := by decide +kernel
theorem dX10_votes_49 : decode cX10_votes 49 = .ok (.iadd, 1) := by decide +kernel
theorem dX10_votes_50 : decode cX10_votes 50 = .ok (.if_icmp .ne 7, 3) := by decide +kernel
theorem dX10_votes_53 : decode cX10_votes 53 = .ok (.iconst 1, 1) := by decide +kernel
theorem dX10_votes_54 : decode cX10_votes 54 = .ok (.goto 4, 3) := by decide +kernel
theorem dX10_votes_57 : decode cX10_votes 57 = .ok (.iconst 0, 1) := by decide +kernel
theorem dX10_votes_58 : decode cX10_votes 58 = .ok (.istore 8, 2) := by decide +kernel
theorem dX10_votes_60 : decode cX10_votes 60 = .ok (.iload 5, 2) := by decide +kernel
theorem dX10_votes_62 : decode cX10_votes 62 = .ok (.iload 8, 2) := by decide +kernel
theorem dX10_votes_64 : decode cX10_votes 64 = .ok (.ifCond .eq 15, 3) := by decide +kernel
theorem dX10_votes_67 : decode cX10_votes 67 = .ok (.aload_n 0, 1) := by decide +kernel
theorem dX10_votes_68 : decode cX10_votes 68 = .ok (.getfield 25, 3) := by decide +kernel
theorem dX10_votes_71 : decode cX10_votes 71 = .ok (.iload 7, 2) := by decide +kernel
theorem dX10_votes_73 : decode cX10_votes 73 = .ok (.invokestatic 47, 3) := by decide +kernel
theorem dX10_votes_76 : decode cX10_votes 76 = .ok (.goto 4, 3) := by decide +kernel
theorem dX10_votes_79 : decode cX10_votes 79 = .ok (.iconst 0, 1) := by decide +kernel
theorem dX10_votes_80 : decode cX10_votes 80 = .ok (.iadd, 1) := by decide +kernel
theorem dX10_votes_81 : decode cX10_votes 81 = .ok (.istore 5, 2) := by decide +kernel
theorem dX10_votes_83 : decode cX10_votes 83 = .ok (.iload 6, 2) := by decide +kernel
theorem dX10_votes_85 : decode cX10_votes 85 = .ok (.iconst 2, 1) := by decide +kernel
theorem dX10_votes_86 : decode cX10_votes 86 = .ok (.ishr, 1) := by decide +kernel
theorem dX10_votes_87 : decode cX10_votes 87 = .ok (.istore 6, 2) := by decide +kernel
theorem dX10_votes_89 : decode cX10_votes 89 = .ok (.iinc 7 (-1), 3) := by decide +kernel
theorem dX10_votes_92 : decode cX10_votes 92 = .ok (.goto (-78), 3) := by decide +kernel
theorem dX10_votes_95 : decode cX10_votes 95 = .ok (.iload 5, 2) := by decide +kernel
theorem dX10_votes_97 : decode cX10_votes 97 = .ok (.ireturn, 1) := by decide +kernel
theorem dX10_mostVoted_0 : decode cX10_mostVoted 0 = .ok (.iconst 0, 1) := by decide +kernel
theorem dX10_mostVoted_1 : decode cX10_mostVoted 1 = .ok (.istore 4, 2) := by decide +kernel
theorem dX10_mostVoted_3 : decode cX10_mostVoted 3 = .ok (.iconst 0, 1) := by decide +kernel
theorem dX10_mostVoted_4 : decode cX10_mostVoted 4 = .ok (.istore 5, 2) := by decide +kernel
theorem dX10_mostVoted_6 : decode cX10_mostVoted 6 = .ok (.iconst 1, 1) := by decide +kernel
theorem dX10_mostVoted_7 : decode cX10_mostVoted 7 = .ok (.istore 6, 2) := by decide +kernel
theorem dX10_mostVoted_9 : decode cX10_mostVoted 9 = .ok (.iload 6, 2) := by decide +kernel
theorem dX10_mostVoted_11 : decode cX10_mostVoted 11 = .ok (.aload_n 0, 1) := by decide +kernel
theorem dX10_mostVoted_12 : decode cX10_mostVoted 12 = .ok (.getfield 34, 3) := by decide +kernel
theorem dX10_mostVoted_15 : decode cX10_mostVoted 15 = .ok (.if_icmp .gt 35, 3) := by decide +kernel
theorem dX10_mostVoted_18 : decode cX10_mostVoted 18 = .ok (.aload_n 0, 1) := by decide +kernel
theorem dX10_mostVoted_19 : decode cX10_mostVoted 19 = .ok (.iload_n 1, 1) := by decide +kernel
theorem dX10_mostVoted_20 : decode cX10_mostVoted 20 = .ok (.iload_n 2, 1) := by decide +kernel
theorem dX10_mostVoted_21 : decode cX10_mostVoted 21 = .ok (.iload_n 3, 1) := by decide +kernel
theorem dX10_mostVoted_22 : decode cX10_mostVoted 22 = .ok (.iload 6, 2) := by decide +kernel
theorem dX10_mostVoted_24 : decode cX10_mostVoted 24 = .ok (.invokevirtual 66, 3) := by decide +kernel
theorem dX10_mostVoted_27 : decode cX10_mostVoted 27 = .ok (.istore 7, 2) := by decide +kernel
theorem dX10_mostVoted_29 : decode cX10_mostVoted 29 = .ok (.iload 7, 2) := by decide +kernel
theorem dX10_mostVoted_31 : decode cX10_mostVoted 31 = .ok (.iload 5, 2) := by decide +kernel
theorem dX10_mostVoted_33 : decode cX10_mostVoted 33 = .ok (.if_icmp .le 11, 3) := by decide +kernel
theorem dX10_mostVoted_36 : decode cX10_mostVoted 36 = .ok (.iload 6, 2) := by decide +kernel
theorem dX10_mostVoted_38 : decode cX10_mostVoted 38 = .ok (.istore 4, 2) := by decide +kernel
theorem dX10_mostVoted_40 : decode cX10_mostVoted 40 = .ok (.iload 7, 2) := by decide +kernel
theorem dX10_mostVoted_42 : decode cX10_mostVoted 42 = .ok (.istore 5, 2) := by decide +kernel
theorem dX10_mostVoted_44 : decode cX10_mostVoted 44 = .ok (.iinc 6 1, 3) := by decide +kernel
theorem dX10_mostVoted_47 : decode cX10_mostVoted 47 = .ok (.goto (-38), 3) := by decide +kernel
theorem dX10_mostVoted_50 : decode cX10_mostVoted 50 = .ok (.iload 4, 2) := by decide +kernel
theorem dX10_mostVoted_52 : decode cX10_mostVoted 52 = .ok (.ireturn, 1) := by decide +kernel
theorem dX10_fewestVoted_0 : decode cX10_fewestVoted 0 = .ok (.iconst 0, 1) := by decide +kernel
theorem dX10_fewestVoted_1 : decode cX10_fewestVoted 1 = .ok (.istore 4, 2) := by decide +kernel
theorem dX10_fewestVoted_3 : decode cX10_fewestVoted 3 = .ok (.iconst 0, 1) := by decide +kernel
theorem dX10_fewestVoted_4 : decode cX10_fewestVoted 4 = .ok (.istore 5, 2) := by decide +kernel
theorem dX10_fewestVoted_6 : decode cX10_fewestVoted 6 = .ok (.iconst 1, 1) := by decide +kernel
theorem dX10_fewestVoted_7 : decode cX10_fewestVoted 7 = .ok (.istore 6, 2) := by decide +kernel
theorem dX10_fewestVoted_9 : decode cX10_fewestVoted 9 = .ok (.iload 6, 2) := by decide +kernel
theorem dX10_fewestVoted_11 : decode cX10_fewestVoted 11 = .ok (.aload_n 0, 1) := by decide +kernel
theorem dX10_fewestVoted_12 : decode cX10_fewestVoted 12 = .ok (.getfield 34, 3) := by decide +kernel
theorem dX10_fewestVoted_15 : decode cX10_fewestVoted 15 = .ok (.if_icmp .gt 40, 3) := by decide +kernel
theorem dX10_fewestVoted_18 : decode cX10_fewestVoted 18 = .ok (.aload_n 0, 1) := by decide +kernel
theorem dX10_fewestVoted_19 : decode cX10_fewestVoted 19 = .ok (.iload_n 1, 1) := by decide +kernel
theorem dX10_fewestVoted_20 : decode cX10_fewestVoted 20 = .ok (.iload_n 2, 1) := by decide +kernel
theorem dX10_fewestVoted_21 : decode cX10_fewestVoted 21 = .ok (.iload_n 3, 1) := by decide +kernel
theorem dX10_fewestVoted_22 : decode cX10_fewestVoted 22 = .ok (.iload 6, 2) := by decide +kernel
theorem dX10_fewestVoted_24 : decode cX10_fewestVoted 24 = .ok (.invokevirtual 66, 3) := by decide +kernel
theorem dX10_fewestVoted_27 : decode cX10_fewestVoted 27 = .ok (.istore 7, 2) := by decide +kernel
theorem dX10_fewestVoted_29 : decode cX10_fewestVoted 29 = .ok (.iload 4, 2) := by decide +kernel
theorem dX10_fewestVoted_31 : decode cX10_fewestVoted 31 = .ok (.ifCond .eq 10, 3) := by decide +kernel
theorem dX10_fewestVoted_34 : decode cX10_fewestVoted 34 = .ok (.iload 7, 2) := by decide +kernel
theorem dX10_fewestVoted_36 : decode cX10_fewestVoted 36 = .ok (.iload 5, 2) := by decide +kernel
theorem dX10_fewestVoted_38 : decode cX10_fewestVoted 38 = .ok (.if_icmp .ge 11, 3) := by decide +kernel
theorem dX10_fewestVoted_41 : decode cX10_fewestVoted 41 = .ok (.iload 6, 2) := by decide +kernel
theorem dX10_fewestVoted_43 : decode cX10_fewestVoted 43 = .ok (.istore 4, 2) := by decide +kernel
theorem dX10_fewestVoted_45 : decode cX10_fewestVoted 45 = .ok (.iload 7, 2) := by decide +kernel
theorem dX10_fewestVoted_47 : decode cX10_fewestVoted 47 = .ok (.istore 5, 2) := by decide +kernel
theorem dX10_fewestVoted_49 : decode cX10_fewestVoted 49 = .ok (.iinc 6 1, 3) := by decide +kernel
theorem dX10_fewestVoted_52 : decode cX10_fewestVoted 52 = .ok (.goto (-43), 3) := by decide +kernel
theorem dX10_fewestVoted_55 : decode cX10_fewestVoted 55 = .ok (.iload 4, 2) := by decide +kernel
theorem dX10_fewestVoted_57 : decode cX10_fewestVoted 57 = .ok (.ireturn, 1) := by decide +kernel
theorem dX10_chosenIn_0 : decode cX10_chosenIn 0 = .ok (.iconst 0, 1) := by decide +kernel
theorem dX10_chosenIn_1 : decode cX10_chosenIn 1 = .ok (.istore_n 2, 1) := by decide +kernel
theorem dX10_chosenIn_2 : decode cX10_chosenIn 2 = .ok (.iconst 0, 1) := by decide +kernel
theorem dX10_chosenIn_3 : decode cX10_chosenIn 3 = .ok (.istore_n 3, 1) := by decide +kernel
theorem dX10_chosenIn_4 : decode cX10_chosenIn 4 = .ok (.iconst 1, 1) := by decide +kernel
theorem dX10_chosenIn_5 : decode cX10_chosenIn 5 = .ok (.istore 4, 2) := by decide +kernel
theorem dX10_chosenIn_7 : decode cX10_chosenIn 7 = .ok (.iload 4, 2) := by decide +kernel
theorem dX10_chosenIn_9 : decode cX10_chosenIn 9 = .ok (.aload_n 0, 1) := by decide +kernel
theorem dX10_chosenIn_10 : decode cX10_chosenIn 10 = .ok (.getfield 34, 3) := by decide +kernel
theorem dX10_chosenIn_13 : decode cX10_chosenIn 13 = .ok (.if_icmp .gt 43, 3) := by decide +kernel
theorem dX10_chosenIn_16 : decode cX10_chosenIn 16 = .ok (.aload_n 0, 1) := by decide +kernel
theorem dX10_chosenIn_17 : decode cX10_chosenIn 17 = .ok (.iload_n 1, 1) := by decide +kernel
theorem dX10_chosenIn_18 : decode cX10_chosenIn 18 = .ok (.iconst (-1), 1) := by decide +kernel
theorem dX10_chosenIn_19 : decode cX10_chosenIn 19 = .ok (.iconst 0, 1) := by decide +kernel
theorem dX10_chosenIn_20 : decode cX10_chosenIn 20 = .ok (.iload 4, 2) := by decide +kernel
theorem dX10_chosenIn_22 : decode cX10_chosenIn 22 = .ok (.invokevirtual 66, 3) := by decide +kernel
theorem dX10_chosenIn_25 : decode cX10_chosenIn 25 = .ok (.istore 5, 2) := by decide +kernel
theorem dX10_chosenIn_27 : decode cX10_chosenIn 27 = .ok (.iload 5, 2) := by decide +kernel
theorem dX10_chosenIn_29 : decode cX10_chosenIn 29 = .ok (.iload_n 3, 1) := by decide +kernel
theorem dX10_chosenIn_30 : decode cX10_chosenIn 30 = .ok (.if_icmp .le 12, 3) := by decide +kernel
theorem dX10_chosenIn_33 : decode cX10_chosenIn 33 = .ok (.iload 4, 2) := by decide +kernel
theorem dX10_chosenIn_35 : decode cX10_chosenIn 35 = .ok (.istore_n 2, 1) := by decide +kernel
theorem dX10_chosenIn_36 : decode cX10_chosenIn 36 = .ok (.iload 5, 2) := by decide +kernel
theorem dX10_chosenIn_38 : decode cX10_chosenIn 38 = .ok (.istore_n 3, 1) := by decide +kernel
theorem dX10_chosenIn_39 : decode cX10_chosenIn 39 = .ok (.goto 11, 3) := by decide +kernel
theorem dX10_chosenIn_42 : decode cX10_chosenIn 42 = .ok (.iload 5, 2) := by decide +kernel
theorem dX10_chosenIn_44 : decode cX10_chosenIn 44 = .ok (.iload_n 3, 1) := by decide +kernel
theorem dX10_chosenIn_45 : decode cX10_chosenIn 45 = .ok (.if_icmp .ne 5, 3) := by decide +kernel
theorem dX10_chosenIn_48 : decode cX10_chosenIn 48 = .ok (.iconst 0, 1) := by decide +kernel
theorem dX10_chosenIn_49 : decode cX10_chosenIn 49 = .ok (.istore_n 2, 1) := by decide +kernel
theorem dX10_chosenIn_50 : decode cX10_chosenIn 50 = .ok (.iinc 4 1, 3) := by decide +kernel
theorem dX10_chosenIn_53 : decode cX10_chosenIn 53 = .ok (.goto (-46), 3) := by decide +kernel
theorem dX10_chosenIn_56 : decode cX10_chosenIn 56 = .ok (.iload_n 2, 1) := by decide +kernel
theorem dX10_chosenIn_57 : decode cX10_chosenIn 57 = .ok (.ireturn, 1) := by decide +kernel
theorem bX2_init_0 (t : Nat) (h : zH) (Q : Option Value → zH → Prop) (H : ∀ h1 : zH, h1 = (zn h (zI 0 20 (fun _ => 0))) → (oK h1 t 2 ∧ (∀ h4 : zH, h4 = (pF h1 t 0 (zr (some h.1))) → (∀ h7 : zH, h7 = (zn h4 (zI 0 20 (fun _ => 0))) → (∀ h11 : zH, h11 = (pF h7 t 1 (zr (some h4.1))) → (∀ h15 : zH, h15 = (zn h11 (zI 0 20 (fun _ => 0))) → (∀ h20 : zH, h20 = (pF h15 t 2 (zr (some h11.1))) → (∀ h25 : zH, h25 = (zn h20 (zI 0 20 (fun _ => 0))) → (∀ h31 : zH, h31 = (pF h25 t 3 (zr (some h20.1))) → (Q none h31)))))))))) : zX mX2_init 0 [.ref t] [] h Q := by
  refine zX_seg (pc' := 7) (L' := [.ref t]) (st' := [.int (20 : Int32), .ref t]) (h2 := h) rfl rfl (fun C Cr hc kk => x_aload_n C (v := .ref t) rfl rfl dX2_init_0 (x_objInit C lX2_3 oi_i oi_c ⟨by decide, by decide⟩ (Nat.le_of_ble_eq_true rfl) dX2_init_1 (x_aload_n C (v := .ref t) rfl rfl dX2_init_4 (x_bipush C (20 : Int32) (by decide) dX2_init_5 (kk))))) ?_
  refine zX_new (pc' := 9) (L' := [.ref t]) (st' := [.ref (h.1), .ref t]) (e := (zI 0 20 (fun _ => 0))) (fun C z1 z2 kk => x_newa C (at0 := .int) ac_int (Or.inl ⟨rfl, rfl⟩) (by decide) (by decide) (by decide) z1 z2 dX2_init_7 kk) ?_
  obtain ⟨h1, eh1⟩ : ∃ y : zH, y = (zn h (zI 0 20 (fun _ => 0))) := ⟨_, rfl⟩
  have H := H h1 eh1
  rw [← eh1]
  have g2 : iK h1 h.1 0 := by rw [eh1]; exact iK_new
  obtain ⟨g3, H⟩ := H
  refine zX_seg (pc' := 12) (L' := [.ref t]) (st' := []) (h2 := (pF h1 t 0 (zr (some h.1)))) rfl rfl (fun C Cr hc kk => f_putFR C Cr rfl (x := (some h.1)) lX2_9 tX2 nX2_0 g3 rfl (Or.inr ⟨_, rfl⟩) dX2_init_9 (kk)) ?_
  obtain ⟨h4, eh4⟩ : ∃ y : zH, y = (pF h1 t 0 (zr (some h.1))) := ⟨_, rfl⟩
  have H := H h4 eh4
  rw [← eh4]
  have g5 : iK h4 h.1 0 := by rw [eh4]; exact iK_pF g2
  have g6 : oK h4 t 2 := by rw [eh4]; exact oK_pF' g3 rfl (zmr _) g3
  refine zX_seg (pc' := 15) (L' := [.ref t]) (st' := [.int (20 : Int32), .ref t]) (h2 := h4) rfl rfl (fun C Cr hc kk => x_aload_n C (v := .ref t) rfl rfl dX2_init_12 (x_bipush C (20 : Int32) (by decide) dX2_init_13 (kk))) ?_
  refine zX_new (pc' := 17) (L' := [.ref t]) (st' := [.ref (h4.1), .ref t]) (e := (zI 0 20 (fun _ => 0))) (fun C z1 z2 kk => x_newa C (at0 := .int) ac_int (Or.inl ⟨rfl, rfl⟩) (by decide) (by decide) (by decide) z1 z2 dX2_init_15 kk) ?_
  obtain ⟨h7, eh7⟩ : ∃ y : zH, y = (zn h4 (zI 0 20 (fun _ => 0))) := ⟨_, rfl⟩
  have H := H h7 eh7
  rw [← eh7]
  have g8 : iK h7 h.1 0 := by rw [eh7]; exact iK_zn g5
  have g9 : oK h7 t 2 := by rw [eh7]; exact oK_zn g6
  have g10 : iK h7 h4.1 0 := by rw [eh7]; exact iK_new
  refine zX_seg (pc' := 20) (L' := [.ref t]) (st' := []) (h2 := (pF h7 t 1 (zr (some h4.1)))) rfl rfl (fun C Cr hc kk => f_putFR C Cr rfl (x := (some h4.1)) lX2_15 tX2 nX2_1 g9 rfl (Or.inr ⟨_, rfl⟩) dX2_init_17 (kk)) ?_
  obtain ⟨h11, eh11⟩ : ∃ y : zH, y = (pF h7 t 1 (zr (some h4.1))) := ⟨_, rfl⟩
  have H := H h11 eh11
  rw [← eh11]
  have g12 : iK h11 h.1 0 := by rw [eh11]; exact iK_pF g8
  have g13 : oK h11 t 2 := by rw [eh11]; exact oK_pF' g9 rfl (zmr _) g9
  have g14 : iK h11 h4.1 0 := by rw [eh11]; exact iK_pF g10
  refine zX_seg (pc' := 23) (L' := [.ref t]) (st' := [.int (20 : Int32), .ref t]) (h2 := h11) rfl rfl (fun C Cr hc kk => x_aload_n C (v := .ref t) rfl rfl dX2_init_20 (x_bipush C (20 : Int32) (by decide) dX2_init_21 (kk))) ?_
  refine zX_new (pc' := 25) (L' := [.ref t]) (st' := [.ref (h11.1), .ref t]) (e := (zI 0 20 (fun _ => 0))) (fun C z1 z2 kk => x_newa C (at0 := .int) ac_int (Or.inl ⟨rfl, rfl⟩) (by decide) (by decide) (by decide) z1 z2 dX2_init_23 kk) ?_
  obtain ⟨h15, eh15⟩ : ∃ y : zH, y = (zn h11 (zI 0 20 (fun _ => 0))) := ⟨_, rfl⟩
  have H := H h15 eh15
  rw [← eh15]
  have g16 : iK h15 h.1 0 := by rw [eh15]; exact iK_zn g12
  have g17 : oK h15 t 2 := by rw [eh15]; exact oK_zn g13
  have g18 : iK h15 h4.1 0 := by rw [eh15]; exact iK_zn g14
  have g19 : iK h15 h11.1 0 := by rw [eh15]; exact iK_new
  refine zX_seg (pc' := 28) (L' := [.ref t]) (st' := []) (h2 := (pF h15 t 2 (zr (some h11.1)))) rfl rfl (fun C Cr hc kk => f_putFR C Cr rfl (x := (some h11.1)) lX2_18 tX2 nX2_2 g17 rfl (Or.inr ⟨_, rfl⟩) dX2_init_25 (kk)) ?_
  obtain ⟨h20, eh20⟩ : ∃ y : zH, y = (pF h15 t 2 (zr (some h11.1))) := ⟨_, rfl⟩
  have H := H h20 eh20
  rw [← eh20]
  have g21 : iK h20 h.1 0 := by rw [eh20]; exact iK_pF g16
  have g22 : oK h20 t 2 := by rw [eh20]; exact oK_pF' g17 rfl (zmr _) g17
  have g23 : iK h20 h4.1 0 := by rw [eh20]; exact iK_pF g18
  have g24 : iK h20 h11.1 0 := by rw [eh20]; exact iK_pF g19
  refine zX_seg (pc' := 31) (L' := [.ref t]) (st' := [.int (20 : Int32), .ref t]) (h2 := h20) rfl rfl (fun C Cr hc kk => x_aload_n C (v := .ref t) rfl rfl dX2_init_28 (x_bipush C (20 : Int32) (by decide) dX2_init_29 (kk))) ?_
  refine zX_new (pc' := 33) (L' := [.ref t]) (st' := [.ref (h20.1), .ref t]) (e := (zI 0 20 (fun _ => 0))) (fun C z1 z2 kk => x_newa C (at0 := .int) ac_int (Or.inl ⟨rfl, rfl⟩) (by decide) (by decide) (by decide) z1 z2 dX2_init_31 kk) ?_
  obtain ⟨h25, eh25⟩ : ∃ y : zH, y = (zn h20 (zI 0 20 (fun _ => 0))) := ⟨_, rfl⟩
  have H := H h25 eh25
  rw [← eh25]
  have g26 : iK h25 h.1 0 := by rw [eh25]; exact iK_zn g21
  have g27 : oK h25 t 2 := by rw [eh25]; exact oK_zn g22
  have g28 : iK h25 h4.1 0 := by rw [eh25]; exact iK_zn g23
  have g29 : iK h25 h11.1 0 := by rw [eh25]; exact iK_zn g24
  have g30 : iK h25 h20.1 0 := by rw [eh25]; exact iK_new
  refine zX_seg (pc' := 36) (L' := [.ref t]) (st' := []) (h2 := (pF h25 t 3 (zr (some h20.1)))) rfl rfl (fun C Cr hc kk => f_putFR C Cr rfl (x := (some h20.1)) lX2_21 tX2 nX2_3 g27 rfl (Or.inr ⟨_, rfl⟩) dX2_init_33 (kk)) ?_
  obtain ⟨h31, eh31⟩ : ∃ y : zH, y = (pF h25 t 3 (zr (some h20.1))) := ⟨_, rfl⟩
  have H := H h31 eh31
  rw [← eh31]
  have g32 : iK h31 h.1 0 := by rw [eh31]; exact iK_pF g26
  have g33 : oK h31 t 2 := by rw [eh31]; exact oK_pF' g27 rfl (zmr _) g27
  have g34 : iK h31 h4.1 0 := by rw [eh31]; exact iK_pF g28
  have g35 : iK h31 h11.1 0 := by rw [eh31]; exact iK_pF g29
  have g36 : iK h31 h20.1 0 := by rw [eh31]; exact iK_pF g30
  exact zX_ret none (fun C Cr hc => x_ret C Cr rfl hc dX2_init_36 ⟨rfl, rfl⟩) H
theorem nX2_init (t : Nat) (h : zH) (Q : Option Value → zH → Prop) (H : zX mX2_init 0 [.ref t] [] h Q) : zC mX2_init [.ref t] h Q := zC_of (by decide +kernel) (by simp) (Nat.le_of_ble_eq_true rfl) H
theorem bX2_tell_0 (t : Nat) (p0 : Int32) (p1 : Int32) (p2 : Int32) (h : zH) (Q : Option Value → zH → Prop) (H : oK h t 2 ∧ (((gI h t 4) < (20 : Int32) → (∃ a3 : Nat, gR h t 0 = some a3 ∧ (zC mX11_put [.ref a3, .int (gI h t 4), .int p0] h (fun r0 h4 => r0 = none ∧ (oK h4 t 2 ∧ (∃ a6 : Nat, gR h4 t 1 = some a6 ∧ (zC mX11_put [.ref a6, .int (gI h4 t 4), .int p1] h4 (fun r0 h7 => r0 = none ∧ (oK h7 t 2 ∧ (∃ a9 : Nat, gR h7 t 2 = some a9 ∧ (zC mX11_put [.ref a9, .int (gI h7 t 4), .int p2] h7 (fun r0 h10 => r0 = none ∧ (oK h10 t 2 ∧ (∃ a12 : Nat, gR h10 t 3 = some a12 ∧ (zC mX11_put [.ref a12, .int (gI h10 t 4), .int (-1 : Int32)] h10 (fun r0 h13 => r0 = none ∧ (oK h13 t 2 ∧ (∀ h15 : zH, h15 = (pF h13 t 4 (.int ((gI h13 t 4) + (1 : Int32)))) → (Q (some (.int ((gI h15 t 4) - (1 : Int32)))) h15))))))))))))))))))) ∧ (¬ ((gI h t 4) < (20 : Int32)) → (Q (some (.int (-1 : Int32))) h)))) : zX mX2_tell 0 [.ref t, .int p0, .int p1, .int p2] [] h Q := by
  obtain ⟨g1, H⟩ := H
  refine zX_seg (pc' := 6) (L' := [.ref t, .int p0, .int p1, .int p2]) (st' := [.int (20 : Int32), .int (gI h t 4)]) (h2 := h) rfl rfl (fun C Cr hc kk => x_aload_n C (v := .ref t) rfl rfl dX2_tell_0 (f_getI C lX2_24 g1 rfl dX2_tell_1 (x_bipush C (20 : Int32) (by decide) dX2_tell_4 (kk)))) ?_
  refine zX_br (p1 := 11) (p2 := 9) (st' := []) ((gI h t 4) < (20 : Int32)) (fun C kt kf => x_icmp_lt C 11 dX2_tell_6 (by decide) kt kf) (fun q2 => ?_) (fun q2 => ?_)
  · have H := H.1 q2
    obtain ⟨a3, ea3, H⟩ := H
    refine zX_seg (pc' := 20) (L' := [.ref t, .int p0, .int p1, .int p2]) (st' := [.int p0, .int (gI h t 4), .ref a3]) (h2 := h) rfl rfl (fun C Cr hc kk => x_aload_n C (v := .ref t) rfl rfl dX2_tell_11 (f_getR1 C lX2_9 g1 rfl ea3 dX2_tell_12 (x_aload_n C (v := .ref t) rfl rfl dX2_tell_15 (f_getI C lX2_24 g1 rfl dX2_tell_16 (x_iload_n C rfl dX2_tell_19 (kk)))))) ?_
    refine zX_call (as := [.ref a3, .int (gI h t 4), .int p0]) (st := []) (fun C hM hc kk => x_callSN C [.ref a3, .int (gI h t 4), .int p0] hM kX11_put sX11_put lX2_28 ⟨by decide, by decide⟩ rfl hc (Nat.le_of_ble_eq_true rfl) rfl dX2_tell_20 kk) (zC.mono H ?_)
    rintro r0 h4 ⟨rfl, H⟩
    show zX mX2_tell 23 [.ref t, .int p0, .int p1, .int p2] [] h4 Q
    obtain ⟨g5, H⟩ := H
    obtain ⟨a6, ea6, H⟩ := H
    refine zX_seg (pc' := 32) (L' := [.ref t, .int p0, .int p1, .int p2]) (st' := [.int p1, .int (gI h4 t 4), .ref a6]) (h2 := h4) rfl rfl (fun C Cr hc kk => x_aload_n C (v := .ref t) rfl rfl dX2_tell_23 (f_getR1 C lX2_15 g5 rfl ea6 dX2_tell_24 (x_aload_n C (v := .ref t) rfl rfl dX2_tell_27 (f_getI C lX2_24 g5 rfl dX2_tell_28 (x_iload_n C rfl dX2_tell_31 (kk)))))) ?_
    refine zX_call (as := [.ref a6, .int (gI h4 t 4), .int p1]) (st := []) (fun C hM hc kk => x_callSN C [.ref a6, .int (gI h4 t 4), .int p1] hM kX11_put sX11_put lX2_28 ⟨by decide, by decide⟩ rfl hc (Nat.le_of_ble_eq_true rfl) rfl dX2_tell_32 kk) (zC.mono H ?_)
    rintro r0 h7 ⟨rfl, H⟩
    show zX mX2_tell 35 [.ref t, .int p0, .int p1, .int p2] [] h7 Q
    obtain ⟨g8, H⟩ := H
    obtain ⟨a9, ea9, H⟩ := H
    refine zX_seg (pc' := 44) (L' := [.ref t, .int p0, .int p1, .int p2]) (st' := [.int p2, .int (gI h7 t 4), .ref a9]) (h2 := h7) rfl rfl (fun C Cr hc kk => x_aload_n C (v := .ref t) rfl rfl dX2_tell_35 (f_getR1 C lX2_18 g8 rfl ea9 dX2_tell_36 (x_aload_n C (v := .ref t) rfl rfl dX2_tell_39 (f_getI C lX2_24 g8 rfl dX2_tell_40 (x_iload_n C rfl dX2_tell_43 (kk)))))) ?_
    refine zX_call (as := [.ref a9, .int (gI h7 t 4), .int p2]) (st := []) (fun C hM hc kk => x_callSN C [.ref a9, .int (gI h7 t 4), .int p2] hM kX11_put sX11_put lX2_28 ⟨by decide, by decide⟩ rfl hc (Nat.le_of_ble_eq_true rfl) rfl dX2_tell_44 kk) (zC.mono H ?_)
    rintro r0 h10 ⟨rfl, H⟩
    show zX mX2_tell 47 [.ref t, .int p0, .int p1, .int p2] [] h10 Q
    obtain ⟨g11, H⟩ := H
    obtain ⟨a12, ea12, H⟩ := H
    refine zX_seg (pc' := 56) (L' := [.ref t, .int p0, .int p1, .int p2]) (st' := [.int (-1 : Int32), .int (gI h10 t 4), .ref a12]) (h2 := h10) rfl rfl (fun C Cr hc kk => x_aload_n C (v := .ref t) rfl rfl dX2_tell_47 (f_getR1 C lX2_21 g11 rfl ea12 dX2_tell_48 (x_aload_n C (v := .ref t) rfl rfl dX2_tell_51 (f_getI C lX2_24 g11 rfl dX2_tell_52 (x_iconst C (-1 : Int32) (by decide) dX2_tell_55 (kk)))))) ?_
    refine zX_call (as := [.ref a12, .int (gI h10 t 4), .int (-1 : Int32)]) (st := []) (fun C hM hc kk => x_callSN C [.ref a12, .int (gI h10 t 4), .int (-1 : Int32)] hM kX11_put sX11_put lX2_28 ⟨by decide, by decide⟩ rfl hc (Nat.le_of_ble_eq_true rfl) rfl dX2_tell_56 kk) (zC.mono H ?_)
    rintro r0 h13 ⟨rfl, H⟩
    show zX mX2_tell 59 [.ref t, .int p0, .int p1, .int p2] [] h13 Q
    obtain ⟨g14, H⟩ := H
    refine zX_seg (pc' := 69) (L' := [.ref t, .int p0, .int p1, .int p2]) (st' := []) (h2 := (pF h13 t 4 (.int ((gI h13 t 4) + (1 : Int32))))) rfl rfl (fun C Cr hc kk => x_aload_n C (v := .ref t) rfl rfl dX2_tell_59 (x_dup C rfl dX2_tell_60 (f_getI C lX2_24 g14 rfl dX2_tell_61 (x_iconst C (1 : Int32) (by decide) dX2_tell_64 (x_iadd C dX2_tell_65 (f_putI C lX2_24 tX2 nX2_4 g14 rfl rfl dX2_tell_66 (kk))))))) ?_
    obtain ⟨h15, eh15⟩ : ∃ y : zH, y = (pF h13 t 4 (.int ((gI h13 t 4) + (1 : Int32)))) := ⟨_, rfl⟩
    have H := H h15 eh15
    rw [← eh15]
    have g16 : oK h15 t 2 := by rw [eh15]; exact oK_pF' g14 rfl rfl g14
    refine zX_seg (pc' := 75) (L' := [.ref t, .int p0, .int p1, .int p2]) (st' := [.int ((gI h15 t 4) - (1 : Int32))]) (h2 := h15) rfl rfl (fun C Cr hc kk => x_aload_n C (v := .ref t) rfl rfl dX2_tell_69 (f_getI C lX2_24 g16 rfl dX2_tell_70 (x_iconst C (1 : Int32) (by decide) dX2_tell_73 (x_isub C dX2_tell_74 (kk))))) ?_
    exact zX_ret (some (.int ((gI h15 t 4) - (1 : Int32)))) (fun C Cr hc => x_iret C Cr rfl rfl hc dX2_tell_75 ⟨rfl, rfl⟩) H
  · have H := H.2 q2
    refine zX_seg (pc' := 10) (L' := [.ref t, .int p0, .int p1, .int p2]) (st' := [.int (-1 : Int32)]) (h2 := h) rfl rfl (fun C Cr hc kk => x_iconst C (-1 : Int32) (by decide) dX2_tell_9 (kk)) ?_
    exact zX_ret (some (.int (-1 : Int32))) (fun C Cr hc => x_iret C Cr rfl rfl hc dX2_tell_10 ⟨rfl, rfl⟩) H
theorem nX2_tell (t : Nat) (p0 : Int32) (p1 : Int32) (p2 : Int32) (h : zH) (Q : Option Value → zH → Prop) (H : zX mX2_tell 0 [.ref t, .int p0, .int p1, .int p2] [] h Q) : zC mX2_tell [.ref t, .int p0, .int p1, .int p2] h Q := zC_of (by decide +kernel) (by simp) (Nat.le_of_ble_eq_true rfl) H
theorem bX2_takeBack_0 (t : Nat) (p0 : Int32) (p1 : Int32) (h : zH) (Q : Option Value → zH → Prop) (H : (p0 < 0 → (Q (some (.int (0 : Int32))) h)) ∧ (¬ (p0 < 0) → (oK h t 2 ∧ (((gI h t 4) ≤ p0 → (Q (some (.int (0 : Int32))) h)) ∧ (¬ ((gI h t 4) ≤ p0) → (∃ a4 : Nat, gR h t 3 = some a4 ∧ (zC mX11_at [.ref a4, .int p0] h (fun r0 h5 => ∃ x6 : Int32, r0 = some (.int x6) ∧ ((x6 = (-1 : Int32) → (oK h5 t 2 ∧ (∃ a9 : Nat, gR h5 t 3 = some a9 ∧ (zC mX11_put [.ref a9, .int p0, .int p1] h5 (fun r0 h10 => r0 = none ∧ (Q (some (.int (1 : Int32))) h10)))))) ∧ (¬ (x6 = (-1 : Int32)) → (Q (some (.int (0 : Int32))) h5))))))))))) : zX mX2_takeBack 0 [.ref t, .int p0, .int p1] [] h Q := by
  refine zX_seg (pc' := 1) (L' := [.ref t, .int p0, .int p1]) (st' := [.int p0]) (h2 := h) rfl rfl (fun C Cr hc kk => x_iload_n C rfl dX2_takeBack_0 (kk)) ?_
  refine zX_br (p1 := 24) (p2 := 4) (st' := []) (p0 < 0) (fun C kt kf => x_if_lt C 24 dX2_takeBack_1 (by decide) kt kf) (fun q1 => ?_) (fun q1 => ?_)
  · have H := H.1 q1
    refine zX_seg (pc' := 25) (L' := [.ref t, .int p0, .int p1]) (st' := [.int (0 : Int32)]) (h2 := h) rfl rfl (fun C Cr hc kk => x_iconst C (0 : Int32) (by decide) dX2_takeBack_24 (kk)) ?_
    exact zX_ret (some (.int (0 : Int32))) (fun C Cr hc => x_iret C Cr rfl rfl hc dX2_takeBack_25 ⟨rfl, rfl⟩) H
  · have H := H.2 q1
    obtain ⟨g2, H⟩ := H
    refine zX_seg (pc' := 9) (L' := [.ref t, .int p0, .int p1]) (st' := [.int (gI h t 4), .int p0]) (h2 := h) rfl rfl (fun C Cr hc kk => x_iload_n C rfl dX2_takeBack_4 (x_aload_n C (v := .ref t) rfl rfl dX2_takeBack_5 (f_getI C lX2_24 g2 rfl dX2_takeBack_6 (kk)))) ?_
    refine zX_br (p1 := 24) (p2 := 12) (st' := []) ((gI h t 4) ≤ p0) (fun C kt kf => x_icmp_ge C 24 dX2_takeBack_9 (by decide) kt kf) (fun q3 => ?_) (fun q3 => ?_)
    · have H := H.1 q3
      refine zX_seg (pc' := 25) (L' := [.ref t, .int p0, .int p1]) (st' := [.int (0 : Int32)]) (h2 := h) rfl rfl (fun C Cr hc kk => x_iconst C (0 : Int32) (by decide) dX2_takeBack_24 (kk)) ?_
      exact zX_ret (some (.int (0 : Int32))) (fun C Cr hc => x_iret C Cr rfl rfl hc dX2_takeBack_25 ⟨rfl, rfl⟩) H
    · have H := H.2 q3
      obtain ⟨a4, ea4, H⟩ := H
      refine zX_seg (pc' := 17) (L' := [.ref t, .int p0, .int p1]) (st' := [.int p0, .ref a4]) (h2 := h) rfl rfl (fun C Cr hc kk => x_aload_n C (v := .ref t) rfl rfl dX2_takeBack_12 (f_getR1 C lX2_21 g2 rfl ea4 dX2_takeBack_13 (x_iload_n C rfl dX2_takeBack_16 (kk)))) ?_
      refine zX_call (as := [.ref a4, .int p0]) (st := []) (fun C hM hc kk => x_callSN C [.ref a4, .int p0] hM kX11_at sX11_at lX2_32 ⟨by decide, by decide⟩ rfl hc (Nat.le_of_ble_eq_true rfl) rfl dX2_takeBack_17 kk) (zC.mono H ?_)
      rintro r0 h5 ⟨x6, rfl, H⟩
      show zX mX2_takeBack 20 [.ref t, .int p0, .int p1] [.int x6] h5 Q
      refine zX_seg (pc' := 21) (L' := [.ref t, .int p0, .int p1]) (st' := [.int (-1 : Int32), .int x6]) (h2 := h5) rfl rfl (fun C Cr hc kk => x_iconst C (-1 : Int32) (by decide) dX2_takeBack_20 (kk)) ?_
      refine zX_br (p1 := 26) (p2 := 24) (st' := []) (x6 = (-1 : Int32)) (fun C kt kf => x_icmp_eq C 26 dX2_takeBack_21 (by decide) kt kf) (fun q7 => ?_) (fun q7 => ?_)
      · have H := H.1 q7
        obtain ⟨g8, H⟩ := H
        obtain ⟨a9, ea9, H⟩ := H
        refine zX_seg (pc' := 32) (L' := [.ref t, .int p0, .int p1]) (st' := [.int p1, .int p0, .ref a9]) (h2 := h5) rfl rfl (fun C Cr hc kk => x_aload_n C (v := .ref t) rfl rfl dX2_takeBack_26 (f_getR1 C lX2_21 g8 rfl ea9 dX2_takeBack_27 (x_iload_n C rfl dX2_takeBack_30 (x_iload_n C rfl dX2_takeBack_31 (kk))))) ?_
        refine zX_call (as := [.ref a9, .int p0, .int p1]) (st := []) (fun C hM hc kk => x_callSN C [.ref a9, .int p0, .int p1] hM kX11_put sX11_put lX2_28 ⟨by decide, by decide⟩ rfl hc (Nat.le_of_ble_eq_true rfl) rfl dX2_takeBack_32 kk) (zC.mono H ?_)
        rintro r0 h10 ⟨rfl, H⟩
        show zX mX2_takeBack 35 [.ref t, .int p0, .int p1] [] h10 Q
        refine zX_seg (pc' := 36) (L' := [.ref t, .int p0, .int p1]) (st' := [.int (1 : Int32)]) (h2 := h10) rfl rfl (fun C Cr hc kk => x_iconst C (1 : Int32) (by decide) dX2_takeBack_35 (kk)) ?_
        exact zX_ret (some (.int (1 : Int32))) (fun C Cr hc => x_iret C Cr rfl rfl hc dX2_takeBack_36 ⟨rfl, rfl⟩) H
      · have H := H.2 q7
        refine zX_seg (pc' := 25) (L' := [.ref t, .int p0, .int p1]) (st' := [.int (0 : Int32)]) (h2 := h5) rfl rfl (fun C Cr hc kk => x_iconst C (0 : Int32) (by decide) dX2_takeBack_24 (kk)) ?_
        exact zX_ret (some (.int (0 : Int32))) (fun C Cr hc => x_iret C Cr rfl rfl hc dX2_takeBack_25 ⟨rfl, rfl⟩) H
theorem nX2_takeBack (t : Nat) (p0 : Int32) (p1 : Int32) (h : zH) (Q : Option Value → zH → Prop) (H : zX mX2_takeBack 0 [.ref t, .int p0, .int p1] [] h Q) : zC mX2_takeBack [.ref t, .int p0, .int p1] h Q := zC_of (by decide +kernel) (by simp) (Nat.le_of_ble_eq_true rfl) H
theorem bX2_become_0 (t : Nat) (p0 : Nat) (h : zH) (Q : Option Value → zH → Prop) (H : oK h p0 2 ∧ (oK h t 2 ∧ (∀ h3 : zH, h3 = (pF h t 4 (.int (gI h p0 4))) → (zX mX2_become 10 [.ref t, .ref p0, .int (0 : Int32)] [] h3 Q)))) : zX mX2_become 0 [.ref t, .ref p0, .float 0] [] h Q := by
  obtain ⟨g1, H⟩ := H
  obtain ⟨g2, H⟩ := H
  refine zX_seg (pc' := 8) (L' := [.ref t, .ref p0, .float 0]) (st' := []) (h2 := (pF h t 4 (.int (gI h p0 4)))) rfl rfl (fun C Cr hc kk => x_aload_n C (v := .ref t) rfl rfl dX2_become_0 (x_aload_n C (v := .ref p0) rfl rfl dX2_become_1 (f_getI C lX2_24 g1 rfl dX2_become_2 (f_putI C lX2_24 tX2 nX2_4 g2 rfl rfl dX2_become_5 (kk))))) ?_
  obtain ⟨h3, eh3⟩ : ∃ y : zH, y = (pF h t 4 (.int (gI h p0 4))) := ⟨_, rfl⟩
  have H := H h3 eh3
  rw [← eh3]
  have g4 : oK h3 p0 2 := by rw [eh3]; exact oK_pF' g2 rfl rfl g1
  have g5 : oK h3 t 2 := by rw [eh3]; exact oK_pF' g2 rfl rfl g2
  refine zX_seg (pc' := 10) (L' := [.ref t, .ref p0, .int (0 : Int32)]) (st' := []) (h2 := h3) rfl rfl (fun C Cr hc kk => x_iconst C (0 : Int32) (by decide) dX2_become_8 (x_istore_n C (by decide) dX2_become_9 (kk))) ?_
  exact zX_wk (wkK (wkK (wkK wkN))) H
theorem bX2_become_10 (l0 : Nat) (l1 : Nat) (l2 : Int32) (h : zH) (Q : Option Value → zH → Prop) (H : ((20 : Int32) ≤ l2 → (Q none h)) ∧ (¬ ((20 : Int32) ≤ l2) → (oK h l0 2 ∧ (∃ a3 : Nat, gR h l0 0 = some a3 ∧ (oK h l1 2 ∧ (∃ a5 : Nat, gR h l1 0 = some a5 ∧ (zC mX11_at [.ref a5, .int l2] h (fun r0 h6 => ∃ x7 : Int32, r0 = some (.int x7) ∧ (zC mX11_put [.ref a3, .int l2, .int x7] h6 (fun r0 h8 => r0 = none ∧ (oK h8 l0 2 ∧ (∃ a10 : Nat, gR h8 l0 1 = some a10 ∧ (oK h8 l1 2 ∧ (∃ a12 : Nat, gR h8 l1 1 = some a12 ∧ (zC mX11_at [.ref a12, .int l2] h8 (fun r0 h13 => ∃ x14 : Int32, r0 = some (.int x14) ∧ (zC mX11_put [.ref a10, .int l2, .int x14] h13 (fun r0 h15 => r0 = none ∧ (oK h15 l0 2 ∧ (∃ a17 : Nat, gR h15 l0 2 = some a17 ∧ (oK h15 l1 2 ∧ (∃ a19 : Nat, gR h15 l1 2 = some a19 ∧ (zC mX11_at [.ref a19, .int l2] h15 (fun r0 h20 => ∃ x21 : Int32, r0 = some (.int x21) ∧ (zC mX11_put [.ref a17, .int l2, .int x21] h20 (fun r0 h22 => r0 = none ∧ (oK h22 l0 2 ∧ (∃ a24 : Nat, gR h22 l0 3 = some a24 ∧ (oK h22 l1 2 ∧ (∃ a26 : Nat, gR h22 l1 3 = some a26 ∧ (zC mX11_at [.ref a26, .int l2] h22 (fun r0 h27 => ∃ x28 : Int32, r0 = some (.int x28) ∧ (zC mX11_put [.ref a24, .int l2, .int x28] h27 (fun r0 h29 => r0 = none ∧ (zX mX2_become 10 [.ref l0, .ref l1, .int (l2 + 1)] [] h29 Q))))))))))))))))))))))))))))))))))) : zX mX2_become 10 [.ref l0, .ref l1, .int l2] [] h Q := by
  refine zX_seg (pc' := 13) (L' := [.ref l0, .ref l1, .int l2]) (st' := [.int (20 : Int32), .int l2]) (h2 := h) rfl rfl (fun C Cr hc kk => x_iload_n C rfl dX2_become_10 (x_bipush C (20 : Int32) (by decide) dX2_become_11 (kk))) ?_
  refine zX_br (p1 := 86) (p2 := 16) (st' := []) ((20 : Int32) ≤ l2) (fun C kt kf => x_icmp_ge C 86 dX2_become_13 (by decide) kt kf) (fun q1 => ?_) (fun q1 => ?_)
  · have H := H.1 q1
    exact zX_ret none (fun C Cr hc => x_ret C Cr rfl hc dX2_become_86 ⟨rfl, rfl⟩) H
  · have H := H.2 q1
    obtain ⟨g2, H⟩ := H
    obtain ⟨a3, ea3, H⟩ := H
    obtain ⟨g4, H⟩ := H
    obtain ⟨a5, ea5, H⟩ := H
    refine zX_seg (pc' := 26) (L' := [.ref l0, .ref l1, .int l2]) (st' := [.int l2, .ref a5, .int l2, .ref a3]) (h2 := h) rfl rfl (fun C Cr hc kk => x_aload_n C (v := .ref l0) rfl rfl dX2_become_16 (f_getR1 C lX2_9 g2 rfl ea3 dX2_become_17 (x_iload_n C rfl dX2_become_20 (x_aload_n C (v := .ref l1) rfl rfl dX2_become_21 (f_getR1 C lX2_9 g4 rfl ea5 dX2_become_22 (x_iload_n C rfl dX2_become_25 (kk))))))) ?_
    refine zX_call (as := [.ref a5, .int l2]) (st := [.int l2, .ref a3]) (fun C hM hc kk => x_callSN C [.ref a5, .int l2] hM kX11_at sX11_at lX2_32 ⟨by decide, by decide⟩ rfl hc (Nat.le_of_ble_eq_true rfl) rfl dX2_become_26 kk) (zC.mono H ?_)
    rintro r0 h6 ⟨x7, rfl, H⟩
    show zX mX2_become 29 [.ref l0, .ref l1, .int l2] [.int x7, .int l2, .ref a3] h6 Q
    refine zX_call (as := [.ref a3, .int l2, .int x7]) (st := []) (fun C hM hc kk => x_callSN C [.ref a3, .int l2, .int x7] hM kX11_put sX11_put lX2_28 ⟨by decide, by decide⟩ rfl hc (Nat.le_of_ble_eq_true rfl) rfl dX2_become_29 kk) (zC.mono H ?_)
    rintro r0 h8 ⟨rfl, H⟩
    show zX mX2_become 32 [.ref l0, .ref l1, .int l2] [] h8 Q
    obtain ⟨g9, H⟩ := H
    obtain ⟨a10, ea10, H⟩ := H
    obtain ⟨g11, H⟩ := H
    obtain ⟨a12, ea12, H⟩ := H
    refine zX_seg (pc' := 42) (L' := [.ref l0, .ref l1, .int l2]) (st' := [.int l2, .ref a12, .int l2, .ref a10]) (h2 := h8) rfl rfl (fun C Cr hc kk => x_aload_n C (v := .ref l0) rfl rfl dX2_become_32 (f_getR1 C lX2_15 g9 rfl ea10 dX2_become_33 (x_iload_n C rfl dX2_become_36 (x_aload_n C (v := .ref l1) rfl rfl dX2_become_37 (f_getR1 C lX2_15 g11 rfl ea12 dX2_become_38 (x_iload_n C rfl dX2_become_41 (kk))))))) ?_
    refine zX_call (as := [.ref a12, .int l2]) (st := [.int l2, .ref a10]) (fun C hM hc kk => x_callSN C [.ref a12, .int l2] hM kX11_at sX11_at lX2_32 ⟨by decide, by decide⟩ rfl hc (Nat.le_of_ble_eq_true rfl) rfl dX2_become_42 kk) (zC.mono H ?_)
    rintro r0 h13 ⟨x14, rfl, H⟩
    show zX mX2_become 45 [.ref l0, .ref l1, .int l2] [.int x14, .int l2, .ref a10] h13 Q
    refine zX_call (as := [.ref a10, .int l2, .int x14]) (st := []) (fun C hM hc kk => x_callSN C [.ref a10, .int l2, .int x14] hM kX11_put sX11_put lX2_28 ⟨by decide, by decide⟩ rfl hc (Nat.le_of_ble_eq_true rfl) rfl dX2_become_45 kk) (zC.mono H ?_)
    rintro r0 h15 ⟨rfl, H⟩
    show zX mX2_become 48 [.ref l0, .ref l1, .int l2] [] h15 Q
    obtain ⟨g16, H⟩ := H
    obtain ⟨a17, ea17, H⟩ := H
    obtain ⟨g18, H⟩ := H
    obtain ⟨a19, ea19, H⟩ := H
    refine zX_seg (pc' := 58) (L' := [.ref l0, .ref l1, .int l2]) (st' := [.int l2, .ref a19, .int l2, .ref a17]) (h2 := h15) rfl rfl (fun C Cr hc kk => x_aload_n C (v := .ref l0) rfl rfl dX2_become_48 (f_getR1 C lX2_18 g16 rfl ea17 dX2_become_49 (x_iload_n C rfl dX2_become_52 (x_aload_n C (v := .ref l1) rfl rfl dX2_become_53 (f_getR1 C lX2_18 g18 rfl ea19 dX2_become_54 (x_iload_n C rfl dX2_become_57 (kk))))))) ?_
    refine zX_call (as := [.ref a19, .int l2]) (st := [.int l2, .ref a17]) (fun C hM hc kk => x_callSN C [.ref a19, .int l2] hM kX11_at sX11_at lX2_32 ⟨by decide, by decide⟩ rfl hc (Nat.le_of_ble_eq_true rfl) rfl dX2_become_58 kk) (zC.mono H ?_)
    rintro r0 h20 ⟨x21, rfl, H⟩
    show zX mX2_become 61 [.ref l0, .ref l1, .int l2] [.int x21, .int l2, .ref a17] h20 Q
    refine zX_call (as := [.ref a17, .int l2, .int x21]) (st := []) (fun C hM hc kk => x_callSN C [.ref a17, .int l2, .int x21] hM kX11_put sX11_put lX2_28 ⟨by decide, by decide⟩ rfl hc (Nat.le_of_ble_eq_true rfl) rfl dX2_become_61 kk) (zC.mono H ?_)
    rintro r0 h22 ⟨rfl, H⟩
    show zX mX2_become 64 [.ref l0, .ref l1, .int l2] [] h22 Q
    obtain ⟨g23, H⟩ := H
    obtain ⟨a24, ea24, H⟩ := H
    obtain ⟨g25, H⟩ := H
    obtain ⟨a26, ea26, H⟩ := H
    refine zX_seg (pc' := 74) (L' := [.ref l0, .ref l1, .int l2]) (st' := [.int l2, .ref a26, .int l2, .ref a24]) (h2 := h22) rfl rfl (fun C Cr hc kk => x_aload_n C (v := .ref l0) rfl rfl dX2_become_64 (f_getR1 C lX2_21 g23 rfl ea24 dX2_become_65 (x_iload_n C rfl dX2_become_68 (x_aload_n C (v := .ref l1) rfl rfl dX2_become_69 (f_getR1 C lX2_21 g25 rfl ea26 dX2_become_70 (x_iload_n C rfl dX2_become_73 (kk))))))) ?_
    refine zX_call (as := [.ref a26, .int l2]) (st := [.int l2, .ref a24]) (fun C hM hc kk => x_callSN C [.ref a26, .int l2] hM kX11_at sX11_at lX2_32 ⟨by decide, by decide⟩ rfl hc (Nat.le_of_ble_eq_true rfl) rfl dX2_become_74 kk) (zC.mono H ?_)
    rintro r0 h27 ⟨x28, rfl, H⟩
    show zX mX2_become 77 [.ref l0, .ref l1, .int l2] [.int x28, .int l2, .ref a24] h27 Q
    refine zX_call (as := [.ref a24, .int l2, .int x28]) (st := []) (fun C hM hc kk => x_callSN C [.ref a24, .int l2, .int x28] hM kX11_put sX11_put lX2_28 ⟨by decide, by decide⟩ rfl hc (Nat.le_of_ble_eq_true rfl) rfl dX2_become_77 kk) (zC.mono H ?_)
    rintro r0 h29 ⟨rfl, H⟩
    show zX mX2_become 80 [.ref l0, .ref l1, .int l2] [] h29 Q
    refine zX_seg (pc' := 10) (L' := [.ref l0, .ref l1, .int (l2 + 1)]) (st' := []) (h2 := h29) rfl rfl (fun C Cr hc kk => x_iinc C (l2 + 1) rfl (congrArg (HAdd.hAdd _) (by decide)) (by decide) dX2_become_80 (x_goto C 10 dX2_become_83 (by decide) (kk))) ?_
    exact zX_wk (wkK (wkK (wkK wkN))) H
theorem nX2_become (t : Nat) (p0 : Nat) (h : zH) (Q : Option Value → zH → Prop) (H : zX mX2_become 0 [.ref t, .ref p0, .float 0] [] h Q) : zC mX2_become [.ref t, .ref p0] h Q := zC_of (by decide +kernel) (by simp) (Nat.le_of_ble_eq_true rfl) H
theorem bX2_countsAt_0 (t : Nat) (p0 : Int32) (p1 : Int32) (h : zH) (Q : Option Value → zH → Prop) (H : oK h t 2 ∧ (∃ a2 : Nat, gR h t 3 = some a2 ∧ (zC mX11_at [.ref a2, .int p0] h (fun r0 h3 => ∃ x4 : Int32, r0 = some (.int x4) ∧ (oK h3 t 2 ∧ (∃ a6 : Nat, gR h3 t 2 = some a6 ∧ (zC mX11_at [.ref a6, .int p0] h3 (fun r0 h7 => ∃ x8 : Int32, r0 = some (.int x8) ∧ ((p1 < x8 → (Q (some (.int (0 : Int32))) h7)) ∧ (¬ (p1 < x8) → ((x4 = (-1 : Int32) → (Q (some (.int (1 : Int32))) h7)) ∧ (¬ (x4 = (-1 : Int32)) → ((x4 ≤ p1 → (Q (some (.int (0 : Int32))) h7)) ∧ (¬ (x4 ≤ p1) → (Q (some (.int (1 : Int32))) h7))))))))))))))) : zX mX2_countsAt 0 [.ref t, .int p0, .int p1, .float 0] [] h Q := by
  obtain ⟨g1, H⟩ := H
  obtain ⟨a2, ea2, H⟩ := H
  refine zX_seg (pc' := 5) (L' := [.ref t, .int p0, .int p1, .float 0]) (st' := [.int p0, .ref a2]) (h2 := h) rfl rfl (fun C Cr hc kk => x_aload_n C (v := .ref t) rfl rfl dX2_countsAt_0 (f_getR1 C lX2_21 g1 rfl ea2 dX2_countsAt_1 (x_iload_n C rfl dX2_countsAt_4 (kk)))) ?_
  refine zX_call (as := [.ref a2, .int p0]) (st := []) (fun C hM hc kk => x_callSN C [.ref a2, .int p0] hM kX11_at sX11_at lX2_32 ⟨by decide, by decide⟩ rfl hc (Nat.le_of_ble_eq_true rfl) rfl dX2_countsAt_5 kk) (zC.mono H ?_)
  rintro r0 h3 ⟨x4, rfl, H⟩
  show zX mX2_countsAt 8 [.ref t, .int p0, .int p1, .float 0] [.int x4] h3 Q
  obtain ⟨g5, H⟩ := H
  obtain ⟨a6, ea6, H⟩ := H
  refine zX_seg (pc' := 14) (L' := [.ref t, .int p0, .int p1, .int x4]) (st' := [.int p0, .ref a6]) (h2 := h3) rfl rfl (fun C Cr hc kk => x_istore_n C (by decide) dX2_countsAt_8 (x_aload_n C (v := .ref t) rfl rfl dX2_countsAt_9 (f_getR1 C lX2_18 g5 rfl ea6 dX2_countsAt_10 (x_iload_n C rfl dX2_countsAt_13 (kk))))) ?_
  refine zX_call (as := [.ref a6, .int p0]) (st := []) (fun C hM hc kk => x_callSN C [.ref a6, .int p0] hM kX11_at sX11_at lX2_32 ⟨by decide, by decide⟩ rfl hc (Nat.le_of_ble_eq_true rfl) rfl dX2_countsAt_14 kk) (zC.mono H ?_)
  rintro r0 h7 ⟨x8, rfl, H⟩
  show zX mX2_countsAt 17 [.ref t, .int p0, .int p1, .int x4] [.int x8] h7 Q
  refine zX_seg (pc' := 18) (L' := [.ref t, .int p0, .int p1, .int x4]) (st' := [.int p1, .int x8]) (h2 := h7) rfl rfl (fun C Cr hc kk => x_iload_n C rfl dX2_countsAt_17 (kk)) ?_
  refine zX_br (p1 := 35) (p2 := 21) (st' := []) (p1 < x8) (fun C kt kf => x_icmp_gt C 35 dX2_countsAt_18 (by decide) kt kf) (fun q9 => ?_) (fun q9 => ?_)
  · have H := H.1 q9
    refine zX_seg (pc' := 36) (L' := [.ref t, .int p0, .int p1, .int x4]) (st' := [.int (0 : Int32)]) (h2 := h7) rfl rfl (fun C Cr hc kk => x_iconst C (0 : Int32) (by decide) dX2_countsAt_35 (kk)) ?_
    exact zX_ret (some (.int (0 : Int32))) (fun C Cr hc => x_iret C Cr rfl rfl hc dX2_countsAt_36 ⟨rfl, rfl⟩) H
  · have H := H.2 q9
    refine zX_seg (pc' := 23) (L' := [.ref t, .int p0, .int p1, .int x4]) (st' := [.int (-1 : Int32), .int x4]) (h2 := h7) rfl rfl (fun C Cr hc kk => x_iload_n C rfl dX2_countsAt_21 (x_iconst C (-1 : Int32) (by decide) dX2_countsAt_22 (kk))) ?_
    refine zX_br (p1 := 31) (p2 := 26) (st' := []) (x4 = (-1 : Int32)) (fun C kt kf => x_icmp_eq C 31 dX2_countsAt_23 (by decide) kt kf) (fun q10 => ?_) (fun q10 => ?_)
    · have H := H.1 q10
      refine zX_seg (pc' := 36) (L' := [.ref t, .int p0, .int p1, .int x4]) (st' := [.int (1 : Int32)]) (h2 := h7) rfl rfl (fun C Cr hc kk => x_iconst C (1 : Int32) (by decide) dX2_countsAt_31 (x_goto C 36 dX2_countsAt_32 (by decide) (kk))) ?_
      exact zX_ret (some (.int (1 : Int32))) (fun C Cr hc => x_iret C Cr rfl rfl hc dX2_countsAt_36 ⟨rfl, rfl⟩) H
    · have H := H.2 q10
      refine zX_seg (pc' := 28) (L' := [.ref t, .int p0, .int p1, .int x4]) (st' := [.int p1, .int x4]) (h2 := h7) rfl rfl (fun C Cr hc kk => x_iload_n C rfl dX2_countsAt_26 (x_iload_n C rfl dX2_countsAt_27 (kk))) ?_
      refine zX_br (p1 := 35) (p2 := 31) (st' := []) (x4 ≤ p1) (fun C kt kf => x_icmp_le C 35 dX2_countsAt_28 (by decide) kt kf) (fun q11 => ?_) (fun q11 => ?_)
      · have H := H.1 q11
        refine zX_seg (pc' := 36) (L' := [.ref t, .int p0, .int p1, .int x4]) (st' := [.int (0 : Int32)]) (h2 := h7) rfl rfl (fun C Cr hc kk => x_iconst C (0 : Int32) (by decide) dX2_countsAt_35 (kk)) ?_
        exact zX_ret (some (.int (0 : Int32))) (fun C Cr hc => x_iret C Cr rfl rfl hc dX2_countsAt_36 ⟨rfl, rfl⟩) H
      · have H := H.2 q11
        refine zX_seg (pc' := 36) (L' := [.ref t, .int p0, .int p1, .int x4]) (st' := [.int (1 : Int32)]) (h2 := h7) rfl rfl (fun C Cr hc kk => x_iconst C (1 : Int32) (by decide) dX2_countsAt_31 (x_goto C 36 dX2_countsAt_32 (by decide) (kk))) ?_
        exact zX_ret (some (.int (1 : Int32))) (fun C Cr hc => x_iret C Cr rfl rfl hc dX2_countsAt_36 ⟨rfl, rfl⟩) H
theorem nX2_countsAt (t : Nat) (p0 : Int32) (p1 : Int32) (h : zH) (Q : Option Value → zH → Prop) (H : zX mX2_countsAt 0 [.ref t, .int p0, .int p1, .float 0] [] h Q) : zC mX2_countsAt [.ref t, .int p0, .int p1] h Q := zC_of (by decide +kernel) (by simp) (Nat.le_of_ble_eq_true rfl) H
theorem bX2_gather_0 (t : Nat) (p0 : Int32) (p1 : Nat) (h : zH) (Q : Option Value → zH → Prop) (H : oK h t 2 ∧ (∀ h2 : zH, h2 = (pF h t 5 (.int (0 : Int32))) → (∀ h4 : zH, h4 = (pF h2 t 6 (.int (0 : Int32))) → (zX mX2_gather 12 [.ref t, .int p0, .ref p1, .int (0 : Int32), .float 0, .float 0] [] h4 Q)))) : zX mX2_gather 0 [.ref t, .int p0, .ref p1, .float 0, .float 0, .float 0] [] h Q := by
  obtain ⟨g1, H⟩ := H
  refine zX_seg (pc' := 5) (L' := [.ref t, .int p0, .ref p1, .float 0, .float 0, .float 0]) (st' := []) (h2 := (pF h t 5 (.int (0 : Int32)))) rfl rfl (fun C Cr hc kk => x_aload_n C (v := .ref t) rfl rfl dX2_gather_0 (x_iconst C (0 : Int32) (by decide) dX2_gather_1 (f_putI C lX2_36 tX2 nX2_5 g1 rfl rfl dX2_gather_2 (kk)))) ?_
  obtain ⟨h2, eh2⟩ : ∃ y : zH, y = (pF h t 5 (.int (0 : Int32))) := ⟨_, rfl⟩
  have H := H h2 eh2
  rw [← eh2]
  have g3 : oK h2 t 2 := by rw [eh2]; exact oK_pF' g1 rfl rfl g1
  refine zX_seg (pc' := 10) (L' := [.ref t, .int p0, .ref p1, .float 0, .float 0, .float 0]) (st' := []) (h2 := (pF h2 t 6 (.int (0 : Int32)))) rfl rfl (fun C Cr hc kk => x_aload_n C (v := .ref t) rfl rfl dX2_gather_5 (x_iconst C (0 : Int32) (by decide) dX2_gather_6 (f_putI C lX2_39 tX2 nX2_6 g3 rfl rfl dX2_gather_7 (kk)))) ?_
  obtain ⟨h4, eh4⟩ : ∃ y : zH, y = (pF h2 t 6 (.int (0 : Int32))) := ⟨_, rfl⟩
  have H := H h4 eh4
  rw [← eh4]
  have g5 : oK h4 t 2 := by rw [eh4]; exact oK_pF' g3 rfl rfl g3
  refine zX_seg (pc' := 12) (L' := [.ref t, .int p0, .ref p1, .int (0 : Int32), .float 0, .float 0]) (st' := []) (h2 := h4) rfl rfl (fun C Cr hc kk => x_iconst C (0 : Int32) (by decide) dX2_gather_10 (x_istore_n C (by decide) dX2_gather_11 (kk))) ?_
  exact zX_wk (wkK (wkK (wkK (wkK (wkD (wkD wkN)))))) H
theorem bX2_gather_12 (l0 : Nat) (l1 : Int32) (l2 : Nat) (l3 : Int32) (h : zH) (Q : Option Value → zH → Prop) (H : oK h l0 2 ∧ (((gI h l0 4) ≤ l3 → (Q (some (.int (1 : Int32))) h)) ∧ (¬ ((gI h l0 4) ≤ l3) → (zC mX2_countsAt [.ref l0, .int l3, .int l1] h (fun r0 h3 => ∃ x4 : Int32, r0 = some (.int x4) ∧ ((x4 = 0 → (zX mX2_gather 12 [.ref l0, .int l1, .ref l2, .int (l3 + 1), .float 0, .float 0] [] h3 Q)) ∧ (¬ (x4 = 0) → (oK h3 l0 2 ∧ (∃ a7 : Nat, gR h3 l0 0 = some a7 ∧ (zC mX11_at [.ref a7, .int l3] h3 (fun r0 h8 => ∃ x9 : Int32, r0 = some (.int x9) ∧ (oK h8 l2 10 ∧ (zC mX10_bitsInRows [.ref l2, .int ((1 : Int32) <<< (x9 &&& 31))] h8 (fun r0 h11 => ∃ x12 : Int32, r0 = some (.int x12) ∧ (oK h11 l0 2 ∧ (∃ a14 : Nat, gR h11 l0 0 = some a14 ∧ (zC mX11_at [.ref a14, .int l3] h11 (fun r0 h15 => ∃ x16 : Int32, r0 = some (.int x16) ∧ (oK h15 l0 2 ∧ (∃ a18 : Nat, gR h15 l0 1 = some a18 ∧ (zC mX11_at [.ref a18, .int l3] h15 (fun r0 h19 => ∃ x20 : Int32, r0 = some (.int x20) ∧ (oK h19 l2 10 ∧ (zC mX10_withMark [.ref l2, .int (0 : Int32), .int x16, .int x20] h19 (fun r0 h22 => ∃ x23 : Int32, r0 = some (.int x23) ∧ (oK h22 l0 2 ∧ ((((gI h22 l0 5) &&& x12) = 0 → (zX mX2_gather 92 [.ref l0, .int l1, .ref l2, .int l3, .int x12, .int x23] [] h22 Q)) ∧ (¬ (((gI h22 l0 5) &&& x12) = 0) → ((((gI h22 l0 6) &&& x12) = x23 → (zX mX2_gather 92 [.ref l0, .int l1, .ref l2, .int l3, .int x12, .int x23] [] h22 Q)) ∧ (¬ (((gI h22 l0 6) &&& x12) = x23) → (Q (some (.int (0 : Int32))) h22))))))))))))))))))))))))))))))) : zX mX2_gather 12 [.ref l0, .int l1, .ref l2, .int l3, .float 0, .float 0] [] h Q := by
  obtain ⟨g1, H⟩ := H
  refine zX_seg (pc' := 17) (L' := [.ref l0, .int l1, .ref l2, .int l3, .float 0, .float 0]) (st' := [.int (gI h l0 4), .int l3]) (h2 := h) rfl rfl (fun C Cr hc kk => x_iload_n C rfl dX2_gather_12 (x_aload_n C (v := .ref l0) rfl rfl dX2_gather_13 (f_getI C lX2_24 g1 rfl dX2_gather_14 (kk)))) ?_
  refine zX_br (p1 := 120) (p2 := 20) (st' := []) ((gI h l0 4) ≤ l3) (fun C kt kf => x_icmp_ge C 120 dX2_gather_17 (by decide) kt kf) (fun q2 => ?_) (fun q2 => ?_)
  · have H := H.1 q2
    refine zX_seg (pc' := 121) (L' := [.ref l0, .int l1, .ref l2, .int l3, .float 0, .float 0]) (st' := [.int (1 : Int32)]) (h2 := h) rfl rfl (fun C Cr hc kk => x_iconst C (1 : Int32) (by decide) dX2_gather_120 (kk)) ?_
    exact zX_ret (some (.int (1 : Int32))) (fun C Cr hc => x_iret C Cr rfl rfl hc dX2_gather_121 ⟨rfl, rfl⟩) H
  · have H := H.2 q2
    refine zX_seg (pc' := 23) (L' := [.ref l0, .int l1, .ref l2, .int l3, .float 0, .float 0]) (st' := [.int l1, .int l3, .ref l0]) (h2 := h) rfl rfl (fun C Cr hc kk => x_aload_n C (v := .ref l0) rfl rfl dX2_gather_20 (x_iload_n C rfl dX2_gather_21 (x_iload_n C rfl dX2_gather_22 (kk)))) ?_
    refine zX_call (as := [.ref l0, .int l3, .int l1]) (st := []) (fun C hM hc kk => f_callV C [.int l3, .int l1] hM kX2_countsAt vX2_countsAt lX2_42 ⟨by decide, by decide⟩ (rfl : vwCl[2]? = some (RX2, TX2, 7)) g1 rfl hc (Nat.le_of_ble_eq_true rfl) rfl dX2_gather_23 kk) (zC.mono H ?_)
    rintro r0 h3 ⟨x4, rfl, H⟩
    show zX mX2_gather 26 [.ref l0, .int l1, .ref l2, .int l3, .float 0, .float 0] [.int x4] h3 Q
    refine zX_br (p1 := 114) (p2 := 29) (st' := []) (x4 = 0) (fun C kt kf => x_if_eq C 114 dX2_gather_26 (by decide) kt kf) (fun q5 => ?_) (fun q5 => ?_)
    · have H := H.1 q5
      refine zX_seg (pc' := 12) (L' := [.ref l0, .int l1, .ref l2, .int (l3 + 1), .float 0, .float 0]) (st' := []) (h2 := h3) rfl rfl (fun C Cr hc kk => x_iinc C (l3 + 1) rfl (congrArg (HAdd.hAdd _) (by decide)) (by decide) dX2_gather_114 (x_goto C 12 dX2_gather_117 (by decide) (kk))) ?_
      exact zX_wk (wkK (wkK (wkK (wkK (wkD (wkD wkN)))))) H
    · have H := H.2 q5
      obtain ⟨g6, H⟩ := H
      obtain ⟨a7, ea7, H⟩ := H
      refine zX_seg (pc' := 36) (L' := [.ref l0, .int l1, .ref l2, .int l3, .float 0, .float 0]) (st' := [.int l3, .ref a7, .int (1 : Int32), .ref l2]) (h2 := h3) rfl rfl (fun C Cr hc kk => x_aload_n C (v := .ref l2) rfl rfl dX2_gather_29 (x_iconst C (1 : Int32) (by decide) dX2_gather_30 (x_aload_n C (v := .ref l0) rfl rfl dX2_gather_31 (f_getR1 C lX2_9 g6 rfl ea7 dX2_gather_32 (x_iload_n C rfl dX2_gather_35 (kk)))))) ?_
      refine zX_call (as := [.ref a7, .int l3]) (st := [.int (1 : Int32), .ref l2]) (fun C hM hc kk => x_callSN C [.ref a7, .int l3] hM kX11_at sX11_at lX2_32 ⟨by decide, by decide⟩ rfl hc (Nat.le_of_ble_eq_true rfl) rfl dX2_gather_36 kk) (zC.mono H ?_)
      rintro r0 h8 ⟨x9, rfl, H⟩
      show zX mX2_gather 39 [.ref l0, .int l1, .ref l2, .int l3, .float 0, .float 0] [.int x9, .int (1 : Int32), .ref l2] h8 Q
      refine zX_seg (pc' := 40) (L' := [.ref l0, .int l1, .ref l2, .int l3, .float 0, .float 0]) (st' := [.int ((1 : Int32) <<< (x9 &&& 31)), .ref l2]) (h2 := h8) rfl rfl (fun C Cr hc kk => x_ishl C dX2_gather_39 (kk)) ?_
      obtain ⟨g10, H⟩ := H
      refine zX_call (as := [.ref l2, .int ((1 : Int32) <<< (x9 &&& 31))]) (st := []) (fun C hM hc kk => f_callVN C [.int ((1 : Int32) <<< (x9 &&& 31))] hM kX10_bitsInRows vX10_bitsInRows lX2_46 ⟨by decide, by decide⟩ (rfl : vwCl[10]? = some (RX10, TX10, 10)) g10 rfl hc (Nat.le_of_ble_eq_true rfl) rfl dX2_gather_40 kk) (zC.mono H ?_)
      rintro r0 h11 ⟨x12, rfl, H⟩
      show zX mX2_gather 43 [.ref l0, .int l1, .ref l2, .int l3, .float 0, .float 0] [.int x12] h11 Q
      obtain ⟨g13, H⟩ := H
      obtain ⟨a14, ea14, H⟩ := H
      refine zX_seg (pc' := 52) (L' := [.ref l0, .int l1, .ref l2, .int l3, .int x12, .float 0]) (st' := [.int l3, .ref a14, .int (0 : Int32), .ref l2]) (h2 := h11) rfl rfl (fun C Cr hc kk => x_istore C (by decide) dX2_gather_43 (x_aload_n C (v := .ref l2) rfl rfl dX2_gather_45 (x_iconst C (0 : Int32) (by decide) dX2_gather_46 (x_aload_n C (v := .ref l0) rfl rfl dX2_gather_47 (f_getR1 C lX2_9 g13 rfl ea14 dX2_gather_48 (x_iload_n C rfl dX2_gather_51 (kk))))))) ?_
      refine zX_call (as := [.ref a14, .int l3]) (st := [.int (0 : Int32), .ref l2]) (fun C hM hc kk => x_callSN C [.ref a14, .int l3] hM kX11_at sX11_at lX2_32 ⟨by decide, by decide⟩ rfl hc (Nat.le_of_ble_eq_true rfl) rfl dX2_gather_52 kk) (zC.mono H ?_)
      rintro r0 h15 ⟨x16, rfl, H⟩
      show zX mX2_gather 55 [.ref l0, .int l1, .ref l2, .int l3, .int x12, .float 0] [.int x16, .int (0 : Int32), .ref l2] h15 Q
      obtain ⟨g17, H⟩ := H
      obtain ⟨a18, ea18, H⟩ := H
      refine zX_seg (pc' := 60) (L' := [.ref l0, .int l1, .ref l2, .int l3, .int x12, .float 0]) (st' := [.int l3, .ref a18, .int x16, .int (0 : Int32), .ref l2]) (h2 := h15) rfl rfl (fun C Cr hc kk => x_aload_n C (v := .ref l0) rfl rfl dX2_gather_55 (f_getR1 C lX2_15 g17 rfl ea18 dX2_gather_56 (x_iload_n C rfl dX2_gather_59 (kk)))) ?_
      refine zX_call (as := [.ref a18, .int l3]) (st := [.int x16, .int (0 : Int32), .ref l2]) (fun C hM hc kk => x_callSN C [.ref a18, .int l3] hM kX11_at sX11_at lX2_32 ⟨by decide, by decide⟩ rfl hc (Nat.le_of_ble_eq_true rfl) rfl dX2_gather_60 kk) (zC.mono H ?_)
      rintro r0 h19 ⟨x20, rfl, H⟩
      show zX mX2_gather 63 [.ref l0, .int l1, .ref l2, .int l3, .int x12, .float 0] [.int x20, .int x16, .int (0 : Int32), .ref l2] h19 Q
      obtain ⟨g21, H⟩ := H
      refine zX_call (as := [.ref l2, .int (0 : Int32), .int x16, .int x20]) (st := []) (fun C hM hc kk => f_callVN C [.int (0 : Int32), .int x16, .int x20] hM kX10_withMark vX10_withMark lX2_52 ⟨by decide, by decide⟩ (rfl : vwCl[10]? = some (RX10, TX10, 10)) g21 rfl hc (Nat.le_of_ble_eq_true rfl) rfl dX2_gather_63 kk) (zC.mono H ?_)
      rintro r0 h22 ⟨x23, rfl, H⟩
      show zX mX2_gather 66 [.ref l0, .int l1, .ref l2, .int l3, .int x12, .float 0] [.int x23] h22 Q
      obtain ⟨g24, H⟩ := H
      refine zX_seg (pc' := 75) (L' := [.ref l0, .int l1, .ref l2, .int l3, .int x12, .int x23]) (st' := [.int ((gI h22 l0 5) &&& x12)]) (h2 := h22) rfl rfl (fun C Cr hc kk => x_istore C (by decide) dX2_gather_66 (x_aload_n C (v := .ref l0) rfl rfl dX2_gather_68 (f_getI C lX2_36 g24 rfl dX2_gather_69 (x_iload C rfl dX2_gather_72 (x_iand C dX2_gather_74 (kk)))))) ?_
      refine zX_br (p1 := 92) (p2 := 78) (st' := []) (((gI h22 l0 5) &&& x12) = 0) (fun C kt kf => x_if_eq C 92 dX2_gather_75 (by decide) kt kf) (fun q25 => ?_) (fun q25 => ?_)
      · have H := H.1 q25
        exact zX_wk (wkK (wkK (wkK (wkK (wkK (wkK wkN)))))) H
      · have H := H.2 q25
        refine zX_seg (pc' := 87) (L' := [.ref l0, .int l1, .ref l2, .int l3, .int x12, .int x23]) (st' := [.int x23, .int ((gI h22 l0 6) &&& x12)]) (h2 := h22) rfl rfl (fun C Cr hc kk => x_aload_n C (v := .ref l0) rfl rfl dX2_gather_78 (f_getI C lX2_39 g24 rfl dX2_gather_79 (x_iload C rfl dX2_gather_82 (x_iand C dX2_gather_84 (x_iload C rfl dX2_gather_85 (kk)))))) ?_
        refine zX_br (p1 := 92) (p2 := 90) (st' := []) (((gI h22 l0 6) &&& x12) = x23) (fun C kt kf => x_icmp_eq C 92 dX2_gather_87 (by decide) kt kf) (fun q26 => ?_) (fun q26 => ?_)
        · have H := H.1 q26
          exact zX_wk (wkK (wkK (wkK (wkK (wkK (wkK wkN)))))) H
        · have H := H.2 q26
          refine zX_seg (pc' := 91) (L' := [.ref l0, .int l1, .ref l2, .int l3, .int x12, .int x23]) (st' := [.int (0 : Int32)]) (h2 := h22) rfl rfl (fun C Cr hc kk => x_iconst C (0 : Int32) (by decide) dX2_gather_90 (kk)) ?_
          exact zX_ret (some (.int (0 : Int32))) (fun C Cr hc => x_iret C Cr rfl rfl hc dX2_gather_91 ⟨rfl, rfl⟩) H
theorem bX2_gather_92 (l0 : Nat) (l1 : Int32) (l2 : Nat) (l3 : Int32) (l4 : Int32) (l5 : Int32) (h : zH) (Q : Option Value → zH → Prop) (H : oK h l0 2 ∧ (∀ h2 : zH, h2 = (pF h l0 5 (.int ((gI h l0 5) ||| l4))) → (∀ h4 : zH, h4 = (pF h2 l0 6 (.int ((gI h2 l0 6) ||| l5))) → (zX mX2_gather 12 [.ref l0, .int l1, .ref l2, .int (l3 + 1), .float 0, .float 0] [] h4 Q)))) : zX mX2_gather 92 [.ref l0, .int l1, .ref l2, .int l3, .int l4, .int l5] [] h Q := by
  obtain ⟨g1, H⟩ := H
  refine zX_seg (pc' := 103) (L' := [.ref l0, .int l1, .ref l2, .int l3, .int l4, .int l5]) (st' := []) (h2 := (pF h l0 5 (.int ((gI h l0 5) ||| l4)))) rfl rfl (fun C Cr hc kk => x_aload_n C (v := .ref l0) rfl rfl dX2_gather_92 (x_dup C rfl dX2_gather_93 (f_getI C lX2_36 g1 rfl dX2_gather_94 (x_iload C rfl dX2_gather_97 (x_ior C dX2_gather_99 (f_putI C lX2_36 tX2 nX2_5 g1 rfl rfl dX2_gather_100 (kk))))))) ?_
  obtain ⟨h2, eh2⟩ : ∃ y : zH, y = (pF h l0 5 (.int ((gI h l0 5) ||| l4))) := ⟨_, rfl⟩
  have H := H h2 eh2
  rw [← eh2]
  have g3 : oK h2 l0 2 := by rw [eh2]; exact oK_pF' g1 rfl rfl g1
  refine zX_seg (pc' := 114) (L' := [.ref l0, .int l1, .ref l2, .int l3, .int l4, .int l5]) (st' := []) (h2 := (pF h2 l0 6 (.int ((gI h2 l0 6) ||| l5)))) rfl rfl (fun C Cr hc kk => x_aload_n C (v := .ref l0) rfl rfl dX2_gather_103 (x_dup C rfl dX2_gather_104 (f_getI C lX2_39 g3 rfl dX2_gather_105 (x_iload C rfl dX2_gather_108 (x_ior C dX2_gather_110 (f_putI C lX2_39 tX2 nX2_6 g3 rfl rfl dX2_gather_111 (kk))))))) ?_
  obtain ⟨h4, eh4⟩ : ∃ y : zH, y = (pF h2 l0 6 (.int ((gI h2 l0 6) ||| l5))) := ⟨_, rfl⟩
  have H := H h4 eh4
  rw [← eh4]
  have g5 : oK h4 l0 2 := by rw [eh4]; exact oK_pF' g3 rfl rfl g3
  refine zX_seg (pc' := 12) (L' := [.ref l0, .int l1, .ref l2, .int (l3 + 1), .int l4, .int l5]) (st' := []) (h2 := h4) rfl rfl (fun C Cr hc kk => x_iinc C (l3 + 1) rfl (congrArg (HAdd.hAdd _) (by decide)) (by decide) dX2_gather_114 (x_goto C 12 dX2_gather_117 (by decide) (kk))) ?_
  exact zX_wk (wkK (wkK (wkK (wkK (wkD (wkD wkN)))))) H
theorem nX2_gather (t : Nat) (p0 : Int32) (p1 : Nat) (h : zH) (Q : Option Value → zH → Prop) (H : zX mX2_gather 0 [.ref t, .int p0, .ref p1, .float 0, .float 0, .float 0] [] h Q) : zC mX2_gather [.ref t, .int p0, .ref p1] h Q := zC_of (by decide +kernel) (by simp) (Nat.le_of_ble_eq_true rfl) H
theorem bX2_agreeWith_0 (t : Nat) (p0 : Int32) (h : zH) (Q : Option Value → zH → Prop) (H : oK h t 2 ∧ (((p0 &&& (gI h t 5)) = (gI h t 6) → (Q (some (.int (1 : Int32))) h)) ∧ (¬ ((p0 &&& (gI h t 5)) = (gI h t 6)) → (Q (some (.int (0 : Int32))) h)))) : zX mX2_agreeWith 0 [.ref t, .int p0] [] h Q := by
  obtain ⟨g1, H⟩ := H
  refine zX_seg (pc' := 10) (L' := [.ref t, .int p0]) (st' := [.int (gI h t 6), .int (p0 &&& (gI h t 5))]) (h2 := h) rfl rfl (fun C Cr hc kk => x_iload_n C rfl dX2_agreeWith_0 (x_aload_n C (v := .ref t) rfl rfl dX2_agreeWith_1 (f_getI C lX2_36 g1 rfl dX2_agreeWith_2 (x_iand C dX2_agreeWith_5 (x_aload_n C (v := .ref t) rfl rfl dX2_agreeWith_6 (f_getI C lX2_39 g1 rfl dX2_agreeWith_7 (kk))))))) ?_
  refine zX_br (p1 := 13) (p2 := 17) (st' := []) ((p0 &&& (gI h t 5)) = (gI h t 6)) (fun C kt kf => x_icmp_ne C 17 dX2_agreeWith_10 (by decide) kf kt) (fun q2 => ?_) (fun q2 => ?_)
  · have H := H.1 q2
    refine zX_seg (pc' := 18) (L' := [.ref t, .int p0]) (st' := [.int (1 : Int32)]) (h2 := h) rfl rfl (fun C Cr hc kk => x_iconst C (1 : Int32) (by decide) dX2_agreeWith_13 (x_goto C 18 dX2_agreeWith_14 (by decide) (kk))) ?_
    exact zX_ret (some (.int (1 : Int32))) (fun C Cr hc => x_iret C Cr rfl rfl hc dX2_agreeWith_18 ⟨rfl, rfl⟩) H
  · have H := H.2 q2
    refine zX_seg (pc' := 18) (L' := [.ref t, .int p0]) (st' := [.int (0 : Int32)]) (h2 := h) rfl rfl (fun C Cr hc kk => x_iconst C (0 : Int32) (by decide) dX2_agreeWith_17 (kk)) ?_
    exact zX_ret (some (.int (0 : Int32))) (fun C Cr hc => x_iret C Cr rfl rfl hc dX2_agreeWith_18 ⟨rfl, rfl⟩) H
theorem nX2_agreeWith (t : Nat) (p0 : Int32) (h : zH) (Q : Option Value → zH → Prop) (H : zX mX2_agreeWith 0 [.ref t, .int p0] [] h Q) : zC mX2_agreeWith [.ref t, .int p0] h Q := zC_of (by decide +kernel) (by simp) (Nat.le_of_ble_eq_true rfl) H
theorem bX10_init_0 (t : Nat) (h : zH) (Q : Option Value → zH → Prop) (H : ∀ h1 : zH, h1 = (zn h (zL 3 (fun _ => 0))) → (oK h1 t 10 ∧ (∀ h4 : zH, h4 = (pF h1 t 0 (zr (some h.1))) → (∀ h7 : zH, h7 = (zn h4 (zL 4 (fun _ => 0))) → (∀ h11 : zH, h11 = (pF h7 t 1 (zr (some h4.1))) → (∀ h15 : zH, h15 = (zn h11 (zL 8 (fun _ => 0))) → (∀ h20 : zH, h20 = (pF h15 t 2 (zr (some h11.1))) → (∀ h25 : zH, h25 = (zn h20 (zI 0 8 (fun _ => 0))) → (∀ h31 : zH, h31 = (pF h25 t 3 (zr (some h20.1))) → (∀ h37 : zH, h37 = (zn h31 (zI 0 8 (fun _ => 0))) → (∀ h44 : zH, h44 = (pF h37 t 4 (zr (some h31.1))) → (∀ h51 : zH, h51 = (zn h44 (zR 0 8 (fun _ => none))) → (∀ h59 : zH, h59 = (pF h51 t 5 (zr (some h44.1))) → (Q none h59)))))))))))))) : zX mX10_init 0 [.ref t] [] h Q := by
  refine zX_seg (pc' := 6) (L' := [.ref t]) (st' := [.int (3 : Int32), .ref t]) (h2 := h) rfl rfl (fun C Cr hc kk => x_aload_n C (v := .ref t) rfl rfl dX10_init_0 (x_objInit C lX10_3 oi_i oi_c ⟨by decide, by decide⟩ (Nat.le_of_ble_eq_true rfl) dX10_init_1 (x_aload_n C (v := .ref t) rfl rfl dX10_init_4 (x_iconst C (3 : Int32) (by decide) dX10_init_5 (kk))))) ?_
  refine zX_new (pc' := 8) (L' := [.ref t]) (st' := [.ref (h.1), .ref t]) (e := (zL 3 (fun _ => 0))) (fun C z1 z2 kk => x_newa C (at0 := .long) ac_long (Or.inr (Or.inr (Or.inr ⟨rfl, rfl⟩))) (by decide) (by decide) (by decide) z1 z2 dX10_init_6 kk) ?_
  obtain ⟨h1, eh1⟩ : ∃ y : zH, y = (zn h (zL 3 (fun _ => 0))) := ⟨_, rfl⟩
  have H := H h1 eh1
  rw [← eh1]
  have g2 : lK h1 h.1 := by rw [eh1]; exact lK_new
  obtain ⟨g3, H⟩ := H
  refine zX_seg (pc' := 11) (L' := [.ref t]) (st' := []) (h2 := (pF h1 t 0 (zr (some h.1)))) rfl rfl (fun C Cr hc kk => f_putFR C Cr rfl (x := (some h.1)) lX10_9 tX10 nX10_0 g3 rfl (Or.inr ⟨_, rfl⟩) dX10_init_8 (kk)) ?_
  obtain ⟨h4, eh4⟩ : ∃ y : zH, y = (pF h1 t 0 (zr (some h.1))) := ⟨_, rfl⟩
  have H := H h4 eh4
  rw [← eh4]
  have g5 : lK h4 h.1 := by rw [eh4]; exact lK_pF g2
  have g6 : oK h4 t 10 := by rw [eh4]; exact oK_pF' g3 rfl (zmr _) g3
  refine zX_seg (pc' := 13) (L' := [.ref t]) (st' := [.int (4 : Int32), .ref t]) (h2 := h4) rfl rfl (fun C Cr hc kk => x_aload_n C (v := .ref t) rfl rfl dX10_init_11 (x_iconst C (4 : Int32) (by decide) dX10_init_12 (kk))) ?_
  refine zX_new (pc' := 15) (L' := [.ref t]) (st' := [.ref (h4.1), .ref t]) (e := (zL 4 (fun _ => 0))) (fun C z1 z2 kk => x_newa C (at0 := .long) ac_long (Or.inr (Or.inr (Or.inr ⟨rfl, rfl⟩))) (by decide) (by decide) (by decide) z1 z2 dX10_init_13 kk) ?_
  obtain ⟨h7, eh7⟩ : ∃ y : zH, y = (zn h4 (zL 4 (fun _ => 0))) := ⟨_, rfl⟩
  have H := H h7 eh7
  rw [← eh7]
  have g8 : lK h7 h.1 := by rw [eh7]; exact lK_zn g5
  have g9 : oK h7 t 10 := by rw [eh7]; exact oK_zn g6
  have g10 : lK h7 h4.1 := by rw [eh7]; exact lK_new
  refine zX_seg (pc' := 18) (L' := [.ref t]) (st' := []) (h2 := (pF h7 t 1 (zr (some h4.1)))) rfl rfl (fun C Cr hc kk => f_putFR C Cr rfl (x := (some h4.1)) lX10_15 tX10 nX10_1 g9 rfl (Or.inr ⟨_, rfl⟩) dX10_init_15 (kk)) ?_
  obtain ⟨h11, eh11⟩ : ∃ y : zH, y = (pF h7 t 1 (zr (some h4.1))) := ⟨_, rfl⟩
  have H := H h11 eh11
  rw [← eh11]
  have g12 : lK h11 h.1 := by rw [eh11]; exact lK_pF g8
  have g13 : oK h11 t 10 := by rw [eh11]; exact oK_pF' g9 rfl (zmr _) g9
  have g14 : lK h11 h4.1 := by rw [eh11]; exact lK_pF g10
  refine zX_seg (pc' := 21) (L' := [.ref t]) (st' := [.int (8 : Int32), .ref t]) (h2 := h11) rfl rfl (fun C Cr hc kk => x_aload_n C (v := .ref t) rfl rfl dX10_init_18 (x_bipush C (8 : Int32) (by decide) dX10_init_19 (kk))) ?_
  refine zX_new (pc' := 23) (L' := [.ref t]) (st' := [.ref (h11.1), .ref t]) (e := (zL 8 (fun _ => 0))) (fun C z1 z2 kk => x_newa C (at0 := .long) ac_long (Or.inr (Or.inr (Or.inr ⟨rfl, rfl⟩))) (by decide) (by decide) (by decide) z1 z2 dX10_init_21 kk) ?_
  obtain ⟨h15, eh15⟩ : ∃ y : zH, y = (zn h11 (zL 8 (fun _ => 0))) := ⟨_, rfl⟩
  have H := H h15 eh15
  rw [← eh15]
  have g16 : lK h15 h.1 := by rw [eh15]; exact lK_zn g12
  have g17 : oK h15 t 10 := by rw [eh15]; exact oK_zn g13
  have g18 : lK h15 h4.1 := by rw [eh15]; exact lK_zn g14
  have g19 : lK h15 h11.1 := by rw [eh15]; exact lK_new
  refine zX_seg (pc' := 26) (L' := [.ref t]) (st' := []) (h2 := (pF h15 t 2 (zr (some h11.1)))) rfl rfl (fun C Cr hc kk => f_putFR C Cr rfl (x := (some h11.1)) lX10_18 tX10 nX10_2 g17 rfl (Or.inr ⟨_, rfl⟩) dX10_init_23 (kk)) ?_
  obtain ⟨h20, eh20⟩ : ∃ y : zH, y = (pF h15 t 2 (zr (some h11.1))) := ⟨_, rfl⟩
  have H := H h20 eh20
  rw [← eh20]
  have g21 : lK h20 h.1 := by rw [eh20]; exact lK_pF g16
  have g22 : oK h20 t 10 := by rw [eh20]; exact oK_pF' g17 rfl (zmr _) g17
  have g23 : lK h20 h4.1 := by rw [eh20]; exact lK_pF g18
  have g24 : lK h20 h11.1 := by rw [eh20]; exact lK_pF g19
  refine zX_seg (pc' := 29) (L' := [.ref t]) (st' := [.int (8 : Int32), .ref t]) (h2 := h20) rfl rfl (fun C Cr hc kk => x_aload_n C (v := .ref t) rfl rfl dX10_init_26 (x_bipush C (8 : Int32) (by decide) dX10_init_27 (kk))) ?_
  refine zX_new (pc' := 31) (L' := [.ref t]) (st' := [.ref (h20.1), .ref t]) (e := (zI 0 8 (fun _ => 0))) (fun C z1 z2 kk => x_newa C (at0 := .int) ac_int (Or.inl ⟨rfl, rfl⟩) (by decide) (by decide) (by decide) z1 z2 dX10_init_29 kk) ?_
  obtain ⟨h25, eh25⟩ : ∃ y : zH, y = (zn h20 (zI 0 8 (fun _ => 0))) := ⟨_, rfl⟩
  have H := H h25 eh25
  rw [← eh25]
  have g26 : lK h25 h.1 := by rw [eh25]; exact lK_zn g21
  have g27 : oK h25 t 10 := by rw [eh25]; exact oK_zn g22
  have g28 : lK h25 h4.1 := by rw [eh25]; exact lK_zn g23
  have g29 : lK h25 h11.1 := by rw [eh25]; exact lK_zn g24
  have g30 : iK h25 h20.1 0 := by rw [eh25]; exact iK_new
  refine zX_seg (pc' := 34) (L' := [.ref t]) (st' := []) (h2 := (pF h25 t 3 (zr (some h20.1)))) rfl rfl (fun C Cr hc kk => f_putFR C Cr rfl (x := (some h20.1)) lX10_21 tX10 nX10_3 g27 rfl (Or.inr ⟨_, rfl⟩) dX10_init_31 (kk)) ?_
  obtain ⟨h31, eh31⟩ : ∃ y : zH, y = (pF h25 t 3 (zr (some h20.1))) := ⟨_, rfl⟩
  have H := H h31 eh31
  rw [← eh31]
  have g32 : lK h31 h.1 := by rw [eh31]; exact lK_pF g26
  have g33 : oK h31 t 10 := by rw [eh31]; exact oK_pF' g27 rfl (zmr _) g27
  have g34 : lK h31 h4.1 := by rw [eh31]; exact lK_pF g28
  have g35 : lK h31 h11.1 := by rw [eh31]; exact lK_pF g29
  have g36 : iK h31 h20.1 0 := by rw [eh31]; exact iK_pF g30
  refine zX_seg (pc' := 37) (L' := [.ref t]) (st' := [.int (8 : Int32), .ref t]) (h2 := h31) rfl rfl (fun C Cr hc kk => x_aload_n C (v := .ref t) rfl rfl dX10_init_34 (x_bipush C (8 : Int32) (by decide) dX10_init_35 (kk))) ?_
  refine zX_new (pc' := 39) (L' := [.ref t]) (st' := [.ref (h31.1), .ref t]) (e := (zI 0 8 (fun _ => 0))) (fun C z1 z2 kk => x_newa C (at0 := .int) ac_int (Or.inl ⟨rfl, rfl⟩) (by decide) (by decide) (by decide) z1 z2 dX10_init_37 kk) ?_
  obtain ⟨h37, eh37⟩ : ∃ y : zH, y = (zn h31 (zI 0 8 (fun _ => 0))) := ⟨_, rfl⟩
  have H := H h37 eh37
  rw [← eh37]
  have g38 : lK h37 h.1 := by rw [eh37]; exact lK_zn g32
  have g39 : oK h37 t 10 := by rw [eh37]; exact oK_zn g33
  have g40 : lK h37 h4.1 := by rw [eh37]; exact lK_zn g34
  have g41 : lK h37 h11.1 := by rw [eh37]; exact lK_zn g35
  have g42 : iK h37 h20.1 0 := by rw [eh37]; exact iK_zn g36
  have g43 : iK h37 h31.1 0 := by rw [eh37]; exact iK_new
  refine zX_seg (pc' := 42) (L' := [.ref t]) (st' := []) (h2 := (pF h37 t 4 (zr (some h31.1)))) rfl rfl (fun C Cr hc kk => f_putFR C Cr rfl (x := (some h31.1)) lX10_25 tX10 nX10_4 g39 rfl (Or.inr ⟨_, rfl⟩) dX10_init_39 (kk)) ?_
  obtain ⟨h44, eh44⟩ : ∃ y : zH, y = (pF h37 t 4 (zr (some h31.1))) := ⟨_, rfl⟩
  have H := H h44 eh44
  rw [← eh44]
  have g45 : lK h44 h.1 := by rw [eh44]; exact lK_pF g38
  have g46 : oK h44 t 10 := by rw [eh44]; exact oK_pF' g39 rfl (zmr _) g39
  have g47 : lK h44 h4.1 := by rw [eh44]; exact lK_pF g40
  have g48 : lK h44 h11.1 := by rw [eh44]; exact lK_pF g41
  have g49 : iK h44 h20.1 0 := by rw [eh44]; exact iK_pF g42
  have g50 : iK h44 h31.1 0 := by rw [eh44]; exact iK_pF g43
  refine zX_seg (pc' := 45) (L' := [.ref t]) (st' := [.int (8 : Int32), .ref t]) (h2 := h44) rfl rfl (fun C Cr hc kk => x_aload_n C (v := .ref t) rfl rfl dX10_init_42 (x_bipush C (8 : Int32) (by decide) dX10_init_43 (kk))) ?_
  refine zX_new (pc' := 48) (L' := [.ref t]) (st' := [.ref (h44.1), .ref t]) (e := (zR 0 8 (fun _ => none))) (fun C z1 z2 kk => x_anew C (Or.inl ⟨rfl, rfl⟩) lX10_28 (by decide) (by decide) (by decide) z1 z2 dX10_init_45 kk) ?_
  obtain ⟨h51, eh51⟩ : ∃ y : zH, y = (zn h44 (zR 0 8 (fun _ => none))) := ⟨_, rfl⟩
  have H := H h51 eh51
  rw [← eh51]
  have g52 : lK h51 h.1 := by rw [eh51]; exact lK_zn g45
  have g53 : oK h51 t 10 := by rw [eh51]; exact oK_zn g46
  have g54 : lK h51 h4.1 := by rw [eh51]; exact lK_zn g47
  have g55 : lK h51 h11.1 := by rw [eh51]; exact lK_zn g48
  have g56 : iK h51 h20.1 0 := by rw [eh51]; exact iK_zn g49
  have g57 : iK h51 h31.1 0 := by rw [eh51]; exact iK_zn g50
  have g58 : rK h51 h44.1 0 := by rw [eh51]; exact rK_new
  refine zX_seg (pc' := 51) (L' := [.ref t]) (st' := []) (h2 := (pF h51 t 5 (zr (some h44.1)))) rfl rfl (fun C Cr hc kk => f_putFR C Cr rfl (x := (some h44.1)) lX10_30 tX10 nX10_5 g53 rfl (Or.inr ⟨_, rfl⟩) dX10_init_48 (kk)) ?_
  obtain ⟨h59, eh59⟩ : ∃ y : zH, y = (pF h51 t 5 (zr (some h44.1))) := ⟨_, rfl⟩
  have H := H h59 eh59
  rw [← eh59]
  have g60 : lK h59 h.1 := by rw [eh59]; exact lK_pF g52
  have g61 : oK h59 t 10 := by rw [eh59]; exact oK_pF' g53 rfl (zmr _) g53
  have g62 : lK h59 h4.1 := by rw [eh59]; exact lK_pF g54
  have g63 : lK h59 h11.1 := by rw [eh59]; exact lK_pF g55
  have g64 : iK h59 h20.1 0 := by rw [eh59]; exact iK_pF g56
  have g65 : iK h59 h31.1 0 := by rw [eh59]; exact iK_pF g57
  have g66 : rK h59 h44.1 0 := by rw [eh59]; exact rK_pF g58
  exact zX_ret none (fun C Cr hc => x_ret C Cr rfl hc dX10_init_51 ⟨rfl, rfl⟩) H
theorem nX10_init (t : Nat) (h : zH) (Q : Option Value → zH → Prop) (H : zX mX10_init 0 [.ref t] [] h Q) : zC mX10_init [.ref t] h Q := zC_of (by decide +kernel) (by simp) (Nat.le_of_ble_eq_true rfl) H
theorem bX10_clear_0 (t : Nat) (h : zH) (Q : Option Value → zH → Prop) (H : oK h t 10 ∧ (∀ h2 : zH, h2 = (pF h t 6 (.int (0 : Int32))) → (∀ h4 : zH, h4 = (pF h2 t 7 (.int (0 : Int32))) → (∀ h6 : zH, h6 = (pF h4 t 8 (.int (0 : Int32))) → (∀ h8 : zH, h8 = (pF h6 t 9 (.int (0 : Int32))) → (zX mX10_clear 22 [.ref t, .int (0 : Int32)] [] h8 Q)))))) : zX mX10_clear 0 [.ref t, .float 0] [] h Q := by
  obtain ⟨g1, H⟩ := H
  refine zX_seg (pc' := 5) (L' := [.ref t, .float 0]) (st' := []) (h2 := (pF h t 6 (.int (0 : Int32)))) rfl rfl (fun C Cr hc kk => x_aload_n C (v := .ref t) rfl rfl dX10_clear_0 (x_iconst C (0 : Int32) (by decide) dX10_clear_1 (f_putI C lX10_34 tX10 nX10_6 g1 rfl rfl dX10_clear_2 (kk)))) ?_
  obtain ⟨h2, eh2⟩ : ∃ y : zH, y = (pF h t 6 (.int (0 : Int32))) := ⟨_, rfl⟩
  have H := H h2 eh2
  rw [← eh2]
  have g3 : oK h2 t 10 := by rw [eh2]; exact oK_pF' g1 rfl rfl g1
  refine zX_seg (pc' := 10) (L' := [.ref t, .float 0]) (st' := []) (h2 := (pF h2 t 7 (.int (0 : Int32)))) rfl rfl (fun C Cr hc kk => x_aload_n C (v := .ref t) rfl rfl dX10_clear_5 (x_iconst C (0 : Int32) (by decide) dX10_clear_6 (f_putI C lX10_38 tX10 nX10_7 g3 rfl rfl dX10_clear_7 (kk)))) ?_
  obtain ⟨h4, eh4⟩ : ∃ y : zH, y = (pF h2 t 7 (.int (0 : Int32))) := ⟨_, rfl⟩
  have H := H h4 eh4
  rw [← eh4]
  have g5 : oK h4 t 10 := by rw [eh4]; exact oK_pF' g3 rfl rfl g3
  refine zX_seg (pc' := 15) (L' := [.ref t, .float 0]) (st' := []) (h2 := (pF h4 t 8 (.int (0 : Int32)))) rfl rfl (fun C Cr hc kk => x_aload_n C (v := .ref t) rfl rfl dX10_clear_10 (x_iconst C (0 : Int32) (by decide) dX10_clear_11 (f_putI C lX10_41 tX10 nX10_8 g5 rfl rfl dX10_clear_12 (kk)))) ?_
  obtain ⟨h6, eh6⟩ : ∃ y : zH, y = (pF h4 t 8 (.int (0 : Int32))) := ⟨_, rfl⟩
  have H := H h6 eh6
  rw [← eh6]
  have g7 : oK h6 t 10 := by rw [eh6]; exact oK_pF' g5 rfl rfl g5
  refine zX_seg (pc' := 20) (L' := [.ref t, .float 0]) (st' := []) (h2 := (pF h6 t 9 (.int (0 : Int32)))) rfl rfl (fun C Cr hc kk => x_aload_n C (v := .ref t) rfl rfl dX10_clear_15 (x_iconst C (0 : Int32) (by decide) dX10_clear_16 (f_putI C lX10_44 tX10 nX10_9 g7 rfl rfl dX10_clear_17 (kk)))) ?_
  obtain ⟨h8, eh8⟩ : ∃ y : zH, y = (pF h6 t 9 (.int (0 : Int32))) := ⟨_, rfl⟩
  have H := H h8 eh8
  rw [← eh8]
  have g9 : oK h8 t 10 := by rw [eh8]; exact oK_pF' g7 rfl rfl g7
  refine zX_seg (pc' := 22) (L' := [.ref t, .int (0 : Int32)]) (st' := []) (h2 := h8) rfl rfl (fun C Cr hc kk => x_iconst C (0 : Int32) (by decide) dX10_clear_20 (x_istore_n C (by decide) dX10_clear_21 (kk))) ?_
  exact zX_wk (wkK (wkK wkN)) H
theorem bX10_clear_22 (l0 : Nat) (l1 : Int32) (h : zH) (Q : Option Value → zH → Prop) (H : oK h l0 10 ∧ (∃ a2 : Nat, gR h l0 5 = some a2 ∧ (rK h a2 0 ∧ (((nI (aN h a2)) ≤ l1 → (Q none h)) ∧ (¬ ((nI (aN h a2)) ≤ l1) → (vp_in l1 (aN h a2) ∧ (∀ h6 : zH, h6 = (pR h a2 l1.toNatClampNeg none) → (zX mX10_clear 22 [.ref l0, .int (l1 + 1)] [] h6 Q)))))))) : zX mX10_clear 22 [.ref l0, .int l1] [] h Q := by
  obtain ⟨g1, H⟩ := H
  obtain ⟨a2, ea2, H⟩ := H
  obtain ⟨g3, H⟩ := H
  refine zX_seg (pc' := 28) (L' := [.ref l0, .int l1]) (st' := [.int (nI (aN h a2)), .int l1]) (h2 := h) rfl rfl (fun C Cr hc kk => x_iload_n C rfl dX10_clear_22 (x_aload_n C (v := .ref l0) rfl rfl dX10_clear_23 (f_getR1 C lX10_30 g1 rfl ea2 dX10_clear_24 (f_alenR C (by decide) g3 dX10_clear_27 (kk))))) ?_
  refine zX_br (p1 := 44) (p2 := 31) (st' := []) ((nI (aN h a2)) ≤ l1) (fun C kt kf => x_icmp_ge C 44 dX10_clear_28 (by decide) kt kf) (fun q4 => ?_) (fun q4 => ?_)
  · have H := H.1 q4
    exact zX_ret none (fun C Cr hc => x_ret C Cr rfl hc dX10_clear_44 ⟨rfl, rfl⟩) H
  · have H := H.2 q4
    obtain ⟨g5, H⟩ := H
    refine zX_seg (pc' := 38) (L' := [.ref l0, .int l1]) (st' := []) (h2 := (pR h a2 l1.toNatClampNeg none)) rfl rfl (fun C Cr hc kk => x_aload_n C (v := .ref l0) rfl rfl dX10_clear_31 (f_getR1 C lX10_30 g1 rfl ea2 dX10_clear_32 (x_iload_n C rfl dX10_clear_35 (x_null C dX10_clear_36 (f_aast C (x := none) (by decide) g3 (fun v z => by cases z) g5 dX10_clear_37 (kk)))))) ?_
    obtain ⟨h6, eh6⟩ : ∃ y : zH, y = (pR h a2 l1.toNatClampNeg none) := ⟨_, rfl⟩
    have H := H h6 eh6
    rw [← eh6]
    have g7 : oK h6 l0 10 := by rw [eh6]; exact oK_pR g1
    have g8 : rK h6 a2 0 := by rw [eh6]; exact rK_pR g3
    refine zX_seg (pc' := 22) (L' := [.ref l0, .int (l1 + 1)]) (st' := []) (h2 := h6) rfl rfl (fun C Cr hc kk => x_iinc C (l1 + 1) rfl (congrArg (HAdd.hAdd _) (by decide)) (by decide) dX10_clear_38 (x_goto C 22 dX10_clear_41 (by decide) (kk))) ?_
    exact zX_wk (wkK (wkK wkN)) H
theorem nX10_clear (t : Nat) (h : zH) (Q : Option Value → zH → Prop) (H : zX mX10_clear 0 [.ref t, .float 0] [] h Q) : zC mX10_clear [.ref t] h Q := zC_of (by decide +kernel) (by simp) (Nat.le_of_ble_eq_true rfl) H
theorem bX10_becomeWider_0 (t : Nat) (p0 : Nat) (p1 : Int32) (h : zH) (Q : Option Value → zH → Prop) (H : oK h p0 10 ∧ (oK h t 10 ∧ (∀ h3 : zH, h3 = (pF h t 6 (.int (gI h p0 6))) → (∀ h6 : zH, h6 = (pF h3 t 8 (.int (gI h3 p0 8))) → (zX mX10_becomeWider 18 [.ref t, .ref p0, .int p1, .int (0 : Int32)] [] h6 Q))))) : zX mX10_becomeWider 0 [.ref t, .ref p0, .int p1, .float 0] [] h Q := by
  obtain ⟨g1, H⟩ := H
  obtain ⟨g2, H⟩ := H
  refine zX_seg (pc' := 8) (L' := [.ref t, .ref p0, .int p1, .float 0]) (st' := []) (h2 := (pF h t 6 (.int (gI h p0 6)))) rfl rfl (fun C Cr hc kk => x_aload_n C (v := .ref t) rfl rfl dX10_becomeWider_0 (x_aload_n C (v := .ref p0) rfl rfl dX10_becomeWider_1 (f_getI C lX10_34 g1 rfl dX10_becomeWider_2 (f_putI C lX10_34 tX10 nX10_6 g2 rfl rfl dX10_becomeWider_5 (kk))))) ?_
  obtain ⟨h3, eh3⟩ : ∃ y : zH, y = (pF h t 6 (.int (gI h p0 6))) := ⟨_, rfl⟩
  have H := H h3 eh3
  rw [← eh3]
  have g4 : oK h3 p0 10 := by rw [eh3]; exact oK_pF' g2 rfl rfl g1
  have g5 : oK h3 t 10 := by rw [eh3]; exact oK_pF' g2 rfl rfl g2
  refine zX_seg (pc' := 16) (L' := [.ref t, .ref p0, .int p1, .float 0]) (st' := []) (h2 := (pF h3 t 8 (.int (gI h3 p0 8)))) rfl rfl (fun C Cr hc kk => x_aload_n C (v := .ref t) rfl rfl dX10_becomeWider_8 (x_aload_n C (v := .ref p0) rfl rfl dX10_becomeWider_9 (f_getI C lX10_41 g4 rfl dX10_becomeWider_10 (f_putI C lX10_41 tX10 nX10_8 g5 rfl rfl dX10_becomeWider_13 (kk))))) ?_
  obtain ⟨h6, eh6⟩ : ∃ y : zH, y = (pF h3 t 8 (.int (gI h3 p0 8))) := ⟨_, rfl⟩
  have H := H h6 eh6
  rw [← eh6]
  have g7 : oK h6 p0 10 := by rw [eh6]; exact oK_pF' g5 rfl rfl g4
  have g8 : oK h6 t 10 := by rw [eh6]; exact oK_pF' g5 rfl rfl g5
  refine zX_seg (pc' := 18) (L' := [.ref t, .ref p0, .int p1, .int (0 : Int32)]) (st' := []) (h2 := h6) rfl rfl (fun C Cr hc kk => x_iconst C (0 : Int32) (by decide) dX10_becomeWider_16 (x_istore_n C (by decide) dX10_becomeWider_17 (kk))) ?_
  exact zX_wk (wkK (wkK (wkK (wkK wkN)))) H
theorem bX10_becomeWider_18 (l0 : Nat) (l1 : Nat) (l2 : Int32) (l3 : Int32) (h : zH) (Q : Option Value → zH → Prop) (H : oK h l0 10 ∧ (((gI h l0 8) ≤ l3 → (zC mX10_addVoter [.ref l0, .int l2, .int (1 : Int32)] h (fun r0 h3 => r0 = none ∧ (Q none h3)))) ∧ (¬ ((gI h l0 8) ≤ l3) → (∃ a4 : Nat, gR h l0 3 = some a4 ∧ (oK h l1 10 ∧ (∃ a6 : Nat, gR h l1 3 = some a6 ∧ (zC mX11_at [.ref a6, .int l3] h (fun r0 h7 => ∃ x8 : Int32, r0 = some (.int x8) ∧ (zC mX11_put [.ref a4, .int l3, .int x8] h7 (fun r0 h9 => r0 = none ∧ (oK h9 l0 10 ∧ (∃ a11 : Nat, gR h9 l0 4 = some a11 ∧ (oK h9 l1 10 ∧ (∃ a13 : Nat, gR h9 l1 4 = some a13 ∧ (zC mX11_at [.ref a13, .int l3] h9 (fun r0 h14 => ∃ x15 : Int32, r0 = some (.int x15) ∧ (zC mX11_put [.ref a11, .int l3, .int x15] h14 (fun r0 h16 => r0 = none ∧ (zX mX10_becomeWider 18 [.ref l0, .ref l1, .int l2, .int (l3 + 1)] [] h16 Q))))))))))))))))))) : zX mX10_becomeWider 18 [.ref l0, .ref l1, .int l2, .int l3] [] h Q := by
  obtain ⟨g1, H⟩ := H
  refine zX_seg (pc' := 23) (L' := [.ref l0, .ref l1, .int l2, .int l3]) (st' := [.int (gI h l0 8), .int l3]) (h2 := h) rfl rfl (fun C Cr hc kk => x_iload_n C rfl dX10_becomeWider_18 (x_aload_n C (v := .ref l0) rfl rfl dX10_becomeWider_19 (f_getI C lX10_41 g1 rfl dX10_becomeWider_20 (kk)))) ?_
  refine zX_br (p1 := 64) (p2 := 26) (st' := []) ((gI h l0 8) ≤ l3) (fun C kt kf => x_icmp_ge C 64 dX10_becomeWider_23 (by decide) kt kf) (fun q2 => ?_) (fun q2 => ?_)
  · have H := H.1 q2
    refine zX_seg (pc' := 67) (L' := [.ref l0, .ref l1, .int l2, .int l3]) (st' := [.int (1 : Int32), .int l2, .ref l0]) (h2 := h) rfl rfl (fun C Cr hc kk => x_aload_n C (v := .ref l0) rfl rfl dX10_becomeWider_64 (x_iload_n C rfl dX10_becomeWider_65 (x_iconst C (1 : Int32) (by decide) dX10_becomeWider_66 (kk)))) ?_
    refine zX_call (as := [.ref l0, .int l2, .int (1 : Int32)]) (st := []) (fun C hM hc kk => f_callV C [.int l2, .int (1 : Int32)] hM kX10_addVoter vX10_addVoter lX10_55 ⟨by decide, by decide⟩ (rfl : vwCl[10]? = some (RX10, TX10, 10)) g1 rfl hc (Nat.le_of_ble_eq_true rfl) rfl dX10_becomeWider_67 kk) (zC.mono H ?_)
    rintro r0 h3 ⟨rfl, H⟩
    show zX mX10_becomeWider 70 [.ref l0, .ref l1, .int l2, .int l3] [] h3 Q
    exact zX_ret none (fun C Cr hc => x_ret C Cr rfl hc dX10_becomeWider_70 ⟨rfl, rfl⟩) H
  · have H := H.2 q2
    obtain ⟨a4, ea4, H⟩ := H
    obtain ⟨g5, H⟩ := H
    obtain ⟨a6, ea6, H⟩ := H
    refine zX_seg (pc' := 36) (L' := [.ref l0, .ref l1, .int l2, .int l3]) (st' := [.int l3, .ref a6, .int l3, .ref a4]) (h2 := h) rfl rfl (fun C Cr hc kk => x_aload_n C (v := .ref l0) rfl rfl dX10_becomeWider_26 (f_getR1 C lX10_21 g1 rfl ea4 dX10_becomeWider_27 (x_iload_n C rfl dX10_becomeWider_30 (x_aload_n C (v := .ref l1) rfl rfl dX10_becomeWider_31 (f_getR1 C lX10_21 g5 rfl ea6 dX10_becomeWider_32 (x_iload_n C rfl dX10_becomeWider_35 (kk))))))) ?_
    refine zX_call (as := [.ref a6, .int l3]) (st := [.int l3, .ref a4]) (fun C hM hc kk => x_callSN C [.ref a6, .int l3] hM kX11_at sX11_at lX10_47 ⟨by decide, by decide⟩ rfl hc (Nat.le_of_ble_eq_true rfl) rfl dX10_becomeWider_36 kk) (zC.mono H ?_)
    rintro r0 h7 ⟨x8, rfl, H⟩
    show zX mX10_becomeWider 39 [.ref l0, .ref l1, .int l2, .int l3] [.int x8, .int l3, .ref a4] h7 Q
    refine zX_call (as := [.ref a4, .int l3, .int x8]) (st := []) (fun C hM hc kk => x_callSN C [.ref a4, .int l3, .int x8] hM kX11_put sX11_put lX10_51 ⟨by decide, by decide⟩ rfl hc (Nat.le_of_ble_eq_true rfl) rfl dX10_becomeWider_39 kk) (zC.mono H ?_)
    rintro r0 h9 ⟨rfl, H⟩
    show zX mX10_becomeWider 42 [.ref l0, .ref l1, .int l2, .int l3] [] h9 Q
    obtain ⟨g10, H⟩ := H
    obtain ⟨a11, ea11, H⟩ := H
    obtain ⟨g12, H⟩ := H
    obtain ⟨a13, ea13, H⟩ := H
    refine zX_seg (pc' := 52) (L' := [.ref l0, .ref l1, .int l2, .int l3]) (st' := [.int l3, .ref a13, .int l3, .ref a11]) (h2 := h9) rfl rfl (fun C Cr hc kk => x_aload_n C (v := .ref l0) rfl rfl dX10_becomeWider_42 (f_getR1 C lX10_25 g10 rfl ea11 dX10_becomeWider_43 (x_iload_n C rfl dX10_becomeWider_46 (x_aload_n C (v := .ref l1) rfl rfl dX10_becomeWider_47 (f_getR1 C lX10_25 g12 rfl ea13 dX10_becomeWider_48 (x_iload_n C rfl dX10_becomeWider_51 (kk))))))) ?_
    refine zX_call (as := [.ref a13, .int l3]) (st := [.int l3, .ref a11]) (fun C hM hc kk => x_callSN C [.ref a13, .int l3] hM kX11_at sX11_at lX10_47 ⟨by decide, by decide⟩ rfl hc (Nat.le_of_ble_eq_true rfl) rfl dX10_becomeWider_52 kk) (zC.mono H ?_)
    rintro r0 h14 ⟨x15, rfl, H⟩
    show zX mX10_becomeWider 55 [.ref l0, .ref l1, .int l2, .int l3] [.int x15, .int l3, .ref a11] h14 Q
    refine zX_call (as := [.ref a11, .int l3, .int x15]) (st := []) (fun C hM hc kk => x_callSN C [.ref a11, .int l3, .int x15] hM kX11_put sX11_put lX10_51 ⟨by decide, by decide⟩ rfl hc (Nat.le_of_ble_eq_true rfl) rfl dX10_becomeWider_55 kk) (zC.mono H ?_)
    rintro r0 h16 ⟨rfl, H⟩
    show zX mX10_becomeWider 58 [.ref l0, .ref l1, .int l2, .int l3] [] h16 Q
    refine zX_seg (pc' := 18) (L' := [.ref l0, .ref l1, .int l2, .int (l3 + 1)]) (st' := []) (h2 := h16) rfl rfl (fun C Cr hc kk => x_iinc C (l3 + 1) rfl (congrArg (HAdd.hAdd _) (by decide)) (by decide) dX10_becomeWider_58 (x_goto C 18 dX10_becomeWider_61 (by decide) (kk))) ?_
    exact zX_wk (wkK (wkK (wkK (wkK wkN)))) H
theorem nX10_becomeWider (t : Nat) (p0 : Nat) (p1 : Int32) (h : zH) (Q : Option Value → zH → Prop) (H : zX mX10_becomeWider 0 [.ref t, .ref p0, .int p1, .float 0] [] h Q) : zC mX10_becomeWider [.ref t, .ref p0, .int p1] h Q := zC_of (by decide +kernel) (by simp) (Nat.le_of_ble_eq_true rfl) H
theorem bX10_addVoter_0 (t : Nat) (p0 : Int32) (p1 : Int32) (h : zH) (Q : Option Value → zH → Prop) (H : oK h t 10 ∧ (∃ a2 : Nat, gR h t 3 = some a2 ∧ (zC mX11_put [.ref a2, .int (gI h t 8), .int p0] h (fun r0 h3 => r0 = none ∧ (oK h3 t 10 ∧ (∃ a5 : Nat, gR h3 t 4 = some a5 ∧ (zC mX11_put [.ref a5, .int (gI h3 t 8), .int p1] h3 (fun r0 h6 => r0 = none ∧ (oK h6 t 10 ∧ (∀ h8 : zH, h8 = (pF h6 t 8 (.int ((gI h6 t 8) + (1 : Int32)))) → (Q none h8))))))))))) : zX mX10_addVoter 0 [.ref t, .int p0, .int p1] [] h Q := by
  obtain ⟨g1, H⟩ := H
  obtain ⟨a2, ea2, H⟩ := H
  refine zX_seg (pc' := 9) (L' := [.ref t, .int p0, .int p1]) (st' := [.int p0, .int (gI h t 8), .ref a2]) (h2 := h) rfl rfl (fun C Cr hc kk => x_aload_n C (v := .ref t) rfl rfl dX10_addVoter_0 (f_getR1 C lX10_21 g1 rfl ea2 dX10_addVoter_1 (x_aload_n C (v := .ref t) rfl rfl dX10_addVoter_4 (f_getI C lX10_41 g1 rfl dX10_addVoter_5 (x_iload_n C rfl dX10_addVoter_8 (kk)))))) ?_
  refine zX_call (as := [.ref a2, .int (gI h t 8), .int p0]) (st := []) (fun C hM hc kk => x_callSN C [.ref a2, .int (gI h t 8), .int p0] hM kX11_put sX11_put lX10_51 ⟨by decide, by decide⟩ rfl hc (Nat.le_of_ble_eq_true rfl) rfl dX10_addVoter_9 kk) (zC.mono H ?_)
  rintro r0 h3 ⟨rfl, H⟩
  show zX mX10_addVoter 12 [.ref t, .int p0, .int p1] [] h3 Q
  obtain ⟨g4, H⟩ := H
  obtain ⟨a5, ea5, H⟩ := H
  refine zX_seg (pc' := 21) (L' := [.ref t, .int p0, .int p1]) (st' := [.int p1, .int (gI h3 t 8), .ref a5]) (h2 := h3) rfl rfl (fun C Cr hc kk => x_aload_n C (v := .ref t) rfl rfl dX10_addVoter_12 (f_getR1 C lX10_25 g4 rfl ea5 dX10_addVoter_13 (x_aload_n C (v := .ref t) rfl rfl dX10_addVoter_16 (f_getI C lX10_41 g4 rfl dX10_addVoter_17 (x_iload_n C rfl dX10_addVoter_20 (kk)))))) ?_
  refine zX_call (as := [.ref a5, .int (gI h3 t 8), .int p1]) (st := []) (fun C hM hc kk => x_callSN C [.ref a5, .int (gI h3 t 8), .int p1] hM kX11_put sX11_put lX10_51 ⟨by decide, by decide⟩ rfl hc (Nat.le_of_ble_eq_true rfl) rfl dX10_addVoter_21 kk) (zC.mono H ?_)
  rintro r0 h6 ⟨rfl, H⟩
  show zX mX10_addVoter 24 [.ref t, .int p0, .int p1] [] h6 Q
  obtain ⟨g7, H⟩ := H
  refine zX_seg (pc' := 34) (L' := [.ref t, .int p0, .int p1]) (st' := []) (h2 := (pF h6 t 8 (.int ((gI h6 t 8) + (1 : Int32))))) rfl rfl (fun C Cr hc kk => x_aload_n C (v := .ref t) rfl rfl dX10_addVoter_24 (x_dup C rfl dX10_addVoter_25 (f_getI C lX10_41 g7 rfl dX10_addVoter_26 (x_iconst C (1 : Int32) (by decide) dX10_addVoter_29 (x_iadd C dX10_addVoter_30 (f_putI C lX10_41 tX10 nX10_8 g7 rfl rfl dX10_addVoter_31 (kk))))))) ?_
  obtain ⟨h8, eh8⟩ : ∃ y : zH, y = (pF h6 t 8 (.int ((gI h6 t 8) + (1 : Int32)))) := ⟨_, rfl⟩
  have H := H h8 eh8
  rw [← eh8]
  have g9 : oK h8 t 10 := by rw [eh8]; exact oK_pF' g7 rfl rfl g7
  exact zX_ret none (fun C Cr hc => x_ret C Cr rfl hc dX10_addVoter_34 ⟨rfl, rfl⟩) H
theorem nX10_addVoter (t : Nat) (p0 : Int32) (p1 : Int32) (h : zH) (Q : Option Value → zH → Prop) (H : zX mX10_addVoter 0 [.ref t, .int p0, .int p1] [] h Q) : zC mX10_addVoter [.ref t, .int p0, .int p1] h Q := zC_of (by decide +kernel) (by simp) (Nat.le_of_ble_eq_true rfl) H
theorem bX10_tellBallot_0 (t : Nat) (p0 : Int32) (p1 : Nat) (h : zH) (Q : Option Value → zH → Prop) (H : (p0 < 0 → (Q none h)) ∧ (¬ (p0 < 0) → (oK h t 10 ∧ (∃ a3 : Nat, gR h t 5 = some a3 ∧ (rK h a3 0 ∧ (((nI (aN h a3)) ≤ p0 → (Q none h)) ∧ (¬ ((nI (aN h a3)) ≤ p0) → (oK h p1 0 ∧ (vp_in p0 (aN h a3) ∧ (∀ h8 : zH, h8 = (pR h a3 p0.toNatClampNeg (some p1)) → (∀ h12 : zH, h12 = (pF h8 t 9 (.int ((gI h8 t 9) ||| ((1 : Int32) <<< (p0 &&& 31))))) → (Q none h12)))))))))))) : zX mX10_tellBallot 0 [.ref t, .int p0, .ref p1] [] h Q := by
  refine zX_seg (pc' := 1) (L' := [.ref t, .int p0, .ref p1]) (st' := [.int p0]) (h2 := h) rfl rfl (fun C Cr hc kk => x_iload_n C rfl dX10_tellBallot_0 (kk)) ?_
  refine zX_br (p1 := 32) (p2 := 4) (st' := []) (p0 < 0) (fun C kt kf => x_if_lt C 32 dX10_tellBallot_1 (by decide) kt kf) (fun q1 => ?_) (fun q1 => ?_)
  · have H := H.1 q1
    exact zX_ret none (fun C Cr hc => x_ret C Cr rfl hc dX10_tellBallot_32 ⟨rfl, rfl⟩) H
  · have H := H.2 q1
    obtain ⟨g2, H⟩ := H
    obtain ⟨a3, ea3, H⟩ := H
    obtain ⟨g4, H⟩ := H
    refine zX_seg (pc' := 10) (L' := [.ref t, .int p0, .ref p1]) (st' := [.int (nI (aN h a3)), .int p0]) (h2 := h) rfl rfl (fun C Cr hc kk => x_iload_n C rfl dX10_tellBallot_4 (x_aload_n C (v := .ref t) rfl rfl dX10_tellBallot_5 (f_getR1 C lX10_30 g2 rfl ea3 dX10_tellBallot_6 (f_alenR C (by decide) g4 dX10_tellBallot_9 (kk))))) ?_
    refine zX_br (p1 := 32) (p2 := 13) (st' := []) ((nI (aN h a3)) ≤ p0) (fun C kt kf => x_icmp_ge C 32 dX10_tellBallot_10 (by decide) kt kf) (fun q5 => ?_) (fun q5 => ?_)
    · have H := H.1 q5
      exact zX_ret none (fun C Cr hc => x_ret C Cr rfl hc dX10_tellBallot_32 ⟨rfl, rfl⟩) H
    · have H := H.2 q5
      obtain ⟨g7, H⟩ := H
      obtain ⟨g6, H⟩ := H
      refine zX_seg (pc' := 20) (L' := [.ref t, .int p0, .ref p1]) (st' := []) (h2 := (pR h a3 p0.toNatClampNeg (some p1))) rfl rfl (fun C Cr hc kk => x_aload_n C (v := .ref t) rfl rfl dX10_tellBallot_13 (f_getR1 C lX10_30 g2 rfl ea3 dX10_tellBallot_14 (x_iload_n C rfl dX10_tellBallot_17 (x_aload_n C (v := .ref p1) rfl rfl dX10_tellBallot_18 (f_aast C (x := (some p1)) (by decide) g4 (fun v z => by cases z; exact g7) g6 dX10_tellBallot_19 (kk)))))) ?_
      obtain ⟨h8, eh8⟩ : ∃ y : zH, y = (pR h a3 p0.toNatClampNeg (some p1)) := ⟨_, rfl⟩
      have H := H h8 eh8
      rw [← eh8]
      have g9 : oK h8 t 10 := by rw [eh8]; exact oK_pR g2
      have g10 : rK h8 a3 0 := by rw [eh8]; exact rK_pR g4
      have g11 : oK h8 p1 0 := by rw [eh8]; exact oK_pR g7
      refine zX_seg (pc' := 32) (L' := [.ref t, .int p0, .ref p1]) (st' := []) (h2 := (pF h8 t 9 (.int ((gI h8 t 9) ||| ((1 : Int32) <<< (p0 &&& 31)))))) rfl rfl (fun C Cr hc kk => x_aload_n C (v := .ref t) rfl rfl dX10_tellBallot_20 (x_dup C rfl dX10_tellBallot_21 (f_getI C lX10_44 g9 rfl dX10_tellBallot_22 (x_iconst C (1 : Int32) (by decide) dX10_tellBallot_25 (x_iload_n C rfl dX10_tellBallot_26 (x_ishl C dX10_tellBallot_27 (x_ior C dX10_tellBallot_28 (f_putI C lX10_44 tX10 nX10_9 g9 rfl rfl dX10_tellBallot_29 (kk))))))))) ?_
      obtain ⟨h12, eh12⟩ : ∃ y : zH, y = (pF h8 t 9 (.int ((gI h8 t 9) ||| ((1 : Int32) <<< (p0 &&& 31))))) := ⟨_, rfl⟩
      have H := H h12 eh12
      rw [← eh12]
      have g13 : oK h12 t 10 := by rw [eh12]; exact oK_pF' g9 rfl rfl g9
      have g14 : rK h12 a3 0 := by rw [eh12]; exact rK_pF g10
      have g15 : oK h12 p1 0 := by rw [eh12]; exact oK_pF' g9 rfl rfl g11
      exact zX_ret none (fun C Cr hc => x_ret C Cr rfl hc dX10_tellBallot_32 ⟨rfl, rfl⟩) H
theorem nX10_tellBallot (t : Nat) (p0 : Int32) (p1 : Nat) (h : zH) (Q : Option Value → zH → Prop) (H : zX mX10_tellBallot 0 [.ref t, .int p0, .ref p1] [] h Q) : zC mX10_tellBallot [.ref t, .int p0, .ref p1] h Q := zC_of (by decide +kernel) (by simp) (Nat.le_of_ble_eq_true rfl) H
theorem bX10_hasName_0 (t : Nat) (p0 : Int32) (h : zH) (Q : Option Value → zH → Prop) (H : (p0 < 0 → (Q (some (.int (0 : Int32))) h)) ∧ (¬ (p0 < 0) → (oK h t 10 ∧ (((gI h t 6) ≤ p0 → (Q (some (.int (0 : Int32))) h)) ∧ (¬ ((gI h t 6) ≤ p0) → (Q (some (.int (1 : Int32))) h)))))) : zX mX10_hasName 0 [.ref t, .int p0] [] h Q := by
  refine zX_seg (pc' := 1) (L' := [.ref t, .int p0]) (st' := [.int p0]) (h2 := h) rfl rfl (fun C Cr hc kk => x_iload_n C rfl dX10_hasName_0 (kk)) ?_
  refine zX_br (p1 := 16) (p2 := 4) (st' := []) (p0 < 0) (fun C kt kf => x_if_lt C 16 dX10_hasName_1 (by decide) kt kf) (fun q1 => ?_) (fun q1 => ?_)
  · have H := H.1 q1
    refine zX_seg (pc' := 17) (L' := [.ref t, .int p0]) (st' := [.int (0 : Int32)]) (h2 := h) rfl rfl (fun C Cr hc kk => x_iconst C (0 : Int32) (by decide) dX10_hasName_16 (kk)) ?_
    exact zX_ret (some (.int (0 : Int32))) (fun C Cr hc => x_iret C Cr rfl rfl hc dX10_hasName_17 ⟨rfl, rfl⟩) H
  · have H := H.2 q1
    obtain ⟨g2, H⟩ := H
    refine zX_seg (pc' := 9) (L' := [.ref t, .int p0]) (st' := [.int (gI h t 6), .int p0]) (h2 := h) rfl rfl (fun C Cr hc kk => x_iload_n C rfl dX10_hasName_4 (x_aload_n C (v := .ref t) rfl rfl dX10_hasName_5 (f_getI C lX10_34 g2 rfl dX10_hasName_6 (kk)))) ?_
    refine zX_br (p1 := 16) (p2 := 12) (st' := []) ((gI h t 6) ≤ p0) (fun C kt kf => x_icmp_ge C 16 dX10_hasName_9 (by decide) kt kf) (fun q3 => ?_) (fun q3 => ?_)
    · have H := H.1 q3
      refine zX_seg (pc' := 17) (L' := [.ref t, .int p0]) (st' := [.int (0 : Int32)]) (h2 := h) rfl rfl (fun C Cr hc kk => x_iconst C (0 : Int32) (by decide) dX10_hasName_16 (kk)) ?_
      exact zX_ret (some (.int (0 : Int32))) (fun C Cr hc => x_iret C Cr rfl rfl hc dX10_hasName_17 ⟨rfl, rfl⟩) H
    · have H := H.2 q3
      refine zX_seg (pc' := 17) (L' := [.ref t, .int p0]) (st' := [.int (1 : Int32)]) (h2 := h) rfl rfl (fun C Cr hc kk => x_iconst C (1 : Int32) (by decide) dX10_hasName_12 (x_goto C 17 dX10_hasName_13 (by decide) (kk))) ?_
      exact zX_ret (some (.int (1 : Int32))) (fun C Cr hc => x_iret C Cr rfl rfl hc dX10_hasName_17 ⟨rfl, rfl⟩) H
theorem nX10_hasName (t : Nat) (p0 : Int32) (h : zH) (Q : Option Value → zH → Prop) (H : zX mX10_hasName 0 [.ref t, .int p0] [] h Q) : zC mX10_hasName [.ref t, .int p0] h Q := zC_of (by decide +kernel) (by simp) (Nat.le_of_ble_eq_true rfl) H
theorem bX10_hasVoter_0 (t : Nat) (p0 : Int32) (h : zH) (Q : Option Value → zH → Prop) (H : (p0 < 0 → (Q (some (.int (0 : Int32))) h)) ∧ (¬ (p0 < 0) → (oK h t 10 ∧ (((gI h t 8) ≤ p0 → (Q (some (.int (0 : Int32))) h)) ∧ (¬ ((gI h t 8) ≤ p0) → (Q (some (.int (1 : Int32))) h)))))) : zX mX10_hasVoter 0 [.ref t, .int p0] [] h Q := by
  refine zX_seg (pc' := 1) (L' := [.ref t, .int p0]) (st' := [.int p0]) (h2 := h) rfl rfl (fun C Cr hc kk => x_iload_n C rfl dX10_hasVoter_0 (kk)) ?_
  refine zX_br (p1 := 16) (p2 := 4) (st' := []) (p0 < 0) (fun C kt kf => x_if_lt C 16 dX10_hasVoter_1 (by decide) kt kf) (fun q1 => ?_) (fun q1 => ?_)
  · have H := H.1 q1
    refine zX_seg (pc' := 17) (L' := [.ref t, .int p0]) (st' := [.int (0 : Int32)]) (h2 := h) rfl rfl (fun C Cr hc kk => x_iconst C (0 : Int32) (by decide) dX10_hasVoter_16 (kk)) ?_
    exact zX_ret (some (.int (0 : Int32))) (fun C Cr hc => x_iret C Cr rfl rfl hc dX10_hasVoter_17 ⟨rfl, rfl⟩) H
  · have H := H.2 q1
    obtain ⟨g2, H⟩ := H
    refine zX_seg (pc' := 9) (L' := [.ref t, .int p0]) (st' := [.int (gI h t 8), .int p0]) (h2 := h) rfl rfl (fun C Cr hc kk => x_iload_n C rfl dX10_hasVoter_4 (x_aload_n C (v := .ref t) rfl rfl dX10_hasVoter_5 (f_getI C lX10_41 g2 rfl dX10_hasVoter_6 (kk)))) ?_
    refine zX_br (p1 := 16) (p2 := 12) (st' := []) ((gI h t 8) ≤ p0) (fun C kt kf => x_icmp_ge C 16 dX10_hasVoter_9 (by decide) kt kf) (fun q3 => ?_) (fun q3 => ?_)
    · have H := H.1 q3
      refine zX_seg (pc' := 17) (L' := [.ref t, .int p0]) (st' := [.int (0 : Int32)]) (h2 := h) rfl rfl (fun C Cr hc kk => x_iconst C (0 : Int32) (by decide) dX10_hasVoter_16 (kk)) ?_
      exact zX_ret (some (.int (0 : Int32))) (fun C Cr hc => x_iret C Cr rfl rfl hc dX10_hasVoter_17 ⟨rfl, rfl⟩) H
    · have H := H.2 q3
      refine zX_seg (pc' := 17) (L' := [.ref t, .int p0]) (st' := [.int (1 : Int32)]) (h2 := h) rfl rfl (fun C Cr hc kk => x_iconst C (1 : Int32) (by decide) dX10_hasVoter_12 (x_goto C 17 dX10_hasVoter_13 (by decide) (kk))) ?_
      exact zX_ret (some (.int (1 : Int32))) (fun C Cr hc => x_iret C Cr rfl rfl hc dX10_hasVoter_17 ⟨rfl, rfl⟩) H
theorem nX10_hasVoter (t : Nat) (p0 : Int32) (h : zH) (Q : Option Value → zH → Prop) (H : zX mX10_hasVoter 0 [.ref t, .int p0] [] h Q) : zC mX10_hasVoter [.ref t, .int p0] h Q := zC_of (by decide +kernel) (by simp) (Nat.le_of_ble_eq_true rfl) H
theorem bX10_hasMark_0 (t : Nat) (p0 : Int32) (h : zH) (Q : Option Value → zH → Prop) (H : (p0 < 0 → (Q (some (.int (0 : Int32))) h)) ∧ (¬ (p0 < 0) → (oK h t 10 ∧ (((gI h t 6) < p0 → (Q (some (.int (0 : Int32))) h)) ∧ (¬ ((gI h t 6) < p0) → (Q (some (.int (1 : Int32))) h)))))) : zX mX10_hasMark 0 [.ref t, .int p0] [] h Q := by
  refine zX_seg (pc' := 1) (L' := [.ref t, .int p0]) (st' := [.int p0]) (h2 := h) rfl rfl (fun C Cr hc kk => x_iload_n C rfl dX10_hasMark_0 (kk)) ?_
  refine zX_br (p1 := 16) (p2 := 4) (st' := []) (p0 < 0) (fun C kt kf => x_if_lt C 16 dX10_hasMark_1 (by decide) kt kf) (fun q1 => ?_) (fun q1 => ?_)
  · have H := H.1 q1
    refine zX_seg (pc' := 17) (L' := [.ref t, .int p0]) (st' := [.int (0 : Int32)]) (h2 := h) rfl rfl (fun C Cr hc kk => x_iconst C (0 : Int32) (by decide) dX10_hasMark_16 (kk)) ?_
    exact zX_ret (some (.int (0 : Int32))) (fun C Cr hc => x_iret C Cr rfl rfl hc dX10_hasMark_17 ⟨rfl, rfl⟩) H
  · have H := H.2 q1
    obtain ⟨g2, H⟩ := H
    refine zX_seg (pc' := 9) (L' := [.ref t, .int p0]) (st' := [.int (gI h t 6), .int p0]) (h2 := h) rfl rfl (fun C Cr hc kk => x_iload_n C rfl dX10_hasMark_4 (x_aload_n C (v := .ref t) rfl rfl dX10_hasMark_5 (f_getI C lX10_34 g2 rfl dX10_hasMark_6 (kk)))) ?_
    refine zX_br (p1 := 16) (p2 := 12) (st' := []) ((gI h t 6) < p0) (fun C kt kf => x_icmp_gt C 16 dX10_hasMark_9 (by decide) kt kf) (fun q3 => ?_) (fun q3 => ?_)
    · have H := H.1 q3
      refine zX_seg (pc' := 17) (L' := [.ref t, .int p0]) (st' := [.int (0 : Int32)]) (h2 := h) rfl rfl (fun C Cr hc kk => x_iconst C (0 : Int32) (by decide) dX10_hasMark_16 (kk)) ?_
      exact zX_ret (some (.int (0 : Int32))) (fun C Cr hc => x_iret C Cr rfl rfl hc dX10_hasMark_17 ⟨rfl, rfl⟩) H
    · have H := H.2 q3
      refine zX_seg (pc' := 17) (L' := [.ref t, .int p0]) (st' := [.int (1 : Int32)]) (h2 := h) rfl rfl (fun C Cr hc kk => x_iconst C (1 : Int32) (by decide) dX10_hasMark_12 (x_goto C 17 dX10_hasMark_13 (by decide) (kk))) ?_
      exact zX_ret (some (.int (1 : Int32))) (fun C Cr hc => x_iret C Cr rfl rfl hc dX10_hasMark_17 ⟨rfl, rfl⟩) H
theorem nX10_hasMark (t : Nat) (p0 : Int32) (h : zH) (Q : Option Value → zH → Prop) (H : zX mX10_hasMark 0 [.ref t, .int p0] [] h Q) : zC mX10_hasMark [.ref t, .int p0] h Q := zC_of (by decide +kernel) (by simp) (Nat.le_of_ble_eq_true rfl) H
theorem bX10_shiftOf_0 (t : Nat) (p0 : Int32) (h : zH) (Q : Option Value → zH → Prop) (H : oK h t 10 ∧ (Q (some (.int ((2 : Int32) * (((gI h t 8) - (1 : Int32)) - p0)))) h)) : zX mX10_shiftOf 0 [.ref t, .int p0] [] h Q := by
  obtain ⟨g1, H⟩ := H
  refine zX_seg (pc' := 10) (L' := [.ref t, .int p0]) (st' := [.int ((2 : Int32) * (((gI h t 8) - (1 : Int32)) - p0))]) (h2 := h) rfl rfl (fun C Cr hc kk => x_iconst C (2 : Int32) (by decide) dX10_shiftOf_0 (x_aload_n C (v := .ref t) rfl rfl dX10_shiftOf_1 (f_getI C lX10_41 g1 rfl dX10_shiftOf_2 (x_iconst C (1 : Int32) (by decide) dX10_shiftOf_5 (x_isub C dX10_shiftOf_6 (x_iload_n C rfl dX10_shiftOf_7 (x_isub C dX10_shiftOf_8 (x_imul C dX10_shiftOf_9 (kk))))))))) ?_
  exact zX_ret (some (.int ((2 : Int32) * (((gI h t 8) - (1 : Int32)) - p0)))) (fun C Cr hc => x_iret C Cr rfl rfl hc dX10_shiftOf_10 ⟨rfl, rfl⟩) H
theorem nX10_shiftOf (t : Nat) (p0 : Int32) (h : zH) (Q : Option Value → zH → Prop) (H : zX mX10_shiftOf 0 [.ref t, .int p0] [] h Q) : zC mX10_shiftOf [.ref t, .int p0] h Q := zC_of (by decide +kernel) (by simp) (Nat.le_of_ble_eq_true rfl) H
theorem bX10_markOf_0 (t : Nat) (p0 : Int32) (p1 : Int32) (h : zH) (Q : Option Value → zH → Prop) (H : oK h t 10 ∧ (zC mX10_shiftOf [.ref t, .int p1] h (fun r0 h2 => ∃ x3 : Int32, r0 = some (.int x3) ∧ (Q (some (.int ((p0 >>> (x3 &&& 31)) &&& (3 : Int32)))) h2)))) : zX mX10_markOf 0 [.ref t, .int p0, .int p1] [] h Q := by
  refine zX_seg (pc' := 3) (L' := [.ref t, .int p0, .int p1]) (st' := [.int p1, .ref t, .int p0]) (h2 := h) rfl rfl (fun C Cr hc kk => x_iload_n C rfl dX10_markOf_0 (x_aload_n C (v := .ref t) rfl rfl dX10_markOf_1 (x_iload_n C rfl dX10_markOf_2 (kk)))) ?_
  obtain ⟨g1, H⟩ := H
  refine zX_call (as := [.ref t, .int p1]) (st := [.int p0]) (fun C hM hc kk => f_callV C [.int p1] hM kX10_shiftOf vX10_shiftOf lX10_59 ⟨by decide, by decide⟩ (rfl : vwCl[10]? = some (RX10, TX10, 10)) g1 rfl hc (Nat.le_of_ble_eq_true rfl) rfl dX10_markOf_3 kk) (zC.mono H ?_)
  rintro r0 h2 ⟨x3, rfl, H⟩
  show zX mX10_markOf 6 [.ref t, .int p0, .int p1] [.int x3, .int p0] h2 Q
  refine zX_seg (pc' := 9) (L' := [.ref t, .int p0, .int p1]) (st' := [.int ((p0 >>> (x3 &&& 31)) &&& (3 : Int32))]) (h2 := h2) rfl rfl (fun C Cr hc kk => x_ishr C dX10_markOf_6 (x_iconst C (3 : Int32) (by decide) dX10_markOf_7 (x_iand C dX10_markOf_8 (kk)))) ?_
  exact zX_ret (some (.int ((p0 >>> (x3 &&& 31)) &&& (3 : Int32)))) (fun C Cr hc => x_iret C Cr rfl rfl hc dX10_markOf_9 ⟨rfl, rfl⟩) H
theorem nX10_markOf (t : Nat) (p0 : Int32) (p1 : Int32) (h : zH) (Q : Option Value → zH → Prop) (H : zX mX10_markOf 0 [.ref t, .int p0, .int p1] [] h Q) : zC mX10_markOf [.ref t, .int p0, .int p1] h Q := zC_of (by decide +kernel) (by simp) (Nat.le_of_ble_eq_true rfl) H
theorem bX10_withMark_0 (t : Nat) (p0 : Int32) (p1 : Int32) (p2 : Int32) (h : zH) (Q : Option Value → zH → Prop) (H : oK h t 10 ∧ (zC mX10_shiftOf [.ref t, .int p1] h (fun r0 h2 => ∃ x3 : Int32, r0 = some (.int x3) ∧ (oK h2 t 10 ∧ (zC mX10_shiftOf [.ref t, .int p1] h2 (fun r0 h5 => ∃ x6 : Int32, r0 = some (.int x6) ∧ (Q (some (.int ((p0 &&& (((3 : Int32) <<< (x3 &&& 31)) ^^^ (-1 : Int32))) ||| (p2 <<< (x6 &&& 31))))) h5))))))) : zX mX10_withMark 0 [.ref t, .int p0, .int p1, .int p2] [] h Q := by
  refine zX_seg (pc' := 4) (L' := [.ref t, .int p0, .int p1, .int p2]) (st' := [.int p1, .ref t, .int (3 : Int32), .int p0]) (h2 := h) rfl rfl (fun C Cr hc kk => x_iload_n C rfl dX10_withMark_0 (x_iconst C (3 : Int32) (by decide) dX10_withMark_1 (x_aload_n C (v := .ref t) rfl rfl dX10_withMark_2 (x_iload_n C rfl dX10_withMark_3 (kk))))) ?_
  obtain ⟨g1, H⟩ := H
  refine zX_call (as := [.ref t, .int p1]) (st := [.int (3 : Int32), .int p0]) (fun C hM hc kk => f_callV C [.int p1] hM kX10_shiftOf vX10_shiftOf lX10_59 ⟨by decide, by decide⟩ (rfl : vwCl[10]? = some (RX10, TX10, 10)) g1 rfl hc (Nat.le_of_ble_eq_true rfl) rfl dX10_withMark_4 kk) (zC.mono H ?_)
  rintro r0 h2 ⟨x3, rfl, H⟩
  show zX mX10_withMark 7 [.ref t, .int p0, .int p1, .int p2] [.int x3, .int (3 : Int32), .int p0] h2 Q
  refine zX_seg (pc' := 14) (L' := [.ref t, .int p0, .int p1, .int p2]) (st' := [.int p1, .ref t, .int p2, .int (p0 &&& (((3 : Int32) <<< (x3 &&& 31)) ^^^ (-1 : Int32)))]) (h2 := h2) rfl rfl (fun C Cr hc kk => x_ishl C dX10_withMark_7 (x_iconst C (-1 : Int32) (by decide) dX10_withMark_8 (x_ixor C dX10_withMark_9 (x_iand C dX10_withMark_10 (x_iload_n C rfl dX10_withMark_11 (x_aload_n C (v := .ref t) rfl rfl dX10_withMark_12 (x_iload_n C rfl dX10_withMark_13 (kk)))))))) ?_
  obtain ⟨g4, H⟩ := H
  refine zX_call (as := [.ref t, .int p1]) (st := [.int p2, .int (p0 &&& (((3 : Int32) <<< (x3 &&& 31)) ^^^ (-1 : Int32)))]) (fun C hM hc kk => f_callV C [.int p1] hM kX10_shiftOf vX10_shiftOf lX10_59 ⟨by decide, by decide⟩ (rfl : vwCl[10]? = some (RX10, TX10, 10)) g4 rfl hc (Nat.le_of_ble_eq_true rfl) rfl dX10_withMark_14 kk) (zC.mono H ?_)
  rintro r0 h5 ⟨x6, rfl, H⟩
  show zX mX10_withMark 17 [.ref t, .int p0, .int p1, .int p2] [.int x6, .int p2, .int (p0 &&& (((3 : Int32) <<< (x3 &&& 31)) ^^^ (-1 : Int32)))] h5 Q
  refine zX_seg (pc' := 19) (L' := [.ref t, .int p0, .int p1, .int p2]) (st' := [.int ((p0 &&& (((3 : Int32) <<< (x3 &&& 31)) ^^^ (-1 : Int32))) ||| (p2 <<< (x6 &&& 31)))]) (h2 := h5) rfl rfl (fun C Cr hc kk => x_ishl C dX10_withMark_17 (x_ior C dX10_withMark_18 (kk))) ?_
  exact zX_ret (some (.int ((p0 &&& (((3 : Int32) <<< (x3 &&& 31)) ^^^ (-1 : Int32))) ||| (p2 <<< (x6 &&& 31))))) (fun C Cr hc => x_iret C Cr rfl rfl hc dX10_withMark_19 ⟨rfl, rfl⟩) H
theorem nX10_withMark (t : Nat) (p0 : Int32) (p1 : Int32) (p2 : Int32) (h : zH) (Q : Option Value → zH → Prop) (H : zX mX10_withMark 0 [.ref t, .int p0, .int p1, .int p2] [] h Q) : zC mX10_withMark [.ref t, .int p0, .int p1, .int p2] h Q := zC_of (by decide +kernel) (by simp) (Nat.le_of_ble_eq_true rfl) H
theorem bX10_canBe_0 (t : Nat) (p0 : Int32) (h : zH) (Q : Option Value → zH → Prop) (H : oK h t 10 ∧ (((gI h t 6) = 0 → (zX mX10_canBe 32 [.float 0, .int p0] [] h Q)) ∧ (((gI h t 6) = 1 → (zX mX10_canBe 42 [.float 0, .int p0] [] h Q)) ∧ (((gI h t 6) = 2 → (zX mX10_canBe 55 [.float 0, .int p0] [] h Q)) ∧ (¬ (gI h t 6) = 0 → ¬ (gI h t 6) = 1 → ¬ (gI h t 6) = 2 → (zX mX10_canBe 73 [.float 0, .float 0] [] h Q)))))) : zX mX10_canBe 0 [.ref t, .int p0] [] h Q := by
  obtain ⟨g1, H⟩ := H
  refine zX_seg (pc' := (ztt 4 69 0 2 [28, 38, 51] (gI h t 6))) (L' := [.ref t, .int p0]) (st' := []) (h2 := h) rfl rfl (fun C Cr hc kk => x_aload_n C (v := .ref t) rfl rfl dX10_canBe_0 (f_getI C lX10_34 g1 rfl dX10_canBe_1 (f_table C ⟨⟨by decide, by decide⟩, by decide⟩ dX10_canBe_4 (kk)))) ?_
  by_cases z2 : (gI h t 6) = 0
  · have H := H.1 z2
    rw [show (ztt 4 69 0 2 [28, 38, 51] (gI h t 6)) = 32 from by rw [z2]; decide]
    exact zX_wk (wkD (wkK wkN)) H
  · have H := H.2
    by_cases z3 : (gI h t 6) = 1
    · have H := H.1 z3
      rw [show (ztt 4 69 0 2 [28, 38, 51] (gI h t 6)) = 42 from by rw [z3]; decide]
      exact zX_wk (wkD (wkK wkN)) H
    · have H := H.2
      by_cases z4 : (gI h t 6) = 2
      · have H := H.1 z4
        rw [show (ztt 4 69 0 2 [28, 38, 51] (gI h t 6)) = 55 from by rw [z4]; decide]
        exact zX_wk (wkD (wkK wkN)) H
      · have H := H.2
        rw [show (ztt 4 69 0 2 [28, 38, 51] (gI h t 6)) = 73 from (ztt_d [0, 1, 2] (by decide) (by decide) (List.forall_mem_cons.mpr ⟨z2, (List.forall_mem_cons.mpr ⟨z3, (List.forall_mem_cons.mpr ⟨z4, (fun _ h => absurd h List.not_mem_nil)⟩)⟩)⟩)).trans (by decide)]
        have H := H z2 z3 z4
        exact zX_wk (wkD (wkD wkN)) H
theorem bX10_canBe_32 (l1 : Int32) (h : zH) (Q : Option Value → zH → Prop) (H : (l1 = 0 → (Q (some (.int (1 : Int32))) h)) ∧ (¬ (l1 = 0) → (Q (some (.int (0 : Int32))) h))) : zX mX10_canBe 32 [.float 0, .int l1] [] h Q := by
  refine zX_seg (pc' := 33) (L' := [.float 0, .int l1]) (st' := [.int l1]) (h2 := h) rfl rfl (fun C Cr hc kk => x_iload_n C rfl dX10_canBe_32 (kk)) ?_
  refine zX_br (p1 := 36) (p2 := 40) (st' := []) (l1 = 0) (fun C kt kf => x_if_ne C 40 dX10_canBe_33 (by decide) kf kt) (fun q1 => ?_) (fun q1 => ?_)
  · have H := H.1 q1
    refine zX_seg (pc' := 41) (L' := [.float 0, .int l1]) (st' := [.int (1 : Int32)]) (h2 := h) rfl rfl (fun C Cr hc kk => x_iconst C (1 : Int32) (by decide) dX10_canBe_36 (x_goto C 41 dX10_canBe_37 (by decide) (kk))) ?_
    exact zX_ret (some (.int (1 : Int32))) (fun C Cr hc => x_iret C Cr rfl rfl hc dX10_canBe_41 ⟨rfl, rfl⟩) H
  · have H := H.2 q1
    refine zX_seg (pc' := 41) (L' := [.float 0, .int l1]) (st' := [.int (0 : Int32)]) (h2 := h) rfl rfl (fun C Cr hc kk => x_iconst C (0 : Int32) (by decide) dX10_canBe_40 (kk)) ?_
    exact zX_ret (some (.int (0 : Int32))) (fun C Cr hc => x_iret C Cr rfl rfl hc dX10_canBe_41 ⟨rfl, rfl⟩) H
theorem bX10_canBe_42 (l1 : Int32) (h : zH) (Q : Option Value → zH → Prop) (H : ((l1 &&& (43690 : Int32)) = 0 → (Q (some (.int (1 : Int32))) h)) ∧ (¬ ((l1 &&& (43690 : Int32)) = 0) → (Q (some (.int (0 : Int32))) h))) : zX mX10_canBe 42 [.float 0, .int l1] [] h Q := by
  refine zX_seg (pc' := 46) (L' := [.float 0, .int l1]) (st' := [.int (l1 &&& (43690 : Int32))]) (h2 := h) rfl rfl (fun C Cr hc kk => x_iload_n C rfl dX10_canBe_42 (x_ldc C lX10_63 dX10_canBe_43 (x_iand C dX10_canBe_45 (kk)))) ?_
  refine zX_br (p1 := 49) (p2 := 53) (st' := []) ((l1 &&& (43690 : Int32)) = 0) (fun C kt kf => x_if_ne C 53 dX10_canBe_46 (by decide) kf kt) (fun q1 => ?_) (fun q1 => ?_)
  · have H := H.1 q1
    refine zX_seg (pc' := 54) (L' := [.float 0, .int l1]) (st' := [.int (1 : Int32)]) (h2 := h) rfl rfl (fun C Cr hc kk => x_iconst C (1 : Int32) (by decide) dX10_canBe_49 (x_goto C 54 dX10_canBe_50 (by decide) (kk))) ?_
    exact zX_ret (some (.int (1 : Int32))) (fun C Cr hc => x_iret C Cr rfl rfl hc dX10_canBe_54 ⟨rfl, rfl⟩) H
  · have H := H.2 q1
    refine zX_seg (pc' := 54) (L' := [.float 0, .int l1]) (st' := [.int (0 : Int32)]) (h2 := h) rfl rfl (fun C Cr hc kk => x_iconst C (0 : Int32) (by decide) dX10_canBe_53 (kk)) ?_
    exact zX_ret (some (.int (0 : Int32))) (fun C Cr hc => x_iret C Cr rfl rfl hc dX10_canBe_54 ⟨rfl, rfl⟩) H
theorem bX10_canBe_55 (l1 : Int32) (h : zH) (Q : Option Value → zH → Prop) (H : (((l1 &&& (l1 >>> ((1 : Int32) &&& 31))) &&& (21845 : Int32)) = 0 → (Q (some (.int (1 : Int32))) h)) ∧ (¬ (((l1 &&& (l1 >>> ((1 : Int32) &&& 31))) &&& (21845 : Int32)) = 0) → (Q (some (.int (0 : Int32))) h))) : zX mX10_canBe 55 [.float 0, .int l1] [] h Q := by
  refine zX_seg (pc' := 64) (L' := [.float 0, .int l1]) (st' := [.int ((l1 &&& (l1 >>> ((1 : Int32) &&& 31))) &&& (21845 : Int32))]) (h2 := h) rfl rfl (fun C Cr hc kk => x_iload_n C rfl dX10_canBe_55 (x_iload_n C rfl dX10_canBe_56 (x_iconst C (1 : Int32) (by decide) dX10_canBe_57 (x_ishr C dX10_canBe_58 (x_iand C dX10_canBe_59 (x_sipush C (21845 : Int32) (by decide) dX10_canBe_60 (x_iand C dX10_canBe_63 (kk)))))))) ?_
  refine zX_br (p1 := 67) (p2 := 71) (st' := []) (((l1 &&& (l1 >>> ((1 : Int32) &&& 31))) &&& (21845 : Int32)) = 0) (fun C kt kf => x_if_ne C 71 dX10_canBe_64 (by decide) kf kt) (fun q1 => ?_) (fun q1 => ?_)
  · have H := H.1 q1
    refine zX_seg (pc' := 72) (L' := [.float 0, .int l1]) (st' := [.int (1 : Int32)]) (h2 := h) rfl rfl (fun C Cr hc kk => x_iconst C (1 : Int32) (by decide) dX10_canBe_67 (x_goto C 72 dX10_canBe_68 (by decide) (kk))) ?_
    exact zX_ret (some (.int (1 : Int32))) (fun C Cr hc => x_iret C Cr rfl rfl hc dX10_canBe_72 ⟨rfl, rfl⟩) H
  · have H := H.2 q1
    refine zX_seg (pc' := 72) (L' := [.float 0, .int l1]) (st' := [.int (0 : Int32)]) (h2 := h) rfl rfl (fun C Cr hc kk => x_iconst C (0 : Int32) (by decide) dX10_canBe_71 (kk)) ?_
    exact zX_ret (some (.int (0 : Int32))) (fun C Cr hc => x_iret C Cr rfl rfl hc dX10_canBe_72 ⟨rfl, rfl⟩) H
theorem bX10_canBe_73  (h : zH) (Q : Option Value → zH → Prop) (H : Q (some (.int (1 : Int32))) h) : zX mX10_canBe 73 [.float 0, .float 0] [] h Q := by
  refine zX_seg (pc' := 74) (L' := [.float 0, .float 0]) (st' := [.int (1 : Int32)]) (h2 := h) rfl rfl (fun C Cr hc kk => x_iconst C (1 : Int32) (by decide) dX10_canBe_73 (kk)) ?_
  exact zX_ret (some (.int (1 : Int32))) (fun C Cr hc => x_iret C Cr rfl rfl hc dX10_canBe_74 ⟨rfl, rfl⟩) H
theorem nX10_canBe (t : Nat) (p0 : Int32) (h : zH) (Q : Option Value → zH → Prop) (H : zX mX10_canBe 0 [.ref t, .int p0] [] h Q) : zC mX10_canBe [.ref t, .int p0] h Q := zC_of (by decide +kernel) (by simp) (Nat.le_of_ble_eq_true rfl) H
theorem bX10_bitsInRows_0 (t : Nat) (p0 : Int32) (h : zH) (Q : Option Value → zH → Prop) (H : zX mX10_bitsInRows 4 [.ref t, .int p0, .int (0 : Int32), .int (0 : Int32)] [] h Q) : zX mX10_bitsInRows 0 [.ref t, .int p0, .float 0, .float 0] [] h Q := by
  refine zX_seg (pc' := 4) (L' := [.ref t, .int p0, .int (0 : Int32), .int (0 : Int32)]) (st' := []) (h2 := h) rfl rfl (fun C Cr hc kk => x_iconst C (0 : Int32) (by decide) dX10_bitsInRows_0 (x_istore_n C (by decide) dX10_bitsInRows_1 (x_iconst C (0 : Int32) (by decide) dX10_bitsInRows_2 (x_istore_n C (by decide) dX10_bitsInRows_3 (kk))))) ?_
  exact zX_wk (wkK (wkK (wkK (wkK wkN)))) H
theorem bX10_bitsInRows_4 (l0 : Nat) (l1 : Int32) (l2 : Int32) (l3 : Int32) (h : zH) (Q : Option Value → zH → Prop) (H : oK h l0 10 ∧ (((gI h l0 8) ≤ l3 → (Q (some (.int l2)) h)) ∧ (¬ ((gI h l0 8) ≤ l3) → ((((l1 >>> (l3 &&& 31)) &&& (1 : Int32)) = (1 : Int32) → (zC mX10_shiftOf [.ref l0, .int l3] h (fun r0 h4 => ∃ x5 : Int32, r0 = some (.int x5) ∧ (zX mX10_bitsInRows 4 [.ref l0, .int l1, .int (l2 ||| ((3 : Int32) <<< (x5 &&& 31))), .int (l3 + 1)] [] h4 Q)))) ∧ (¬ (((l1 >>> (l3 &&& 31)) &&& (1 : Int32)) = (1 : Int32)) → (zX mX10_bitsInRows 4 [.ref l0, .int l1, .int l2, .int (l3 + 1)] [] h Q)))))) : zX mX10_bitsInRows 4 [.ref l0, .int l1, .int l2, .int l3] [] h Q := by
  obtain ⟨g1, H⟩ := H
  refine zX_seg (pc' := 9) (L' := [.ref l0, .int l1, .int l2, .int l3]) (st' := [.int (gI h l0 8), .int l3]) (h2 := h) rfl rfl (fun C Cr hc kk => x_iload_n C rfl dX10_bitsInRows_4 (x_aload_n C (v := .ref l0) rfl rfl dX10_bitsInRows_5 (f_getI C lX10_41 g1 rfl dX10_bitsInRows_6 (kk)))) ?_
  refine zX_br (p1 := 37) (p2 := 12) (st' := []) ((gI h l0 8) ≤ l3) (fun C kt kf => x_icmp_ge C 37 dX10_bitsInRows_9 (by decide) kt kf) (fun q2 => ?_) (fun q2 => ?_)
  · have H := H.1 q2
    refine zX_seg (pc' := 38) (L' := [.ref l0, .int l1, .int l2, .int l3]) (st' := [.int l2]) (h2 := h) rfl rfl (fun C Cr hc kk => x_iload_n C rfl dX10_bitsInRows_37 (kk)) ?_
    exact zX_ret (some (.int l2)) (fun C Cr hc => x_iret C Cr rfl rfl hc dX10_bitsInRows_38 ⟨rfl, rfl⟩) H
  · have H := H.2 q2
    refine zX_seg (pc' := 18) (L' := [.ref l0, .int l1, .int l2, .int l3]) (st' := [.int (1 : Int32), .int ((l1 >>> (l3 &&& 31)) &&& (1 : Int32))]) (h2 := h) rfl rfl (fun C Cr hc kk => x_iload_n C rfl dX10_bitsInRows_12 (x_iload_n C rfl dX10_bitsInRows_13 (x_ishr C dX10_bitsInRows_14 (x_iconst C (1 : Int32) (by decide) dX10_bitsInRows_15 (x_iand C dX10_bitsInRows_16 (x_iconst C (1 : Int32) (by decide) dX10_bitsInRows_17 (kk))))))) ?_
    refine zX_br (p1 := 21) (p2 := 31) (st' := []) (((l1 >>> (l3 &&& 31)) &&& (1 : Int32)) = (1 : Int32)) (fun C kt kf => x_icmp_ne C 31 dX10_bitsInRows_18 (by decide) kf kt) (fun q3 => ?_) (fun q3 => ?_)
    · have H := H.1 q3
      refine zX_seg (pc' := 25) (L' := [.ref l0, .int l1, .int l2, .int l3]) (st' := [.int l3, .ref l0, .int (3 : Int32), .int l2]) (h2 := h) rfl rfl (fun C Cr hc kk => x_iload_n C rfl dX10_bitsInRows_21 (x_iconst C (3 : Int32) (by decide) dX10_bitsInRows_22 (x_aload_n C (v := .ref l0) rfl rfl dX10_bitsInRows_23 (x_iload_n C rfl dX10_bitsInRows_24 (kk))))) ?_
      refine zX_call (as := [.ref l0, .int l3]) (st := [.int (3 : Int32), .int l2]) (fun C hM hc kk => f_callV C [.int l3] hM kX10_shiftOf vX10_shiftOf lX10_59 ⟨by decide, by decide⟩ (rfl : vwCl[10]? = some (RX10, TX10, 10)) g1 rfl hc (Nat.le_of_ble_eq_true rfl) rfl dX10_bitsInRows_25 kk) (zC.mono H ?_)
      rintro r0 h4 ⟨x5, rfl, H⟩
      show zX mX10_bitsInRows 28 [.ref l0, .int l1, .int l2, .int l3] [.int x5, .int (3 : Int32), .int l2] h4 Q
      refine zX_seg (pc' := 4) (L' := [.ref l0, .int l1, .int (l2 ||| ((3 : Int32) <<< (x5 &&& 31))), .int (l3 + 1)]) (st' := []) (h2 := h4) rfl rfl (fun C Cr hc kk => x_ishl C dX10_bitsInRows_28 (x_ior C dX10_bitsInRows_29 (x_istore_n C (by decide) dX10_bitsInRows_30 (x_iinc C (l3 + 1) rfl (congrArg (HAdd.hAdd _) (by decide)) (by decide) dX10_bitsInRows_31 (x_goto C 4 dX10_bitsInRows_34 (by decide) (kk)))))) ?_
      exact zX_wk (wkK (wkK (wkK (wkK wkN)))) H
    · have H := H.2 q3
      refine zX_seg (pc' := 4) (L' := [.ref l0, .int l1, .int l2, .int (l3 + 1)]) (st' := []) (h2 := h) rfl rfl (fun C Cr hc kk => x_iinc C (l3 + 1) rfl (congrArg (HAdd.hAdd _) (by decide)) (by decide) dX10_bitsInRows_31 (x_goto C 4 dX10_bitsInRows_34 (by decide) (kk))) ?_
      exact zX_wk (wkK (wkK (wkK (wkK wkN)))) H
theorem nX10_bitsInRows (t : Nat) (p0 : Int32) (h : zH) (Q : Option Value → zH → Prop) (H : zX mX10_bitsInRows 0 [.ref t, .int p0, .float 0, .float 0] [] h Q) : zC mX10_bitsInRows [.ref t, .int p0] h Q := zC_of (by decide +kernel) (by simp) (Nat.le_of_ble_eq_true rfl) H
theorem bX10_looksOf_0 (t : Nat) (p0 : Int32) (p1 : Nat) (h : zH) (Q : Option Value → zH → Prop) (H : oK h p1 0 ∧ (zX mX10_looksOf 8 [.ref t, .int p0, .ref p1, .int (gI h p1 2), .int (0 : Int32), .float 0] [] h Q)) : zX mX10_looksOf 0 [.ref t, .int p0, .ref p1, .float 0, .float 0, .float 0] [] h Q := by
  obtain ⟨g1, H⟩ := H
  refine zX_seg (pc' := 8) (L' := [.ref t, .int p0, .ref p1, .int (gI h p1 2), .int (0 : Int32), .float 0]) (st' := []) (h2 := h) rfl rfl (fun C Cr hc kk => x_aload_n C (v := .ref p1) rfl rfl dX10_looksOf_0 (f_getIN C lX10_64 g1 rfl dX10_looksOf_1 (x_istore_n C (by decide) dX10_looksOf_4 (x_iconst C (0 : Int32) (by decide) dX10_looksOf_5 (x_istore C (by decide) dX10_looksOf_6 (kk)))))) ?_
  exact zX_wk (wkK (wkK (wkK (wkK (wkK (wkD wkN)))))) H
theorem bX10_looksOf_8 (l0 : Nat) (l1 : Int32) (l2 : Nat) (l3 : Int32) (l4 : Int32) (h : zH) (Q : Option Value → zH → Prop) (H : oK h l0 10 ∧ (((gI h l0 8) ≤ l4 → (Q (some (.int (l3 &&& (((1 : Int32) <<< (l1 &&& 31)) ^^^ (-1 : Int32))))) h)) ∧ (¬ ((gI h l0 8) ≤ l4) → (∃ a3 : Nat, gR h l0 3 = some a3 ∧ (zC mX11_at [.ref a3, .int l4] h (fun r0 h4 => ∃ x5 : Int32, r0 = some (.int x5) ∧ (oK h4 l2 0 ∧ ((((gI h4 l2 3) &&& ((1 : Int32) ||| ((1 : Int32) <<< ((x5 + (1 : Int32)) &&& 31)))) = 0 → (zX mX10_looksOf 8 [.ref l0, .int l1, .ref l2, .int l3, .int (l4 + 1), .float 0] [] h4 Q)) ∧ (¬ (((gI h4 l2 3) &&& ((1 : Int32) ||| ((1 : Int32) <<< ((x5 + (1 : Int32)) &&& 31)))) = 0) → (zX mX10_looksOf 8 [.ref l0, .int l1, .ref l2, .int (l3 ||| ((1 : Int32) <<< (l4 &&& 31))), .int (l4 + 1), .float 0] [] h4 Q)))))))))) : zX mX10_looksOf 8 [.ref l0, .int l1, .ref l2, .int l3, .int l4, .float 0] [] h Q := by
  obtain ⟨g1, H⟩ := H
  refine zX_seg (pc' := 14) (L' := [.ref l0, .int l1, .ref l2, .int l3, .int l4, .float 0]) (st' := [.int (gI h l0 8), .int l4]) (h2 := h) rfl rfl (fun C Cr hc kk => x_iload C rfl dX10_looksOf_8 (x_aload_n C (v := .ref l0) rfl rfl dX10_looksOf_10 (f_getI C lX10_41 g1 rfl dX10_looksOf_11 (kk)))) ?_
  refine zX_br (p1 := 57) (p2 := 17) (st' := []) ((gI h l0 8) ≤ l4) (fun C kt kf => x_icmp_ge C 57 dX10_looksOf_14 (by decide) kt kf) (fun q2 => ?_) (fun q2 => ?_)
  · have H := H.1 q2
    refine zX_seg (pc' := 64) (L' := [.ref l0, .int l1, .ref l2, .int l3, .int l4, .float 0]) (st' := [.int (l3 &&& (((1 : Int32) <<< (l1 &&& 31)) ^^^ (-1 : Int32)))]) (h2 := h) rfl rfl (fun C Cr hc kk => x_iload_n C rfl dX10_looksOf_57 (x_iconst C (1 : Int32) (by decide) dX10_looksOf_58 (x_iload_n C rfl dX10_looksOf_59 (x_ishl C dX10_looksOf_60 (x_iconst C (-1 : Int32) (by decide) dX10_looksOf_61 (x_ixor C dX10_looksOf_62 (x_iand C dX10_looksOf_63 (kk)))))))) ?_
    exact zX_ret (some (.int (l3 &&& (((1 : Int32) <<< (l1 &&& 31)) ^^^ (-1 : Int32))))) (fun C Cr hc => x_iret C Cr rfl rfl hc dX10_looksOf_64 ⟨rfl, rfl⟩) H
  · have H := H.2 q2
    obtain ⟨a3, ea3, H⟩ := H
    refine zX_seg (pc' := 25) (L' := [.ref l0, .int l1, .ref l2, .int l3, .int l4, .float 0]) (st' := [.int l4, .ref a3, .int (1 : Int32), .int (1 : Int32)]) (h2 := h) rfl rfl (fun C Cr hc kk => x_iconst C (1 : Int32) (by decide) dX10_looksOf_17 (x_iconst C (1 : Int32) (by decide) dX10_looksOf_18 (x_aload_n C (v := .ref l0) rfl rfl dX10_looksOf_19 (f_getR1 C lX10_21 g1 rfl ea3 dX10_looksOf_20 (x_iload C rfl dX10_looksOf_23 (kk)))))) ?_
    refine zX_call (as := [.ref a3, .int l4]) (st := [.int (1 : Int32), .int (1 : Int32)]) (fun C hM hc kk => x_callSN C [.ref a3, .int l4] hM kX11_at sX11_at lX10_47 ⟨by decide, by decide⟩ rfl hc (Nat.le_of_ble_eq_true rfl) rfl dX10_looksOf_25 kk) (zC.mono H ?_)
    rintro r0 h4 ⟨x5, rfl, H⟩
    show zX mX10_looksOf 28 [.ref l0, .int l1, .ref l2, .int l3, .int l4, .float 0] [.int x5, .int (1 : Int32), .int (1 : Int32)] h4 Q
    obtain ⟨g6, H⟩ := H
    refine zX_seg (pc' := 41) (L' := [.ref l0, .int l1, .ref l2, .int l3, .int l4, .int ((1 : Int32) ||| ((1 : Int32) <<< ((x5 + (1 : Int32)) &&& 31)))]) (st' := [.int ((gI h4 l2 3) &&& ((1 : Int32) ||| ((1 : Int32) <<< ((x5 + (1 : Int32)) &&& 31))))]) (h2 := h4) rfl rfl (fun C Cr hc kk => x_iconst C (1 : Int32) (by decide) dX10_looksOf_28 (x_iadd C dX10_looksOf_29 (x_ishl C dX10_looksOf_30 (x_ior C dX10_looksOf_31 (x_istore C (by decide) dX10_looksOf_32 (x_aload_n C (v := .ref l2) rfl rfl dX10_looksOf_34 (f_getIN C lX10_65 g6 rfl dX10_looksOf_35 (x_iload C rfl dX10_looksOf_38 (x_iand C dX10_looksOf_40 (kk)))))))))) ?_
    refine zX_br (p1 := 51) (p2 := 44) (st' := []) (((gI h4 l2 3) &&& ((1 : Int32) ||| ((1 : Int32) <<< ((x5 + (1 : Int32)) &&& 31)))) = 0) (fun C kt kf => x_if_eq C 51 dX10_looksOf_41 (by decide) kt kf) (fun q7 => ?_) (fun q7 => ?_)
    · have H := H.1 q7
      refine zX_seg (pc' := 8) (L' := [.ref l0, .int l1, .ref l2, .int l3, .int (l4 + 1), .int ((1 : Int32) ||| ((1 : Int32) <<< ((x5 + (1 : Int32)) &&& 31)))]) (st' := []) (h2 := h4) rfl rfl (fun C Cr hc kk => x_iinc C (l4 + 1) rfl (congrArg (HAdd.hAdd _) (by decide)) (by decide) dX10_looksOf_51 (x_goto C 8 dX10_looksOf_54 (by decide) (kk))) ?_
      exact zX_wk (wkK (wkK (wkK (wkK (wkK (wkD wkN)))))) H
    · have H := H.2 q7
      refine zX_seg (pc' := 8) (L' := [.ref l0, .int l1, .ref l2, .int (l3 ||| ((1 : Int32) <<< (l4 &&& 31))), .int (l4 + 1), .int ((1 : Int32) ||| ((1 : Int32) <<< ((x5 + (1 : Int32)) &&& 31)))]) (st' := []) (h2 := h4) rfl rfl (fun C Cr hc kk => x_iload_n C rfl dX10_looksOf_44 (x_iconst C (1 : Int32) (by decide) dX10_looksOf_45 (x_iload C rfl dX10_looksOf_46 (x_ishl C dX10_looksOf_48 (x_ior C dX10_looksOf_49 (x_istore_n C (by decide) dX10_looksOf_50 (x_iinc C (l4 + 1) rfl (congrArg (HAdd.hAdd _) (by decide)) (by decide) dX10_looksOf_51 (x_goto C 8 dX10_looksOf_54 (by decide) (kk))))))))) ?_
      exact zX_wk (wkK (wkK (wkK (wkK (wkK (wkD wkN)))))) H
theorem nX10_looksOf (t : Nat) (p0 : Int32) (p1 : Nat) (h : zH) (Q : Option Value → zH → Prop) (H : zX mX10_looksOf 0 [.ref t, .int p0, .ref p1, .float 0, .float 0, .float 0] [] h Q) : zC mX10_looksOf [.ref t, .int p0, .ref p1] h Q := zC_of (by decide +kernel) (by simp) (Nat.le_of_ble_eq_true rfl) H
theorem bX10_votes_0 (t : Nat) (p0 : Int32) (p1 : Int32) (p2 : Int32) (p3 : Int32) (h : zH) (Q : Option Value → zH → Prop) (H : oK h t 10 ∧ (zX mX10_votes 14 [.ref t, .float 0, .int p1, .int p2, .int p3, .int (0 : Int32), .int p0, .int ((gI h t 8) - (1 : Int32)), .float 0] [] h Q)) : zX mX10_votes 0 [.ref t, .int p0, .int p1, .int p2, .int p3, .float 0, .float 0, .float 0, .float 0] [] h Q := by
  obtain ⟨g1, H⟩ := H
  refine zX_seg (pc' := 14) (L' := [.ref t, .int p0, .int p1, .int p2, .int p3, .int (0 : Int32), .int p0, .int ((gI h t 8) - (1 : Int32)), .float 0]) (st' := []) (h2 := h) rfl rfl (fun C Cr hc kk => x_iconst C (0 : Int32) (by decide) dX10_votes_0 (x_istore C (by decide) dX10_votes_1 (x_iload_n C rfl dX10_votes_3 (x_istore C (by decide) dX10_votes_4 (x_aload_n C (v := .ref t) rfl rfl dX10_votes_6 (f_getI C lX10_41 g1 rfl dX10_votes_7 (x_iconst C (1 : Int32) (by decide) dX10_votes_10 (x_isub C dX10_votes_11 (x_istore C (by decide) dX10_votes_12 (kk)))))))))) ?_
  exact zX_wk (wkK (wkD (wkK (wkK (wkK (wkK (wkK (wkK (wkD wkN))))))))) H
theorem bX10_votes_14 (l0 : Nat) (l2 : Int32) (l3 : Int32) (l4 : Int32) (l5 : Int32) (l6 : Int32) (l7 : Int32) (h : zH) (Q : Option Value → zH → Prop) (H : (l7 < 0 → (Q (some (.int l5)) h)) ∧ (¬ (l7 < 0) → (((l6 &&& (3 : Int32)) = l4 → ((l7 = l2 → (zX mX10_votes 83 [.ref l0, .float 0, .int l2, .int l3, .int l4, .int l5, .int l6, .int l7, .float 0] [] h Q)) ∧ (¬ (l7 = l2) → ((l3 = 0 → (zX mX10_votes 53 [.ref l0, .float 0, .int l2, .int l3, .int l4, .int l5, .int l6, .int l7, .float 0] [] h Q)) ∧ (¬ (l3 = 0) → (oK h l0 10 ∧ (∃ a6 : Nat, gR h l0 3 = some a6 ∧ (zC mX11_at [.ref a6, .int l7] h (fun r0 h7 => ∃ x8 : Int32, r0 = some (.int x8) ∧ ((l3 = (x8 + (1 : Int32)) → (zX mX10_votes 53 [.ref l0, .float 0, .int l2, .int l3, .int l4, .int l5, .int l6, .int l7, .float 0] [] h7 Q)) ∧ (¬ (l3 = (x8 + (1 : Int32))) → (zX mX10_votes 58 [.ref l0, .float 0, .int l2, .int l3, .int l4, .int l5, .int l6, .int l7, .float 0] [.int (0 : Int32)] h7 Q)))))))))))) ∧ (¬ ((l6 &&& (3 : Int32)) = l4) → (zX mX10_votes 83 [.ref l0, .float 0, .int l2, .int l3, .int l4, .int l5, .int l6, .int l7, .float 0] [] h Q))))) : zX mX10_votes 14 [.ref l0, .float 0, .int l2, .int l3, .int l4, .int l5, .int l6, .int l7, .float 0] [] h Q := by
  refine zX_seg (pc' := 16) (L' := [.ref l0, .float 0, .int l2, .int l3, .int l4, .int l5, .int l6, .int l7, .float 0]) (st' := [.int l7]) (h2 := h) rfl rfl (fun C Cr hc kk => x_iload C rfl dX10_votes_14 (kk)) ?_
  refine zX_br (p1 := 95) (p2 := 19) (st' := []) (l7 < 0) (fun C kt kf => x_if_lt C 95 dX10_votes_16 (by decide) kt kf) (fun q1 => ?_) (fun q1 => ?_)
  · have H := H.1 q1
    refine zX_seg (pc' := 97) (L' := [.ref l0, .float 0, .int l2, .int l3, .int l4, .int l5, .int l6, .int l7, .float 0]) (st' := [.int l5]) (h2 := h) rfl rfl (fun C Cr hc kk => x_iload C rfl dX10_votes_95 (kk)) ?_
    exact zX_ret (some (.int l5)) (fun C Cr hc => x_iret C Cr rfl rfl hc dX10_votes_97 ⟨rfl, rfl⟩) H
  · have H := H.2 q1
    refine zX_seg (pc' := 25) (L' := [.ref l0, .float 0, .int l2, .int l3, .int l4, .int l5, .int l6, .int l7, .float 0]) (st' := [.int l4, .int (l6 &&& (3 : Int32))]) (h2 := h) rfl rfl (fun C Cr hc kk => x_iload C rfl dX10_votes_19 (x_iconst C (3 : Int32) (by decide) dX10_votes_21 (x_iand C dX10_votes_22 (x_iload C rfl dX10_votes_23 (kk))))) ?_
    refine zX_br (p1 := 28) (p2 := 83) (st' := []) ((l6 &&& (3 : Int32)) = l4) (fun C kt kf => x_icmp_ne C 83 dX10_votes_25 (by decide) kf kt) (fun q2 => ?_) (fun q2 => ?_)
    · have H := H.1 q2
      refine zX_seg (pc' := 31) (L' := [.ref l0, .float 0, .int l2, .int l3, .int l4, .int l5, .int l6, .int l7, .float 0]) (st' := [.int l2, .int l7]) (h2 := h) rfl rfl (fun C Cr hc kk => x_iload C rfl dX10_votes_28 (x_iload_n C rfl dX10_votes_30 (kk))) ?_
      refine zX_br (p1 := 83) (p2 := 34) (st' := []) (l7 = l2) (fun C kt kf => x_icmp_eq C 83 dX10_votes_31 (by decide) kt kf) (fun q3 => ?_) (fun q3 => ?_)
      · have H := H.1 q3
        exact zX_wk (wkK (wkD (wkK (wkK (wkK (wkK (wkK (wkK (wkD wkN))))))))) H
      · have H := H.2 q3
        refine zX_seg (pc' := 35) (L' := [.ref l0, .float 0, .int l2, .int l3, .int l4, .int l5, .int l6, .int l7, .float 0]) (st' := [.int l3]) (h2 := h) rfl rfl (fun C Cr hc kk => x_iload_n C rfl dX10_votes_34 (kk)) ?_
        refine zX_br (p1 := 53) (p2 := 38) (st' := []) (l3 = 0) (fun C kt kf => x_if_eq C 53 dX10_votes_35 (by decide) kt kf) (fun q4 => ?_) (fun q4 => ?_)
        · have H := H.1 q4
          exact zX_wk (wkK (wkD (wkK (wkK (wkK (wkK (wkK (wkK (wkD wkN))))))))) H
        · have H := H.2 q4
          obtain ⟨g5, H⟩ := H
          obtain ⟨a6, ea6, H⟩ := H
          refine zX_seg (pc' := 45) (L' := [.ref l0, .float 0, .int l2, .int l3, .int l4, .int l5, .int l6, .int l7, .float 0]) (st' := [.int l7, .ref a6, .int l3]) (h2 := h) rfl rfl (fun C Cr hc kk => x_iload_n C rfl dX10_votes_38 (x_aload_n C (v := .ref l0) rfl rfl dX10_votes_39 (f_getR1 C lX10_21 g5 rfl ea6 dX10_votes_40 (x_iload C rfl dX10_votes_43 (kk))))) ?_
          refine zX_call (as := [.ref a6, .int l7]) (st := [.int l3]) (fun C hM hc kk => x_callSN C [.ref a6, .int l7] hM kX11_at sX11_at lX10_47 ⟨by decide, by decide⟩ rfl hc (Nat.le_of_ble_eq_true rfl) rfl dX10_votes_45 kk) (zC.mono H ?_)
          rintro r0 h7 ⟨x8, rfl, H⟩
          show zX mX10_votes 48 [.ref l0, .float 0, .int l2, .int l3, .int l4, .int l5, .int l6, .int l7, .float 0] [.int x8, .int l3] h7 Q
          refine zX_seg (pc' := 50) (L' := [.ref l0, .float 0, .int l2, .int l3, .int l4, .int l5, .int l6, .int l7, .float 0]) (st' := [.int (x8 + (1 : Int32)), .int l3]) (h2 := h7) rfl rfl (fun C Cr hc kk => x_iconst C (1 : Int32) (by decide) dX10_votes_48 (x_iadd C dX10_votes_49 (kk))) ?_
          refine zX_br (p1 := 53) (p2 := 57) (st' := []) (l3 = (x8 + (1 : Int32))) (fun C kt kf => x_icmp_ne C 57 dX10_votes_50 (by decide) kf kt) (fun q9 => ?_) (fun q9 => ?_)
          · have H := H.1 q9
            exact zX_wk (wkK (wkD (wkK (wkK (wkK (wkK (wkK (wkK (wkD wkN))))))))) H
          · have H := H.2 q9
            refine zX_seg (pc' := 58) (L' := [.ref l0, .float 0, .int l2, .int l3, .int l4, .int l5, .int l6, .int l7, .float 0]) (st' := [.int (0 : Int32)]) (h2 := h7) rfl rfl (fun C Cr hc kk => x_iconst C (0 : Int32) (by decide) dX10_votes_57 (kk)) ?_
            exact zX_wk (wkK (wkD (wkK (wkK (wkK (wkK (wkK (wkK (wkD wkN))))))))) H
    · have H := H.2 q2
      exact zX_wk (wkK (wkD (wkK (wkK (wkK (wkK (wkK (wkK (wkD wkN))))))))) H
theorem bX10_votes_53 (l0 : Nat) (l2 : Int32) (l3 : Int32) (l4 : Int32) (l5 : Int32) (l6 : Int32) (l7 : Int32) (h : zH) (Q : Option Value → zH → Prop) (H : zX mX10_votes 58 [.ref l0, .float 0, .int l2, .int l3, .int l4, .int l5, .int l6, .int l7, .float 0] [.int (1 : Int32)] h Q) : zX mX10_votes 53 [.ref l0, .float 0, .int l2, .int l3, .int l4, .int l5, .int l6, .int l7, .float 0] [] h Q := by
  refine zX_seg (pc' := 58) (L' := [.ref l0, .float 0, .int l2, .int l3, .int l4, .int l5, .int l6, .int l7, .float 0]) (st' := [.int (1 : Int32)]) (h2 := h) rfl rfl (fun C Cr hc kk => x_iconst C (1 : Int32) (by decide) dX10_votes_53 (x_goto C 58 dX10_votes_54 (by decide) (kk))) ?_
  exact zX_wk (wkK (wkD (wkK (wkK (wkK (wkK (wkK (wkK (wkD wkN))))))))) H
theorem bX10_votes_58 (l0 : Nat) (l2 : Int32) (l3 : Int32) (l4 : Int32) (l5 : Int32) (l6 : Int32) (l7 : Int32) (s0 : Int32) (h : zH) (Q : Option Value → zH → Prop) (H : (s0 = 0 → (zX mX10_votes 83 [.ref l0, .float 0, .int l2, .int l3, .int l4, .int (l5 + (0 : Int32)), .int l6, .int l7, .float 0] [] h Q)) ∧ (¬ (s0 = 0) → (oK h l0 10 ∧ (∃ a3 : Nat, gR h l0 4 = some a3 ∧ (zC mX11_at [.ref a3, .int l7] h (fun r0 h4 => ∃ x5 : Int32, r0 = some (.int x5) ∧ (zX mX10_votes 83 [.ref l0, .float 0, .int l2, .int l3, .int l4, .int (l5 + x5), .int l6, .int l7, .float 0] [] h4 Q))))))) : zX mX10_votes 58 [.ref l0, .float 0, .int l2, .int l3, .int l4, .int l5, .int l6, .int l7, .float 0] [.int s0] h Q := by
  refine zX_seg (pc' := 64) (L' := [.ref l0, .float 0, .int l2, .int l3, .int l4, .int l5, .int l6, .int l7, .int s0]) (st' := [.int s0, .int l5]) (h2 := h) rfl rfl (fun C Cr hc kk => x_istore C (by decide) dX10_votes_58 (x_iload C rfl dX10_votes_60 (x_iload C rfl dX10_votes_62 (kk)))) ?_
  refine zX_br (p1 := 79) (p2 := 67) (st' := [.int l5]) (s0 = 0) (fun C kt kf => x_if_eq C 79 dX10_votes_64 (by decide) kt kf) (fun q1 => ?_) (fun q1 => ?_)
  · have H := H.1 q1
    refine zX_seg (pc' := 83) (L' := [.ref l0, .float 0, .int l2, .int l3, .int l4, .int (l5 + (0 : Int32)), .int l6, .int l7, .int s0]) (st' := []) (h2 := h) rfl rfl (fun C Cr hc kk => x_iconst C (0 : Int32) (by decide) dX10_votes_79 (x_iadd C dX10_votes_80 (x_istore C (by decide) dX10_votes_81 (kk)))) ?_
    exact zX_wk (wkK (wkD (wkK (wkK (wkK (wkK (wkK (wkK (wkD wkN))))))))) H
  · have H := H.2 q1
    obtain ⟨g2, H⟩ := H
    obtain ⟨a3, ea3, H⟩ := H
    refine zX_seg (pc' := 73) (L' := [.ref l0, .float 0, .int l2, .int l3, .int l4, .int l5, .int l6, .int l7, .int s0]) (st' := [.int l7, .ref a3, .int l5]) (h2 := h) rfl rfl (fun C Cr hc kk => x_aload_n C (v := .ref l0) rfl rfl dX10_votes_67 (f_getR1 C lX10_25 g2 rfl ea3 dX10_votes_68 (x_iload C rfl dX10_votes_71 (kk)))) ?_
    refine zX_call (as := [.ref a3, .int l7]) (st := [.int l5]) (fun C hM hc kk => x_callSN C [.ref a3, .int l7] hM kX11_at sX11_at lX10_47 ⟨by decide, by decide⟩ rfl hc (Nat.le_of_ble_eq_true rfl) rfl dX10_votes_73 kk) (zC.mono H ?_)
    rintro r0 h4 ⟨x5, rfl, H⟩
    show zX mX10_votes 76 [.ref l0, .float 0, .int l2, .int l3, .int l4, .int l5, .int l6, .int l7, .int s0] [.int x5, .int l5] h4 Q
    refine zX_seg (pc' := 83) (L' := [.ref l0, .float 0, .int l2, .int l3, .int l4, .int (l5 + x5), .int l6, .int l7, .int s0]) (st' := []) (h2 := h4) rfl rfl (fun C Cr hc kk => x_goto C 80 dX10_votes_76 (by decide) (x_iadd C dX10_votes_80 (x_istore C (by decide) dX10_votes_81 (kk)))) ?_
    exact zX_wk (wkK (wkD (wkK (wkK (wkK (wkK (wkK (wkK (wkD wkN))))))))) H
theorem bX10_votes_83 (l0 : Nat) (l2 : Int32) (l3 : Int32) (l4 : Int32) (l5 : Int32) (l6 : Int32) (l7 : Int32) (h : zH) (Q : Option Value → zH → Prop) (H : zX mX10_votes 14 [.ref l0, .float 0, .int l2, .int l3, .int l4, .int l5, .int (l6 >>> ((2 : Int32) &&& 31)), .int (l7 + (-1)), .float 0] [] h Q) : zX mX10_votes 83 [.ref l0, .float 0, .int l2, .int l3, .int l4, .int l5, .int l6, .int l7, .float 0] [] h Q := by
  refine zX_seg (pc' := 14) (L' := [.ref l0, .float 0, .int l2, .int l3, .int l4, .int l5, .int (l6 >>> ((2 : Int32) &&& 31)), .int (l7 + (-1)), .float 0]) (st' := []) (h2 := h) rfl rfl (fun C Cr hc kk => x_iload C rfl dX10_votes_83 (x_iconst C (2 : Int32) (by decide) dX10_votes_85 (x_ishr C dX10_votes_86 (x_istore C (by decide) dX10_votes_87 (x_iinc C (l7 + (-1)) rfl (congrArg (HAdd.hAdd _) (by decide)) (by decide) dX10_votes_89 (x_goto C 14 dX10_votes_92 (by decide) (kk))))))) ?_
  exact zX_wk (wkK (wkD (wkK (wkK (wkK (wkK (wkK (wkK (wkD wkN))))))))) H
theorem nX10_votes (t : Nat) (p0 : Int32) (p1 : Int32) (p2 : Int32) (p3 : Int32) (h : zH) (Q : Option Value → zH → Prop) (H : zX mX10_votes 0 [.ref t, .int p0, .int p1, .int p2, .int p3, .float 0, .float 0, .float 0, .float 0] [] h Q) : zC mX10_votes [.ref t, .int p0, .int p1, .int p2, .int p3] h Q := zC_of (by decide +kernel) (by simp) (Nat.le_of_ble_eq_true rfl) H
theorem bX10_mostVoted_0 (t : Nat) (p0 : Int32) (p1 : Int32) (p2 : Int32) (h : zH) (Q : Option Value → zH → Prop) (H : zX mX10_mostVoted 9 [.ref t, .int p0, .int p1, .int p2, .int (0 : Int32), .int (0 : Int32), .int (1 : Int32), .float 0] [] h Q) : zX mX10_mostVoted 0 [.ref t, .int p0, .int p1, .int p2, .float 0, .float 0, .float 0, .float 0] [] h Q := by
  refine zX_seg (pc' := 9) (L' := [.ref t, .int p0, .int p1, .int p2, .int (0 : Int32), .int (0 : Int32), .int (1 : Int32), .float 0]) (st' := []) (h2 := h) rfl rfl (fun C Cr hc kk => x_iconst C (0 : Int32) (by decide) dX10_mostVoted_0 (x_istore C (by decide) dX10_mostVoted_1 (x_iconst C (0 : Int32) (by decide) dX10_mostVoted_3 (x_istore C (by decide) dX10_mostVoted_4 (x_iconst C (1 : Int32) (by decide) dX10_mostVoted_6 (x_istore C (by decide) dX10_mostVoted_7 (kk))))))) ?_
  exact zX_wk (wkK (wkK (wkK (wkK (wkK (wkK (wkK (wkD wkN)))))))) H
theorem bX10_mostVoted_9 (l0 : Nat) (l1 : Int32) (l2 : Int32) (l3 : Int32) (l4 : Int32) (l5 : Int32) (l6 : Int32) (h : zH) (Q : Option Value → zH → Prop) (H : oK h l0 10 ∧ (((gI h l0 6) < l6 → (Q (some (.int l4)) h)) ∧ (¬ ((gI h l0 6) < l6) → (zC mX10_votes [.ref l0, .int l1, .int l2, .int l3, .int l6] h (fun r0 h3 => ∃ x4 : Int32, r0 = some (.int x4) ∧ ((x4 ≤ l5 → (zX mX10_mostVoted 9 [.ref l0, .int l1, .int l2, .int l3, .int l4, .int l5, .int (l6 + 1), .float 0] [] h3 Q)) ∧ (¬ (x4 ≤ l5) → (zX mX10_mostVoted 9 [.ref l0, .int l1, .int l2, .int l3, .int l6, .int x4, .int (l6 + 1), .float 0] [] h3 Q)))))))) : zX mX10_mostVoted 9 [.ref l0, .int l1, .int l2, .int l3, .int l4, .int l5, .int l6, .float 0] [] h Q := by
  obtain ⟨g1, H⟩ := H
  refine zX_seg (pc' := 15) (L' := [.ref l0, .int l1, .int l2, .int l3, .int l4, .int l5, .int l6, .float 0]) (st' := [.int (gI h l0 6), .int l6]) (h2 := h) rfl rfl (fun C Cr hc kk => x_iload C rfl dX10_mostVoted_9 (x_aload_n C (v := .ref l0) rfl rfl dX10_mostVoted_11 (f_getI C lX10_34 g1 rfl dX10_mostVoted_12 (kk)))) ?_
  refine zX_br (p1 := 50) (p2 := 18) (st' := []) ((gI h l0 6) < l6) (fun C kt kf => x_icmp_gt C 50 dX10_mostVoted_15 (by decide) kt kf) (fun q2 => ?_) (fun q2 => ?_)
  · have H := H.1 q2
    refine zX_seg (pc' := 52) (L' := [.ref l0, .int l1, .int l2, .int l3, .int l4, .int l5, .int l6, .float 0]) (st' := [.int l4]) (h2 := h) rfl rfl (fun C Cr hc kk => x_iload C rfl dX10_mostVoted_50 (kk)) ?_
    exact zX_ret (some (.int l4)) (fun C Cr hc => x_iret C Cr rfl rfl hc dX10_mostVoted_52 ⟨rfl, rfl⟩) H
  · have H := H.2 q2
    refine zX_seg (pc' := 24) (L' := [.ref l0, .int l1, .int l2, .int l3, .int l4, .int l5, .int l6, .float 0]) (st' := [.int l6, .int l3, .int l2, .int l1, .ref l0]) (h2 := h) rfl rfl (fun C Cr hc kk => x_aload_n C (v := .ref l0) rfl rfl dX10_mostVoted_18 (x_iload_n C rfl dX10_mostVoted_19 (x_iload_n C rfl dX10_mostVoted_20 (x_iload_n C rfl dX10_mostVoted_21 (x_iload C rfl dX10_mostVoted_22 (kk)))))) ?_
    refine zX_call (as := [.ref l0, .int l1, .int l2, .int l3, .int l6]) (st := []) (fun C hM hc kk => f_callV C [.int l1, .int l2, .int l3, .int l6] hM kX10_votes vX10_votes lX10_66 ⟨by decide, by decide⟩ (rfl : vwCl[10]? = some (RX10, TX10, 10)) g1 rfl hc (Nat.le_of_ble_eq_true rfl) rfl dX10_mostVoted_24 kk) (zC.mono H ?_)
    rintro r0 h3 ⟨x4, rfl, H⟩
    show zX mX10_mostVoted 27 [.ref l0, .int l1, .int l2, .int l3, .int l4, .int l5, .int l6, .float 0] [.int x4] h3 Q
    refine zX_seg (pc' := 33) (L' := [.ref l0, .int l1, .int l2, .int l3, .int l4, .int l5, .int l6, .int x4]) (st' := [.int l5, .int x4]) (h2 := h3) rfl rfl (fun C Cr hc kk => x_istore C (by decide) dX10_mostVoted_27 (x_iload C rfl dX10_mostVoted_29 (x_iload C rfl dX10_mostVoted_31 (kk)))) ?_
    refine zX_br (p1 := 44) (p2 := 36) (st' := []) (x4 ≤ l5) (fun C kt kf => x_icmp_le C 44 dX10_mostVoted_33 (by decide) kt kf) (fun q5 => ?_) (fun q5 => ?_)
    · have H := H.1 q5
      refine zX_seg (pc' := 9) (L' := [.ref l0, .int l1, .int l2, .int l3, .int l4, .int l5, .int (l6 + 1), .int x4]) (st' := []) (h2 := h3) rfl rfl (fun C Cr hc kk => x_iinc C (l6 + 1) rfl (congrArg (HAdd.hAdd _) (by decide)) (by decide) dX10_mostVoted_44 (x_goto C 9 dX10_mostVoted_47 (by decide) (kk))) ?_
      exact zX_wk (wkK (wkK (wkK (wkK (wkK (wkK (wkK (wkD wkN)))))))) H
    · have H := H.2 q5
      refine zX_seg (pc' := 9) (L' := [.ref l0, .int l1, .int l2, .int l3, .int l6, .int x4, .int (l6 + 1), .int x4]) (st' := []) (h2 := h3) rfl rfl (fun C Cr hc kk => x_iload C rfl dX10_mostVoted_36 (x_istore C (by decide) dX10_mostVoted_38 (x_iload C rfl dX10_mostVoted_40 (x_istore C (by decide) dX10_mostVoted_42 (x_iinc C (l6 + 1) rfl (congrArg (HAdd.hAdd _) (by decide)) (by decide) dX10_mostVoted_44 (x_goto C 9 dX10_mostVoted_47 (by decide) (kk))))))) ?_
      exact zX_wk (wkK (wkK (wkK (wkK (wkK (wkK (wkK (wkD wkN)))))))) H
theorem nX10_mostVoted (t : Nat) (p0 : Int32) (p1 : Int32) (p2 : Int32) (h : zH) (Q : Option Value → zH → Prop) (H : zX mX10_mostVoted 0 [.ref t, .int p0, .int p1, .int p2, .float 0, .float 0, .float 0, .float 0] [] h Q) : zC mX10_mostVoted [.ref t, .int p0, .int p1, .int p2] h Q := zC_of (by decide +kernel) (by simp) (Nat.le_of_ble_eq_true rfl) H
theorem bX10_fewestVoted_0 (t : Nat) (p0 : Int32) (p1 : Int32) (p2 : Int32) (h : zH) (Q : Option Value → zH → Prop) (H : zX mX10_fewestVoted 9 [.ref t, .int p0, .int p1, .int p2, .int (0 : Int32), .int (0 : Int32), .int (1 : Int32), .float 0] [] h Q) : zX mX10_fewestVoted 0 [.ref t, .int p0, .int p1, .int p2, .float 0, .float 0, .float 0, .float 0] [] h Q := by
  refine zX_seg (pc' := 9) (L' := [.ref t, .int p0, .int p1, .int p2, .int (0 : Int32), .int (0 : Int32), .int (1 : Int32), .float 0]) (st' := []) (h2 := h) rfl rfl (fun C Cr hc kk => x_iconst C (0 : Int32) (by decide) dX10_fewestVoted_0 (x_istore C (by decide) dX10_fewestVoted_1 (x_iconst C (0 : Int32) (by decide) dX10_fewestVoted_3 (x_istore C (by decide) dX10_fewestVoted_4 (x_iconst C (1 : Int32) (by decide) dX10_fewestVoted_6 (x_istore C (by decide) dX10_fewestVoted_7 (kk))))))) ?_
  exact zX_wk (wkK (wkK (wkK (wkK (wkK (wkK (wkK (wkD wkN)))))))) H
theorem bX10_fewestVoted_9 (l0 : Nat) (l1 : Int32) (l2 : Int32) (l3 : Int32) (l4 : Int32) (l5 : Int32) (l6 : Int32) (h : zH) (Q : Option Value → zH → Prop) (H : oK h l0 10 ∧ (((gI h l0 6) < l6 → (Q (some (.int l4)) h)) ∧ (¬ ((gI h l0 6) < l6) → (zC mX10_votes [.ref l0, .int l1, .int l2, .int l3, .int l6] h (fun r0 h3 => ∃ x4 : Int32, r0 = some (.int x4) ∧ ((l4 = 0 → (zX mX10_fewestVoted 9 [.ref l0, .int l1, .int l2, .int l3, .int l6, .int x4, .int (l6 + 1), .float 0] [] h3 Q)) ∧ (¬ (l4 = 0) → ((l5 ≤ x4 → (zX mX10_fewestVoted 9 [.ref l0, .int l1, .int l2, .int l3, .int l4, .int l5, .int (l6 + 1), .float 0] [] h3 Q)) ∧ (¬ (l5 ≤ x4) → (zX mX10_fewestVoted 9 [.ref l0, .int l1, .int l2, .int l3, .int l6, .int x4, .int (l6 + 1), .float 0] [] h3 Q)))))))))) : zX mX10_fewestVoted 9 [.ref l0, .int l1, .int l2, .int l3, .int l4, .int l5, .int l6, .float 0] [] h Q := by
  obtain ⟨g1, H⟩ := H
  refine zX_seg (pc' := 15) (L' := [.ref l0, .int l1, .int l2, .int l3, .int l4, .int l5, .int l6, .float 0]) (st' := [.int (gI h l0 6), .int l6]) (h2 := h) rfl rfl (fun C Cr hc kk => x_iload C rfl dX10_fewestVoted_9 (x_aload_n C (v := .ref l0) rfl rfl dX10_fewestVoted_11 (f_getI C lX10_34 g1 rfl dX10_fewestVoted_12 (kk)))) ?_
  refine zX_br (p1 := 55) (p2 := 18) (st' := []) ((gI h l0 6) < l6) (fun C kt kf => x_icmp_gt C 55 dX10_fewestVoted_15 (by decide) kt kf) (fun q2 => ?_) (fun q2 => ?_)
  · have H := H.1 q2
    refine zX_seg (pc' := 57) (L' := [.ref l0, .int l1, .int l2, .int l3, .int l4, .int l5, .int l6, .float 0]) (st' := [.int l4]) (h2 := h) rfl rfl (fun C Cr hc kk => x_iload C rfl dX10_fewestVoted_55 (kk)) ?_
    exact zX_ret (some (.int l4)) (fun C Cr hc => x_iret C Cr rfl rfl hc dX10_fewestVoted_57 ⟨rfl, rfl⟩) H
  · have H := H.2 q2
    refine zX_seg (pc' := 24) (L' := [.ref l0, .int l1, .int l2, .int l3, .int l4, .int l5, .int l6, .float 0]) (st' := [.int l6, .int l3, .int l2, .int l1, .ref l0]) (h2 := h) rfl rfl (fun C Cr hc kk => x_aload_n C (v := .ref l0) rfl rfl dX10_fewestVoted_18 (x_iload_n C rfl dX10_fewestVoted_19 (x_iload_n C rfl dX10_fewestVoted_20 (x_iload_n C rfl dX10_fewestVoted_21 (x_iload C rfl dX10_fewestVoted_22 (kk)))))) ?_
    refine zX_call (as := [.ref l0, .int l1, .int l2, .int l3, .int l6]) (st := []) (fun C hM hc kk => f_callV C [.int l1, .int l2, .int l3, .int l6] hM kX10_votes vX10_votes lX10_66 ⟨by decide, by decide⟩ (rfl : vwCl[10]? = some (RX10, TX10, 10)) g1 rfl hc (Nat.le_of_ble_eq_true rfl) rfl dX10_fewestVoted_24 kk) (zC.mono H ?_)
    rintro r0 h3 ⟨x4, rfl, H⟩
    show zX mX10_fewestVoted 27 [.ref l0, .int l1, .int l2, .int l3, .int l4, .int l5, .int l6, .float 0] [.int x4] h3 Q
    refine zX_seg (pc' := 31) (L' := [.ref l0, .int l1, .int l2, .int l3, .int l4, .int l5, .int l6, .int x4]) (st' := [.int l4]) (h2 := h3) rfl rfl (fun C Cr hc kk => x_istore C (by decide) dX10_fewestVoted_27 (x_iload C rfl dX10_fewestVoted_29 (kk))) ?_
    refine zX_br (p1 := 41) (p2 := 34) (st' := []) (l4 = 0) (fun C kt kf => x_if_eq C 41 dX10_fewestVoted_31 (by decide) kt kf) (fun q5 => ?_) (fun q5 => ?_)
    · have H := H.1 q5
      refine zX_seg (pc' := 9) (L' := [.ref l0, .int l1, .int l2, .int l3, .int l6, .int x4, .int (l6 + 1), .int x4]) (st' := []) (h2 := h3) rfl rfl (fun C Cr hc kk => x_iload C rfl dX10_fewestVoted_41 (x_istore C (by decide) dX10_fewestVoted_43 (x_iload C rfl dX10_fewestVoted_45 (x_istore C (by decide) dX10_fewestVoted_47 (x_iinc C (l6 + 1) rfl (congrArg (HAdd.hAdd _) (by decide)) (by decide) dX10_fewestVoted_49 (x_goto C 9 dX10_fewestVoted_52 (by decide) (kk))))))) ?_
      exact zX_wk (wkK (wkK (wkK (wkK (wkK (wkK (wkK (wkD wkN)))))))) H
    · have H := H.2 q5
      refine zX_seg (pc' := 38) (L' := [.ref l0, .int l1, .int l2, .int l3, .int l4, .int l5, .int l6, .int x4]) (st' := [.int l5, .int x4]) (h2 := h3) rfl rfl (fun C Cr hc kk => x_iload C rfl dX10_fewestVoted_34 (x_iload C rfl dX10_fewestVoted_36 (kk))) ?_
      refine zX_br (p1 := 49) (p2 := 41) (st' := []) (l5 ≤ x4) (fun C kt kf => x_icmp_ge C 49 dX10_fewestVoted_38 (by decide) kt kf) (fun q6 => ?_) (fun q6 => ?_)
      · have H := H.1 q6
        refine zX_seg (pc' := 9) (L' := [.ref l0, .int l1, .int l2, .int l3, .int l4, .int l5, .int (l6 + 1), .int x4]) (st' := []) (h2 := h3) rfl rfl (fun C Cr hc kk => x_iinc C (l6 + 1) rfl (congrArg (HAdd.hAdd _) (by decide)) (by decide) dX10_fewestVoted_49 (x_goto C 9 dX10_fewestVoted_52 (by decide) (kk))) ?_
        exact zX_wk (wkK (wkK (wkK (wkK (wkK (wkK (wkK (wkD wkN)))))))) H
      · have H := H.2 q6
        refine zX_seg (pc' := 9) (L' := [.ref l0, .int l1, .int l2, .int l3, .int l6, .int x4, .int (l6 + 1), .int x4]) (st' := []) (h2 := h3) rfl rfl (fun C Cr hc kk => x_iload C rfl dX10_fewestVoted_41 (x_istore C (by decide) dX10_fewestVoted_43 (x_iload C rfl dX10_fewestVoted_45 (x_istore C (by decide) dX10_fewestVoted_47 (x_iinc C (l6 + 1) rfl (congrArg (HAdd.hAdd _) (by decide)) (by decide) dX10_fewestVoted_49 (x_goto C 9 dX10_fewestVoted_52 (by decide) (kk))))))) ?_
        exact zX_wk (wkK (wkK (wkK (wkK (wkK (wkK (wkK (wkD wkN)))))))) H
theorem nX10_fewestVoted (t : Nat) (p0 : Int32) (p1 : Int32) (p2 : Int32) (h : zH) (Q : Option Value → zH → Prop) (H : zX mX10_fewestVoted 0 [.ref t, .int p0, .int p1, .int p2, .float 0, .float 0, .float 0, .float 0] [] h Q) : zC mX10_fewestVoted [.ref t, .int p0, .int p1, .int p2] h Q := zC_of (by decide +kernel) (by simp) (Nat.le_of_ble_eq_true rfl) H
theorem bX10_chosenIn_0 (t : Nat) (p0 : Int32) (h : zH) (Q : Option Value → zH → Prop) (H : zX mX10_chosenIn 7 [.ref t, .int p0, .int (0 : Int32), .int (0 : Int32), .int (1 : Int32), .float 0] [] h Q) : zX mX10_chosenIn 0 [.ref t, .int p0, .float 0, .float 0, .float 0, .float 0] [] h Q := by
  refine zX_seg (pc' := 7) (L' := [.ref t, .int p0, .int (0 : Int32), .int (0 : Int32), .int (1 : Int32), .float 0]) (st' := []) (h2 := h) rfl rfl (fun C Cr hc kk => x_iconst C (0 : Int32) (by decide) dX10_chosenIn_0 (x_istore_n C (by decide) dX10_chosenIn_1 (x_iconst C (0 : Int32) (by decide) dX10_chosenIn_2 (x_istore_n C (by decide) dX10_chosenIn_3 (x_iconst C (1 : Int32) (by decide) dX10_chosenIn_4 (x_istore C (by decide) dX10_chosenIn_5 (kk))))))) ?_
  exact zX_wk (wkK (wkK (wkK (wkK (wkK (wkD wkN)))))) H
theorem bX10_chosenIn_7 (l0 : Nat) (l1 : Int32) (l2 : Int32) (l3 : Int32) (l4 : Int32) (h : zH) (Q : Option Value → zH → Prop) (H : oK h l0 10 ∧ (((gI h l0 6) < l4 → (Q (some (.int l2)) h)) ∧ (¬ ((gI h l0 6) < l4) → (zC mX10_votes [.ref l0, .int l1, .int (-1 : Int32), .int (0 : Int32), .int l4] h (fun r0 h3 => ∃ x4 : Int32, r0 = some (.int x4) ∧ ((x4 ≤ l3 → ((x4 = l3 → (zX mX10_chosenIn 7 [.ref l0, .int l1, .int (0 : Int32), .int l3, .int (l4 + 1), .float 0] [] h3 Q)) ∧ (¬ (x4 = l3) → (zX mX10_chosenIn 7 [.ref l0, .int l1, .int l2, .int l3, .int (l4 + 1), .float 0] [] h3 Q)))) ∧ (¬ (x4 ≤ l3) → (zX mX10_chosenIn 7 [.ref l0, .int l1, .int l4, .int x4, .int (l4 + 1), .float 0] [] h3 Q)))))))) : zX mX10_chosenIn 7 [.ref l0, .int l1, .int l2, .int l3, .int l4, .float 0] [] h Q := by
  obtain ⟨g1, H⟩ := H
  refine zX_seg (pc' := 13) (L' := [.ref l0, .int l1, .int l2, .int l3, .int l4, .float 0]) (st' := [.int (gI h l0 6), .int l4]) (h2 := h) rfl rfl (fun C Cr hc kk => x_iload C rfl dX10_chosenIn_7 (x_aload_n C (v := .ref l0) rfl rfl dX10_chosenIn_9 (f_getI C lX10_34 g1 rfl dX10_chosenIn_10 (kk)))) ?_
  refine zX_br (p1 := 56) (p2 := 16) (st' := []) ((gI h l0 6) < l4) (fun C kt kf => x_icmp_gt C 56 dX10_chosenIn_13 (by decide) kt kf) (fun q2 => ?_) (fun q2 => ?_)
  · have H := H.1 q2
    refine zX_seg (pc' := 57) (L' := [.ref l0, .int l1, .int l2, .int l3, .int l4, .float 0]) (st' := [.int l2]) (h2 := h) rfl rfl (fun C Cr hc kk => x_iload_n C rfl dX10_chosenIn_56 (kk)) ?_
    exact zX_ret (some (.int l2)) (fun C Cr hc => x_iret C Cr rfl rfl hc dX10_chosenIn_57 ⟨rfl, rfl⟩) H
  · have H := H.2 q2
    refine zX_seg (pc' := 22) (L' := [.ref l0, .int l1, .int l2, .int l3, .int l4, .float 0]) (st' := [.int l4, .int (0 : Int32), .int (-1 : Int32), .int l1, .ref l0]) (h2 := h) rfl rfl (fun C Cr hc kk => x_aload_n C (v := .ref l0) rfl rfl dX10_chosenIn_16 (x_iload_n C rfl dX10_chosenIn_17 (x_iconst C (-1 : Int32) (by decide) dX10_chosenIn_18 (x_iconst C (0 : Int32) (by decide) dX10_chosenIn_19 (x_iload C rfl dX10_chosenIn_20 (kk)))))) ?_
    refine zX_call (as := [.ref l0, .int l1, .int (-1 : Int32), .int (0 : Int32), .int l4]) (st := []) (fun C hM hc kk => f_callV C [.int l1, .int (-1 : Int32), .int (0 : Int32), .int l4] hM kX10_votes vX10_votes lX10_66 ⟨by decide, by decide⟩ (rfl : vwCl[10]? = some (RX10, TX10, 10)) g1 rfl hc (Nat.le_of_ble_eq_true rfl) rfl dX10_chosenIn_22 kk) (zC.mono H ?_)
    rintro r0 h3 ⟨x4, rfl, H⟩
    show zX mX10_chosenIn 25 [.ref l0, .int l1, .int l2, .int l3, .int l4, .float 0] [.int x4] h3 Q
    refine zX_seg (pc' := 30) (L' := [.ref l0, .int l1, .int l2, .int l3, .int l4, .int x4]) (st' := [.int l3, .int x4]) (h2 := h3) rfl rfl (fun C Cr hc kk => x_istore C (by decide) dX10_chosenIn_25 (x_iload C rfl dX10_chosenIn_27 (x_iload_n C rfl dX10_chosenIn_29 (kk)))) ?_
    refine zX_br (p1 := 42) (p2 := 33) (st' := []) (x4 ≤ l3) (fun C kt kf => x_icmp_le C 42 dX10_chosenIn_30 (by decide) kt kf) (fun q5 => ?_) (fun q5 => ?_)
    · have H := H.1 q5
      refine zX_seg (pc' := 45) (L' := [.ref l0, .int l1, .int l2, .int l3, .int l4, .int x4]) (st' := [.int l3, .int x4]) (h2 := h3) rfl rfl (fun C Cr hc kk => x_iload C rfl dX10_chosenIn_42 (x_iload_n C rfl dX10_chosenIn_44 (kk))) ?_
      refine zX_br (p1 := 48) (p2 := 50) (st' := []) (x4 = l3) (fun C kt kf => x_icmp_ne C 50 dX10_chosenIn_45 (by decide) kf kt) (fun q6 => ?_) (fun q6 => ?_)
      · have H := H.1 q6
        refine zX_seg (pc' := 7) (L' := [.ref l0, .int l1, .int (0 : Int32), .int l3, .int (l4 + 1), .int x4]) (st' := []) (h2 := h3) rfl rfl (fun C Cr hc kk => x_iconst C (0 : Int32) (by decide) dX10_chosenIn_48 (x_istore_n C (by decide) dX10_chosenIn_49 (x_iinc C (l4 + 1) rfl (congrArg (HAdd.hAdd _) (by decide)) (by decide) dX10_chosenIn_50 (x_goto C 7 dX10_chosenIn_53 (by decide) (kk))))) ?_
        exact zX_wk (wkK (wkK (wkK (wkK (wkK (wkD wkN)))))) H
      · have H := H.2 q6
        refine zX_seg (pc' := 7) (L' := [.ref l0, .int l1, .int l2, .int l3, .int (l4 + 1), .int x4]) (st' := []) (h2 := h3) rfl rfl (fun C Cr hc kk => x_iinc C (l4 + 1) rfl (congrArg (HAdd.hAdd _) (by decide)) (by decide) dX10_chosenIn_50 (x_goto C 7 dX10_chosenIn_53 (by decide) (kk))) ?_
        exact zX_wk (wkK (wkK (wkK (wkK (wkK (wkD wkN)))))) H
    · have H := H.2 q5
      refine zX_seg (pc' := 7) (L' := [.ref l0, .int l1, .int l4, .int x4, .int (l4 + 1), .int x4]) (st' := []) (h2 := h3) rfl rfl (fun C Cr hc kk => x_iload C rfl dX10_chosenIn_33 (x_istore_n C (by decide) dX10_chosenIn_35 (x_iload C rfl dX10_chosenIn_36 (x_istore_n C (by decide) dX10_chosenIn_38 (x_goto C 50 dX10_chosenIn_39 (by decide) (x_iinc C (l4 + 1) rfl (congrArg (HAdd.hAdd _) (by decide)) (by decide) dX10_chosenIn_50 (x_goto C 7 dX10_chosenIn_53 (by decide) (kk)))))))) ?_
      exact zX_wk (wkK (wkK (wkK (wkK (wkK (wkD wkN)))))) H
theorem nX10_chosenIn (t : Nat) (p0 : Int32) (h : zH) (Q : Option Value → zH → Prop) (H : zX mX10_chosenIn 0 [.ref t, .int p0, .float 0, .float 0, .float 0, .float 0] [] h Q) : zC mX10_chosenIn [.ref t, .int p0] h Q := zC_of (by decide +kernel) (by simp) (Nat.le_of_ble_eq_true rfl) H
