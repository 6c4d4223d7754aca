theorem dX0_init_0 : decode cX0_init 0 = .ok (.aload_n 0, 1) := by decide +kernel
theorem dX0_init_1 : decode cX0_init 1 = .ok (.invokespecial 3, 3) := by decide +kernel
theorem dX0_init_4 : decode cX0_init 4 = .ok (.aload_n 0, 1) := by decide +kernel
theorem dX0_init_5 : decode cX0_init 5 = .ok (.bipush 8, 2) := by decide +kernel
theorem dX0_init_7 : decode cX0_init 7 = .ok (.newarray .int, 2) := by decide +kernel
theorem dX0_init_9 : decode cX0_init 9 = .ok (.putfield 9, 3) := by decide +kernel
theorem dX0_init_12 : decode cX0_init 12 = .ok (.aload_n 0, 1) := by decide +kernel
theorem dX0_init_13 : decode cX0_init 13 = .ok (.bipush 8, 2) := by decide +kernel
theorem dX0_init_15 : decode cX0_init 15 = .ok (.newarray .int, 2) := by decide +kernel
theorem dX0_init_17 : decode cX0_init 17 = .ok (.putfield 15, 3) := by decide +kernel
theorem dX0_init_20 : decode cX0_init 20 = .ok (.aload_n 0, 1) := by decide +kernel
theorem dX0_init_21 : decode cX0_init 21 = .ok (.bipush 8, 2) := by decide +kernel
theorem dX0_init_23 : decode cX0_init 23 = .ok (.newarray .int, 2) := by decide +kernel
theorem dX0_init_25 : decode cX0_init 25 = .ok (.putfield 18, 3) := by decide +kernel
theorem dX0_init_28 : decode cX0_init 28 = .ok (.return_, 1) := by decide +kernel
theorem dX0_search_0 : decode cX0_search 0 = .ok (.aload_n 0, 1) := by decide +kernel
theorem dX0_search_1 : decode cX0_search 1 = .ok (.aload_n 1, 1) := by decide +kernel
theorem dX0_search_2 : decode cX0_search 2 = .ok (.putfield 21, 3) := by decide +kernel
theorem dX0_search_5 : decode cX0_search 5 = .ok (.aload_n 0, 1) := by decide +kernel
theorem dX0_search_6 : decode cX0_search 6 = .ok (.iload_n 2, 1) := by decide +kernel
theorem dX0_search_7 : decode cX0_search 7 = .ok (.putfield 25, 3) := by decide +kernel
theorem dX0_search_10 : decode cX0_search 10 = .ok (.aload_n 0, 1) := by decide +kernel
theorem dX0_search_11 : decode cX0_search 11 = .ok (.iconst 0, 1) := by decide +kernel
theorem dX0_search_12 : decode cX0_search 12 = .ok (.putfield 29, 3) := by decide +kernel
theorem dX0_search_15 : decode cX0_search 15 = .ok (.aload_n 0, 1) := by decide +kernel
theorem dX0_search_16 : decode cX0_search 16 = .ok (.iconst 0, 1) := by decide +kernel
theorem dX0_search_17 : decode cX0_search 17 = .ok (.putfield 32, 3) := by decide +kernel
theorem dX0_search_20 : decode cX0_search 20 = .ok (.aload_n 0, 1) := by decide +kernel
theorem dX0_search_21 : decode cX0_search 21 = .ok (.iload_n 3, 1) := by decide +kernel
theorem dX0_search_22 : decode cX0_search 22 = .ok (.iconst 1, 1) := by decide +kernel
theorem dX0_search_23 : decode cX0_search 23 = .ok (.invokevirtual 35, 3) := by decide +kernel
theorem dX0_search_26 : decode cX0_search 26 = .ok (.iconst 0, 1) := by decide +kernel
theorem dX0_search_27 : decode cX0_search 27 = .ok (.istore 4, 2) := by decide +kernel
theorem dX0_search_29 : decode cX0_search 29 = .ok (.iload 4, 2) := by decide +kernel
theorem dX0_search_31 : decode cX0_search 31 = .ok (.aload_n 0, 1) := by decide +kernel
theorem dX0_search_32 : decode cX0_search 32 = .ok (.getfield 32, 3) := by decide +kernel
theorem dX0_search_35 : decode cX0_search 35 = .ok (.if_icmp .ge 20, 3) := by decide +kernel
theorem dX0_search_38 : decode cX0_search 38 = .ok (.aload_n 0, 1) := by decide +kernel
theorem dX0_search_39 : decode cX0_search 39 = .ok (.aload_n 0, 1) := by decide +kernel
theorem dX0_search_40 : decode cX0_search 40 = .ok (.getfield 15, 3) := by decide +kernel
theorem dX0_search_43 : decode cX0_search 43 = .ok (.iload 4, 2) := by decide +kernel
theorem dX0_search_45 : decode cX0_search 45 = .ok (.iaload, 1) := by decide +kernel
theorem dX0_search_46 : decode cX0_search 46 = .ok (.invokevirtual 39, 3) := by decide +kernel
theorem dX0_search_49 : decode cX0_search 49 = .ok (.iinc 4 1, 3) := by decide +kernel
theorem dX0_search_52 : decode cX0_search 52 = .ok (.goto (-23), 3) := by decide +kernel
theorem dX0_search_55 : decode cX0_search 55 = .ok (.return_, 1) := by decide +kernel
theorem dX0_find_0 : decode cX0_find 0 = .ok (.aload_n 0, 1) := by decide +kernel
theorem dX0_find_1 : decode cX0_find 1 = .ok (.getfield 29, 3) := by decide +kernel
theorem dX0_find_4 : decode cX0_find 4 = .ok (.iload_n 1, 1) := by decide +kernel
theorem dX0_find_5 : decode cX0_find 5 = .ok (.invokestatic 43, 3) := by decide +kernel
theorem dX0_find_8 : decode cX0_find 8 = .ok (.ifCond .eq 4, 3) := by decide +kernel
theorem dX0_find_11 : decode cX0_find 11 = .ok (.return_, 1) := by decide +kernel
theorem dX0_find_12 : decode cX0_find 12 = .ok (.aload_n 0, 1) := by decide +kernel
theorem dX0_find_13 : decode cX0_find 13 = .ok (.aload_n 0, 1) := by decide +kernel
theorem dX0_find_14 : decode cX0_find 14 = .ok (.getfield 29, 3) := by decide +kernel
theorem dX0_find_17 : decode cX0_find 17 = .ok (.iload_n 1, 1) := by decide +kernel
theorem dX0_find_18 : decode cX0_find 18 = .ok (.iconst 1, 1) := by decide +kernel
theorem dX0_find_19 : decode cX0_find 19 = .ok (.invokestatic 47, 3) := by decide +kernel
theorem dX0_find_22 : decode cX0_find 22 = .ok (.putfield 29, 3) := by decide +kernel
theorem dX0_find_25 : decode cX0_find 25 = .ok (.aload_n 0, 1) := by decide +kernel
theorem dX0_find_26 : decode cX0_find 26 = .ok (.getfield 9, 3) := by decide +kernel
theorem dX0_find_29 : decode cX0_find 29 = .ok (.iload_n 1, 1) := by decide +kernel
theorem dX0_find_30 : decode cX0_find 30 = .ok (.iload_n 2, 1) := by decide +kernel
theorem dX0_find_31 : decode cX0_find 31 = .ok (.iastore, 1) := by decide +kernel
theorem dX0_find_32 : decode cX0_find 32 = .ok (.aload_n 0, 1) := by decide +kernel
theorem dX0_find_33 : decode cX0_find 33 = .ok (.getfield 15, 3) := by decide +kernel
theorem dX0_find_36 : decode cX0_find 36 = .ok (.aload_n 0, 1) := by decide +kernel
theorem dX0_find_37 : decode cX0_find 37 = .ok (.getfield 32, 3) := by decide +kernel
theorem dX0_find_40 : decode cX0_find 40 = .ok (.iload_n 1, 1) := by decide +kernel
theorem dX0_find_41 : decode cX0_find 41 = .ok (.iastore, 1) := by decide +kernel
theorem dX0_find_42 : decode cX0_find 42 = .ok (.aload_n 0, 1) := by decide +kernel
theorem dX0_find_43 : decode cX0_find 43 = .ok (.dup, 1) := by decide +kernel
theorem dX0_find_44 : decode cX0_find 44 = .ok (.getfield 32, 3) := by decide +kernel
theorem dX0_find_47 : decode cX0_find 47 = .ok (.iconst 1, 1) := by decide +kernel
theorem dX0_find_48 : decode cX0_find 48 = .ok (.iadd, 1) := by decide +kernel
theorem dX0_find_49 : decode cX0_find 49 = .ok (.putfield 32, 3) := by decide +kernel
theorem dX0_find_52 : decode cX0_find 52 = .ok (.return_, 1) := by decide +kernel
theorem dX0_findFrom_0 : decode cX0_findFrom 0 = .ok (.iconst 0, 1) := by decide +kernel
theorem dX0_findFrom_1 : decode cX0_findFrom 1 = .ok (.istore_n 2, 1) := by decide +kernel
theorem dX0_findFrom_2 : decode cX0_findFrom 2 = .ok (.iload_n 2, 1) := by decide +kernel
theorem dX0_findFrom_3 : decode cX0_findFrom 3 = .ok (.aload_n 0, 1) := by decide +kernel
theorem dX0_findFrom_4 : decode cX0_findFrom 4 = .ok (.getfield 21, 3) := by decide +kernel
theorem dX0_findFrom_7 : decode cX0_findFrom 7 = .ok (.getfield 51, 3) := by decide +kernel
theorem dX0_findFrom_10 : decode cX0_findFrom 10 = .ok (.if_icmp .ge 97, 3) := by decide +kernel
theorem dX0_findFrom_13 : decode cX0_findFrom 13 = .ok (.aload_n 0, 1) := by decide +kernel
theorem dX0_findFrom_14 : decode cX0_findFrom 14 = .ok (.getfield 25, 3) := by decide +kernel
theorem dX0_findFrom_17 : decode cX0_findFrom 17 = .ok (.iload_n 2, 1) := by decide +kernel
theorem dX0_findFrom_18 : decode cX0_findFrom 18 = .ok (.invokestatic 43, 3) := by decide +kernel
theorem dX0_findFrom_21 : decode cX0_findFrom 21 = .ok (.ifCond .eq 6, 3) := by decide +kernel
theorem dX0_findFrom_24 : decode cX0_findFrom 24 = .ok (.goto 77, 3) := by decide +kernel
theorem dX0_findFrom_27 : decode cX0_findFrom 27 = .ok (.aload_n 0, 1) := by decide +kernel
theorem dX0_findFrom_28 : decode cX0_findFrom 28 = .ok (.getfield 9, 3) := by decide +kernel
theorem dX0_findFrom_31 : decode cX0_findFrom 31 = .ok (.iload_n 1, 1) := by decide +kernel
theorem dX0_findFrom_32 : decode cX0_findFrom 32 = .ok (.iaload, 1) := by decide +kernel
theorem dX0_findFrom_33 : decode cX0_findFrom 33 = .ok (.aload_n 0, 1) := by decide +kernel
theorem dX0_findFrom_34 : decode cX0_findFrom 34 = .ok (.getfield 21, 3) := by decide +kernel
theorem dX0_findFrom_37 : decode cX0_findFrom 37 = .ok (.getfield 56, 3) := by decide +kernel
theorem dX0_findFrom_40 : decode cX0_findFrom 40 = .ok (.iload_n 2, 1) := by decide +kernel
theorem dX0_findFrom_41 : decode cX0_findFrom 41 = .ok (.iaload, 1) := by decide +kernel
theorem dX0_findFrom_42 : decode cX0_findFrom 42 = .ok (.imul, 1) := by decide +kernel
theorem dX0_findFrom_43 : decode cX0_findFrom 43 = .ok (.istore_n 3, 1) := by decide +kernel
theorem dX0_findFrom_44 : decode cX0_findFrom 44 = .ok (.aload_n 0, 1) := by decide +kernel
theorem dX0_findFrom_45 : decode cX0_findFrom 45 = .ok (.getfield 21, 3) := by decide +kernel
theorem dX0_findFrom_48 : decode cX0_findFrom 48 = .ok (.getfield 59, 3) := by decide +kernel
theorem dX0_findFrom_51 : decode cX0_findFrom 51 = .ok (.iload_n 2, 1) := by decide +kernel
theorem dX0_findFrom_52 : decode cX0_findFrom 52 = .ok (.iaload, 1) := by decide +kernel
theorem dX0_findFrom_53 : decode cX0_findFrom 53 = .ok (.iload_n 1, 1) := by decide +kernel
theorem dX0_findFrom_54 : decode cX0_findFrom 54 = .ok (.if_icmp .ne 20, 3) := by decide +kernel
theorem dX0_findFrom_57 : decode cX0_findFrom 57 = .ok (.aload_n 0, 1) := by decide +kernel
theorem dX0_findFrom_58 : decode cX0_findFrom 58 = .ok (.aload_n 0, 1) := by decide +kernel
theorem dX0_findFrom_59 : decode cX0_findFrom 59 = .ok (.getfield 21, 3) := by decide +kernel
theorem dX0_findFrom_62 : decode cX0_findFrom 62 = .ok (.getfield 62, 3) := by decide +kernel
theorem dX0_findFrom_65 : decode cX0_findFrom 65 = .ok (.iload_n 2, 1) := by decide +kernel
theorem dX0_findFrom_66 : decode cX0_findFrom 66 = .ok (.iaload, 1) := by decide +kernel
theorem dX0_findFrom_67 : decode cX0_findFrom 67 = .ok (.iload_n 3, 1) := by decide +kernel
theorem dX0_findFrom_68 : decode cX0_findFrom 68 = .ok (.invokevirtual 35, 3) := by decide +kernel
theorem dX0_findFrom_71 : decode cX0_findFrom 71 = .ok (.goto 30, 3) := by decide +kernel
theorem dX0_findFrom_74 : decode cX0_findFrom 74 = .ok (.aload_n 0, 1) := by decide +kernel
theorem dX0_findFrom_75 : decode cX0_findFrom 75 = .ok (.getfield 21, 3) := by decide +kernel
theorem dX0_findFrom_78 : decode cX0_findFrom 78 = .ok (.getfield 62, 3) := by decide +kernel
theorem dX0_findFrom_81 : decode cX0_findFrom 81 = .ok (.iload_n 2, 1) := by decide +kernel
theorem dX0_findFrom_82 : decode cX0_findFrom 82 = .ok (.iaload, 1) := by decide +kernel
theorem dX0_findFrom_83 : decode cX0_findFrom 83 = .ok (.iload_n 1, 1) := by decide +kernel
theorem dX0_findFrom_84 : decode cX0_findFrom 84 = .ok (.if_icmp .ne 17, 3) := by decide +kernel
theorem dX0_findFrom_87 : decode cX0_findFrom 87 = .ok (.aload_n 0, 1) := by decide +kernel
theorem dX0_findFrom_88 : decode cX0_findFrom 88 = .ok (.aload_n 0, 1) := by decide +kernel
theorem dX0_findFrom_89 : decode cX0_findFrom 89 = .ok (.getfield 21, 3) := by decide +kernel
theorem dX0_findFrom_92 : decode cX0_findFrom 92 = .ok (.getfield 59, 3) := by decide +kernel
theorem dX0_findFrom_95 : decode cX0_findFrom 95 = .ok (.iload_n 2, 1) := by decide +kernel
theorem dX0_findFrom_96 : decode cX0_findFrom 96 = .ok (.iaload, 1) := by decide +kernel
theorem dX0_findFrom_97 : decode cX0_findFrom 97 = .ok (.iload_n 3, 1) := by decide +kernel
theorem dX0_findFrom_98 : decode cX0_findFrom 98 = .ok (.invokevirtual 35, 3) := by decide +kernel
theorem dX0_findFrom_101 : decode cX0_findFrom 101 = .ok (.iinc 2 1, 3) := by decide +kernel
theorem dX0_findFrom_104 : decode cX0_findFrom 104 = .ok (.goto (-102), 3) := by decide +kernel
theorem dX0_findFrom_107 : decode cX0_findFrom 107 = .ok (.return_, 1) := by decide +kernel
theorem dX0_lockedVanes_0 : decode cX0_lockedVanes 0 = .ok (.iconst 0, 1) := by decide +kernel
theorem dX0_lockedVanes_1 : decode cX0_lockedVanes 1 = .ok (.istore_n 3, 1) := by decide +kernel
theorem dX0_lockedVanes_2 : decode cX0_lockedVanes 2 = .ok (.iconst 0, 1) := by decide +kernel
theorem dX0_lockedVanes_3 : decode cX0_lockedVanes 3 = .ok (.istore 4, 2) := by decide +kernel
theorem dX0_lockedVanes_5 : decode cX0_lockedVanes 5 = .ok (.iconst 0, 1) := by decide +kernel
theorem dX0_lockedVanes_6 : decode cX0_lockedVanes 6 = .ok (.istore 5, 2) := by decide +kernel
theorem dX0_lockedVanes_8 : decode cX0_lockedVanes 8 = .ok (.iload 5, 2) := by decide +kernel
theorem dX0_lockedVanes_10 : decode cX0_lockedVanes 10 = .ok (.aload_n 1, 1) := by decide +kernel
theorem dX0_lockedVanes_11 : decode cX0_lockedVanes 11 = .ok (.getfield 65, 3) := by decide +kernel
theorem dX0_lockedVanes_14 : decode cX0_lockedVanes 14 = .ok (.if_icmp .ge 53, 3) := by decide +kernel
theorem dX0_lockedVanes_17 : decode cX0_lockedVanes 17 = .ok (.iload 4, 2) := by decide +kernel
theorem dX0_lockedVanes_19 : decode cX0_lockedVanes 19 = .ok (.iload 5, 2) := by decide +kernel
theorem dX0_lockedVanes_21 : decode cX0_lockedVanes 21 = .ok (.invokestatic 43, 3) := by decide +kernel
theorem dX0_lockedVanes_24 : decode cX0_lockedVanes 24 = .ok (.ifCond .eq 6, 3) := by decide +kernel
theorem dX0_lockedVanes_27 : decode cX0_lockedVanes 27 = .ok (.goto 34, 3) := by decide +kernel
theorem dX0_lockedVanes_30 : decode cX0_lockedVanes 30 = .ok (.aload_n 0, 1) := by decide +kernel
theorem dX0_lockedVanes_31 : decode cX0_lockedVanes 31 = .ok (.aload_n 1, 1) := by decide +kernel
theorem dX0_lockedVanes_32 : decode cX0_lockedVanes 32 = .ok (.iload_n 2, 1) := by decide +kernel
theorem dX0_lockedVanes_33 : decode cX0_lockedVanes 33 = .ok (.iload 5, 2) := by decide +kernel
theorem dX0_lockedVanes_35 : decode cX0_lockedVanes 35 = .ok (.invokevirtual 68, 3) := by decide +kernel
theorem dX0_lockedVanes_38 : decode cX0_lockedVanes 38 = .ok (.iload 4, 2) := by decide +kernel
theorem dX0_lockedVanes_40 : decode cX0_lockedVanes 40 = .ok (.aload_n 0, 1) := by decide +kernel
theorem dX0_lockedVanes_41 : decode cX0_lockedVanes 41 = .ok (.getfield 29, 3) := by decide +kernel
theorem dX0_lockedVanes_44 : decode cX0_lockedVanes 44 = .ok (.ior, 1) := by decide +kernel
theorem dX0_lockedVanes_45 : decode cX0_lockedVanes 45 = .ok (.istore 4, 2) := by decide +kernel
theorem dX0_lockedVanes_47 : decode cX0_lockedVanes 47 = .ok (.aload_n 0, 1) := by decide +kernel
theorem dX0_lockedVanes_48 : decode cX0_lockedVanes 48 = .ok (.invokevirtual 72, 3) := by decide +kernel
theorem dX0_lockedVanes_51 : decode cX0_lockedVanes 51 = .ok (.ifCond .eq 10, 3) := by decide +kernel
theorem dX0_lockedVanes_54 : decode cX0_lockedVanes 54 = .ok (.iload_n 3, 1) := by decide +kernel
theorem dX0_lockedVanes_55 : decode cX0_lockedVanes 55 = .ok (.aload_n 0, 1) := by decide +kernel
theorem dX0_lockedVanes_56 : decode cX0_lockedVanes 56 = .ok (.getfield 29, 3) := by decide +kernel
theorem dX0_lockedVanes_59 : decode cX0_lockedVanes 59 = .ok (.ior, 1) := by decide +kernel
theorem dX0_lockedVanes_60 : decode cX0_lockedVanes 60 = .ok (.istore_n 3, 1) := by decide +kernel
theorem dX0_lockedVanes_61 : decode cX0_lockedVanes 61 = .ok (.iinc 5 1, 3) := by decide +kernel
theorem dX0_lockedVanes_64 : decode cX0_lockedVanes 64 = .ok (.goto (-56), 3) := by decide +kernel
theorem dX0_lockedVanes_67 : decode cX0_lockedVanes 67 = .ok (.iload_n 3, 1) := by decide +kernel
theorem dX0_lockedVanes_68 : decode cX0_lockedVanes 68 = .ok (.ireturn, 1) := by decide +kernel
theorem dX0_turnsBothWays_0 : decode cX0_turnsBothWays 0 = .ok (.iconst 0, 1) := by decide +kernel
theorem dX0_turnsBothWays_1 : decode cX0_turnsBothWays 1 = .ok (.istore_n 1, 1) := by decide +kernel
theorem dX0_turnsBothWays_2 : decode cX0_turnsBothWays 2 = .ok (.iload_n 1, 1) := by decide +kernel
theorem dX0_turnsBothWays_3 : decode cX0_turnsBothWays 3 = .ok (.aload_n 0, 1) := by decide +kernel
theorem dX0_turnsBothWays_4 : decode cX0_turnsBothWays 4 = .ok (.getfield 21, 3) := by decide +kernel
theorem dX0_turnsBothWays_7 : decode cX0_turnsBothWays 7 = .ok (.getfield 51, 3) := by decide +kernel
theorem dX0_turnsBothWays_10 : decode cX0_turnsBothWays 10 = .ok (.if_icmp .ge 78, 3) := by decide +kernel
theorem dX0_turnsBothWays_13 : decode cX0_turnsBothWays 13 = .ok (.aload_n 0, 1) := by decide +kernel
theorem dX0_turnsBothWays_14 : decode cX0_turnsBothWays 14 = .ok (.getfield 21, 3) := by decide +kernel
theorem dX0_turnsBothWays_17 : decode cX0_turnsBothWays 17 = .ok (.getfield 59, 3) := by decide +kernel
theorem dX0_turnsBothWays_20 : decode cX0_turnsBothWays 20 = .ok (.iload_n 1, 1) := by decide +kernel
theorem dX0_turnsBothWays_21 : decode cX0_turnsBothWays 21 = .ok (.iaload, 1) := by decide +kernel
theorem dX0_turnsBothWays_22 : decode cX0_turnsBothWays 22 = .ok (.istore_n 2, 1) := by decide +kernel
theorem dX0_turnsBothWays_23 : decode cX0_turnsBothWays 23 = .ok (.aload_n 0, 1) := by decide +kernel
theorem dX0_turnsBothWays_24 : decode cX0_turnsBothWays 24 = .ok (.getfield 21, 3) := by decide +kernel
theorem dX0_turnsBothWays_27 : decode cX0_turnsBothWays 27 = .ok (.getfield 62, 3) := by decide +kernel
theorem dX0_turnsBothWays_30 : decode cX0_turnsBothWays 30 = .ok (.iload_n 1, 1) := by decide +kernel
theorem dX0_turnsBothWays_31 : decode cX0_turnsBothWays 31 = .ok (.iaload, 1) := by decide +kernel
theorem dX0_turnsBothWays_32 : decode cX0_turnsBothWays 32 = .ok (.istore_n 3, 1) := by decide +kernel
theorem dX0_turnsBothWays_33 : decode cX0_turnsBothWays 33 = .ok (.aload_n 0, 1) := by decide +kernel
theorem dX0_turnsBothWays_34 : decode cX0_turnsBothWays 34 = .ok (.getfield 25, 3) := by decide +kernel
theorem dX0_turnsBothWays_37 : decode cX0_turnsBothWays 37 = .ok (.iload_n 1, 1) := by decide +kernel
theorem dX0_turnsBothWays_38 : decode cX0_turnsBothWays 38 = .ok (.invokestatic 43, 3) := by decide +kernel
theorem dX0_turnsBothWays_41 : decode cX0_turnsBothWays 41 = .ok (.ifCond .ne 41, 3) := by decide +kernel
theorem dX0_turnsBothWays_44 : decode cX0_turnsBothWays 44 = .ok (.aload_n 0, 1) := by decide +kernel
theorem dX0_turnsBothWays_45 : decode cX0_turnsBothWays 45 = .ok (.getfield 29, 3) := by decide +kernel
theorem dX0_turnsBothWays_48 : decode cX0_turnsBothWays 48 = .ok (.iload_n 2, 1) := by decide +kernel
theorem dX0_turnsBothWays_49 : decode cX0_turnsBothWays 49 = .ok (.invokestatic 43, 3) := by decide +kernel
theorem dX0_turnsBothWays_52 : decode cX0_turnsBothWays 52 = .ok (.ifCond .eq 30, 3) := by decide +kernel
theorem dX0_turnsBothWays_55 : decode cX0_turnsBothWays 55 = .ok (.aload_n 0, 1) := by decide +kernel
theorem dX0_turnsBothWays_56 : decode cX0_turnsBothWays 56 = .ok (.getfield 9, 3) := by decide +kernel
theorem dX0_turnsBothWays_59 : decode cX0_turnsBothWays 59 = .ok (.iload_n 2, 1) := by decide +kernel
theorem dX0_turnsBothWays_60 : decode cX0_turnsBothWays 60 = .ok (.iaload, 1) := by decide +kernel
theorem dX0_turnsBothWays_61 : decode cX0_turnsBothWays 61 = .ok (.aload_n 0, 1) := by decide +kernel
theorem dX0_turnsBothWays_62 : decode cX0_turnsBothWays 62 = .ok (.getfield 21, 3) := by decide +kernel
theorem dX0_turnsBothWays_65 : decode cX0_turnsBothWays 65 = .ok (.getfield 56, 3) := by decide +kernel
theorem dX0_turnsBothWays_68 : decode cX0_turnsBothWays 68 = .ok (.iload_n 1, 1) := by decide +kernel
theorem dX0_turnsBothWays_69 : decode cX0_turnsBothWays 69 = .ok (.iaload, 1) := by decide +kernel
theorem dX0_turnsBothWays_70 : decode cX0_turnsBothWays 70 = .ok (.imul, 1) := by decide +kernel
theorem dX0_turnsBothWays_71 : decode cX0_turnsBothWays 71 = .ok (.aload_n 0, 1) := by decide +kernel
theorem dX0_turnsBothWays_72 : decode cX0_turnsBothWays 72 = .ok (.getfield 9, 3) := by decide +kernel
theorem dX0_turnsBothWays_75 : decode cX0_turnsBothWays 75 = .ok (.iload_n 3, 1) := by decide +kernel
theorem dX0_turnsBothWays_76 : decode cX0_turnsBothWays 76 = .ok (.iaload, 1) := by decide +kernel
theorem dX0_turnsBothWays_77 : decode cX0_turnsBothWays 77 = .ok (.if_icmp .eq 5, 3) := by decide +kernel
theorem dX0_turnsBothWays_80 : decode cX0_turnsBothWays 80 = .ok (.iconst 1, 1) := by decide +kernel
theorem dX0_turnsBothWays_81 : decode cX0_turnsBothWays 81 = .ok (.ireturn, 1) := by decide +kernel
theorem dX0_turnsBothWays_82 : decode cX0_turnsBothWays 82 = .ok (.iinc 1 1, 3) := by decide +kernel
theorem dX0_turnsBothWays_85 : decode cX0_turnsBothWays 85 = .ok (.goto (-83), 3) := by decide +kernel
theorem dX0_turnsBothWays_88 : decode cX0_turnsBothWays 88 = .ok (.iconst 0, 1) := by decide +kernel
theorem dX0_turnsBothWays_89 : decode cX0_turnsBothWays 89 = .ok (.ireturn, 1) := by decide +kernel
theorem dX0_leastSlack_0 : decode cX0_leastSlack 0 = .ok (.aload_n 0, 1) := by decide +kernel
theorem dX0_leastSlack_1 : decode cX0_leastSlack 1 = .ok (.aload_n 1, 1) := by decide +kernel
theorem dX0_leastSlack_2 : decode cX0_leastSlack 2 = .ok (.putfield 21, 3) := by decide +kernel
theorem dX0_leastSlack_5 : decode cX0_leastSlack 5 = .ok (.aload_n 0, 1) := by decide +kernel
theorem dX0_leastSlack_6 : decode cX0_leastSlack 6 = .ok (.iload_n 2, 1) := by decide +kernel
theorem dX0_leastSlack_7 : decode cX0_leastSlack 7 = .ok (.putfield 25, 3) := by decide +kernel
theorem dX0_leastSlack_10 : decode cX0_leastSlack 10 = .ok (.iconst 0, 1) := by decide +kernel
theorem dX0_leastSlack_11 : decode cX0_leastSlack 11 = .ok (.istore 5, 2) := by decide +kernel
theorem dX0_leastSlack_13 : decode cX0_leastSlack 13 = .ok (.iload 5, 2) := by decide +kernel
theorem dX0_leastSlack_15 : decode cX0_leastSlack 15 = .ok (.bipush 8, 2) := by decide +kernel
theorem dX0_leastSlack_17 : decode cX0_leastSlack 17 = .ok (.if_icmp .ge 19, 3) := by decide +kernel
theorem dX0_leastSlack_20 : decode cX0_leastSlack 20 = .ok (.aload_n 0, 1) := by decide +kernel
theorem dX0_leastSlack_21 : decode cX0_leastSlack 21 = .ok (.getfield 18, 3) := by decide +kernel
theorem dX0_leastSlack_24 : decode cX0_leastSlack 24 = .ok (.iload 5, 2) := by decide +kernel
theorem dX0_leastSlack_26 : decode cX0_leastSlack 26 = .ok (.sipush 1000, 3) := by decide +kernel
theorem dX0_leastSlack_29 : decode cX0_leastSlack 29 = .ok (.iastore, 1) := by decide +kernel
theorem dX0_leastSlack_30 : decode cX0_leastSlack 30 = .ok (.iinc 5 1, 3) := by decide +kernel
theorem dX0_leastSlack_33 : decode cX0_leastSlack 33 = .ok (.goto (-20), 3) := by decide +kernel
theorem dX0_leastSlack_36 : decode cX0_leastSlack 36 = .ok (.aload_n 0, 1) := by decide +kernel
theorem dX0_leastSlack_37 : decode cX0_leastSlack 37 = .ok (.getfield 18, 3) := by decide +kernel
theorem dX0_leastSlack_40 : decode cX0_leastSlack 40 = .ok (.iload_n 3, 1) := by decide +kernel
theorem dX0_leastSlack_41 : decode cX0_leastSlack 41 = .ok (.iconst 0, 1) := by decide +kernel
theorem dX0_leastSlack_42 : decode cX0_leastSlack 42 = .ok (.iastore, 1) := by decide +kernel
theorem dX0_leastSlack_43 : decode cX0_leastSlack 43 = .ok (.iconst 0, 1) := by decide +kernel
theorem dX0_leastSlack_44 : decode cX0_leastSlack 44 = .ok (.istore 5, 2) := by decide +kernel
theorem dX0_leastSlack_46 : decode cX0_leastSlack 46 = .ok (.iload 5, 2) := by decide +kernel
theorem dX0_leastSlack_48 : decode cX0_leastSlack 48 = .ok (.bipush 8, 2) := by decide +kernel
theorem dX0_leastSlack_50 : decode cX0_leastSlack 50 = .ok (.if_icmp .ge 13, 3) := by decide +kernel
theorem dX0_leastSlack_53 : decode cX0_leastSlack 53 = .ok (.aload_n 0, 1) := by decide +kernel
theorem dX0_leastSlack_54 : decode cX0_leastSlack 54 = .ok (.invokevirtual 76, 3) := by decide +kernel
theorem dX0_leastSlack_57 : decode cX0_leastSlack 57 = .ok (.iinc 5 1, 3) := by decide +kernel
theorem dX0_leastSlack_60 : decode cX0_leastSlack 60 = .ok (.goto (-14), 3) := by decide +kernel
theorem dX0_leastSlack_63 : decode cX0_leastSlack 63 = .ok (.aload_n 0, 1) := by decide +kernel
theorem dX0_leastSlack_64 : decode cX0_leastSlack 64 = .ok (.getfield 18, 3) := by decide +kernel
theorem dX0_leastSlack_67 : decode cX0_leastSlack 67 = .ok (.iload 4, 2) := by decide +kernel
theorem dX0_leastSlack_69 : decode cX0_leastSlack 69 = .ok (.iaload, 1) := by decide +kernel
theorem dX0_leastSlack_70 : decode cX0_leastSlack 70 = .ok (.sipush 1000, 3) := by decide +kernel
theorem dX0_leastSlack_73 : decode cX0_leastSlack 73 = .ok (.if_icmp .ne 7, 3) := by decide +kernel
theorem dX0_leastSlack_76 : decode cX0_leastSlack 76 = .ok (.iconst (-1), 1) := by decide +kernel
theorem dX0_leastSlack_77 : decode cX0_leastSlack 77 = .ok (.goto 10, 3) := by decide +kernel
theorem dX0_leastSlack_80 : decode cX0_leastSlack 80 = .ok (.aload_n 0, 1) := by decide +kernel
theorem dX0_leastSlack_81 : decode cX0_leastSlack 81 = .ok (.getfield 18, 3) := by decide +kernel
theorem dX0_leastSlack_84 : decode cX0_leastSlack 84 = .ok (.iload 4, 2) := by decide +kernel
theorem dX0_leastSlack_86 : decode cX0_leastSlack 86 = .ok (.iaload, 1) := by decide +kernel
theorem dX0_leastSlack_87 : decode cX0_leastSlack 87 = .ok (.ireturn, 1) := by decide +kernel
theorem dX0_spreadSlack_0 : decode cX0_spreadSlack 0 = .ok (.iconst 0, 1) := by decide +kernel
theorem dX0_spreadSlack_1 : decode cX0_spreadSlack 1 = .ok (.istore_n 1, 1) := by decide +kernel
theorem dX0_spreadSlack_2 : decode cX0_spreadSlack 2 = .ok (.iload_n 1, 1) := by decide +kernel
theorem dX0_spreadSlack_3 : decode cX0_spreadSlack 3 = .ok (.aload_n 0, 1) := by decide +kernel
theorem dX0_spreadSlack_4 : decode cX0_spreadSlack 4 = .ok (.getfield 21, 3) := by decide +kernel
theorem dX0_spreadSlack_7 : decode cX0_spreadSlack 7 = .ok (.getfield 51, 3) := by decide +kernel
theorem dX0_spreadSlack_10 : decode cX0_spreadSlack 10 = .ok (.if_icmp .ge 105, 3) := by decide +kernel
theorem dX0_spreadSlack_13 : decode cX0_spreadSlack 13 = .ok (.aload_n 0, 1) := by decide +kernel
theorem dX0_spreadSlack_14 : decode cX0_spreadSlack 14 = .ok (.getfield 25, 3) := by decide +kernel
theorem dX0_spreadSlack_17 : decode cX0_spreadSlack 17 = .ok (.iload_n 1, 1) := by decide +kernel
theorem dX0_spreadSlack_18 : decode cX0_spreadSlack 18 = .ok (.invokestatic 43, 3) := by decide +kernel
theorem dX0_spreadSlack_21 : decode cX0_spreadSlack 21 = .ok (.ifCond .eq 6, 3) := by decide +kernel
theorem dX0_spreadSlack_24 : decode cX0_spreadSlack 24 = .ok (.goto 85, 3) := by decide +kernel
theorem dX0_spreadSlack_27 : decode cX0_spreadSlack 27 = .ok (.aload_n 0, 1) := by decide +kernel
theorem dX0_spreadSlack_28 : decode cX0_spreadSlack 28 = .ok (.getfield 21, 3) := by decide +kernel
theorem dX0_spreadSlack_31 : decode cX0_spreadSlack 31 = .ok (.getfield 59, 3) := by decide +kernel
theorem dX0_spreadSlack_34 : decode cX0_spreadSlack 34 = .ok (.iload_n 1, 1) := by decide +kernel
theorem dX0_spreadSlack_35 : decode cX0_spreadSlack 35 = .ok (.iaload, 1) := by decide +kernel
theorem dX0_spreadSlack_36 : decode cX0_spreadSlack 36 = .ok (.istore_n 2, 1) := by decide +kernel
theorem dX0_spreadSlack_37 : decode cX0_spreadSlack 37 = .ok (.aload_n 0, 1) := by decide +kernel
theorem dX0_spreadSlack_38 : decode cX0_spreadSlack 38 = .ok (.getfield 21, 3) := by decide +kernel
theorem dX0_spreadSlack_41 : decode cX0_spreadSlack 41 = .ok (.getfield 62, 3) := by decide +kernel
theorem dX0_spreadSlack_44 : decode cX0_spreadSlack 44 = .ok (.iload_n 1, 1) := by decide +kernel
theorem dX0_spreadSlack_45 : decode cX0_spreadSlack 45 = .ok (.iaload, 1) := by decide +kernel
theorem dX0_spreadSlack_46 : decode cX0_spreadSlack 46 = .ok (.istore_n 3, 1) := by decide +kernel
theorem dX0_spreadSlack_47 : decode cX0_spreadSlack 47 = .ok (.aload_n 0, 1) := by decide +kernel
theorem dX0_spreadSlack_48 : decode cX0_spreadSlack 48 = .ok (.getfield 18, 3) := by decide +kernel
theorem dX0_spreadSlack_51 : decode cX0_spreadSlack 51 = .ok (.iload_n 2, 1) := by decide +kernel
theorem dX0_spreadSlack_52 : decode cX0_spreadSlack 52 = .ok (.aload_n 0, 1) := by decide +kernel
theorem dX0_spreadSlack_53 : decode cX0_spreadSlack 53 = .ok (.getfield 18, 3) := by decide +kernel
theorem dX0_spreadSlack_56 : decode cX0_spreadSlack 56 = .ok (.iload_n 2, 1) := by decide +kernel
theorem dX0_spreadSlack_57 : decode cX0_spreadSlack 57 = .ok (.iaload, 1) := by decide +kernel
theorem dX0_spreadSlack_58 : decode cX0_spreadSlack 58 = .ok (.aload_n 0, 1) := by decide +kernel
theorem dX0_spreadSlack_59 : decode cX0_spreadSlack 59 = .ok (.getfield 18, 3) := by decide +kernel
theorem dX0_spreadSlack_62 : decode cX0_spreadSlack 62 = .ok (.iload_n 3, 1) := by decide +kernel
theorem dX0_spreadSlack_63 : decode cX0_spreadSlack 63 = .ok (.iaload, 1) := by decide +kernel
theorem dX0_spreadSlack_64 : decode cX0_spreadSlack 64 = .ok (.aload_n 0, 1) := by decide +kernel
theorem dX0_spreadSlack_65 : decode cX0_spreadSlack 65 = .ok (.getfield 21, 3) := by decide +kernel
theorem dX0_spreadSlack_68 : decode cX0_spreadSlack 68 = .ok (.getfield 79, 3) := by decide +kernel
theorem dX0_spreadSlack_71 : decode cX0_spreadSlack 71 = .ok (.iload_n 1, 1) := by decide +kernel
theorem dX0_spreadSlack_72 : decode cX0_spreadSlack 72 = .ok (.iaload, 1) := by decide +kernel
theorem dX0_spreadSlack_73 : decode cX0_spreadSlack 73 = .ok (.iadd, 1) := by decide +kernel
theorem dX0_spreadSlack_74 : decode cX0_spreadSlack 74 = .ok (.invokestatic 82, 3) := by decide +kernel
theorem dX0_spreadSlack_77 : decode cX0_spreadSlack 77 = .ok (.iastore, 1) := by decide +kernel
theorem dX0_spreadSlack_78 : decode cX0_spreadSlack 78 = .ok (.aload_n 0, 1) := by decide +kernel
theorem dX0_spreadSlack_79 : decode cX0_spreadSlack 79 = .ok (.getfield 18, 3) := by decide +kernel
theorem dX0_spreadSlack_82 : decode cX0_spreadSlack 82 = .ok (.iload_n 3, 1) := by decide +kernel
theorem dX0_spreadSlack_83 : decode cX0_spreadSlack 83 = .ok (.aload_n 0, 1) := by decide +kernel
theorem dX0_spreadSlack_84 : decode cX0_spreadSlack 84 = .ok (.getfield 18, 3) := by decide +kernel
theorem dX0_spreadSlack_87 : decode cX0_spreadSlack 87 = .ok (.iload_n 3, 1) := by decide +kernel
theorem dX0_spreadSlack_88 : decode cX0_spreadSlack 88 = .ok (.iaload, 1) := by decide +kernel
theorem dX0_spreadSlack_89 : decode cX0_spreadSlack 89 = .ok (.aload_n 0, 1) := by decide +kernel
theorem dX0_spreadSlack_90 : decode cX0_spreadSlack 90 = .ok (.getfield 18, 3) := by decide +kernel
theorem dX0_spreadSlack_93 : decode cX0_spreadSlack 93 = .ok (.iload_n 2, 1) := by decide +kernel
theorem dX0_spreadSlack_94 : decode cX0_spreadSlack 94 = .ok (.iaload, 1) := by decide +kernel
theorem dX0_spreadSlack_95 : decode cX0_spreadSlack 95 = .ok (.aload_n 0, 1) := by decide +kernel
theorem dX0_spreadSlack_96 : decode cX0_spreadSlack 96 = .ok (.getfield 21, 3) := by decide +kernel
theorem dX0_spreadSlack_99 : decode cX0_spreadSlack 99 = .ok (.getfield 79, 3) := by decide +kernel
theorem dX0_spreadSlack_102 : decode cX0_spreadSlack 102 = .ok (.iload_n 1, 1) := by decide +kernel
theorem dX0_spreadSlack_103 : decode cX0_spreadSlack 103 = .ok (.iaload, 1) := by decide +kernel
theorem dX0_spreadSlack_104 : decode cX0_spreadSlack 104 = .ok (.iadd, 1) := by decide +kernel
theorem dX0_spreadSlack_105 : decode cX0_spreadSlack 105 = .ok (.invokestatic 82, 3) := by decide +kernel
theorem dX0_spreadSlack_108 : decode cX0_spreadSlack 108 = .ok (.iastore, 1) := by decide +kernel
theorem dX0_spreadSlack_109 : decode cX0_spreadSlack 109 = .ok (.iinc 1 1, 3) := by decide +kernel
theorem dX0_spreadSlack_112 : decode cX0_spreadSlack 112 = .ok (.goto (-110), 3) := by decide +kernel
theorem dX0_spreadSlack_115 : decode cX0_spreadSlack 115 = .ok (.return_, 1) := by decide +kernel
theorem dX0_partingShafts_0 : decode cX0_partingShafts 0 = .ok (.iconst 0, 1) := by decide +kernel
theorem dX0_partingShafts_1 : decode cX0_partingShafts 1 = .ok (.istore_n 3, 1) := by decide +kernel
theorem dX0_partingShafts_2 : decode cX0_partingShafts 2 = .ok (.iconst 0, 1) := by decide +kernel
theorem dX0_partingShafts_3 : decode cX0_partingShafts 3 = .ok (.istore 4, 2) := by decide +kernel
theorem dX0_partingShafts_5 : decode cX0_partingShafts 5 = .ok (.iload 4, 2) := by decide +kernel
theorem dX0_partingShafts_7 : decode cX0_partingShafts 7 = .ok (.aload_n 1, 1) := by decide +kernel
theorem dX0_partingShafts_8 : decode cX0_partingShafts 8 = .ok (.getfield 51, 3) := by decide +kernel
theorem dX0_partingShafts_11 : decode cX0_partingShafts 11 = .ok (.if_icmp .ge 65, 3) := by decide +kernel
theorem dX0_partingShafts_14 : decode cX0_partingShafts 14 = .ok (.iload_n 2, 1) := by decide +kernel
theorem dX0_partingShafts_15 : decode cX0_partingShafts 15 = .ok (.iload 4, 2) := by decide +kernel
theorem dX0_partingShafts_17 : decode cX0_partingShafts 17 = .ok (.invokestatic 43, 3) := by decide +kernel
theorem dX0_partingShafts_20 : decode cX0_partingShafts 20 = .ok (.ifCond .eq 6, 3) := by decide +kernel
theorem dX0_partingShafts_23 : decode cX0_partingShafts 23 = .ok (.goto 47, 3) := by decide +kernel
theorem dX0_partingShafts_26 : decode cX0_partingShafts 26 = .ok (.aload_n 0, 1) := by decide +kernel
theorem dX0_partingShafts_27 : decode cX0_partingShafts 27 = .ok (.aload_n 1, 1) := by decide +kernel
theorem dX0_partingShafts_28 : decode cX0_partingShafts 28 = .ok (.iload_n 2, 1) := by decide +kernel
theorem dX0_partingShafts_29 : decode cX0_partingShafts 29 = .ok (.iload 4, 2) := by decide +kernel
theorem dX0_partingShafts_31 : decode cX0_partingShafts 31 = .ok (.iconst 1, 1) := by decide +kernel
theorem dX0_partingShafts_32 : decode cX0_partingShafts 32 = .ok (.invokestatic 47, 3) := by decide +kernel
theorem dX0_partingShafts_35 : decode cX0_partingShafts 35 = .ok (.aload_n 1, 1) := by decide +kernel
theorem dX0_partingShafts_36 : decode cX0_partingShafts 36 = .ok (.getfield 59, 3) := by decide +kernel
theorem dX0_partingShafts_39 : decode cX0_partingShafts 39 = .ok (.iload 4, 2) := by decide +kernel
theorem dX0_partingShafts_41 : decode cX0_partingShafts 41 = .ok (.iaload, 1) := by decide +kernel
theorem dX0_partingShafts_42 : decode cX0_partingShafts 42 = .ok (.invokevirtual 68, 3) := by decide +kernel
theorem dX0_partingShafts_45 : decode cX0_partingShafts 45 = .ok (.aload_n 0, 1) := by decide +kernel
theorem dX0_partingShafts_46 : decode cX0_partingShafts 46 = .ok (.getfield 29, 3) := by decide +kernel
theorem dX0_partingShafts_49 : decode cX0_partingShafts 49 = .ok (.aload_n 1, 1) := by decide +kernel
theorem dX0_partingShafts_50 : decode cX0_partingShafts 50 = .ok (.getfield 62, 3) := by decide +kernel
theorem dX0_partingShafts_53 : decode cX0_partingShafts 53 = .ok (.iload 4, 2) := by decide +kernel
theorem dX0_partingShafts_55 : decode cX0_partingShafts 55 = .ok (.iaload, 1) := by decide +kernel
theorem dX0_partingShafts_56 : decode cX0_partingShafts 56 = .ok (.invokestatic 43, 3) := by decide +kernel
theorem dX0_partingShafts_59 : decode cX0_partingShafts 59 = .ok (.ifCond .ne 11, 3) := by decide +kernel
theorem dX0_partingShafts_62 : decode cX0_partingShafts 62 = .ok (.iload_n 3, 1) := by decide +kernel
theorem dX0_partingShafts_63 : decode cX0_partingShafts 63 = .ok (.iload 4, 2) := by decide +kernel
theorem dX0_partingShafts_65 : decode cX0_partingShafts 65 = .ok (.iconst 1, 1) := by decide +kernel
theorem dX0_partingShafts_66 : decode cX0_partingShafts 66 = .ok (.invokestatic 47, 3) := by decide +kernel
theorem dX0_partingShafts_69 : decode cX0_partingShafts 69 = .ok (.istore_n 3, 1) := by decide +kernel
theorem dX0_partingShafts_70 : decode cX0_partingShafts 70 = .ok (.iinc 4 1, 3) := by decide +kernel
theorem dX0_partingShafts_73 : decode cX0_partingShafts 73 = .ok (.goto (-68), 3) := by decide +kernel
theorem dX0_partingShafts_76 : decode cX0_partingShafts 76 = .ok (.iload_n 3, 1) := by decide +kernel
theorem dX0_partingShafts_77 : decode cX0_partingShafts 77 = .ok (.ireturn, 1) := by decide +kernel
theorem dX1_init_0 : decode cX1_init 0 = .ok (.aload_n 0, 1) := by decide +kernel
theorem dX1_init_1 : decode cX1_init 1 = .ok (.invokespecial 3, 3) := by decide +kernel
theorem dX1_init_4 : decode cX1_init 4 = .ok (.aload_n 0, 1) := by decide +kernel
theorem dX1_init_5 : decode cX1_init 5 = .ok (.iconst 3, 1) := by decide +kernel
theorem dX1_init_6 : decode cX1_init 6 = .ok (.newarray .int, 2) := by decide +kernel
theorem dX1_init_8 : decode cX1_init 8 = .ok (.putfield 11, 3) := by decide +kernel
theorem dX1_init_11 : decode cX1_init 11 = .ok (.return_, 1) := by decide +kernel
theorem dX1_readAll_0 : decode cX1_readAll 0 = .ok (.aload_n 0, 1) := by decide +kernel
theorem dX1_readAll_1 : decode cX1_readAll 1 = .ok (.aload_n 1, 1) := by decide +kernel
theorem dX1_readAll_2 : decode cX1_readAll 2 = .ok (.putfield 15, 3) := by decide +kernel
theorem dX1_readAll_5 : decode cX1_readAll 5 = .ok (.aload_n 0, 1) := by decide +kernel
theorem dX1_readAll_6 : decode cX1_readAll 6 = .ok (.aload_n 2, 1) := by decide +kernel
theorem dX1_readAll_7 : decode cX1_readAll 7 = .ok (.putfield 19, 3) := by decide +kernel
theorem dX1_readAll_10 : decode cX1_readAll 10 = .ok (.aload_n 0, 1) := by decide +kernel
theorem dX1_readAll_11 : decode cX1_readAll 11 = .ok (.aload_n 3, 1) := by decide +kernel
theorem dX1_readAll_12 : decode cX1_readAll 12 = .ok (.putfield 23, 3) := by decide +kernel
theorem dX1_readAll_15 : decode cX1_readAll 15 = .ok (.aload_n 0, 1) := by decide +kernel
theorem dX1_readAll_16 : decode cX1_readAll 16 = .ok (.getfield 23, 3) := by decide +kernel
theorem dX1_readAll_19 : decode cX1_readAll 19 = .ok (.invokevirtual 27, 3) := by decide +kernel
theorem dX1_readAll_22 : decode cX1_readAll 22 = .ok (.aload_n 0, 1) := by decide +kernel
theorem dX1_readAll_23 : decode cX1_readAll 23 = .ok (.iconst 0, 1) := by decide +kernel
theorem dX1_readAll_24 : decode cX1_readAll 24 = .ok (.putfield 32, 3) := by decide +kernel
theorem dX1_readAll_27 : decode cX1_readAll 27 = .ok (.iconst 0, 1) := by decide +kernel
theorem dX1_readAll_28 : decode cX1_readAll 28 = .ok (.istore 4, 2) := by decide +kernel
theorem dX1_readAll_30 : decode cX1_readAll 30 = .ok (.iload 4, 2) := by decide +kernel
theorem dX1_readAll_32 : decode cX1_readAll 32 = .ok (.bipush 60, 2) := by decide +kernel
theorem dX1_readAll_34 : decode cX1_readAll 34 = .ok (.if_icmp .gt 28, 3) := by decide +kernel
theorem dX1_readAll_37 : decode cX1_readAll 37 = .ok (.aload_n 0, 1) := by decide +kernel
theorem dX1_readAll_38 : decode cX1_readAll 38 = .ok (.getfield 15, 3) := by decide +kernel
theorem dX1_readAll_41 : decode cX1_readAll 41 = .ok (.getfield 36, 3) := by decide +kernel
theorem dX1_readAll_44 : decode cX1_readAll 44 = .ok (.ifCond .eq 18, 3) := by decide +kernel
theorem dX1_readAll_47 : decode cX1_readAll 47 = .ok (.aload_n 0, 1) := by decide +kernel
theorem dX1_readAll_48 : decode cX1_readAll 48 = .ok (.invokevirtual 41, 3) := by decide +kernel
theorem dX1_readAll_51 : decode cX1_readAll 51 = .ok (.ifCond .ne 5, 3) := by decide +kernel
theorem dX1_readAll_54 : decode cX1_readAll 54 = .ok (.iconst 0, 1) := by decide +kernel
theorem dX1_readAll_55 : decode cX1_readAll 55 = .ok (.ireturn, 1) := by decide +kernel
theorem dX1_readAll_56 : decode cX1_readAll 56 = .ok (.iinc 4 1, 3) := by decide +kernel
theorem dX1_readAll_59 : decode cX1_readAll 59 = .ok (.goto (-29), 3) := by decide +kernel
theorem dX1_readAll_62 : decode cX1_readAll 62 = .ok (.aload_n 0, 1) := by decide +kernel
theorem dX1_readAll_63 : decode cX1_readAll 63 = .ok (.getfield 32, 3) := by decide +kernel
theorem dX1_readAll_66 : decode cX1_readAll 66 = .ok (.ifCond .gt 13, 3) := by decide +kernel
theorem dX1_readAll_69 : decode cX1_readAll 69 = .ok (.aload_n 0, 1) := by decide +kernel
theorem dX1_readAll_70 : decode cX1_readAll 70 = .ok (.getfield 15, 3) := by decide +kernel
theorem dX1_readAll_73 : decode cX1_readAll 73 = .ok (.getfield 36, 3) := by decide +kernel
theorem dX1_readAll_76 : decode cX1_readAll 76 = .ok (.ifCond .eq 11, 3) := by decide +kernel
theorem dX1_readAll_79 : decode cX1_readAll 79 = .ok (.aload_n 0, 1) := by decide +kernel
theorem dX1_readAll_80 : decode cX1_readAll 80 = .ok (.getfield 15, 3) := by decide +kernel
theorem dX1_readAll_83 : decode cX1_readAll 83 = .ok (.invokevirtual 45, 3) := by decide +kernel
theorem dX1_readAll_86 : decode cX1_readAll 86 = .ok (.ireturn, 1) := by decide +kernel
theorem dX1_readAll_87 : decode cX1_readAll 87 = .ok (.aload_n 0, 1) := by decide +kernel
theorem dX1_readAll_88 : decode cX1_readAll 88 = .ok (.getfield 23, 3) := by decide +kernel
theorem dX1_readAll_91 : decode cX1_readAll 91 = .ok (.iconst 1, 1) := by decide +kernel
theorem dX1_readAll_92 : decode cX1_readAll 92 = .ok (.putfield 48, 3) := by decide +kernel
theorem dX1_readAll_95 : decode cX1_readAll 95 = .ok (.iconst 1, 1) := by decide +kernel
theorem dX1_readAll_96 : decode cX1_readAll 96 = .ok (.ireturn, 1) := by decide +kernel
theorem dX1_readRow_0 : decode cX1_readRow 0 = .ok (.aload_n 0, 1) := by decide +kernel
theorem dX1_readRow_1 : decode cX1_readRow 1 = .ok (.getfield 15, 3) := by decide +kernel
theorem dX1_readRow_4 : decode cX1_readRow 4 = .ok (.getfield 52, 3) := by decide +kernel
theorem dX1_readRow_7 : decode cX1_readRow 7 = .ok (.istore_n 1, 1) := by decide +kernel
theorem dX1_readRow_8 : decode cX1_readRow 8 = .ok (.iload_n 1, 1) := by decide +kernel
theorem dX1_readRow_9 : decode cX1_readRow 9 = .ok (.bipush 21, 2) := by decide +kernel
theorem dX1_readRow_11 : decode cX1_readRow 11 = .ok (.if_icmp .ne 25, 3) := by decide +kernel
theorem dX1_readRow_14 : decode cX1_readRow 14 = .ok (.aload_n 0, 1) := by decide +kernel
theorem dX1_readRow_15 : decode cX1_readRow 15 = .ok (.getfield 32, 3) := by decide +kernel
theorem dX1_readRow_18 : decode cX1_readRow 18 = .ok (.ifCond .le 10, 3) := by decide +kernel
theorem dX1_readRow_21 : decode cX1_readRow 21 = .ok (.aload_n 0, 1) := by decide +kernel
theorem dX1_readRow_22 : decode cX1_readRow 22 = .ok (.invokevirtual 55, 3) := by decide +kernel
theorem dX1_readRow_25 : decode cX1_readRow 25 = .ok (.goto 10, 3) := by decide +kernel
theorem dX1_readRow_28 : decode cX1_readRow 28 = .ok (.aload_n 0, 1) := by decide +kernel
theorem dX1_readRow_29 : decode cX1_readRow 29 = .ok (.getfield 15, 3) := by decide +kernel
theorem dX1_readRow_32 : decode cX1_readRow 32 = .ok (.invokevirtual 45, 3) := by decide +kernel
theorem dX1_readRow_35 : decode cX1_readRow 35 = .ok (.ireturn, 1) := by decide +kernel
theorem dX1_readRow_36 : decode cX1_readRow 36 = .ok (.iload_n 1, 1) := by decide +kernel
theorem dX1_readRow_37 : decode cX1_readRow 37 = .ok (.invokestatic 58, 3) := by decide +kernel
theorem dX1_readRow_40 : decode cX1_readRow 40 = .ok (.ifCond .ne 11, 3) := by decide +kernel
theorem dX1_readRow_43 : decode cX1_readRow 43 = .ok (.aload_n 0, 1) := by decide +kernel
theorem dX1_readRow_44 : decode cX1_readRow 44 = .ok (.getfield 15, 3) := by decide +kernel
theorem dX1_readRow_47 : decode cX1_readRow 47 = .ok (.invokevirtual 45, 3) := by decide +kernel
theorem dX1_readRow_50 : decode cX1_readRow 50 = .ok (.ireturn, 1) := by decide +kernel
theorem dX1_readRow_51 : decode cX1_readRow 51 = .ok (.aload_n 0, 1) := by decide +kernel
theorem dX1_readRow_52 : decode cX1_readRow 52 = .ok (.getfield 23, 3) := by decide +kernel
theorem dX1_readRow_55 : decode cX1_readRow 55 = .ok (.getfield 62, 3) := by decide +kernel
theorem dX1_readRow_58 : decode cX1_readRow 58 = .ok (.bipush 30, 2) := by decide +kernel
theorem dX1_readRow_60 : decode cX1_readRow 60 = .ok (.if_icmp .lt 13, 3) := by decide +kernel
theorem dX1_readRow_63 : decode cX1_readRow 63 = .ok (.aload_n 0, 1) := by decide +kernel
theorem dX1_readRow_64 : decode cX1_readRow 64 = .ok (.getfield 15, 3) := by decide +kernel
theorem dX1_readRow_67 : decode cX1_readRow 67 = .ok (.bipush 6, 2) := by decide +kernel
theorem dX1_readRow_69 : decode cX1_readRow 69 = .ok (.invokevirtual 65, 3) := by decide +kernel
theorem dX1_readRow_72 : decode cX1_readRow 72 = .ok (.ireturn, 1) := by decide +kernel
theorem dX1_readRow_73 : decode cX1_readRow 73 = .ok (.iload_n 1, 1) := by decide +kernel
theorem dX1_readRow_74 : decode cX1_readRow 74 = .ok (.bipush 18, 2) := by decide +kernel
theorem dX1_readRow_76 : decode cX1_readRow 76 = .ok (.if_icmp .eq 9, 3) := by decide +kernel
theorem dX1_readRow_79 : decode cX1_readRow 79 = .ok (.iload_n 1, 1) := by decide +kernel
theorem dX1_readRow_80 : decode cX1_readRow 80 = .ok (.bipush 20, 2) := by decide +kernel
theorem dX1_readRow_82 : decode cX1_readRow 82 = .ok (.if_icmp .ne 7, 3) := by decide +kernel
theorem dX1_readRow_85 : decode cX1_readRow 85 = .ok (.iconst 1, 1) := by decide +kernel
theorem dX1_readRow_86 : decode cX1_readRow 86 = .ok (.goto 4, 3) := by decide +kernel
theorem dX1_readRow_89 : decode cX1_readRow 89 = .ok (.iconst 0, 1) := by decide +kernel
theorem dX1_readRow_90 : decode cX1_readRow 90 = .ok (.istore_n 2, 1) := by decide +kernel
theorem dX1_readRow_91 : decode cX1_readRow 91 = .ok (.iload_n 2, 1) := by decide +kernel
theorem dX1_readRow_92 : decode cX1_readRow 92 = .ok (.ifCond .eq 21, 3) := by decide +kernel
theorem dX1_readRow_95 : decode cX1_readRow 95 = .ok (.aload_n 0, 1) := by decide +kernel
theorem dX1_readRow_96 : decode cX1_readRow 96 = .ok (.getfield 32, 3) := by decide +kernel
theorem dX1_readRow_99 : decode cX1_readRow 99 = .ok (.iconst 3, 1) := by decide +kernel
theorem dX1_readRow_100 : decode cX1_readRow 100 = .ok (.if_icmp .lt 13, 3) := by decide +kernel
theorem dX1_readRow_103 : decode cX1_readRow 103 = .ok (.aload_n 0, 1) := by decide +kernel
theorem dX1_readRow_104 : decode cX1_readRow 104 = .ok (.getfield 15, 3) := by decide +kernel
theorem dX1_readRow_107 : decode cX1_readRow 107 = .ok (.bipush 7, 2) := by decide +kernel
theorem dX1_readRow_109 : decode cX1_readRow 109 = .ok (.invokevirtual 65, 3) := by decide +kernel
theorem dX1_readRow_112 : decode cX1_readRow 112 = .ok (.ireturn, 1) := by decide +kernel
theorem dX1_readRow_113 : decode cX1_readRow 113 = .ok (.aload_n 0, 1) := by decide +kernel
theorem dX1_readRow_114 : decode cX1_readRow 114 = .ok (.getfield 23, 3) := by decide +kernel
theorem dX1_readRow_117 : decode cX1_readRow 117 = .ok (.getfield 68, 3) := by decide +kernel
theorem dX1_readRow_120 : decode cX1_readRow 120 = .ok (.istore_n 3, 1) := by decide +kernel
theorem dX1_readRow_121 : decode cX1_readRow 121 = .ok (.aload_n 0, 1) := by decide +kernel
theorem dX1_readRow_122 : decode cX1_readRow 122 = .ok (.getfield 15, 3) := by decide +kernel
theorem dX1_readRow_125 : decode cX1_readRow 125 = .ok (.invokevirtual 71, 3) := by decide +kernel
theorem dX1_readRow_128 : decode cX1_readRow 128 = .ok (.iload_n 1, 1) := by decide +kernel
theorem dX1_readRow_129 : decode cX1_readRow 129 = .ok (.bipush 18, 2) := by decide +kernel
theorem dX1_readRow_131 : decode cX1_readRow 131 = .ok (.if_icmp .ne 11, 3) := by decide +kernel
theorem dX1_readRow_134 : decode cX1_readRow 134 = .ok (.aload_n 0, 1) := by decide +kernel
theorem dX1_readRow_135 : decode cX1_readRow 135 = .ok (.iload_n 3, 1) := by decide +kernel
theorem dX1_readRow_136 : decode cX1_readRow 136 = .ok (.invokevirtual 74, 3) := by decide +kernel
theorem dX1_readRow_139 : decode cX1_readRow 139 = .ok (.goto 9, 3) := by decide +kernel
theorem dX1_readRow_142 : decode cX1_readRow 142 = .ok (.aload_n 0, 1) := by decide +kernel
theorem dX1_readRow_143 : decode cX1_readRow 143 = .ok (.iload_n 1, 1) := by decide +kernel
theorem dX1_readRow_144 : decode cX1_readRow 144 = .ok (.iload_n 3, 1) := by decide +kernel
theorem dX1_readRow_145 : decode cX1_readRow 145 = .ok (.invokevirtual 77, 3) := by decide +kernel
theorem dX1_readRow_148 : decode cX1_readRow 148 = .ok (.istore 4, 2) := by decide +kernel
theorem dX1_readRow_150 : decode cX1_readRow 150 = .ok (.iload 4, 2) := by decide +kernel
theorem dX1_readRow_152 : decode cX1_readRow 152 = .ok (.ifCond .eq 13, 3) := by decide +kernel
theorem dX1_readRow_155 : decode cX1_readRow 155 = .ok (.aload_n 0, 1) := by decide +kernel
theorem dX1_readRow_156 : decode cX1_readRow 156 = .ok (.getfield 15, 3) := by decide +kernel
theorem dX1_readRow_159 : decode cX1_readRow 159 = .ok (.invokevirtual 81, 3) := by decide +kernel
theorem dX1_readRow_162 : decode cX1_readRow 162 = .ok (.ifCond .ne 5, 3) := by decide +kernel
theorem dX1_readRow_165 : decode cX1_readRow 165 = .ok (.iconst 0, 1) := by decide +kernel
theorem dX1_readRow_166 : decode cX1_readRow 166 = .ok (.ireturn, 1) := by decide +kernel
theorem dX1_readRow_167 : decode cX1_readRow 167 = .ok (.aload_n 0, 1) := by decide +kernel
theorem dX1_readRow_168 : decode cX1_readRow 168 = .ok (.iload_n 1, 1) := by decide +kernel
theorem dX1_readRow_169 : decode cX1_readRow 169 = .ok (.invokevirtual 84, 3) := by decide +kernel
theorem dX1_readRow_172 : decode cX1_readRow 172 = .ok (.aload_n 0, 1) := by decide +kernel
theorem dX1_readRow_173 : decode cX1_readRow 173 = .ok (.getfield 23, 3) := by decide +kernel
theorem dX1_readRow_176 : decode cX1_readRow 176 = .ok (.dup, 1) := by decide +kernel
theorem dX1_readRow_177 : decode cX1_readRow 177 = .ok (.getfield 62, 3) := by decide +kernel
theorem dX1_readRow_180 : decode cX1_readRow 180 = .ok (.iconst 1, 1) := by decide +kernel
theorem dX1_readRow_181 : decode cX1_readRow 181 = .ok (.iadd, 1) := by decide +kernel
theorem dX1_readRow_182 : decode cX1_readRow 182 = .ok (.putfield 62, 3) := by decide +kernel
theorem dX1_readRow_185 : decode cX1_readRow 185 = .ok (.iload_n 2, 1) := by decide +kernel
theorem dX1_readRow_186 : decode cX1_readRow 186 = .ok (.ifCond .eq 23, 3) := by decide +kernel
theorem dX1_readRow_189 : decode cX1_readRow 189 = .ok (.aload_n 0, 1) := by decide +kernel
theorem dX1_readRow_190 : decode cX1_readRow 190 = .ok (.getfield 11, 3) := by decide +kernel
theorem dX1_readRow_193 : decode cX1_readRow 193 = .ok (.aload_n 0, 1) := by decide +kernel
theorem dX1_readRow_194 : decode cX1_readRow 194 = .ok (.getfield 32, 3) := by decide +kernel
theorem dX1_readRow_197 : decode cX1_readRow 197 = .ok (.iload_n 3, 1) := by decide +kernel
theorem dX1_readRow_198 : decode cX1_readRow 198 = .ok (.iastore, 1) := by decide +kernel
theorem dX1_readRow_199 : decode cX1_readRow 199 = .ok (.aload_n 0, 1) := by decide +kernel
theorem dX1_readRow_200 : decode cX1_readRow 200 = .ok (.dup, 1) := by decide +kernel
theorem dX1_readRow_201 : decode cX1_readRow 201 = .ok (.getfield 32, 3) := by decide +kernel
theorem dX1_readRow_204 : decode cX1_readRow 204 = .ok (.iconst 1, 1) := by decide +kernel
theorem dX1_readRow_205 : decode cX1_readRow 205 = .ok (.iadd, 1) := by decide +kernel
theorem dX1_readRow_206 : decode cX1_readRow 206 = .ok (.putfield 32, 3) := by decide +kernel
theorem dX1_readRow_209 : decode cX1_readRow 209 = .ok (.iconst 1, 1) := by decide +kernel
theorem dX1_readRow_210 : decode cX1_readRow 210 = .ok (.ireturn, 1) := by decide +kernel
theorem dX1_readEnd_0 : decode cX1_readEnd 0 = .ok (.aload_n 0, 1) := by decide +kernel
theorem dX1_readEnd_1 : decode cX1_readEnd 1 = .ok (.getfield 15, 3) := by decide +kernel
theorem dX1_readEnd_4 : decode cX1_readEnd 4 = .ok (.invokevirtual 71, 3) := by decide +kernel
theorem dX1_readEnd_7 : decode cX1_readEnd 7 = .ok (.aload_n 0, 1) := by decide +kernel
theorem dX1_readEnd_8 : decode cX1_readEnd 8 = .ok (.getfield 15, 3) := by decide +kernel
theorem dX1_readEnd_11 : decode cX1_readEnd 11 = .ok (.invokevirtual 81, 3) := by decide +kernel
theorem dX1_readEnd_14 : decode cX1_readEnd 14 = .ok (.ifCond .ne 5, 3) := by decide +kernel
theorem dX1_readEnd_17 : decode cX1_readEnd 17 = .ok (.iconst 0, 1) := by decide +kernel
theorem dX1_readEnd_18 : decode cX1_readEnd 18 = .ok (.ireturn, 1) := by decide +kernel
theorem dX1_readEnd_19 : decode cX1_readEnd 19 = .ok (.aload_n 0, 1) := by decide +kernel
theorem dX1_readEnd_20 : decode cX1_readEnd 20 = .ok (.dup, 1) := by decide +kernel
theorem dX1_readEnd_21 : decode cX1_readEnd 21 = .ok (.getfield 32, 3) := by decide +kernel
theorem dX1_readEnd_24 : decode cX1_readEnd 24 = .ok (.iconst 1, 1) := by decide +kernel
theorem dX1_readEnd_25 : decode cX1_readEnd 25 = .ok (.isub, 1) := by decide +kernel
theorem dX1_readEnd_26 : decode cX1_readEnd 26 = .ok (.putfield 32, 3) := by decide +kernel
theorem dX1_readEnd_29 : decode cX1_readEnd 29 = .ok (.aload_n 0, 1) := by decide +kernel
theorem dX1_readEnd_30 : decode cX1_readEnd 30 = .ok (.getfield 11, 3) := by decide +kernel
theorem dX1_readEnd_33 : decode cX1_readEnd 33 = .ok (.aload_n 0, 1) := by decide +kernel
theorem dX1_readEnd_34 : decode cX1_readEnd 34 = .ok (.getfield 32, 3) := by decide +kernel
theorem dX1_readEnd_37 : decode cX1_readEnd 37 = .ok (.iaload, 1) := by decide +kernel
theorem dX1_readEnd_38 : decode cX1_readEnd 38 = .ok (.istore_n 1, 1) := by decide +kernel
theorem dX1_readEnd_39 : decode cX1_readEnd 39 = .ok (.aload_n 0, 1) := by decide +kernel
theorem dX1_readEnd_40 : decode cX1_readEnd 40 = .ok (.getfield 23, 3) := by decide +kernel
theorem dX1_readEnd_43 : decode cX1_readEnd 43 = .ok (.getfield 88, 3) := by decide +kernel
theorem dX1_readEnd_46 : decode cX1_readEnd 46 = .ok (.iload_n 1, 1) := by decide +kernel
theorem dX1_readEnd_47 : decode cX1_readEnd 47 = .ok (.aload_n 0, 1) := by decide +kernel
theorem dX1_readEnd_48 : decode cX1_readEnd 48 = .ok (.getfield 23, 3) := by decide +kernel
theorem dX1_readEnd_51 : decode cX1_readEnd 51 = .ok (.getfield 68, 3) := by decide +kernel
theorem dX1_readEnd_54 : decode cX1_readEnd 54 = .ok (.iastore, 1) := by decide +kernel
theorem dX1_readEnd_55 : decode cX1_readEnd 55 = .ok (.aload_n 0, 1) := by decide +kernel
theorem dX1_readEnd_56 : decode cX1_readEnd 56 = .ok (.getfield 23, 3) := by decide +kernel
theorem dX1_readEnd_59 : decode cX1_readEnd 59 = .ok (.getfield 88, 3) := by decide +kernel
theorem dX1_readEnd_62 : decode cX1_readEnd 62 = .ok (.aload_n 0, 1) := by decide +kernel
theorem dX1_readEnd_63 : decode cX1_readEnd 63 = .ok (.getfield 23, 3) := by decide +kernel
theorem dX1_readEnd_66 : decode cX1_readEnd 66 = .ok (.getfield 68, 3) := by decide +kernel
theorem dX1_readEnd_69 : decode cX1_readEnd 69 = .ok (.iload_n 1, 1) := by decide +kernel
theorem dX1_readEnd_70 : decode cX1_readEnd 70 = .ok (.iastore, 1) := by decide +kernel
theorem dX1_readEnd_71 : decode cX1_readEnd 71 = .ok (.aload_n 0, 1) := by decide +kernel
theorem dX1_readEnd_72 : decode cX1_readEnd 72 = .ok (.bipush 21, 2) := by decide +kernel
theorem dX1_readEnd_74 : decode cX1_readEnd 74 = .ok (.invokevirtual 84, 3) := by decide +kernel
theorem dX1_readEnd_77 : decode cX1_readEnd 77 = .ok (.iconst 1, 1) := by decide +kernel
theorem dX1_readEnd_78 : decode cX1_readEnd 78 = .ok (.ireturn, 1) := by decide +kernel
theorem dX1_addRow_0 : decode cX1_addRow 0 = .ok (.aload_n 0, 1) := by decide +kernel
theorem dX1_addRow_1 : decode cX1_addRow 1 = .ok (.getfield 23, 3) := by decide +kernel
theorem dX1_addRow_4 : decode cX1_addRow 4 = .ok (.getfield 91, 3) := by decide +kernel
theorem dX1_addRow_7 : decode cX1_addRow 7 = .ok (.aload_n 0, 1) := by decide +kernel
theorem dX1_addRow_8 : decode cX1_addRow 8 = .ok (.getfield 23, 3) := by decide +kernel
theorem dX1_addRow_11 : decode cX1_addRow 11 = .ok (.getfield 68, 3) := by decide +kernel
theorem dX1_addRow_14 : decode cX1_addRow 14 = .ok (.iload_n 1, 1) := by decide +kernel
theorem dX1_addRow_15 : decode cX1_addRow 15 = .ok (.iastore, 1) := by decide +kernel
theorem dX1_addRow_16 : decode cX1_addRow 16 = .ok (.aload_n 0, 1) := by decide +kernel
theorem dX1_addRow_17 : decode cX1_addRow 17 = .ok (.getfield 23, 3) := by decide +kernel
theorem dX1_addRow_20 : decode cX1_addRow 20 = .ok (.dup, 1) := by decide +kernel
theorem dX1_addRow_21 : decode cX1_addRow 21 = .ok (.getfield 68, 3) := by decide +kernel
theorem dX1_addRow_24 : decode cX1_addRow 24 = .ok (.iconst 1, 1) := by decide +kernel
theorem dX1_addRow_25 : decode cX1_addRow 25 = .ok (.iadd, 1) := by decide +kernel
theorem dX1_addRow_26 : decode cX1_addRow 26 = .ok (.putfield 68, 3) := by decide +kernel
theorem dX1_addRow_29 : decode cX1_addRow 29 = .ok (.return_, 1) := by decide +kernel
theorem dX1_isStep_0 : decode cX1_isStep 0 = .ok (.iload_n 0, 1) := by decide +kernel
theorem dX1_isStep_1 : decode cX1_isStep 1 = .ok (.tableswitch 69 10 22 #[67, 67, 67, 67, 67, 67, 67, 67, 67, 69, 67, 69, 67], 67) := by decide +kernel
theorem dX1_isStep_68 : decode cX1_isStep 68 = .ok (.iconst 1, 1) := by decide +kernel
theorem dX1_isStep_69 : decode cX1_isStep 69 = .ok (.ireturn, 1) := by decide +kernel
theorem dX1_isStep_70 : decode cX1_isStep 70 = .ok (.iconst 0, 1) := by decide +kernel
theorem dX1_isStep_71 : decode cX1_isStep 71 = .ok (.ireturn, 1) := by decide +kernel
theorem dX1_readNumbers_0 : decode cX1_readNumbers 0 = .ok (.iload_n 1, 1) := by decide +kernel
theorem dX1_readNumbers_1 : decode cX1_readNumbers 1 = .ok (.tableswitch 288 10 20 #[59, 156, 183, 183, 211, 211, 239, 129, 288, 288, 156], 59) := by decide +kernel
theorem dX1_readNumbers_60 : decode cX1_readNumbers 60 = .ok (.aload_n 0, 1) := by decide +kernel
theorem dX1_readNumbers_61 : decode cX1_readNumbers 61 = .ok (.getfield 15, 3) := by decide +kernel
theorem dX1_readNumbers_64 : decode cX1_readNumbers 64 = .ok (.aload_n 0, 1) := by decide +kernel
theorem dX1_readNumbers_65 : decode cX1_readNumbers 65 = .ok (.getfield 19, 3) := by decide +kernel
theorem dX1_readNumbers_68 : decode cX1_readNumbers 68 = .ok (.invokevirtual 93, 3) := by decide +kernel
theorem dX1_readNumbers_71 : decode cX1_readNumbers 71 = .ok (.ifCond .eq 57, 3) := by decide +kernel
theorem dX1_readNumbers_74 : decode cX1_readNumbers 74 = .ok (.aload_n 0, 1) := by decide +kernel
theorem dX1_readNumbers_75 : decode cX1_readNumbers 75 = .ok (.iload_n 2, 1) := by decide +kernel
theorem dX1_readNumbers_76 : decode cX1_readNumbers 76 = .ok (.invokevirtual 97, 3) := by decide +kernel
theorem dX1_readNumbers_79 : decode cX1_readNumbers 79 = .ok (.ifCond .eq 49, 3) := by decide +kernel
theorem dX1_readNumbers_82 : decode cX1_readNumbers 82 = .ok (.aload_n 0, 1) := by decide +kernel
theorem dX1_readNumbers_83 : decode cX1_readNumbers 83 = .ok (.getfield 15, 3) := by decide +kernel
theorem dX1_readNumbers_86 : decode cX1_readNumbers 86 = .ok (.iconst 0, 1) := by decide +kernel
theorem dX1_readNumbers_87 : decode cX1_readNumbers 87 = .ok (.bipush 15, 2) := by decide +kernel
theorem dX1_readNumbers_89 : decode cX1_readNumbers 89 = .ok (.invokevirtual 100, 3) := by decide +kernel
theorem dX1_readNumbers_92 : decode cX1_readNumbers 92 = .ok (.ifCond .eq 36, 3) := by decide +kernel
theorem dX1_readNumbers_95 : decode cX1_readNumbers 95 = .ok (.aload_n 0, 1) := by decide +kernel
theorem dX1_readNumbers_96 : decode cX1_readNumbers 96 = .ok (.iload_n 2, 1) := by decide +kernel
theorem dX1_readNumbers_97 : decode cX1_readNumbers 97 = .ok (.invokevirtual 103, 3) := by decide +kernel
theorem dX1_readNumbers_100 : decode cX1_readNumbers 100 = .ok (.ifCond .eq 28, 3) := by decide +kernel
theorem dX1_readNumbers_103 : decode cX1_readNumbers 103 = .ok (.aload_n 0, 1) := by decide +kernel
theorem dX1_readNumbers_104 : decode cX1_readNumbers 104 = .ok (.getfield 15, 3) := by decide +kernel
theorem dX1_readNumbers_107 : decode cX1_readNumbers 107 = .ok (.iconst 0, 1) := by decide +kernel
theorem dX1_readNumbers_108 : decode cX1_readNumbers 108 = .ok (.bipush 99, 2) := by decide +kernel
theorem dX1_readNumbers_110 : decode cX1_readNumbers 110 = .ok (.invokevirtual 100, 3) := by decide +kernel
theorem dX1_readNumbers_113 : decode cX1_readNumbers 113 = .ok (.ifCond .eq 15, 3) := by decide +kernel
theorem dX1_readNumbers_116 : decode cX1_readNumbers 116 = .ok (.aload_n 0, 1) := by decide +kernel
theorem dX1_readNumbers_117 : decode cX1_readNumbers 117 = .ok (.iload_n 2, 1) := by decide +kernel
theorem dX1_readNumbers_118 : decode cX1_readNumbers 118 = .ok (.invokevirtual 106, 3) := by decide +kernel
theorem dX1_readNumbers_121 : decode cX1_readNumbers 121 = .ok (.ifCond .eq 7, 3) := by decide +kernel
theorem dX1_readNumbers_124 : decode cX1_readNumbers 124 = .ok (.iconst 1, 1) := by decide +kernel
theorem dX1_readNumbers_125 : decode cX1_readNumbers 125 = .ok (.goto 4, 3) := by decide +kernel
theorem dX1_readNumbers_128 : decode cX1_readNumbers 128 = .ok (.iconst 0, 1) := by decide +kernel
theorem dX1_readNumbers_129 : decode cX1_readNumbers 129 = .ok (.ireturn, 1) := by decide +kernel
theorem dX1_readNumbers_130 : decode cX1_readNumbers 130 = .ok (.aload_n 0, 1) := by decide +kernel
theorem dX1_readNumbers_131 : decode cX1_readNumbers 131 = .ok (.getfield 15, 3) := by decide +kernel
theorem dX1_readNumbers_134 : decode cX1_readNumbers 134 = .ok (.iconst 0, 1) := by decide +kernel
theorem dX1_readNumbers_135 : decode cX1_readNumbers 135 = .ok (.bipush 99, 2) := by decide +kernel
theorem dX1_readNumbers_137 : decode cX1_readNumbers 137 = .ok (.invokevirtual 100, 3) := by decide +kernel
theorem dX1_readNumbers_140 : decode cX1_readNumbers 140 = .ok (.ifCond .eq 15, 3) := by decide +kernel
theorem dX1_readNumbers_143 : decode cX1_readNumbers 143 = .ok (.aload_n 0, 1) := by decide +kernel
theorem dX1_readNumbers_144 : decode cX1_readNumbers 144 = .ok (.iload_n 2, 1) := by decide +kernel
theorem dX1_readNumbers_145 : decode cX1_readNumbers 145 = .ok (.invokevirtual 106, 3) := by decide +kernel
theorem dX1_readNumbers_148 : decode cX1_readNumbers 148 = .ok (.ifCond .eq 7, 3) := by decide +kernel
theorem dX1_readNumbers_151 : decode cX1_readNumbers 151 = .ok (.iconst 1, 1) := by decide +kernel
theorem dX1_readNumbers_152 : decode cX1_readNumbers 152 = .ok (.goto 4, 3) := by decide +kernel
theorem dX1_readNumbers_155 : decode cX1_readNumbers 155 = .ok (.iconst 0, 1) := by decide +kernel
theorem dX1_readNumbers_156 : decode cX1_readNumbers 156 = .ok (.ireturn, 1) := by decide +kernel
theorem dX1_readNumbers_157 : decode cX1_readNumbers 157 = .ok (.aload_n 0, 1) := by decide +kernel
theorem dX1_readNumbers_158 : decode cX1_readNumbers 158 = .ok (.getfield 15, 3) := by decide +kernel
theorem dX1_readNumbers_161 : decode cX1_readNumbers 161 = .ok (.iconst 1, 1) := by decide +kernel
theorem dX1_readNumbers_162 : decode cX1_readNumbers 162 = .ok (.bipush 99, 2) := by decide +kernel
theorem dX1_readNumbers_164 : decode cX1_readNumbers 164 = .ok (.invokevirtual 100, 3) := by decide +kernel
theorem dX1_readNumbers_167 : decode cX1_readNumbers 167 = .ok (.ifCond .eq 15, 3) := by decide +kernel
theorem dX1_readNumbers_170 : decode cX1_readNumbers 170 = .ok (.aload_n 0, 1) := by decide +kernel
theorem dX1_readNumbers_171 : decode cX1_readNumbers 171 = .ok (.iload_n 2, 1) := by decide +kernel
theorem dX1_readNumbers_172 : decode cX1_readNumbers 172 = .ok (.invokevirtual 106, 3) := by decide +kernel
theorem dX1_readNumbers_175 : decode cX1_readNumbers 175 = .ok (.ifCond .eq 7, 3) := by decide +kernel
theorem dX1_readNumbers_178 : decode cX1_readNumbers 178 = .ok (.iconst 1, 1) := by decide +kernel
theorem dX1_readNumbers_179 : decode cX1_readNumbers 179 = .ok (.goto 4, 3) := by decide +kernel
theorem dX1_readNumbers_182 : decode cX1_readNumbers 182 = .ok (.iconst 0, 1) := by decide +kernel
theorem dX1_readNumbers_183 : decode cX1_readNumbers 183 = .ok (.ireturn, 1) := by decide +kernel
theorem dX1_readNumbers_184 : decode cX1_readNumbers 184 = .ok (.aload_n 0, 1) := by decide +kernel
theorem dX1_readNumbers_185 : decode cX1_readNumbers 185 = .ok (.getfield 15, 3) := by decide +kernel
theorem dX1_readNumbers_188 : decode cX1_readNumbers 188 = .ok (.aload_n 0, 1) := by decide +kernel
theorem dX1_readNumbers_189 : decode cX1_readNumbers 189 = .ok (.getfield 19, 3) := by decide +kernel
theorem dX1_readNumbers_192 : decode cX1_readNumbers 192 = .ok (.invokevirtual 109, 3) := by decide +kernel
theorem dX1_readNumbers_195 : decode cX1_readNumbers 195 = .ok (.ifCond .eq 15, 3) := by decide +kernel
theorem dX1_readNumbers_198 : decode cX1_readNumbers 198 = .ok (.aload_n 0, 1) := by decide +kernel
theorem dX1_readNumbers_199 : decode cX1_readNumbers 199 = .ok (.iload_n 2, 1) := by decide +kernel
theorem dX1_readNumbers_200 : decode cX1_readNumbers 200 = .ok (.invokevirtual 97, 3) := by decide +kernel
theorem dX1_readNumbers_203 : decode cX1_readNumbers 203 = .ok (.ifCond .eq 7, 3) := by decide +kernel
theorem dX1_readNumbers_206 : decode cX1_readNumbers 206 = .ok (.iconst 1, 1) := by decide +kernel
theorem dX1_readNumbers_207 : decode cX1_readNumbers 207 = .ok (.goto 4, 3) := by decide +kernel
theorem dX1_readNumbers_210 : decode cX1_readNumbers 210 = .ok (.iconst 0, 1) := by decide +kernel
theorem dX1_readNumbers_211 : decode cX1_readNumbers 211 = .ok (.ireturn, 1) := by decide +kernel
theorem dX1_readNumbers_212 : decode cX1_readNumbers 212 = .ok (.aload_n 0, 1) := by decide +kernel
theorem dX1_readNumbers_213 : decode cX1_readNumbers 213 = .ok (.getfield 15, 3) := by decide +kernel
theorem dX1_readNumbers_216 : decode cX1_readNumbers 216 = .ok (.aload_n 0, 1) := by decide +kernel
theorem dX1_readNumbers_217 : decode cX1_readNumbers 217 = .ok (.getfield 19, 3) := by decide +kernel
theorem dX1_readNumbers_220 : decode cX1_readNumbers 220 = .ok (.invokevirtual 112, 3) := by decide +kernel
theorem dX1_readNumbers_223 : decode cX1_readNumbers 223 = .ok (.ifCond .eq 15, 3) := by decide +kernel
theorem dX1_readNumbers_226 : decode cX1_readNumbers 226 = .ok (.aload_n 0, 1) := by decide +kernel
theorem dX1_readNumbers_227 : decode cX1_readNumbers 227 = .ok (.iload_n 2, 1) := by decide +kernel
theorem dX1_readNumbers_228 : decode cX1_readNumbers 228 = .ok (.invokevirtual 97, 3) := by decide +kernel
theorem dX1_readNumbers_231 : decode cX1_readNumbers 231 = .ok (.ifCond .eq 7, 3) := by decide +kernel
theorem dX1_readNumbers_234 : decode cX1_readNumbers 234 = .ok (.iconst 1, 1) := by decide +kernel
theorem dX1_readNumbers_235 : decode cX1_readNumbers 235 = .ok (.goto 4, 3) := by decide +kernel
theorem dX1_readNumbers_238 : decode cX1_readNumbers 238 = .ok (.iconst 0, 1) := by decide +kernel
theorem dX1_readNumbers_239 : decode cX1_readNumbers 239 = .ok (.ireturn, 1) := by decide +kernel
theorem dX1_readNumbers_240 : decode cX1_readNumbers 240 = .ok (.aload_n 0, 1) := by decide +kernel
theorem dX1_readNumbers_241 : decode cX1_readNumbers 241 = .ok (.getfield 15, 3) := by decide +kernel
theorem dX1_readNumbers_244 : decode cX1_readNumbers 244 = .ok (.aload_n 0, 1) := by decide +kernel
theorem dX1_readNumbers_245 : decode cX1_readNumbers 245 = .ok (.getfield 19, 3) := by decide +kernel
theorem dX1_readNumbers_248 : decode cX1_readNumbers 248 = .ok (.invokevirtual 112, 3) := by decide +kernel
theorem dX1_readNumbers_251 : decode cX1_readNumbers 251 = .ok (.ifCond .eq 36, 3) := by decide +kernel
theorem dX1_readNumbers_254 : decode cX1_readNumbers 254 = .ok (.aload_n 0, 1) := by decide +kernel
theorem dX1_readNumbers_255 : decode cX1_readNumbers 255 = .ok (.iload_n 2, 1) := by decide +kernel
theorem dX1_readNumbers_256 : decode cX1_readNumbers 256 = .ok (.invokevirtual 97, 3) := by decide +kernel
theorem dX1_readNumbers_259 : decode cX1_readNumbers 259 = .ok (.ifCond .eq 28, 3) := by decide +kernel
theorem dX1_readNumbers_262 : decode cX1_readNumbers 262 = .ok (.aload_n 0, 1) := by decide +kernel
theorem dX1_readNumbers_263 : decode cX1_readNumbers 263 = .ok (.getfield 15, 3) := by decide +kernel
theorem dX1_readNumbers_266 : decode cX1_readNumbers 266 = .ok (.iconst 1, 1) := by decide +kernel
theorem dX1_readNumbers_267 : decode cX1_readNumbers 267 = .ok (.bipush 99, 2) := by decide +kernel
theorem dX1_readNumbers_269 : decode cX1_readNumbers 269 = .ok (.invokevirtual 100, 3) := by decide +kernel
theorem dX1_readNumbers_272 : decode cX1_readNumbers 272 = .ok (.ifCond .eq 15, 3) := by decide +kernel
theorem dX1_readNumbers_275 : decode cX1_readNumbers 275 = .ok (.aload_n 0, 1) := by decide +kernel
theorem dX1_readNumbers_276 : decode cX1_readNumbers 276 = .ok (.iload_n 2, 1) := by decide +kernel
theorem dX1_readNumbers_277 : decode cX1_readNumbers 277 = .ok (.invokevirtual 106, 3) := by decide +kernel
theorem dX1_readNumbers_280 : decode cX1_readNumbers 280 = .ok (.ifCond .eq 7, 3) := by decide +kernel
theorem dX1_readNumbers_283 : decode cX1_readNumbers 283 = .ok (.iconst 1, 1) := by decide +kernel
theorem dX1_readNumbers_284 : decode cX1_readNumbers 284 = .ok (.goto 4, 3) := by decide +kernel
theorem dX1_readNumbers_287 : decode cX1_readNumbers 287 = .ok (.iconst 0, 1) := by decide +kernel
theorem dX1_readNumbers_288 : decode cX1_readNumbers 288 = .ok (.ireturn, 1) := by decide +kernel
theorem dX1_readNumbers_289 : decode cX1_readNumbers 289 = .ok (.iconst 1, 1) := by decide +kernel
theorem dX1_readNumbers_290 : decode cX1_readNumbers 290 = .ok (.ireturn, 1) := by decide +kernel
theorem dX1_readTest_0 : decode cX1_readTest 0 = .ok (.aload_n 0, 1) := by decide +kernel
theorem dX1_readTest_1 : decode cX1_readTest 1 = .ok (.getfield 15, 3) := by decide +kernel
theorem dX1_readTest_4 : decode cX1_readTest 4 = .ok (.getfield 52, 3) := by decide +kernel
theorem dX1_readTest_7 : decode cX1_readTest 7 = .ok (.bipush 19, 2) := by decide +kernel
theorem dX1_readTest_9 : decode cX1_readTest 9 = .ok (.if_icmp .ne 49, 3) := by decide +kernel
theorem dX1_readTest_12 : decode cX1_readTest 12 = .ok (.aload_n 0, 1) := by decide +kernel
theorem dX1_readTest_13 : decode cX1_readTest 13 = .ok (.getfield 23, 3) := by decide +kernel
theorem dX1_readTest_16 : decode cX1_readTest 16 = .ok (.getfield 115, 3) := by decide +kernel
theorem dX1_readTest_19 : decode cX1_readTest 19 = .ok (.iload_n 1, 1) := by decide +kernel
theorem dX1_readTest_20 : decode cX1_readTest 20 = .ok (.bipush 19, 2) := by decide +kernel
theorem dX1_readTest_22 : decode cX1_readTest 22 = .ok (.iastore, 1) := by decide +kernel
theorem dX1_readTest_23 : decode cX1_readTest 23 = .ok (.aload_n 0, 1) := by decide +kernel
theorem dX1_readTest_24 : decode cX1_readTest 24 = .ok (.getfield 15, 3) := by decide +kernel
theorem dX1_readTest_27 : decode cX1_readTest 27 = .ok (.invokevirtual 71, 3) := by decide +kernel
theorem dX1_readTest_30 : decode cX1_readTest 30 = .ok (.aload_n 0, 1) := by decide +kernel
theorem dX1_readTest_31 : decode cX1_readTest 31 = .ok (.getfield 15, 3) := by decide +kernel
theorem dX1_readTest_34 : decode cX1_readTest 34 = .ok (.aload_n 0, 1) := by decide +kernel
theorem dX1_readTest_35 : decode cX1_readTest 35 = .ok (.getfield 19, 3) := by decide +kernel
theorem dX1_readTest_38 : decode cX1_readTest 38 = .ok (.invokevirtual 112, 3) := by decide +kernel
theorem dX1_readTest_41 : decode cX1_readTest 41 = .ok (.ifCond .eq 15, 3) := by decide +kernel
theorem dX1_readTest_44 : decode cX1_readTest 44 = .ok (.aload_n 0, 1) := by decide +kernel
theorem dX1_readTest_45 : decode cX1_readTest 45 = .ok (.iload_n 1, 1) := by decide +kernel
theorem dX1_readTest_46 : decode cX1_readTest 46 = .ok (.invokevirtual 97, 3) := by decide +kernel
theorem dX1_readTest_49 : decode cX1_readTest 49 = .ok (.ifCond .eq 7, 3) := by decide +kernel
theorem dX1_readTest_52 : decode cX1_readTest 52 = .ok (.iconst 1, 1) := by decide +kernel
theorem dX1_readTest_53 : decode cX1_readTest 53 = .ok (.goto 4, 3) := by decide +kernel
theorem dX1_readTest_56 : decode cX1_readTest 56 = .ok (.iconst 0, 1) := by decide +kernel
theorem dX1_readTest_57 : decode cX1_readTest 57 = .ok (.ireturn, 1) := by decide +kernel
theorem dX1_readTest_58 : decode cX1_readTest 58 = .ok (.aload_n 0, 1) := by decide +kernel
theorem dX1_readTest_59 : decode cX1_readTest 59 = .ok (.getfield 15, 3) := by decide +kernel
theorem dX1_readTest_62 : decode cX1_readTest 62 = .ok (.iconst 5, 1) := by decide +kernel
theorem dX1_readTest_63 : decode cX1_readTest 63 = .ok (.invokevirtual 118, 3) := by decide +kernel
theorem dX1_readTest_66 : decode cX1_readTest 66 = .ok (.ifCond .eq 68, 3) := by decide +kernel
theorem dX1_readTest_69 : decode cX1_readTest 69 = .ok (.aload_n 0, 1) := by decide +kernel
theorem dX1_readTest_70 : decode cX1_readTest 70 = .ok (.getfield 15, 3) := by decide +kernel
theorem dX1_readTest_73 : decode cX1_readTest 73 = .ok (.aload_n 0, 1) := by decide +kernel
theorem dX1_readTest_74 : decode cX1_readTest 74 = .ok (.getfield 19, 3) := by decide +kernel
theorem dX1_readTest_77 : decode cX1_readTest 77 = .ok (.invokevirtual 112, 3) := by decide +kernel
theorem dX1_readTest_80 : decode cX1_readTest 80 = .ok (.ifCond .eq 54, 3) := by decide +kernel
theorem dX1_readTest_83 : decode cX1_readTest 83 = .ok (.aload_n 0, 1) := by decide +kernel
theorem dX1_readTest_84 : decode cX1_readTest 84 = .ok (.iload_n 1, 1) := by decide +kernel
theorem dX1_readTest_85 : decode cX1_readTest 85 = .ok (.invokevirtual 97, 3) := by decide +kernel
theorem dX1_readTest_88 : decode cX1_readTest 88 = .ok (.ifCond .eq 46, 3) := by decide +kernel
theorem dX1_readTest_91 : decode cX1_readTest 91 = .ok (.aload_n 0, 1) := by decide +kernel
theorem dX1_readTest_92 : decode cX1_readTest 92 = .ok (.getfield 15, 3) := by decide +kernel
theorem dX1_readTest_95 : decode cX1_readTest 95 = .ok (.invokevirtual 121, 3) := by decide +kernel
theorem dX1_readTest_98 : decode cX1_readTest 98 = .ok (.ifCond .eq 36, 3) := by decide +kernel
theorem dX1_readTest_101 : decode cX1_readTest 101 = .ok (.aload_n 0, 1) := by decide +kernel
theorem dX1_readTest_102 : decode cX1_readTest 102 = .ok (.iload_n 1, 1) := by decide +kernel
theorem dX1_readTest_103 : decode cX1_readTest 103 = .ok (.invokevirtual 103, 3) := by decide +kernel
theorem dX1_readTest_106 : decode cX1_readTest 106 = .ok (.ifCond .eq 28, 3) := by decide +kernel
theorem dX1_readTest_109 : decode cX1_readTest 109 = .ok (.aload_n 0, 1) := by decide +kernel
theorem dX1_readTest_110 : decode cX1_readTest 110 = .ok (.getfield 15, 3) := by decide +kernel
theorem dX1_readTest_113 : decode cX1_readTest 113 = .ok (.iconst 0, 1) := by decide +kernel
theorem dX1_readTest_114 : decode cX1_readTest 114 = .ok (.bipush 60, 2) := by decide +kernel
theorem dX1_readTest_116 : decode cX1_readTest 116 = .ok (.invokevirtual 100, 3) := by decide +kernel
theorem dX1_readTest_119 : decode cX1_readTest 119 = .ok (.ifCond .eq 15, 3) := by decide +kernel
theorem dX1_readTest_122 : decode cX1_readTest 122 = .ok (.aload_n 0, 1) := by decide +kernel
theorem dX1_readTest_123 : decode cX1_readTest 123 = .ok (.iload_n 1, 1) := by decide +kernel
theorem dX1_readTest_124 : decode cX1_readTest 124 = .ok (.invokevirtual 106, 3) := by decide +kernel
theorem dX1_readTest_127 : decode cX1_readTest 127 = .ok (.ifCond .eq 7, 3) := by decide +kernel
theorem dX1_readTest_130 : decode cX1_readTest 130 = .ok (.iconst 1, 1) := by decide +kernel
theorem dX1_readTest_131 : decode cX1_readTest 131 = .ok (.goto 4, 3) := by decide +kernel
theorem dX1_readTest_134 : decode cX1_readTest 134 = .ok (.iconst 0, 1) := by decide +kernel
theorem dX1_readTest_135 : decode cX1_readTest 135 = .ok (.ireturn, 1) := by decide +kernel
theorem dX1_keepWhat_0 : decode cX1_keepWhat 0 = .ok (.aload_n 0, 1) := by decide +kernel
theorem dX1_keepWhat_1 : decode cX1_keepWhat 1 = .ok (.getfield 23, 3) := by decide +kernel
theorem dX1_keepWhat_4 : decode cX1_keepWhat 4 = .ok (.getfield 124, 3) := by decide +kernel
theorem dX1_keepWhat_7 : decode cX1_keepWhat 7 = .ok (.iload_n 1, 1) := by decide +kernel
theorem dX1_keepWhat_8 : decode cX1_keepWhat 8 = .ok (.aload_n 0, 1) := by decide +kernel
theorem dX1_keepWhat_9 : decode cX1_keepWhat 9 = .ok (.getfield 15, 3) := by decide +kernel
theorem dX1_keepWhat_12 : decode cX1_keepWhat 12 = .ok (.getfield 127, 3) := by decide +kernel
theorem dX1_keepWhat_15 : decode cX1_keepWhat 15 = .ok (.iastore, 1) := by decide +kernel
theorem dX1_keepWhat_16 : decode cX1_keepWhat 16 = .ok (.iconst 1, 1) := by decide +kernel
theorem dX1_keepWhat_17 : decode cX1_keepWhat 17 = .ok (.ireturn, 1) := by decide +kernel
theorem dX1_keepHow_0 : decode cX1_keepHow 0 = .ok (.aload_n 0, 1) := by decide +kernel
theorem dX1_keepHow_1 : decode cX1_keepHow 1 = .ok (.getfield 23, 3) := by decide +kernel
theorem dX1_keepHow_4 : decode cX1_keepHow 4 = .ok (.getfield 115, 3) := by decide +kernel
theorem dX1_keepHow_7 : decode cX1_keepHow 7 = .ok (.iload_n 1, 1) := by decide +kernel
theorem dX1_keepHow_8 : decode cX1_keepHow 8 = .ok (.aload_n 0, 1) := by decide +kernel
theorem dX1_keepHow_9 : decode cX1_keepHow 9 = .ok (.getfield 15, 3) := by decide +kernel
theorem dX1_keepHow_12 : decode cX1_keepHow 12 = .ok (.getfield 127, 3) := by decide +kernel
theorem dX1_keepHow_15 : decode cX1_keepHow 15 = .ok (.iastore, 1) := by decide +kernel
theorem dX1_keepHow_16 : decode cX1_keepHow 16 = .ok (.iconst 1, 1) := by decide +kernel
theorem dX1_keepHow_17 : decode cX1_keepHow 17 = .ok (.ireturn, 1) := by decide +kernel
theorem dX1_keepMuch_0 : decode cX1_keepMuch 0 = .ok (.aload_n 0, 1) := by decide +kernel
theorem dX1_keepMuch_1 : decode cX1_keepMuch 1 = .ok (.getfield 23, 3) := by decide +kernel
theorem dX1_keepMuch_4 : decode cX1_keepMuch 4 = .ok (.getfield 130, 3) := by decide +kernel
theorem dX1_keepMuch_7 : decode cX1_keepMuch 7 = .ok (.iload_n 1, 1) := by decide +kernel
theorem dX1_keepMuch_8 : decode cX1_keepMuch 8 = .ok (.aload_n 0, 1) := by decide +kernel
theorem dX1_keepMuch_9 : decode cX1_keepMuch 9 = .ok (.getfield 15, 3) := by decide +kernel
theorem dX1_keepMuch_12 : decode cX1_keepMuch 12 = .ok (.getfield 127, 3) := by decide +kernel
theorem dX1_keepMuch_15 : decode cX1_keepMuch 15 = .ok (.iastore, 1) := by decide +kernel
theorem dX1_keepMuch_16 : decode cX1_keepMuch 16 = .ok (.iconst 1, 1) := by decide +kernel
theorem dX1_keepMuch_17 : decode cX1_keepMuch 17 = .ok (.ireturn, 1) := by decide +kernel
theorem dX2_init_0 : decode cX2_init 0 = .ok (.aload_n 0, 1) := by decide +kernel
theorem dX2_init_1 : decode cX2_init 1 = .ok (.invokespecial 3, 3) := by decide +kernel
theorem dX2_init_4 : decode cX2_init 4 = .ok (.aload_n 0, 1) := by decide +kernel
theorem dX2_init_5 : decode cX2_init 5 = .ok (.iconst 4, 1) := by decide +kernel
theorem dX2_init_6 : decode cX2_init 6 = .ok (.newarray .long, 2) := by decide +kernel
theorem dX2_init_8 : decode cX2_init 8 = .ok (.putfield 9, 3) := by decide +kernel
theorem dX2_init_11 : decode cX2_init 11 = .ok (.aload_n 0, 1) := by decide +kernel
theorem dX2_init_12 : decode cX2_init 12 = .ok (.bipush 8, 2) := by decide +kernel
theorem dX2_init_14 : decode cX2_init 14 = .ok (.newarray .long, 2) := by decide +kernel
theorem dX2_init_16 : decode cX2_init 16 = .ok (.putfield 15, 3) := by decide +kernel
theorem dX2_init_19 : decode cX2_init 19 = .ok (.aload_n 0, 1) := by decide +kernel
theorem dX2_init_20 : decode cX2_init 20 = .ok (.bipush 10, 2) := by decide +kernel
theorem dX2_init_22 : decode cX2_init 22 = .ok (.newarray .long, 2) := by decide +kernel
theorem dX2_init_24 : decode cX2_init 24 = .ok (.putfield 18, 3) := by decide +kernel
theorem dX2_init_27 : decode cX2_init 27 = .ok (.aload_n 0, 1) := by decide +kernel
theorem dX2_init_28 : decode cX2_init 28 = .ok (.bipush 8, 2) := by decide +kernel
theorem dX2_init_30 : decode cX2_init 30 = .ok (.newarray .int, 2) := by decide +kernel
theorem dX2_init_32 : decode cX2_init 32 = .ok (.putfield 21, 3) := by decide +kernel
theorem dX2_init_35 : decode cX2_init 35 = .ok (.aload_n 0, 1) := by decide +kernel
theorem dX2_init_36 : decode cX2_init 36 = .ok (.bipush 8, 2) := by decide +kernel
theorem dX2_init_38 : decode cX2_init 38 = .ok (.newarray .int, 2) := by decide +kernel
theorem dX2_init_40 : decode cX2_init 40 = .ok (.putfield 25, 3) := by decide +kernel
theorem dX2_init_43 : decode cX2_init 43 = .ok (.aload_n 0, 1) := by decide +kernel
theorem dX2_init_44 : decode cX2_init 44 = .ok (.bipush 8, 2) := by decide +kernel
theorem dX2_init_46 : decode cX2_init 46 = .ok (.newarray .int, 2) := by decide +kernel
theorem dX2_init_48 : decode cX2_init 48 = .ok (.putfield 28, 3) := by decide +kernel
theorem dX2_init_51 : decode cX2_init 51 = .ok (.aload_n 0, 1) := by decide +kernel
theorem dX2_init_52 : decode cX2_init 52 = .ok (.bipush 8, 2) := by decide +kernel
theorem dX2_init_54 : decode cX2_init 54 = .ok (.newarray .int, 2) := by decide +kernel
theorem dX2_init_56 : decode cX2_init 56 = .ok (.putfield 31, 3) := by decide +kernel
theorem dX2_init_59 : decode cX2_init 59 = .ok (.aload_n 0, 1) := by decide +kernel
theorem dX2_init_60 : decode cX2_init 60 = .ok (.bipush 10, 2) := by decide +kernel
theorem dX2_init_62 : decode cX2_init 62 = .ok (.newarray .int, 2) := by decide +kernel
theorem dX2_init_64 : decode cX2_init 64 = .ok (.putfield 34, 3) := by decide +kernel
theorem dX2_init_67 : decode cX2_init 67 = .ok (.aload_n 0, 1) := by decide +kernel
theorem dX2_init_68 : decode cX2_init 68 = .ok (.bipush 10, 2) := by decide +kernel
theorem dX2_init_70 : decode cX2_init 70 = .ok (.newarray .int, 2) := by decide +kernel
theorem dX2_init_72 : decode cX2_init 72 = .ok (.putfield 37, 3) := by decide +kernel
theorem dX2_init_75 : decode cX2_init 75 = .ok (.aload_n 0, 1) := by decide +kernel
theorem dX2_init_76 : decode cX2_init 76 = .ok (.bipush 10, 2) := by decide +kernel
theorem dX2_init_78 : decode cX2_init 78 = .ok (.newarray .int, 2) := by decide +kernel
theorem dX2_init_80 : decode cX2_init 80 = .ok (.putfield 40, 3) := by decide +kernel
theorem dX2_init_83 : decode cX2_init 83 = .ok (.aload_n 0, 1) := by decide +kernel
theorem dX2_init_84 : decode cX2_init 84 = .ok (.bipush 10, 2) := by decide +kernel
theorem dX2_init_86 : decode cX2_init 86 = .ok (.newarray .int, 2) := by decide +kernel
theorem dX2_init_88 : decode cX2_init 88 = .ok (.putfield 43, 3) := by decide +kernel
theorem dX2_init_91 : decode cX2_init 91 = .ok (.return_, 1) := by decide +kernel
theorem dX2_clear_0 : decode cX2_clear 0 = .ok (.aload_n 0, 1) := by decide +kernel
theorem dX2_clear_1 : decode cX2_clear 1 = .ok (.iconst 0, 1) := by decide +kernel
theorem dX2_clear_2 : decode cX2_clear 2 = .ok (.putfield 46, 3) := by decide +kernel
theorem dX2_clear_5 : decode cX2_clear 5 = .ok (.aload_n 0, 1) := by decide +kernel
theorem dX2_clear_6 : decode cX2_clear 6 = .ok (.iconst 0, 1) := by decide +kernel
theorem dX2_clear_7 : decode cX2_clear 7 = .ok (.putfield 50, 3) := by decide +kernel
theorem dX2_clear_10 : decode cX2_clear 10 = .ok (.aload_n 0, 1) := by decide +kernel
theorem dX2_clear_11 : decode cX2_clear 11 = .ok (.iconst 0, 1) := by decide +kernel
theorem dX2_clear_12 : decode cX2_clear 12 = .ok (.putfield 53, 3) := by decide +kernel
theorem dX2_clear_15 : decode cX2_clear 15 = .ok (.return_, 1) := by decide +kernel
theorem dX2_placeNamed_0 : decode cX2_placeNamed 0 = .ok (.aload_n 0, 1) := by decide +kernel
theorem dX2_placeNamed_1 : decode cX2_placeNamed 1 = .ok (.getfield 9, 3) := by decide +kernel
theorem dX2_placeNamed_4 : decode cX2_placeNamed 4 = .ok (.aload_n 0, 1) := by decide +kernel
theorem dX2_placeNamed_5 : decode cX2_placeNamed 5 = .ok (.getfield 46, 3) := by decide +kernel
theorem dX2_placeNamed_8 : decode cX2_placeNamed 8 = .ok (.lload_n 1, 1) := by decide +kernel
theorem dX2_placeNamed_9 : decode cX2_placeNamed 9 = .ok (.invokestatic 56, 3) := by decide +kernel
theorem dX2_placeNamed_12 : decode cX2_placeNamed 12 = .ok (.ireturn, 1) := by decide +kernel
theorem dX2_vaneNamed_0 : decode cX2_vaneNamed 0 = .ok (.aload_n 0, 1) := by decide +kernel
theorem dX2_vaneNamed_1 : decode cX2_vaneNamed 1 = .ok (.getfield 15, 3) := by decide +kernel
theorem dX2_vaneNamed_4 : decode cX2_vaneNamed 4 = .ok (.aload_n 0, 1) := by decide +kernel
theorem dX2_vaneNamed_5 : decode cX2_vaneNamed 5 = .ok (.getfield 50, 3) := by decide +kernel
theorem dX2_vaneNamed_8 : decode cX2_vaneNamed 8 = .ok (.lload_n 1, 1) := by decide +kernel
theorem dX2_vaneNamed_9 : decode cX2_vaneNamed 9 = .ok (.invokestatic 56, 3) := by decide +kernel
theorem dX2_vaneNamed_12 : decode cX2_vaneNamed 12 = .ok (.ireturn, 1) := by decide +kernel
theorem dX2_shaftNamed_0 : decode cX2_shaftNamed 0 = .ok (.aload_n 0, 1) := by decide +kernel
theorem dX2_shaftNamed_1 : decode cX2_shaftNamed 1 = .ok (.getfield 18, 3) := by decide +kernel
theorem dX2_shaftNamed_4 : decode cX2_shaftNamed 4 = .ok (.aload_n 0, 1) := by decide +kernel
theorem dX2_shaftNamed_5 : decode cX2_shaftNamed 5 = .ok (.getfield 53, 3) := by decide +kernel
theorem dX2_shaftNamed_8 : decode cX2_shaftNamed 8 = .ok (.lload_n 1, 1) := by decide +kernel
theorem dX2_shaftNamed_9 : decode cX2_shaftNamed 9 = .ok (.invokestatic 56, 3) := by decide +kernel
theorem dX2_shaftNamed_12 : decode cX2_shaftNamed 12 = .ok (.ireturn, 1) := by decide +kernel
theorem dX2_isTaken_0 : decode cX2_isTaken 0 = .ok (.aload_n 0, 1) := by decide +kernel
theorem dX2_isTaken_1 : decode cX2_isTaken 1 = .ok (.lload_n 1, 1) := by decide +kernel
theorem dX2_isTaken_2 : decode cX2_isTaken 2 = .ok (.invokevirtual 60, 3) := by decide +kernel
theorem dX2_isTaken_5 : decode cX2_isTaken 5 = .ok (.iconst (-1), 1) := by decide +kernel
theorem dX2_isTaken_6 : decode cX2_isTaken 6 = .ok (.if_icmp .ne 21, 3) := by decide +kernel
theorem dX2_isTaken_9 : decode cX2_isTaken 9 = .ok (.aload_n 0, 1) := by decide +kernel
theorem dX2_isTaken_10 : decode cX2_isTaken 10 = .ok (.lload_n 1, 1) := by decide +kernel
theorem dX2_isTaken_11 : decode cX2_isTaken 11 = .ok (.invokevirtual 64, 3) := by decide +kernel
theorem dX2_isTaken_14 : decode cX2_isTaken 14 = .ok (.iconst (-1), 1) := by decide +kernel
theorem dX2_isTaken_15 : decode cX2_isTaken 15 = .ok (.if_icmp .ne 12, 3) := by decide +kernel
theorem dX2_isTaken_18 : decode cX2_isTaken 18 = .ok (.aload_n 0, 1) := by decide +kernel
theorem dX2_isTaken_19 : decode cX2_isTaken 19 = .ok (.lload_n 1, 1) := by decide +kernel
theorem dX2_isTaken_20 : decode cX2_isTaken 20 = .ok (.invokevirtual 67, 3) := by decide +kernel
theorem dX2_isTaken_23 : decode cX2_isTaken 23 = .ok (.iconst (-1), 1) := by decide +kernel
theorem dX2_isTaken_24 : decode cX2_isTaken 24 = .ok (.if_icmp .eq 7, 3) := by decide +kernel
theorem dX2_isTaken_27 : decode cX2_isTaken 27 = .ok (.iconst 1, 1) := by decide +kernel
theorem dX2_isTaken_28 : decode cX2_isTaken 28 = .ok (.goto 4, 3) := by decide +kernel
theorem dX2_isTaken_31 : decode cX2_isTaken 31 = .ok (.iconst 0, 1) := by decide +kernel
theorem dX2_isTaken_32 : decode cX2_isTaken 32 = .ok (.ireturn, 1) := by decide +kernel
theorem dX2_copyFrom_0 : decode cX2_copyFrom 0 = .ok (.aload_n 0, 1) := by decide +kernel
theorem dX2_copyFrom_1 : decode cX2_copyFrom 1 = .ok (.aload_n 1, 1) := by decide +kernel
theorem dX2_copyFrom_2 : decode cX2_copyFrom 2 = .ok (.getfield 46, 3) := by decide +kernel
theorem dX2_copyFrom_5 : decode cX2_copyFrom 5 = .ok (.putfield 46, 3) := by decide +kernel
theorem dX2_copyFrom_8 : decode cX2_copyFrom 8 = .ok (.aload_n 0, 1) := by decide +kernel
theorem dX2_copyFrom_9 : decode cX2_copyFrom 9 = .ok (.aload_n 1, 1) := by decide +kernel
theorem dX2_copyFrom_10 : decode cX2_copyFrom 10 = .ok (.getfield 50, 3) := by decide +kernel
theorem dX2_copyFrom_13 : decode cX2_copyFrom 13 = .ok (.putfield 50, 3) := by decide +kernel
theorem dX2_copyFrom_16 : decode cX2_copyFrom 16 = .ok (.aload_n 0, 1) := by decide +kernel
theorem dX2_copyFrom_17 : decode cX2_copyFrom 17 = .ok (.aload_n 1, 1) := by decide +kernel
theorem dX2_copyFrom_18 : decode cX2_copyFrom 18 = .ok (.getfield 53, 3) := by decide +kernel
theorem dX2_copyFrom_21 : decode cX2_copyFrom 21 = .ok (.putfield 53, 3) := by decide +kernel
theorem dX2_copyFrom_24 : decode cX2_copyFrom 24 = .ok (.aload_n 1, 1) := by decide +kernel
theorem dX2_copyFrom_25 : decode cX2_copyFrom 25 = .ok (.getfield 9, 3) := by decide +kernel
theorem dX2_copyFrom_28 : decode cX2_copyFrom 28 = .ok (.iconst 0, 1) := by decide +kernel
theorem dX2_copyFrom_29 : decode cX2_copyFrom 29 = .ok (.aload_n 0, 1) := by decide +kernel
theorem dX2_copyFrom_30 : decode cX2_copyFrom 30 = .ok (.getfield 9, 3) := by decide +kernel
theorem dX2_copyFrom_33 : decode cX2_copyFrom 33 = .ok (.iconst 0, 1) := by decide +kernel
theorem dX2_copyFrom_34 : decode cX2_copyFrom 34 = .ok (.iconst 4, 1) := by decide +kernel
theorem dX2_copyFrom_35 : decode cX2_copyFrom 35 = .ok (.invokestatic 70, 3) := by decide +kernel
theorem dX2_copyFrom_38 : decode cX2_copyFrom 38 = .ok (.aload_n 1, 1) := by decide +kernel
theorem dX2_copyFrom_39 : decode cX2_copyFrom 39 = .ok (.getfield 15, 3) := by decide +kernel
theorem dX2_copyFrom_42 : decode cX2_copyFrom 42 = .ok (.iconst 0, 1) := by decide +kernel
theorem dX2_copyFrom_43 : decode cX2_copyFrom 43 = .ok (.aload_n 0, 1) := by decide +kernel
theorem dX2_copyFrom_44 : decode cX2_copyFrom 44 = .ok (.getfield 15, 3) := by decide +kernel
theorem dX2_copyFrom_47 : decode cX2_copyFrom 47 = .ok (.iconst 0, 1) := by decide +kernel
theorem dX2_copyFrom_48 : decode cX2_copyFrom 48 = .ok (.bipush 8, 2) := by decide +kernel
theorem dX2_copyFrom_50 : decode cX2_copyFrom 50 = .ok (.invokestatic 70, 3) := by decide +kernel
theorem dX2_copyFrom_53 : decode cX2_copyFrom 53 = .ok (.aload_n 1, 1) := by decide +kernel
theorem dX2_copyFrom_54 : decode cX2_copyFrom 54 = .ok (.getfield 18, 3) := by decide +kernel
theorem dX2_copyFrom_57 : decode cX2_copyFrom 57 = .ok (.iconst 0, 1) := by decide +kernel
theorem dX2_copyFrom_58 : decode cX2_copyFrom 58 = .ok (.aload_n 0, 1) := by decide +kernel
theorem dX2_copyFrom_59 : decode cX2_copyFrom 59 = .ok (.getfield 18, 3) := by decide +kernel
theorem dX2_copyFrom_62 : decode cX2_copyFrom 62 = .ok (.iconst 0, 1) := by decide +kernel
theorem dX2_copyFrom_63 : decode cX2_copyFrom 63 = .ok (.bipush 10, 2) := by decide +kernel
theorem dX2_copyFrom_65 : decode cX2_copyFrom 65 = .ok (.invokestatic 70, 3) := by decide +kernel
theorem dX2_copyFrom_68 : decode cX2_copyFrom 68 = .ok (.aload_n 1, 1) := by decide +kernel
theorem dX2_copyFrom_69 : decode cX2_copyFrom 69 = .ok (.getfield 21, 3) := by decide +kernel
theorem dX2_copyFrom_72 : decode cX2_copyFrom 72 = .ok (.iconst 0, 1) := by decide +kernel
theorem dX2_copyFrom_73 : decode cX2_copyFrom 73 = .ok (.aload_n 0, 1) := by decide +kernel
theorem dX2_copyFrom_74 : decode cX2_copyFrom 74 = .ok (.getfield 21, 3) := by decide +kernel
theorem dX2_copyFrom_77 : decode cX2_copyFrom 77 = .ok (.iconst 0, 1) := by decide +kernel
theorem dX2_copyFrom_78 : decode cX2_copyFrom 78 = .ok (.bipush 8, 2) := by decide +kernel
theorem dX2_copyFrom_80 : decode cX2_copyFrom 80 = .ok (.invokestatic 70, 3) := by decide +kernel
theorem dX2_copyFrom_83 : decode cX2_copyFrom 83 = .ok (.aload_n 1, 1) := by decide +kernel
theorem dX2_copyFrom_84 : decode cX2_copyFrom 84 = .ok (.getfield 25, 3) := by decide +kernel
theorem dX2_copyFrom_87 : decode cX2_copyFrom 87 = .ok (.iconst 0, 1) := by decide +kernel
theorem dX2_copyFrom_88 : decode cX2_copyFrom 88 = .ok (.aload_n 0, 1) := by decide +kernel
theorem dX2_copyFrom_89 : decode cX2_copyFrom 89 = .ok (.getfield 25, 3) := by decide +kernel
theorem dX2_copyFrom_92 : decode cX2_copyFrom 92 = .ok (.iconst 0, 1) := by decide +kernel
theorem dX2_copyFrom_93 : decode cX2_copyFrom 93 = .ok (.bipush 8, 2) := by decide +kernel
theorem dX2_copyFrom_95 : decode cX2_copyFrom 95 = .ok (.invokestatic 70, 3) := by decide +kernel
theorem dX2_copyFrom_98 : decode cX2_copyFrom 98 = .ok (.aload_n 1, 1) := by decide +kernel
theorem dX2_copyFrom_99 : decode cX2_copyFrom 99 = .ok (.getfield 28, 3) := by decide +kernel
theorem dX2_copyFrom_102 : decode cX2_copyFrom 102 = .ok (.iconst 0, 1) := by decide +kernel
theorem dX2_copyFrom_103 : decode cX2_copyFrom 103 = .ok (.aload_n 0, 1) := by decide +kernel
theorem dX2_copyFrom_104 : decode cX2_copyFrom 104 = .ok (.getfield 28, 3) := by decide +kernel
theorem dX2_copyFrom_107 : decode cX2_copyFrom 107 = .ok (.iconst 0, 1) := by decide +kernel
theorem dX2_copyFrom_108 : decode cX2_copyFrom 108 = .ok (.bipush 8, 2) := by decide +kernel
theorem dX2_copyFrom_110 : decode cX2_copyFrom 110 = .ok (.invokestatic 70, 3) := by decide +kernel
theorem dX2_copyFrom_113 : decode cX2_copyFrom 113 = .ok (.aload_n 1, 1) := by decide +kernel
theorem dX2_copyFrom_114 : decode cX2_copyFrom 114 = .ok (.getfield 31, 3) := by decide +kernel
theorem dX2_copyFrom_117 : decode cX2_copyFrom 117 = .ok (.iconst 0, 1) := by decide +kernel
theorem dX2_copyFrom_118 : decode cX2_copyFrom 118 = .ok (.aload_n 0, 1) := by decide +kernel
theorem dX2_copyFrom_119 : decode cX2_copyFrom 119 = .ok (.getfield 31, 3) := by decide +kernel
theorem dX2_copyFrom_122 : decode cX2_copyFrom 122 = .ok (.iconst 0, 1) := by decide +kernel
theorem dX2_copyFrom_123 : decode cX2_copyFrom 123 = .ok (.bipush 8, 2) := by decide +kernel
theorem dX2_copyFrom_125 : decode cX2_copyFrom 125 = .ok (.invokestatic 70, 3) := by decide +kernel
theorem dX2_copyFrom_128 : decode cX2_copyFrom 128 = .ok (.aload_n 1, 1) := by decide +kernel
theorem dX2_copyFrom_129 : decode cX2_copyFrom 129 = .ok (.getfield 34, 3) := by decide +kernel
theorem dX2_copyFrom_132 : decode cX2_copyFrom 132 = .ok (.iconst 0, 1) := by decide +kernel
theorem dX2_copyFrom_133 : decode cX2_copyFrom 133 = .ok (.aload_n 0, 1) := by decide +kernel
theorem dX2_copyFrom_134 : decode cX2_copyFrom 134 = .ok (.getfield 34, 3) := by decide +kernel
theorem dX2_copyFrom_137 : decode cX2_copyFrom 137 = .ok (.iconst 0, 1) := by decide +kernel
theorem dX2_copyFrom_138 : decode cX2_copyFrom 138 = .ok (.bipush 10, 2) := by decide +kernel
theorem dX2_copyFrom_140 : decode cX2_copyFrom 140 = .ok (.invokestatic 70, 3) := by decide +kernel
theorem dX2_copyFrom_143 : decode cX2_copyFrom 143 = .ok (.aload_n 1, 1) := by decide +kernel
theorem dX2_copyFrom_144 : decode cX2_copyFrom 144 = .ok (.getfield 37, 3) := by decide +kernel
theorem dX2_copyFrom_147 : decode cX2_copyFrom 147 = .ok (.iconst 0, 1) := by decide +kernel
theorem dX2_copyFrom_148 : decode cX2_copyFrom 148 = .ok (.aload_n 0, 1) := by decide +kernel
theorem dX2_copyFrom_149 : decode cX2_copyFrom 149 = .ok (.getfield 37, 3) := by decide +kernel
theorem dX2_copyFrom_152 : decode cX2_copyFrom 152 = .ok (.iconst 0, 1) := by decide +kernel
theorem dX2_copyFrom_153 : decode cX2_copyFrom 153 = .ok (.bipush 10, 2) := by decide +kernel
theorem dX2_copyFrom_155 : decode cX2_copyFrom 155 = .ok (.invokestatic 70, 3) := by decide +kernel
theorem dX2_copyFrom_158 : decode cX2_copyFrom 158 = .ok (.aload_n 1, 1) := by decide +kernel
theorem dX2_copyFrom_159 : decode cX2_copyFrom 159 = .ok (.getfield 40, 3) := by decide +kernel
theorem dX2_copyFrom_162 : decode cX2_copyFrom 162 = .ok (.iconst 0, 1) := by decide +kernel
theorem dX2_copyFrom_163 : decode cX2_copyFrom 163 = .ok (.aload_n 0, 1) := by decide +kernel
theorem dX2_copyFrom_164 : decode cX2_copyFrom 164 = .ok (.getfield 40, 3) := by decide +kernel
theorem dX2_copyFrom_167 : decode cX2_copyFrom 167 = .ok (.iconst 0, 1) := by decide +kernel
theorem dX2_copyFrom_168 : decode cX2_copyFrom 168 = .ok (.bipush 10, 2) := by decide +kernel
theorem dX2_copyFrom_170 : decode cX2_copyFrom 170 = .ok (.invokestatic 70, 3) := by decide +kernel
theorem dX2_copyFrom_173 : decode cX2_copyFrom 173 = .ok (.aload_n 1, 1) := by decide +kernel
theorem dX2_copyFrom_174 : decode cX2_copyFrom 174 = .ok (.getfield 43, 3) := by decide +kernel
theorem dX2_copyFrom_177 : decode cX2_copyFrom 177 = .ok (.iconst 0, 1) := by decide +kernel
theorem dX2_copyFrom_178 : decode cX2_copyFrom 178 = .ok (.aload_n 0, 1) := by decide +kernel
theorem dX2_copyFrom_179 : decode cX2_copyFrom 179 = .ok (.getfield 43, 3) := by decide +kernel
theorem dX2_copyFrom_182 : decode cX2_copyFrom 182 = .ok (.iconst 0, 1) := by decide +kernel
theorem dX2_copyFrom_183 : decode cX2_copyFrom 183 = .ok (.bipush 10, 2) := by decide +kernel
theorem dX2_copyFrom_185 : decode cX2_copyFrom 185 = .ok (.invokestatic 70, 3) := by decide +kernel
theorem dX2_copyFrom_188 : decode cX2_copyFrom 188 = .ok (.return_, 1) := by decide +kernel
theorem dX2_indexIn_0 : decode cX2_indexIn 0 = .ok (.iconst 0, 1) := by decide +kernel
theorem dX2_indexIn_1 : decode cX2_indexIn 1 = .ok (.istore 4, 2) := by decide +kernel
theorem dX2_indexIn_3 : decode cX2_indexIn 3 = .ok (.iload 4, 2) := by decide +kernel
theorem dX2_indexIn_5 : decode cX2_indexIn 5 = .ok (.iload_n 1, 1) := by decide +kernel
theorem dX2_indexIn_6 : decode cX2_indexIn 6 = .ok (.if_icmp .ge 21, 3) := by decide +kernel
theorem dX2_indexIn_9 : decode cX2_indexIn 9 = .ok (.aload_n 0, 1) := by decide +kernel
theorem dX2_indexIn_10 : decode cX2_indexIn 10 = .ok (.iload 4, 2) := by decide +kernel
theorem dX2_indexIn_12 : decode cX2_indexIn 12 = .ok (.laload, 1) := by decide +kernel
theorem dX2_indexIn_13 : decode cX2_indexIn 13 = .ok (.lload_n 2, 1) := by decide +kernel
theorem dX2_indexIn_14 : decode cX2_indexIn 14 = .ok (.lcmp, 1) := by decide +kernel
theorem dX2_indexIn_15 : decode cX2_indexIn 15 = .ok (.ifCond .ne 6, 3) := by decide +kernel
theorem dX2_indexIn_18 : decode cX2_indexIn 18 = .ok (.iload 4, 2) := by decide +kernel
theorem dX2_indexIn_20 : decode cX2_indexIn 20 = .ok (.ireturn, 1) := by decide +kernel
theorem dX2_indexIn_21 : decode cX2_indexIn 21 = .ok (.iinc 4 1, 3) := by decide +kernel
theorem dX2_indexIn_24 : decode cX2_indexIn 24 = .ok (.goto (-21), 3) := by decide +kernel
theorem dX2_indexIn_27 : decode cX2_indexIn 27 = .ok (.iconst (-1), 1) := by decide +kernel
theorem dX2_indexIn_28 : decode cX2_indexIn 28 = .ok (.ireturn, 1) := by decide +kernel
theorem dX3_init_0 : decode cX3_init 0 = .ok (.aload_n 0, 1) := by decide +kernel
theorem dX3_init_1 : decode cX3_init 1 = .ok (.invokespecial 3, 3) := by decide +kernel
theorem dX3_init_4 : decode cX3_init 4 = .ok (.aload_n 0, 1) := by decide +kernel
theorem dX3_init_5 : decode cX3_init 5 = .ok (.new 9, 3) := by decide +kernel
theorem dX3_init_8 : decode cX3_init 8 = .ok (.dup, 1) := by decide +kernel
theorem dX3_init_9 : decode cX3_init 9 = .ok (.invokespecial 11, 3) := by decide +kernel
theorem dX3_init_12 : decode cX3_init 12 = .ok (.putfield 12, 3) := by decide +kernel
theorem dX3_init_15 : decode cX3_init 15 = .ok (.aload_n 0, 1) := by decide +kernel
theorem dX3_init_16 : decode cX3_init 16 = .ok (.bipush 60, 2) := by decide +kernel
theorem dX3_init_18 : decode cX3_init 18 = .ok (.newarray .int, 2) := by decide +kernel
theorem dX3_init_20 : decode cX3_init 20 = .ok (.putfield 20, 3) := by decide +kernel
theorem dX3_init_23 : decode cX3_init 23 = .ok (.aload_n 0, 1) := by decide +kernel
theorem dX3_init_24 : decode cX3_init 24 = .ok (.iconst 5, 1) := by decide +kernel
theorem dX3_init_25 : decode cX3_init 25 = .ok (.newarray .int, 2) := by decide +kernel
theorem dX3_init_27 : decode cX3_init 27 = .ok (.putfield 24, 3) := by decide +kernel
theorem dX3_init_30 : decode cX3_init 30 = .ok (.aload_n 0, 1) := by decide +kernel
theorem dX3_init_31 : decode cX3_init 31 = .ok (.bipush 8, 2) := by decide +kernel
theorem dX3_init_33 : decode cX3_init 33 = .ok (.newarray .int, 2) := by decide +kernel
theorem dX3_init_35 : decode cX3_init 35 = .ok (.putfield 27, 3) := by decide +kernel
theorem dX3_init_38 : decode cX3_init 38 = .ok (.return_, 1) := by decide +kernel
theorem dX3_carryOut_0 : decode cX3_carryOut 0 = .ok (.aload_n 0, 1) := by decide +kernel
theorem dX3_carryOut_1 : decode cX3_carryOut 1 = .ok (.getfield 12, 3) := by decide +kernel
theorem dX3_carryOut_4 : decode cX3_carryOut 4 = .ok (.aload_n 1, 1) := by decide +kernel
theorem dX3_carryOut_5 : decode cX3_carryOut 5 = .ok (.getfield 30, 3) := by decide +kernel
theorem dX3_carryOut_8 : decode cX3_carryOut 8 = .ok (.invokevirtual 33, 3) := by decide +kernel
theorem dX3_carryOut_11 : decode cX3_carryOut 11 = .ok (.aload_n 0, 1) := by decide +kernel
theorem dX3_carryOut_12 : decode cX3_carryOut 12 = .ok (.aload_n 1, 1) := by decide +kernel
theorem dX3_carryOut_13 : decode cX3_carryOut 13 = .ok (.getfield 37, 3) := by decide +kernel
theorem dX3_carryOut_16 : decode cX3_carryOut 16 = .ok (.putfield 41, 3) := by decide +kernel
theorem dX3_carryOut_19 : decode cX3_carryOut 19 = .ok (.aload_n 0, 1) := by decide +kernel
theorem dX3_carryOut_20 : decode cX3_carryOut 20 = .ok (.aload_n 1, 1) := by decide +kernel
theorem dX3_carryOut_21 : decode cX3_carryOut 21 = .ok (.getfield 42, 3) := by decide +kernel
theorem dX3_carryOut_24 : decode cX3_carryOut 24 = .ok (.putfield 46, 3) := by decide +kernel
theorem dX3_carryOut_27 : decode cX3_carryOut 27 = .ok (.aload_n 0, 1) := by decide +kernel
theorem dX3_carryOut_28 : decode cX3_carryOut 28 = .ok (.aload_n 3, 1) := by decide +kernel
theorem dX3_carryOut_29 : decode cX3_carryOut 29 = .ok (.putfield 49, 3) := by decide +kernel
theorem dX3_carryOut_32 : decode cX3_carryOut 32 = .ok (.aload_n 0, 1) := by decide +kernel
theorem dX3_carryOut_33 : decode cX3_carryOut 33 = .ok (.getfield 49, 3) := by decide +kernel
theorem dX3_carryOut_36 : decode cX3_carryOut 36 = .ok (.aload_n 0, 1) := by decide +kernel
theorem dX3_carryOut_37 : decode cX3_carryOut 37 = .ok (.getfield 41, 3) := by decide +kernel
theorem dX3_carryOut_40 : decode cX3_carryOut 40 = .ok (.aload_n 0, 1) := by decide +kernel
theorem dX3_carryOut_41 : decode cX3_carryOut 41 = .ok (.getfield 12, 3) := by decide +kernel
theorem dX3_carryOut_44 : decode cX3_carryOut 44 = .ok (.invokevirtual 53, 3) := by decide +kernel
theorem dX3_carryOut_47 : decode cX3_carryOut 47 = .ok (.aload_n 0, 1) := by decide +kernel
theorem dX3_carryOut_48 : decode cX3_carryOut 48 = .ok (.iload_n 2, 1) := by decide +kernel
theorem dX3_carryOut_49 : decode cX3_carryOut 49 = .ok (.putfield 59, 3) := by decide +kernel
theorem dX3_carryOut_52 : decode cX3_carryOut 52 = .ok (.aload_n 0, 1) := by decide +kernel
theorem dX3_carryOut_53 : decode cX3_carryOut 53 = .ok (.iconst 0, 1) := by decide +kernel
theorem dX3_carryOut_54 : decode cX3_carryOut 54 = .ok (.putfield 63, 3) := by decide +kernel
theorem dX3_carryOut_57 : decode cX3_carryOut 57 = .ok (.aload_n 0, 1) := by decide +kernel
theorem dX3_carryOut_58 : decode cX3_carryOut 58 = .ok (.iconst 0, 1) := by decide +kernel
theorem dX3_carryOut_59 : decode cX3_carryOut 59 = .ok (.putfield 66, 3) := by decide +kernel
theorem dX3_carryOut_62 : decode cX3_carryOut 62 = .ok (.aload_n 0, 1) := by decide +kernel
theorem dX3_carryOut_63 : decode cX3_carryOut 63 = .ok (.iconst 0, 1) := by decide +kernel
theorem dX3_carryOut_64 : decode cX3_carryOut 64 = .ok (.putfield 69, 3) := by decide +kernel
theorem dX3_carryOut_67 : decode cX3_carryOut 67 = .ok (.iconst 0, 1) := by decide +kernel
theorem dX3_carryOut_68 : decode cX3_carryOut 68 = .ok (.istore 4, 2) := by decide +kernel
theorem dX3_carryOut_70 : decode cX3_carryOut 70 = .ok (.iconst 0, 1) := by decide +kernel
theorem dX3_carryOut_71 : decode cX3_carryOut 71 = .ok (.istore 5, 2) := by decide +kernel
theorem dX3_carryOut_73 : decode cX3_carryOut 73 = .ok (.iload 5, 2) := by decide +kernel
theorem dX3_carryOut_75 : decode cX3_carryOut 75 = .ok (.ldc 73, 2) := by decide +kernel
theorem dX3_carryOut_77 : decode cX3_carryOut 77 = .ok (.if_icmp .ge 98, 3) := by decide +kernel
theorem dX3_carryOut_80 : decode cX3_carryOut 80 = .ok (.iload 4, 2) := by decide +kernel
theorem dX3_carryOut_82 : decode cX3_carryOut 82 = .ok (.aload_n 0, 1) := by decide +kernel
theorem dX3_carryOut_83 : decode cX3_carryOut 83 = .ok (.getfield 46, 3) := by decide +kernel
theorem dX3_carryOut_86 : decode cX3_carryOut 86 = .ok (.getfield 74, 3) := by decide +kernel
theorem dX3_carryOut_89 : decode cX3_carryOut 89 = .ok (.if_icmp .ge 86, 3) := by decide +kernel
theorem dX3_carryOut_92 : decode cX3_carryOut 92 = .ok (.aload_n 0, 1) := by decide +kernel
theorem dX3_carryOut_93 : decode cX3_carryOut 93 = .ok (.getfield 46, 3) := by decide +kernel
theorem dX3_carryOut_96 : decode cX3_carryOut 96 = .ok (.getfield 77, 3) := by decide +kernel
theorem dX3_carryOut_99 : decode cX3_carryOut 99 = .ok (.iload 4, 2) := by decide +kernel
theorem dX3_carryOut_101 : decode cX3_carryOut 101 = .ok (.iaload, 1) := by decide +kernel
theorem dX3_carryOut_102 : decode cX3_carryOut 102 = .ok (.bipush 21, 2) := by decide +kernel
theorem dX3_carryOut_104 : decode cX3_carryOut 104 = .ok (.if_icmp .ne 14, 3) := by decide +kernel
theorem dX3_carryOut_107 : decode cX3_carryOut 107 = .ok (.aload_n 0, 1) := by decide +kernel
theorem dX3_carryOut_108 : decode cX3_carryOut 108 = .ok (.iload 4, 2) := by decide +kernel
theorem dX3_carryOut_110 : decode cX3_carryOut 110 = .ok (.invokevirtual 82, 3) := by decide +kernel
theorem dX3_carryOut_113 : decode cX3_carryOut 113 = .ok (.istore 4, 2) := by decide +kernel
theorem dX3_carryOut_115 : decode cX3_carryOut 115 = .ok (.goto 54, 3) := by decide +kernel
theorem dX3_carryOut_118 : decode cX3_carryOut 118 = .ok (.aload_n 0, 1) := by decide +kernel
theorem dX3_carryOut_119 : decode cX3_carryOut 119 = .ok (.getfield 66, 3) := by decide +kernel
theorem dX3_carryOut_122 : decode cX3_carryOut 122 = .ok (.sipush 400, 3) := by decide +kernel
theorem dX3_carryOut_125 : decode cX3_carryOut 125 = .ok (.if_icmp .ge 30, 3) := by decide +kernel
theorem dX3_carryOut_128 : decode cX3_carryOut 128 = .ok (.aload_n 0, 1) := by decide +kernel
theorem dX3_carryOut_129 : decode cX3_carryOut 129 = .ok (.dup, 1) := by decide +kernel
theorem dX3_carryOut_130 : decode cX3_carryOut 130 = .ok (.getfield 66, 3) := by decide +kernel
theorem dX3_carryOut_133 : decode cX3_carryOut 133 = .ok (.iconst 1, 1) := by decide +kernel
theorem dX3_carryOut_134 : decode cX3_carryOut 134 = .ok (.iadd, 1) := by decide +kernel
theorem dX3_carryOut_135 : decode cX3_carryOut 135 = .ok (.putfield 66, 3) := by decide +kernel
theorem dX3_carryOut_138 : decode cX3_carryOut 138 = .ok (.aload_n 0, 1) := by decide +kernel
theorem dX3_carryOut_139 : decode cX3_carryOut 139 = .ok (.iload 4, 2) := by decide +kernel
theorem dX3_carryOut_141 : decode cX3_carryOut 141 = .ok (.invokevirtual 86, 3) := by decide +kernel
theorem dX3_carryOut_144 : decode cX3_carryOut 144 = .ok (.aload_n 0, 1) := by decide +kernel
theorem dX3_carryOut_145 : decode cX3_carryOut 145 = .ok (.iload 4, 2) := by decide +kernel
theorem dX3_carryOut_147 : decode cX3_carryOut 147 = .ok (.invokevirtual 90, 3) := by decide +kernel
theorem dX3_carryOut_150 : decode cX3_carryOut 150 = .ok (.istore 4, 2) := by decide +kernel
theorem dX3_carryOut_152 : decode cX3_carryOut 152 = .ok (.goto 17, 3) := by decide +kernel
theorem dX3_carryOut_155 : decode cX3_carryOut 155 = .ok (.aload_n 0, 1) := by decide +kernel
theorem dX3_carryOut_156 : decode cX3_carryOut 156 = .ok (.iconst 1, 1) := by decide +kernel
theorem dX3_carryOut_157 : decode cX3_carryOut 157 = .ok (.putfield 69, 3) := by decide +kernel
theorem dX3_carryOut_160 : decode cX3_carryOut 160 = .ok (.aload_n 0, 1) := by decide +kernel
theorem dX3_carryOut_161 : decode cX3_carryOut 161 = .ok (.getfield 46, 3) := by decide +kernel
theorem dX3_carryOut_164 : decode cX3_carryOut 164 = .ok (.getfield 74, 3) := by decide +kernel
theorem dX3_carryOut_167 : decode cX3_carryOut 167 = .ok (.istore 4, 2) := by decide +kernel
theorem dX3_carryOut_169 : decode cX3_carryOut 169 = .ok (.iinc 5 1, 3) := by decide +kernel
theorem dX3_carryOut_172 : decode cX3_carryOut 172 = .ok (.goto (-99), 3) := by decide +kernel
theorem dX3_carryOut_175 : decode cX3_carryOut 175 = .ok (.return_, 1) := by decide +kernel
theorem dX3_report_0 : decode cX3_report 0 = .ok (.aload_n 0, 1) := by decide +kernel
theorem dX3_report_1 : decode cX3_report 1 = .ok (.iconst 1, 1) := by decide +kernel
theorem dX3_report_2 : decode cX3_report 2 = .ok (.putfield 93, 3) := by decide +kernel
theorem dX3_report_5 : decode cX3_report 5 = .ok (.aload_n 0, 1) := by decide +kernel
theorem dX3_report_6 : decode cX3_report 6 = .ok (.getfield 24, 3) := by decide +kernel
theorem dX3_report_9 : decode cX3_report 9 = .ok (.iconst 0, 1) := by decide +kernel
theorem dX3_report_10 : decode cX3_report 10 = .ok (.aload_n 0, 1) := by decide +kernel
theorem dX3_report_11 : decode cX3_report 11 = .ok (.getfield 63, 3) := by decide +kernel
theorem dX3_report_14 : decode cX3_report 14 = .ok (.iastore, 1) := by decide +kernel
theorem dX3_report_15 : decode cX3_report 15 = .ok (.aload_n 0, 1) := by decide +kernel
theorem dX3_report_16 : decode cX3_report 16 = .ok (.getfield 24, 3) := by decide +kernel
theorem dX3_report_19 : decode cX3_report 19 = .ok (.iconst 1, 1) := by decide +kernel
theorem dX3_report_20 : decode cX3_report 20 = .ok (.aload_n 1, 1) := by decide +kernel
theorem dX3_report_21 : decode cX3_report 21 = .ok (.getfield 96, 3) := by decide +kernel
theorem dX3_report_24 : decode cX3_report 24 = .ok (.iastore, 1) := by decide +kernel
theorem dX3_report_25 : decode cX3_report 25 = .ok (.aload_n 0, 1) := by decide +kernel
theorem dX3_report_26 : decode cX3_report 26 = .ok (.getfield 24, 3) := by decide +kernel
theorem dX3_report_29 : decode cX3_report 29 = .ok (.iconst 2, 1) := by decide +kernel
theorem dX3_report_30 : decode cX3_report 30 = .ok (.aload_n 1, 1) := by decide +kernel
theorem dX3_report_31 : decode cX3_report 31 = .ok (.getfield 99, 3) := by decide +kernel
theorem dX3_report_34 : decode cX3_report 34 = .ok (.iastore, 1) := by decide +kernel
theorem dX3_report_35 : decode cX3_report 35 = .ok (.aload_n 0, 1) := by decide +kernel
theorem dX3_report_36 : decode cX3_report 36 = .ok (.getfield 24, 3) := by decide +kernel
theorem dX3_report_39 : decode cX3_report 39 = .ok (.iconst 3, 1) := by decide +kernel
theorem dX3_report_40 : decode cX3_report 40 = .ok (.aload_n 1, 1) := by decide +kernel
theorem dX3_report_41 : decode cX3_report 41 = .ok (.invokevirtual 102, 3) := by decide +kernel
theorem dX3_report_44 : decode cX3_report 44 = .ok (.iastore, 1) := by decide +kernel
theorem dX3_report_45 : decode cX3_report 45 = .ok (.aload_n 0, 1) := by decide +kernel
theorem dX3_report_46 : decode cX3_report 46 = .ok (.getfield 24, 3) := by decide +kernel
theorem dX3_report_49 : decode cX3_report 49 = .ok (.iconst 4, 1) := by decide +kernel
theorem dX3_report_50 : decode cX3_report 50 = .ok (.aload_n 0, 1) := by decide +kernel
theorem dX3_report_51 : decode cX3_report 51 = .ok (.getfield 69, 3) := by decide +kernel
theorem dX3_report_54 : decode cX3_report 54 = .ok (.ifCond .eq 7, 3) := by decide +kernel
theorem dX3_report_57 : decode cX3_report 57 = .ok (.iconst 1, 1) := by decide +kernel
theorem dX3_report_58 : decode cX3_report 58 = .ok (.goto 4, 3) := by decide +kernel
theorem dX3_report_61 : decode cX3_report 61 = .ok (.iconst 0, 1) := by decide +kernel
theorem dX3_report_62 : decode cX3_report 62 = .ok (.iastore, 1) := by decide +kernel
theorem dX3_report_63 : decode cX3_report 63 = .ok (.aload_n 0, 1) := by decide +kernel
theorem dX3_report_64 : decode cX3_report 64 = .ok (.aload_n 0, 1) := by decide +kernel
theorem dX3_report_65 : decode cX3_report 65 = .ok (.getfield 41, 3) := by decide +kernel
theorem dX3_report_68 : decode cX3_report 68 = .ok (.getfield 106, 3) := by decide +kernel
theorem dX3_report_71 : decode cX3_report 71 = .ok (.putfield 111, 3) := by decide +kernel
theorem dX3_report_74 : decode cX3_report 74 = .ok (.aload_n 0, 1) := by decide +kernel
theorem dX3_report_75 : decode cX3_report 75 = .ok (.getfield 12, 3) := by decide +kernel
theorem dX3_report_78 : decode cX3_report 78 = .ok (.getfield 114, 3) := by decide +kernel
theorem dX3_report_81 : decode cX3_report 81 = .ok (.iconst 0, 1) := by decide +kernel
theorem dX3_report_82 : decode cX3_report 82 = .ok (.aload_n 0, 1) := by decide +kernel
theorem dX3_report_83 : decode cX3_report 83 = .ok (.getfield 27, 3) := by decide +kernel
theorem dX3_report_86 : decode cX3_report 86 = .ok (.iconst 0, 1) := by decide +kernel
theorem dX3_report_87 : decode cX3_report 87 = .ok (.bipush 8, 2) := by decide +kernel
theorem dX3_report_89 : decode cX3_report 89 = .ok (.invokestatic 117, 3) := by decide +kernel
theorem dX3_report_92 : decode cX3_report 92 = .ok (.return_, 1) := by decide +kernel
theorem dX3_rowBehindEnd_0 : decode cX3_rowBehindEnd 0 = .ok (.aload_n 0, 1) := by decide +kernel
theorem dX3_rowBehindEnd_1 : decode cX3_rowBehindEnd 1 = .ok (.getfield 46, 3) := by decide +kernel
theorem dX3_rowBehindEnd_4 : decode cX3_rowBehindEnd 4 = .ok (.getfield 123, 3) := by decide +kernel
theorem dX3_rowBehindEnd_7 : decode cX3_rowBehindEnd 7 = .ok (.iload_n 1, 1) := by decide +kernel
theorem dX3_rowBehindEnd_8 : decode cX3_rowBehindEnd 8 = .ok (.iaload, 1) := by decide +kernel
theorem dX3_rowBehindEnd_9 : decode cX3_rowBehindEnd 9 = .ok (.istore_n 2, 1) := by decide +kernel
theorem dX3_rowBehindEnd_10 : decode cX3_rowBehindEnd 10 = .ok (.aload_n 0, 1) := by decide +kernel
theorem dX3_rowBehindEnd_11 : decode cX3_rowBehindEnd 11 = .ok (.getfield 46, 3) := by decide +kernel
theorem dX3_rowBehindEnd_14 : decode cX3_rowBehindEnd 14 = .ok (.getfield 77, 3) := by decide +kernel
theorem dX3_rowBehindEnd_17 : decode cX3_rowBehindEnd 17 = .ok (.iload_n 2, 1) := by decide +kernel
theorem dX3_rowBehindEnd_18 : decode cX3_rowBehindEnd 18 = .ok (.iaload, 1) := by decide +kernel
theorem dX3_rowBehindEnd_19 : decode cX3_rowBehindEnd 19 = .ok (.bipush 20, 2) := by decide +kernel
theorem dX3_rowBehindEnd_21 : decode cX3_rowBehindEnd 21 = .ok (.if_icmp .ne 27, 3) := by decide +kernel
theorem dX3_rowBehindEnd_24 : decode cX3_rowBehindEnd 24 = .ok (.aload_n 0, 1) := by decide +kernel
theorem dX3_rowBehindEnd_25 : decode cX3_rowBehindEnd 25 = .ok (.getfield 20, 3) := by decide +kernel
theorem dX3_rowBehindEnd_28 : decode cX3_rowBehindEnd 28 = .ok (.iload_n 2, 1) := by decide +kernel
theorem dX3_rowBehindEnd_29 : decode cX3_rowBehindEnd 29 = .ok (.iaload, 1) := by decide +kernel
theorem dX3_rowBehindEnd_30 : decode cX3_rowBehindEnd 30 = .ok (.iconst 1, 1) := by decide +kernel
theorem dX3_rowBehindEnd_31 : decode cX3_rowBehindEnd 31 = .ok (.if_icmp .le 17, 3) := by decide +kernel
theorem dX3_rowBehindEnd_34 : decode cX3_rowBehindEnd 34 = .ok (.aload_n 0, 1) := by decide +kernel
theorem dX3_rowBehindEnd_35 : decode cX3_rowBehindEnd 35 = .ok (.getfield 20, 3) := by decide +kernel
theorem dX3_rowBehindEnd_38 : decode cX3_rowBehindEnd 38 = .ok (.iload_n 2, 1) := by decide +kernel
theorem dX3_rowBehindEnd_39 : decode cX3_rowBehindEnd 39 = .ok (.dup2, 1) := by decide +kernel
theorem dX3_rowBehindEnd_40 : decode cX3_rowBehindEnd 40 = .ok (.iaload, 1) := by decide +kernel
theorem dX3_rowBehindEnd_41 : decode cX3_rowBehindEnd 41 = .ok (.iconst 1, 1) := by decide +kernel
theorem dX3_rowBehindEnd_42 : decode cX3_rowBehindEnd 42 = .ok (.isub, 1) := by decide +kernel
theorem dX3_rowBehindEnd_43 : decode cX3_rowBehindEnd 43 = .ok (.iastore, 1) := by decide +kernel
theorem dX3_rowBehindEnd_44 : decode cX3_rowBehindEnd 44 = .ok (.iload_n 2, 1) := by decide +kernel
theorem dX3_rowBehindEnd_45 : decode cX3_rowBehindEnd 45 = .ok (.iconst 1, 1) := by decide +kernel
theorem dX3_rowBehindEnd_46 : decode cX3_rowBehindEnd 46 = .ok (.iadd, 1) := by decide +kernel
theorem dX3_rowBehindEnd_47 : decode cX3_rowBehindEnd 47 = .ok (.ireturn, 1) := by decide +kernel
theorem dX3_rowBehindEnd_48 : decode cX3_rowBehindEnd 48 = .ok (.iload_n 1, 1) := by decide +kernel
theorem dX3_rowBehindEnd_49 : decode cX3_rowBehindEnd 49 = .ok (.iconst 1, 1) := by decide +kernel
theorem dX3_rowBehindEnd_50 : decode cX3_rowBehindEnd 50 = .ok (.iadd, 1) := by decide +kernel
theorem dX3_rowBehindEnd_51 : decode cX3_rowBehindEnd 51 = .ok (.ireturn, 1) := by decide +kernel
theorem dX3_rowBehindStep_0 : decode cX3_rowBehindStep 0 = .ok (.aload_n 0, 1) := by decide +kernel
theorem dX3_rowBehindStep_1 : decode cX3_rowBehindStep 1 = .ok (.getfield 46, 3) := by decide +kernel
theorem dX3_rowBehindStep_4 : decode cX3_rowBehindStep 4 = .ok (.getfield 77, 3) := by decide +kernel
theorem dX3_rowBehindStep_7 : decode cX3_rowBehindStep 7 = .ok (.iload_n 1, 1) := by decide +kernel
theorem dX3_rowBehindStep_8 : decode cX3_rowBehindStep 8 = .ok (.iaload, 1) := by decide +kernel
theorem dX3_rowBehindStep_9 : decode cX3_rowBehindStep 9 = .ok (.bipush 22, 2) := by decide +kernel
theorem dX3_rowBehindStep_11 : decode cX3_rowBehindStep 11 = .ok (.if_icmp .ne 11, 3) := by decide +kernel
theorem dX3_rowBehindStep_14 : decode cX3_rowBehindStep 14 = .ok (.aload_n 0, 1) := by decide +kernel
theorem dX3_rowBehindStep_15 : decode cX3_rowBehindStep 15 = .ok (.getfield 46, 3) := by decide +kernel
theorem dX3_rowBehindStep_18 : decode cX3_rowBehindStep 18 = .ok (.getfield 74, 3) := by decide +kernel
theorem dX3_rowBehindStep_21 : decode cX3_rowBehindStep 21 = .ok (.ireturn, 1) := by decide +kernel
theorem dX3_rowBehindStep_22 : decode cX3_rowBehindStep 22 = .ok (.aload_n 0, 1) := by decide +kernel
theorem dX3_rowBehindStep_23 : decode cX3_rowBehindStep 23 = .ok (.getfield 46, 3) := by decide +kernel
theorem dX3_rowBehindStep_26 : decode cX3_rowBehindStep 26 = .ok (.getfield 77, 3) := by decide +kernel
theorem dX3_rowBehindStep_29 : decode cX3_rowBehindStep 29 = .ok (.iload_n 1, 1) := by decide +kernel
theorem dX3_rowBehindStep_30 : decode cX3_rowBehindStep 30 = .ok (.iaload, 1) := by decide +kernel
theorem dX3_rowBehindStep_31 : decode cX3_rowBehindStep 31 = .ok (.bipush 18, 2) := by decide +kernel
theorem dX3_rowBehindStep_33 : decode cX3_rowBehindStep 33 = .ok (.if_icmp .ne 23, 3) := by decide +kernel
theorem dX3_rowBehindStep_36 : decode cX3_rowBehindStep 36 = .ok (.aload_n 0, 1) := by decide +kernel
theorem dX3_rowBehindStep_37 : decode cX3_rowBehindStep 37 = .ok (.iload_n 1, 1) := by decide +kernel
theorem dX3_rowBehindStep_38 : decode cX3_rowBehindStep 38 = .ok (.invokevirtual 126, 3) := by decide +kernel
theorem dX3_rowBehindStep_41 : decode cX3_rowBehindStep 41 = .ok (.ifCond .ne 15, 3) := by decide +kernel
theorem dX3_rowBehindStep_44 : decode cX3_rowBehindStep 44 = .ok (.aload_n 0, 1) := by decide +kernel
theorem dX3_rowBehindStep_45 : decode cX3_rowBehindStep 45 = .ok (.getfield 46, 3) := by decide +kernel
theorem dX3_rowBehindStep_48 : decode cX3_rowBehindStep 48 = .ok (.getfield 123, 3) := by decide +kernel
theorem dX3_rowBehindStep_51 : decode cX3_rowBehindStep 51 = .ok (.iload_n 1, 1) := by decide +kernel
theorem dX3_rowBehindStep_52 : decode cX3_rowBehindStep 52 = .ok (.iaload, 1) := by decide +kernel
theorem dX3_rowBehindStep_53 : decode cX3_rowBehindStep 53 = .ok (.iconst 1, 1) := by decide +kernel
theorem dX3_rowBehindStep_54 : decode cX3_rowBehindStep 54 = .ok (.iadd, 1) := by decide +kernel
theorem dX3_rowBehindStep_55 : decode cX3_rowBehindStep 55 = .ok (.ireturn, 1) := by decide +kernel
theorem dX3_rowBehindStep_56 : decode cX3_rowBehindStep 56 = .ok (.iload_n 1, 1) := by decide +kernel
theorem dX3_rowBehindStep_57 : decode cX3_rowBehindStep 57 = .ok (.iconst 1, 1) := by decide +kernel
theorem dX3_rowBehindStep_58 : decode cX3_rowBehindStep 58 = .ok (.iadd, 1) := by decide +kernel
theorem dX3_rowBehindStep_59 : decode cX3_rowBehindStep 59 = .ok (.ireturn, 1) := by decide +kernel
theorem dX3_isSo_0 : decode cX3_isSo 0 = .ok (.aload_n 0, 1) := by decide +kernel
theorem dX3_isSo_1 : decode cX3_isSo 1 = .ok (.getfield 46, 3) := by decide +kernel
theorem dX3_isSo_4 : decode cX3_isSo 4 = .ok (.getfield 130, 3) := by decide +kernel
theorem dX3_isSo_7 : decode cX3_isSo 7 = .ok (.iload_n 1, 1) := by decide +kernel
theorem dX3_isSo_8 : decode cX3_isSo 8 = .ok (.iaload, 1) := by decide +kernel
theorem dX3_isSo_9 : decode cX3_isSo 9 = .ok (.istore_n 2, 1) := by decide +kernel
theorem dX3_isSo_10 : decode cX3_isSo 10 = .ok (.aload_n 0, 1) := by decide +kernel
theorem dX3_isSo_11 : decode cX3_isSo 11 = .ok (.getfield 12, 3) := by decide +kernel
theorem dX3_isSo_14 : decode cX3_isSo 14 = .ok (.getfield 114, 3) := by decide +kernel
theorem dX3_isSo_17 : decode cX3_isSo 17 = .ok (.iload_n 2, 1) := by decide +kernel
theorem dX3_isSo_18 : decode cX3_isSo 18 = .ok (.iaload, 1) := by decide +kernel
theorem dX3_isSo_19 : decode cX3_isSo 19 = .ok (.istore_n 3, 1) := by decide +kernel
theorem dX3_isSo_20 : decode cX3_isSo 20 = .ok (.aload_n 0, 1) := by decide +kernel
theorem dX3_isSo_21 : decode cX3_isSo 21 = .ok (.getfield 46, 3) := by decide +kernel
theorem dX3_isSo_24 : decode cX3_isSo 24 = .ok (.getfield 133, 3) := by decide +kernel
theorem dX3_isSo_27 : decode cX3_isSo 27 = .ok (.iload_n 1, 1) := by decide +kernel
theorem dX3_isSo_28 : decode cX3_isSo 28 = .ok (.iaload, 1) := by decide +kernel
theorem dX3_isSo_29 : decode cX3_isSo 29 = .ok (.tableswitch 84 60 62 #[27, 65, 46], 27) := by decide +kernel
theorem dX3_isSo_56 : decode cX3_isSo 56 = .ok (.iload_n 3, 1) := by decide +kernel
theorem dX3_isSo_57 : decode cX3_isSo 57 = .ok (.aload_n 0, 1) := by decide +kernel
theorem dX3_isSo_58 : decode cX3_isSo 58 = .ok (.getfield 46, 3) := by decide +kernel
theorem dX3_isSo_61 : decode cX3_isSo 61 = .ok (.getfield 136, 3) := by decide +kernel
theorem dX3_isSo_64 : decode cX3_isSo 64 = .ok (.iload_n 1, 1) := by decide +kernel
theorem dX3_isSo_65 : decode cX3_isSo 65 = .ok (.iaload, 1) := by decide +kernel
theorem dX3_isSo_66 : decode cX3_isSo 66 = .ok (.if_icmp .ge 7, 3) := by decide +kernel
theorem dX3_isSo_69 : decode cX3_isSo 69 = .ok (.iconst 1, 1) := by decide +kernel
theorem dX3_isSo_70 : decode cX3_isSo 70 = .ok (.goto 4, 3) := by decide +kernel
theorem dX3_isSo_73 : decode cX3_isSo 73 = .ok (.iconst 0, 1) := by decide +kernel
theorem dX3_isSo_74 : decode cX3_isSo 74 = .ok (.ireturn, 1) := by decide +kernel
theorem dX3_isSo_75 : decode cX3_isSo 75 = .ok (.iload_n 3, 1) := by decide +kernel
theorem dX3_isSo_76 : decode cX3_isSo 76 = .ok (.aload_n 0, 1) := by decide +kernel
theorem dX3_isSo_77 : decode cX3_isSo 77 = .ok (.getfield 46, 3) := by decide +kernel
theorem dX3_isSo_80 : decode cX3_isSo 80 = .ok (.getfield 136, 3) := by decide +kernel
theorem dX3_isSo_83 : decode cX3_isSo 83 = .ok (.iload_n 1, 1) := by decide +kernel
theorem dX3_isSo_84 : decode cX3_isSo 84 = .ok (.iaload, 1) := by decide +kernel
theorem dX3_isSo_85 : decode cX3_isSo 85 = .ok (.if_icmp .le 7, 3) := by decide +kernel
theorem dX3_isSo_88 : decode cX3_isSo 88 = .ok (.iconst 1, 1) := by decide +kernel
theorem dX3_isSo_89 : decode cX3_isSo 89 = .ok (.goto 4, 3) := by decide +kernel
theorem dX3_isSo_92 : decode cX3_isSo 92 = .ok (.iconst 0, 1) := by decide +kernel
theorem dX3_isSo_93 : decode cX3_isSo 93 = .ok (.ireturn, 1) := by decide +kernel
theorem dX3_isSo_94 : decode cX3_isSo 94 = .ok (.iload_n 3, 1) := by decide +kernel
theorem dX3_isSo_95 : decode cX3_isSo 95 = .ok (.aload_n 0, 1) := by decide +kernel
theorem dX3_isSo_96 : decode cX3_isSo 96 = .ok (.getfield 46, 3) := by decide +kernel
theorem dX3_isSo_99 : decode cX3_isSo 99 = .ok (.getfield 136, 3) := by decide +kernel
theorem dX3_isSo_102 : decode cX3_isSo 102 = .ok (.iload_n 1, 1) := by decide +kernel
theorem dX3_isSo_103 : decode cX3_isSo 103 = .ok (.iaload, 1) := by decide +kernel
theorem dX3_isSo_104 : decode cX3_isSo 104 = .ok (.if_icmp .ne 7, 3) := by decide +kernel
theorem dX3_isSo_107 : decode cX3_isSo 107 = .ok (.iconst 1, 1) := by decide +kernel
theorem dX3_isSo_108 : decode cX3_isSo 108 = .ok (.goto 4, 3) := by decide +kernel
theorem dX3_isSo_111 : decode cX3_isSo 111 = .ok (.iconst 0, 1) := by decide +kernel
theorem dX3_isSo_112 : decode cX3_isSo 112 = .ok (.ireturn, 1) := by decide +kernel
theorem dX3_isSo_113 : decode cX3_isSo 113 = .ok (.aload_n 0, 1) := by decide +kernel
theorem dX3_isSo_114 : decode cX3_isSo 114 = .ok (.getfield 49, 3) := by decide +kernel
theorem dX3_isSo_117 : decode cX3_isSo 117 = .ok (.iload_n 2, 1) := by decide +kernel
theorem dX3_isSo_118 : decode cX3_isSo 118 = .ok (.invokevirtual 139, 3) := by decide +kernel
theorem dX3_isSo_121 : decode cX3_isSo 121 = .ok (.ireturn, 1) := by decide +kernel
theorem dX3_perform_0 : decode cX3_perform 0 = .ok (.aload_n 0, 1) := by decide +kernel
theorem dX3_perform_1 : decode cX3_perform 1 = .ok (.getfield 46, 3) := by decide +kernel
theorem dX3_perform_4 : decode cX3_perform 4 = .ok (.getfield 130, 3) := by decide +kernel
theorem dX3_perform_7 : decode cX3_perform 7 = .ok (.iload_n 1, 1) := by decide +kernel
theorem dX3_perform_8 : decode cX3_perform 8 = .ok (.iaload, 1) := by decide +kernel
theorem dX3_perform_9 : decode cX3_perform 9 = .ok (.istore_n 2, 1) := by decide +kernel
theorem dX3_perform_10 : decode cX3_perform 10 = .ok (.aload_n 0, 1) := by decide +kernel
theorem dX3_perform_11 : decode cX3_perform 11 = .ok (.getfield 46, 3) := by decide +kernel
theorem dX3_perform_14 : decode cX3_perform 14 = .ok (.getfield 136, 3) := by decide +kernel
theorem dX3_perform_17 : decode cX3_perform 17 = .ok (.iload_n 1, 1) := by decide +kernel
theorem dX3_perform_18 : decode cX3_perform 18 = .ok (.iaload, 1) := by decide +kernel
theorem dX3_perform_19 : decode cX3_perform 19 = .ok (.istore_n 3, 1) := by decide +kernel
theorem dX3_perform_20 : decode cX3_perform 20 = .ok (.aload_n 0, 1) := by decide +kernel
theorem dX3_perform_21 : decode cX3_perform 21 = .ok (.getfield 46, 3) := by decide +kernel
theorem dX3_perform_24 : decode cX3_perform 24 = .ok (.getfield 77, 3) := by decide +kernel
theorem dX3_perform_27 : decode cX3_perform 27 = .ok (.iload_n 1, 1) := by decide +kernel
theorem dX3_perform_28 : decode cX3_perform 28 = .ok (.iaload, 1) := by decide +kernel
theorem dX3_perform_29 : decode cX3_perform 29 = .ok (.tableswitch 213 10 20 #[59, 88, 110, 110, 150, 150, 190, 80, 213, 213, 203], 59) := by decide +kernel
theorem dX3_perform_88 : decode cX3_perform 88 = .ok (.aload_n 0, 1) := by decide +kernel
theorem dX3_perform_89 : decode cX3_perform 89 = .ok (.getfield 49, 3) := by decide +kernel
theorem dX3_perform_92 : decode cX3_perform 92 = .ok (.iload_n 2, 1) := by decide +kernel
theorem dX3_perform_93 : decode cX3_perform 93 = .ok (.aload_n 0, 1) := by decide +kernel
theorem dX3_perform_94 : decode cX3_perform 94 = .ok (.getfield 46, 3) := by decide +kernel
theorem dX3_perform_97 : decode cX3_perform 97 = .ok (.getfield 133, 3) := by decide +kernel
theorem dX3_perform_100 : decode cX3_perform 100 = .ok (.iload_n 1, 1) := by decide +kernel
theorem dX3_perform_101 : decode cX3_perform 101 = .ok (.iaload, 1) := by decide +kernel
theorem dX3_perform_102 : decode cX3_perform 102 = .ok (.iload_n 3, 1) := by decide +kernel
theorem dX3_perform_103 : decode cX3_perform 103 = .ok (.invokevirtual 142, 3) := by decide +kernel
theorem dX3_perform_106 : decode cX3_perform 106 = .ok (.goto 136, 3) := by decide +kernel
theorem dX3_perform_109 : decode cX3_perform 109 = .ok (.aload_n 0, 1) := by decide +kernel
theorem dX3_perform_110 : decode cX3_perform 110 = .ok (.iload_n 3, 1) := by decide +kernel
theorem dX3_perform_111 : decode cX3_perform 111 = .ok (.invokevirtual 146, 3) := by decide +kernel
theorem dX3_perform_114 : decode cX3_perform 114 = .ok (.goto 128, 3) := by decide +kernel
theorem dX3_perform_117 : decode cX3_perform 117 = .ok (.aload_n 0, 1) := by decide +kernel
theorem dX3_perform_118 : decode cX3_perform 118 = .ok (.getfield 49, 3) := by decide +kernel
theorem dX3_perform_121 : decode cX3_perform 121 = .ok (.iload_n 3, 1) := by decide +kernel
theorem dX3_perform_122 : decode cX3_perform 122 = .ok (.invokevirtual 149, 3) := by decide +kernel
theorem dX3_perform_125 : decode cX3_perform 125 = .ok (.pop, 1) := by decide +kernel
theorem dX3_perform_126 : decode cX3_perform 126 = .ok (.aload_n 0, 1) := by decide +kernel
theorem dX3_perform_127 : decode cX3_perform 127 = .ok (.dup, 1) := by decide +kernel
theorem dX3_perform_128 : decode cX3_perform 128 = .ok (.getfield 63, 3) := by decide +kernel
theorem dX3_perform_131 : decode cX3_perform 131 = .ok (.iload_n 3, 1) := by decide +kernel
theorem dX3_perform_132 : decode cX3_perform 132 = .ok (.iadd, 1) := by decide +kernel
theorem dX3_perform_133 : decode cX3_perform 133 = .ok (.putfield 63, 3) := by decide +kernel
theorem dX3_perform_136 : decode cX3_perform 136 = .ok (.goto 106, 3) := by decide +kernel
theorem dX3_perform_139 : decode cX3_perform 139 = .ok (.aload_n 0, 1) := by decide +kernel
theorem dX3_perform_140 : decode cX3_perform 140 = .ok (.getfield 12, 3) := by decide +kernel
theorem dX3_perform_143 : decode cX3_perform 143 = .ok (.aload_n 0, 1) := by decide +kernel
theorem dX3_perform_144 : decode cX3_perform 144 = .ok (.getfield 12, 3) := by decide +kernel
theorem dX3_perform_147 : decode cX3_perform 147 = .ok (.getfield 152, 3) := by decide +kernel
theorem dX3_perform_150 : decode cX3_perform 150 = .ok (.iload_n 2, 1) := by decide +kernel
theorem dX3_perform_151 : decode cX3_perform 151 = .ok (.aload_n 0, 1) := by decide +kernel
theorem dX3_perform_152 : decode cX3_perform 152 = .ok (.getfield 46, 3) := by decide +kernel
theorem dX3_perform_155 : decode cX3_perform 155 = .ok (.getfield 77, 3) := by decide +kernel
theorem dX3_perform_158 : decode cX3_perform 158 = .ok (.iload_n 1, 1) := by decide +kernel
theorem dX3_perform_159 : decode cX3_perform 159 = .ok (.iaload, 1) := by decide +kernel
theorem dX3_perform_160 : decode cX3_perform 160 = .ok (.bipush 12, 2) := by decide +kernel
theorem dX3_perform_162 : decode cX3_perform 162 = .ok (.if_icmp .ne 7, 3) := by decide +kernel
theorem dX3_perform_165 : decode cX3_perform 165 = .ok (.iconst 1, 1) := by decide +kernel
theorem dX3_perform_166 : decode cX3_perform 166 = .ok (.goto 4, 3) := by decide +kernel
theorem dX3_perform_169 : decode cX3_perform 169 = .ok (.iconst 0, 1) := by decide +kernel
theorem dX3_perform_170 : decode cX3_perform 170 = .ok (.invokestatic 155, 3) := by decide +kernel
theorem dX3_perform_173 : decode cX3_perform 173 = .ok (.putfield 152, 3) := by decide +kernel
theorem dX3_perform_176 : decode cX3_perform 176 = .ok (.goto 66, 3) := by decide +kernel
theorem dX3_perform_179 : decode cX3_perform 179 = .ok (.aload_n 0, 1) := by decide +kernel
theorem dX3_perform_180 : decode cX3_perform 180 = .ok (.getfield 12, 3) := by decide +kernel
theorem dX3_perform_183 : decode cX3_perform 183 = .ok (.aload_n 0, 1) := by decide +kernel
theorem dX3_perform_184 : decode cX3_perform 184 = .ok (.getfield 12, 3) := by decide +kernel
theorem dX3_perform_187 : decode cX3_perform 187 = .ok (.getfield 159, 3) := by decide +kernel
theorem dX3_perform_190 : decode cX3_perform 190 = .ok (.iload_n 2, 1) := by decide +kernel
theorem dX3_perform_191 : decode cX3_perform 191 = .ok (.aload_n 0, 1) := by decide +kernel
theorem dX3_perform_192 : decode cX3_perform 192 = .ok (.getfield 46, 3) := by decide +kernel
theorem dX3_perform_195 : decode cX3_perform 195 = .ok (.getfield 77, 3) := by decide +kernel
theorem dX3_perform_198 : decode cX3_perform 198 = .ok (.iload_n 1, 1) := by decide +kernel
theorem dX3_perform_199 : decode cX3_perform 199 = .ok (.iaload, 1) := by decide +kernel
theorem dX3_perform_200 : decode cX3_perform 200 = .ok (.bipush 14, 2) := by decide +kernel
theorem dX3_perform_202 : decode cX3_perform 202 = .ok (.if_icmp .ne 7, 3) := by decide +kernel
theorem dX3_perform_205 : decode cX3_perform 205 = .ok (.iconst 1, 1) := by decide +kernel
theorem dX3_perform_206 : decode cX3_perform 206 = .ok (.goto 4, 3) := by decide +kernel
theorem dX3_perform_209 : decode cX3_perform 209 = .ok (.iconst 0, 1) := by decide +kernel
theorem dX3_perform_210 : decode cX3_perform 210 = .ok (.invokestatic 155, 3) := by decide +kernel
theorem dX3_perform_213 : decode cX3_perform 213 = .ok (.putfield 159, 3) := by decide +kernel
theorem dX3_perform_216 : decode cX3_perform 216 = .ok (.goto 26, 3) := by decide +kernel
theorem dX3_perform_219 : decode cX3_perform 219 = .ok (.aload_n 0, 1) := by decide +kernel
theorem dX3_perform_220 : decode cX3_perform 220 = .ok (.getfield 49, 3) := by decide +kernel
theorem dX3_perform_223 : decode cX3_perform 223 = .ok (.iload_n 2, 1) := by decide +kernel
theorem dX3_perform_224 : decode cX3_perform 224 = .ok (.iload_n 3, 1) := by decide +kernel
theorem dX3_perform_225 : decode cX3_perform 225 = .ok (.invokevirtual 162, 3) := by decide +kernel
theorem dX3_perform_228 : decode cX3_perform 228 = .ok (.pop, 1) := by decide +kernel
theorem dX3_perform_229 : decode cX3_perform 229 = .ok (.goto 13, 3) := by decide +kernel
theorem dX3_perform_232 : decode cX3_perform 232 = .ok (.aload_n 0, 1) := by decide +kernel
theorem dX3_perform_233 : decode cX3_perform 233 = .ok (.getfield 20, 3) := by decide +kernel
theorem dX3_perform_236 : decode cX3_perform 236 = .ok (.iload_n 1, 1) := by decide +kernel
theorem dX3_perform_237 : decode cX3_perform 237 = .ok (.iload_n 3, 1) := by decide +kernel
theorem dX3_perform_238 : decode cX3_perform 238 = .ok (.iastore, 1) := by decide +kernel
theorem dX3_perform_239 : decode cX3_perform 239 = .ok (.goto 3, 3) := by decide +kernel
theorem dX3_perform_242 : decode cX3_perform 242 = .ok (.return_, 1) := by decide +kernel
theorem dX3_drawWinds_0 : decode cX3_drawWinds 0 = .ok (.iconst 0, 1) := by decide +kernel
theorem dX3_drawWinds_1 : decode cX3_drawWinds 1 = .ok (.istore_n 2, 1) := by decide +kernel
theorem dX3_drawWinds_2 : decode cX3_drawWinds 2 = .ok (.iload_n 2, 1) := by decide +kernel
theorem dX3_drawWinds_3 : decode cX3_drawWinds 3 = .ok (.aload_n 0, 1) := by decide +kernel
theorem dX3_drawWinds_4 : decode cX3_drawWinds 4 = .ok (.getfield 41, 3) := by decide +kernel
theorem dX3_drawWinds_7 : decode cX3_drawWinds 7 = .ok (.getfield 166, 3) := by decide +kernel
theorem dX3_drawWinds_10 : decode cX3_drawWinds 10 = .ok (.if_icmp .ge 47, 3) := by decide +kernel
theorem dX3_drawWinds_13 : decode cX3_drawWinds 13 = .ok (.aload_n 0, 1) := by decide +kernel
theorem dX3_drawWinds_14 : decode cX3_drawWinds 14 = .ok (.aload_n 0, 1) := by decide +kernel
theorem dX3_drawWinds_15 : decode cX3_drawWinds 15 = .ok (.getfield 59, 3) := by decide +kernel
theorem dX3_drawWinds_18 : decode cX3_drawWinds 18 = .ok (.sipush 2683, 3) := by decide +kernel
theorem dX3_drawWinds_21 : decode cX3_drawWinds 21 = .ok (.imul, 1) := by decide +kernel
theorem dX3_drawWinds_22 : decode cX3_drawWinds 22 = .ok (.sipush 11587, 3) := by decide +kernel
theorem dX3_drawWinds_25 : decode cX3_drawWinds 25 = .ok (.iadd, 1) := by decide +kernel
theorem dX3_drawWinds_26 : decode cX3_drawWinds 26 = .ok (.ldc 169, 2) := by decide +kernel
theorem dX3_drawWinds_28 : decode cX3_drawWinds 28 = .ok (.irem, 1) := by decide +kernel
theorem dX3_drawWinds_29 : decode cX3_drawWinds 29 = .ok (.putfield 59, 3) := by decide +kernel
theorem dX3_drawWinds_32 : decode cX3_drawWinds 32 = .ok (.aload_n 0, 1) := by decide +kernel
theorem dX3_drawWinds_33 : decode cX3_drawWinds 33 = .ok (.getfield 49, 3) := by decide +kernel
theorem dX3_drawWinds_36 : decode cX3_drawWinds 36 = .ok (.iload_n 2, 1) := by decide +kernel
theorem dX3_drawWinds_37 : decode cX3_drawWinds 37 = .ok (.aload_n 0, 1) := by decide +kernel
theorem dX3_drawWinds_38 : decode cX3_drawWinds 38 = .ok (.getfield 59, 3) := by decide +kernel
theorem dX3_drawWinds_41 : decode cX3_drawWinds 41 = .ok (.bipush 8, 2) := by decide +kernel
theorem dX3_drawWinds_43 : decode cX3_drawWinds 43 = .ok (.idiv, 1) := by decide +kernel
theorem dX3_drawWinds_44 : decode cX3_drawWinds 44 = .ok (.bipush 16, 2) := by decide +kernel
theorem dX3_drawWinds_46 : decode cX3_drawWinds 46 = .ok (.irem, 1) := by decide +kernel
theorem dX3_drawWinds_47 : decode cX3_drawWinds 47 = .ok (.iload_n 1, 1) := by decide +kernel
theorem dX3_drawWinds_48 : decode cX3_drawWinds 48 = .ok (.invokevirtual 142, 3) := by decide +kernel
theorem dX3_drawWinds_51 : decode cX3_drawWinds 51 = .ok (.iinc 2 1, 3) := by decide +kernel
theorem dX3_drawWinds_54 : decode cX3_drawWinds 54 = .ok (.goto (-52), 3) := by decide +kernel
theorem dX3_drawWinds_57 : decode cX3_drawWinds 57 = .ok (.return_, 1) := by decide +kernel
theorem dX4_init_0 : decode cX4_init 0 = .ok (.aload_n 0, 1) := by decide +kernel
theorem dX4_init_1 : decode cX4_init 1 = .ok (.invokespecial 3, 3) := by decide +kernel
theorem dX4_init_4 : decode cX4_init 4 = .ok (.aload_n 0, 1) := by decide +kernel
theorem dX4_init_5 : decode cX4_init 5 = .ok (.iconst 4, 1) := by decide +kernel
theorem dX4_init_6 : decode cX4_init 6 = .ok (.newarray .int, 2) := by decide +kernel
theorem dX4_init_8 : decode cX4_init 8 = .ok (.putfield 9, 3) := by decide +kernel
theorem dX4_init_11 : decode cX4_init 11 = .ok (.aload_n 0, 1) := by decide +kernel
theorem dX4_init_12 : decode cX4_init 12 = .ok (.iconst 4, 1) := by decide +kernel
theorem dX4_init_13 : decode cX4_init 13 = .ok (.newarray .int, 2) := by decide +kernel
theorem dX4_init_15 : decode cX4_init 15 = .ok (.putfield 15, 3) := by decide +kernel
theorem dX4_init_18 : decode cX4_init 18 = .ok (.aload_n 0, 1) := by decide +kernel
theorem dX4_init_19 : decode cX4_init 19 = .ok (.bipush 8, 2) := by decide +kernel
theorem dX4_init_21 : decode cX4_init 21 = .ok (.newarray .int, 2) := by decide +kernel
theorem dX4_init_23 : decode cX4_init 23 = .ok (.putfield 18, 3) := by decide +kernel
theorem dX4_init_26 : decode cX4_init 26 = .ok (.aload_n 0, 1) := by decide +kernel
theorem dX4_init_27 : decode cX4_init 27 = .ok (.bipush 8, 2) := by decide +kernel
theorem dX4_init_29 : decode cX4_init 29 = .ok (.newarray .int, 2) := by decide +kernel
theorem dX4_init_31 : decode cX4_init 31 = .ok (.putfield 21, 3) := by decide +kernel
theorem dX4_init_34 : decode cX4_init 34 = .ok (.aload_n 0, 1) := by decide +kernel
theorem dX4_init_35 : decode cX4_init 35 = .ok (.bipush 8, 2) := by decide +kernel
theorem dX4_init_37 : decode cX4_init 37 = .ok (.newarray .int, 2) := by decide +kernel
theorem dX4_init_39 : decode cX4_init 39 = .ok (.putfield 24, 3) := by decide +kernel
theorem dX4_init_42 : decode cX4_init 42 = .ok (.aload_n 0, 1) := by decide +kernel
theorem dX4_init_43 : decode cX4_init 43 = .ok (.bipush 10, 2) := by decide +kernel
theorem dX4_init_45 : decode cX4_init 45 = .ok (.newarray .int, 2) := by decide +kernel
theorem dX4_init_47 : decode cX4_init 47 = .ok (.putfield 27, 3) := by decide +kernel
theorem dX4_init_50 : decode cX4_init 50 = .ok (.return_, 1) := by decide +kernel
theorem dX4_begin_0 : decode cX4_begin 0 = .ok (.aload_n 0, 1) := by decide +kernel
theorem dX4_begin_1 : decode cX4_begin 1 = .ok (.iconst 0, 1) := by decide +kernel
theorem dX4_begin_2 : decode cX4_begin 2 = .ok (.iconst 0, 1) := by decide +kernel
theorem dX4_begin_3 : decode cX4_begin 3 = .ok (.invokevirtual 30, 3) := by decide +kernel
theorem dX4_begin_6 : decode cX4_begin 6 = .ok (.iconst 0, 1) := by decide +kernel
theorem dX4_begin_7 : decode cX4_begin 7 = .ok (.istore_n 2, 1) := by decide +kernel
theorem dX4_begin_8 : decode cX4_begin 8 = .ok (.iload_n 2, 1) := by decide +kernel
theorem dX4_begin_9 : decode cX4_begin 9 = .ok (.bipush 8, 2) := by decide +kernel
theorem dX4_begin_11 : decode cX4_begin 11 = .ok (.if_icmp .ge 47, 3) := by decide +kernel
theorem dX4_begin_14 : decode cX4_begin 14 = .ok (.aload_n 0, 1) := by decide +kernel
theorem dX4_begin_15 : decode cX4_begin 15 = .ok (.getfield 18, 3) := by decide +kernel
theorem dX4_begin_18 : decode cX4_begin 18 = .ok (.iload_n 2, 1) := by decide +kernel
theorem dX4_begin_19 : decode cX4_begin 19 = .ok (.iload_n 2, 1) := by decide +kernel
theorem dX4_begin_20 : decode cX4_begin 20 = .ok (.aload_n 1, 1) := by decide +kernel
theorem dX4_begin_21 : decode cX4_begin 21 = .ok (.getfield 34, 3) := by decide +kernel
theorem dX4_begin_24 : decode cX4_begin 24 = .ok (.if_icmp .ge 12, 3) := by decide +kernel
theorem dX4_begin_27 : decode cX4_begin 27 = .ok (.aload_n 1, 1) := by decide +kernel
theorem dX4_begin_28 : decode cX4_begin 28 = .ok (.getfield 40, 3) := by decide +kernel
theorem dX4_begin_31 : decode cX4_begin 31 = .ok (.iload_n 2, 1) := by decide +kernel
theorem dX4_begin_32 : decode cX4_begin 32 = .ok (.iaload, 1) := by decide +kernel
theorem dX4_begin_33 : decode cX4_begin 33 = .ok (.goto 4, 3) := by decide +kernel
theorem dX4_begin_36 : decode cX4_begin 36 = .ok (.iconst 0, 1) := by decide +kernel
theorem dX4_begin_37 : decode cX4_begin 37 = .ok (.iastore, 1) := by decide +kernel
theorem dX4_begin_38 : decode cX4_begin 38 = .ok (.aload_n 0, 1) := by decide +kernel
theorem dX4_begin_39 : decode cX4_begin 39 = .ok (.getfield 21, 3) := by decide +kernel
theorem dX4_begin_42 : decode cX4_begin 42 = .ok (.iload_n 2, 1) := by decide +kernel
theorem dX4_begin_43 : decode cX4_begin 43 = .ok (.iconst 0, 1) := by decide +kernel
theorem dX4_begin_44 : decode cX4_begin 44 = .ok (.iastore, 1) := by decide +kernel
theorem dX4_begin_45 : decode cX4_begin 45 = .ok (.aload_n 0, 1) := by decide +kernel
theorem dX4_begin_46 : decode cX4_begin 46 = .ok (.getfield 24, 3) := by decide +kernel
theorem dX4_begin_49 : decode cX4_begin 49 = .ok (.iload_n 2, 1) := by decide +kernel
theorem dX4_begin_50 : decode cX4_begin 50 = .ok (.iconst 0, 1) := by decide +kernel
theorem dX4_begin_51 : decode cX4_begin 51 = .ok (.iastore, 1) := by decide +kernel
theorem dX4_begin_52 : decode cX4_begin 52 = .ok (.iinc 2 1, 3) := by decide +kernel
theorem dX4_begin_55 : decode cX4_begin 55 = .ok (.goto (-47), 3) := by decide +kernel
theorem dX4_begin_58 : decode cX4_begin 58 = .ok (.iconst 0, 1) := by decide +kernel
theorem dX4_begin_59 : decode cX4_begin 59 = .ok (.istore_n 2, 1) := by decide +kernel
theorem dX4_begin_60 : decode cX4_begin 60 = .ok (.iload_n 2, 1) := by decide +kernel
theorem dX4_begin_61 : decode cX4_begin 61 = .ok (.bipush 10, 2) := by decide +kernel
theorem dX4_begin_63 : decode cX4_begin 63 = .ok (.if_icmp .ge 16, 3) := by decide +kernel
theorem dX4_begin_66 : decode cX4_begin 66 = .ok (.aload_n 0, 1) := by decide +kernel
theorem dX4_begin_67 : decode cX4_begin 67 = .ok (.getfield 27, 3) := by decide +kernel
theorem dX4_begin_70 : decode cX4_begin 70 = .ok (.iload_n 2, 1) := by decide +kernel
theorem dX4_begin_71 : decode cX4_begin 71 = .ok (.iconst 0, 1) := by decide +kernel
theorem dX4_begin_72 : decode cX4_begin 72 = .ok (.iastore, 1) := by decide +kernel
theorem dX4_begin_73 : decode cX4_begin 73 = .ok (.iinc 2 1, 3) := by decide +kernel
theorem dX4_begin_76 : decode cX4_begin 76 = .ok (.goto (-16), 3) := by decide +kernel
theorem dX4_begin_79 : decode cX4_begin 79 = .ok (.aload_n 0, 1) := by decide +kernel
theorem dX4_begin_80 : decode cX4_begin 80 = .ok (.iconst 0, 1) := by decide +kernel
theorem dX4_begin_81 : decode cX4_begin 81 = .ok (.putfield 43, 3) := by decide +kernel
theorem dX4_begin_84 : decode cX4_begin 84 = .ok (.aload_n 0, 1) := by decide +kernel
theorem dX4_begin_85 : decode cX4_begin 85 = .ok (.iconst 0, 1) := by decide +kernel
theorem dX4_begin_86 : decode cX4_begin 86 = .ok (.putfield 46, 3) := by decide +kernel
theorem dX4_begin_89 : decode cX4_begin 89 = .ok (.aload_n 0, 1) := by decide +kernel
theorem dX4_begin_90 : decode cX4_begin 90 = .ok (.iconst 0, 1) := by decide +kernel
theorem dX4_begin_91 : decode cX4_begin 91 = .ok (.putfield 49, 3) := by decide +kernel
theorem dX4_begin_94 : decode cX4_begin 94 = .ok (.return_, 1) := by decide +kernel
theorem dX4_blowEverywhere_0 : decode cX4_blowEverywhere 0 = .ok (.iconst 0, 1) := by decide +kernel
theorem dX4_blowEverywhere_1 : decode cX4_blowEverywhere 1 = .ok (.istore_n 3, 1) := by decide +kernel
theorem dX4_blowEverywhere_2 : decode cX4_blowEverywhere 2 = .ok (.iload_n 3, 1) := by decide +kernel
theorem dX4_blowEverywhere_3 : decode cX4_blowEverywhere 3 = .ok (.iconst 4, 1) := by decide +kernel
theorem dX4_blowEverywhere_4 : decode cX4_blowEverywhere 4 = .ok (.if_icmp .ge 23, 3) := by decide +kernel
theorem dX4_blowEverywhere_7 : decode cX4_blowEverywhere 7 = .ok (.aload_n 0, 1) := by decide +kernel
theorem dX4_blowEverywhere_8 : decode cX4_blowEverywhere 8 = .ok (.getfield 9, 3) := by decide +kernel
theorem dX4_blowEverywhere_11 : decode cX4_blowEverywhere 11 = .ok (.iload_n 3, 1) := by decide +kernel
theorem dX4_blowEverywhere_12 : decode cX4_blowEverywhere 12 = .ok (.iload_n 1, 1) := by decide +kernel
theorem dX4_blowEverywhere_13 : decode cX4_blowEverywhere 13 = .ok (.iastore, 1) := by decide +kernel
theorem dX4_blowEverywhere_14 : decode cX4_blowEverywhere 14 = .ok (.aload_n 0, 1) := by decide +kernel
theorem dX4_blowEverywhere_15 : decode cX4_blowEverywhere 15 = .ok (.getfield 15, 3) := by decide +kernel
theorem dX4_blowEverywhere_18 : decode cX4_blowEverywhere 18 = .ok (.iload_n 3, 1) := by decide +kernel
theorem dX4_blowEverywhere_19 : decode cX4_blowEverywhere 19 = .ok (.iload_n 2, 1) := by decide +kernel
theorem dX4_blowEverywhere_20 : decode cX4_blowEverywhere 20 = .ok (.iastore, 1) := by decide +kernel
theorem dX4_blowEverywhere_21 : decode cX4_blowEverywhere 21 = .ok (.iinc 3 1, 3) := by decide +kernel
theorem dX4_blowEverywhere_24 : decode cX4_blowEverywhere 24 = .ok (.goto (-22), 3) := by decide +kernel
theorem dX4_blowEverywhere_27 : decode cX4_blowEverywhere 27 = .ok (.return_, 1) := by decide +kernel
theorem dX4_copyFrom_0 : decode cX4_copyFrom 0 = .ok (.aload_n 1, 1) := by decide +kernel
theorem dX4_copyFrom_1 : decode cX4_copyFrom 1 = .ok (.getfield 9, 3) := by decide +kernel
theorem dX4_copyFrom_4 : decode cX4_copyFrom 4 = .ok (.iconst 0, 1) := by decide +kernel
theorem dX4_copyFrom_5 : decode cX4_copyFrom 5 = .ok (.aload_n 0, 1) := by decide +kernel
theorem dX4_copyFrom_6 : decode cX4_copyFrom 6 = .ok (.getfield 9, 3) := by decide +kernel
theorem dX4_copyFrom_9 : decode cX4_copyFrom 9 = .ok (.iconst 0, 1) := by decide +kernel
theorem dX4_copyFrom_10 : decode cX4_copyFrom 10 = .ok (.iconst 4, 1) := by decide +kernel
theorem dX4_copyFrom_11 : decode cX4_copyFrom 11 = .ok (.invokestatic 52, 3) := by decide +kernel
theorem dX4_copyFrom_14 : decode cX4_copyFrom 14 = .ok (.aload_n 1, 1) := by decide +kernel
theorem dX4_copyFrom_15 : decode cX4_copyFrom 15 = .ok (.getfield 15, 3) := by decide +kernel
theorem dX4_copyFrom_18 : decode cX4_copyFrom 18 = .ok (.iconst 0, 1) := by decide +kernel
theorem dX4_copyFrom_19 : decode cX4_copyFrom 19 = .ok (.aload_n 0, 1) := by decide +kernel
theorem dX4_copyFrom_20 : decode cX4_copyFrom 20 = .ok (.getfield 15, 3) := by decide +kernel
theorem dX4_copyFrom_23 : decode cX4_copyFrom 23 = .ok (.iconst 0, 1) := by decide +kernel
theorem dX4_copyFrom_24 : decode cX4_copyFrom 24 = .ok (.iconst 4, 1) := by decide +kernel
theorem dX4_copyFrom_25 : decode cX4_copyFrom 25 = .ok (.invokestatic 52, 3) := by decide +kernel
theorem dX4_copyFrom_28 : decode cX4_copyFrom 28 = .ok (.aload_n 1, 1) := by decide +kernel
theorem dX4_copyFrom_29 : decode cX4_copyFrom 29 = .ok (.getfield 18, 3) := by decide +kernel
theorem dX4_copyFrom_32 : decode cX4_copyFrom 32 = .ok (.iconst 0, 1) := by decide +kernel
theorem dX4_copyFrom_33 : decode cX4_copyFrom 33 = .ok (.aload_n 0, 1) := by decide +kernel
theorem dX4_copyFrom_34 : decode cX4_copyFrom 34 = .ok (.getfield 18, 3) := by decide +kernel
theorem dX4_copyFrom_37 : decode cX4_copyFrom 37 = .ok (.iconst 0, 1) := by decide +kernel
theorem dX4_copyFrom_38 : decode cX4_copyFrom 38 = .ok (.bipush 8, 2) := by decide +kernel
theorem dX4_copyFrom_40 : decode cX4_copyFrom 40 = .ok (.invokestatic 52, 3) := by decide +kernel
theorem dX4_copyFrom_43 : decode cX4_copyFrom 43 = .ok (.aload_n 1, 1) := by decide +kernel
theorem dX4_copyFrom_44 : decode cX4_copyFrom 44 = .ok (.getfield 21, 3) := by decide +kernel
theorem dX4_copyFrom_47 : decode cX4_copyFrom 47 = .ok (.iconst 0, 1) := by decide +kernel
theorem dX4_copyFrom_48 : decode cX4_copyFrom 48 = .ok (.aload_n 0, 1) := by decide +kernel
theorem dX4_copyFrom_49 : decode cX4_copyFrom 49 = .ok (.getfield 21, 3) := by decide +kernel
theorem dX4_copyFrom_52 : decode cX4_copyFrom 52 = .ok (.iconst 0, 1) := by decide +kernel
theorem dX4_copyFrom_53 : decode cX4_copyFrom 53 = .ok (.bipush 8, 2) := by decide +kernel
theorem dX4_copyFrom_55 : decode cX4_copyFrom 55 = .ok (.invokestatic 52, 3) := by decide +kernel
theorem dX4_copyFrom_58 : decode cX4_copyFrom 58 = .ok (.aload_n 1, 1) := by decide +kernel
theorem dX4_copyFrom_59 : decode cX4_copyFrom 59 = .ok (.getfield 24, 3) := by decide +kernel
theorem dX4_copyFrom_62 : decode cX4_copyFrom 62 = .ok (.iconst 0, 1) := by decide +kernel
theorem dX4_copyFrom_63 : decode cX4_copyFrom 63 = .ok (.aload_n 0, 1) := by decide +kernel
theorem dX4_copyFrom_64 : decode cX4_copyFrom 64 = .ok (.getfield 24, 3) := by decide +kernel
theorem dX4_copyFrom_67 : decode cX4_copyFrom 67 = .ok (.iconst 0, 1) := by decide +kernel
theorem dX4_copyFrom_68 : decode cX4_copyFrom 68 = .ok (.bipush 8, 2) := by decide +kernel
theorem dX4_copyFrom_70 : decode cX4_copyFrom 70 = .ok (.invokestatic 52, 3) := by decide +kernel
theorem dX4_copyFrom_73 : decode cX4_copyFrom 73 = .ok (.aload_n 1, 1) := by decide +kernel
theorem dX4_copyFrom_74 : decode cX4_copyFrom 74 = .ok (.getfield 27, 3) := by decide +kernel
theorem dX4_copyFrom_77 : decode cX4_copyFrom 77 = .ok (.iconst 0, 1) := by decide +kernel
theorem dX4_copyFrom_78 : decode cX4_copyFrom 78 = .ok (.aload_n 0, 1) := by decide +kernel
theorem dX4_copyFrom_79 : decode cX4_copyFrom 79 = .ok (.getfield 27, 3) := by decide +kernel
theorem dX4_copyFrom_82 : decode cX4_copyFrom 82 = .ok (.iconst 0, 1) := by decide +kernel
theorem dX4_copyFrom_83 : decode cX4_copyFrom 83 = .ok (.bipush 10, 2) := by decide +kernel
theorem dX4_copyFrom_85 : decode cX4_copyFrom 85 = .ok (.invokestatic 52, 3) := by decide +kernel
theorem dX4_copyFrom_88 : decode cX4_copyFrom 88 = .ok (.aload_n 0, 1) := by decide +kernel
theorem dX4_copyFrom_89 : decode cX4_copyFrom 89 = .ok (.aload_n 1, 1) := by decide +kernel
theorem dX4_copyFrom_90 : decode cX4_copyFrom 90 = .ok (.getfield 43, 3) := by decide +kernel
theorem dX4_copyFrom_93 : decode cX4_copyFrom 93 = .ok (.putfield 43, 3) := by decide +kernel
theorem dX4_copyFrom_96 : decode cX4_copyFrom 96 = .ok (.aload_n 0, 1) := by decide +kernel
theorem dX4_copyFrom_97 : decode cX4_copyFrom 97 = .ok (.aload_n 1, 1) := by decide +kernel
theorem dX4_copyFrom_98 : decode cX4_copyFrom 98 = .ok (.getfield 46, 3) := by decide +kernel
theorem dX4_copyFrom_101 : decode cX4_copyFrom 101 = .ok (.putfield 46, 3) := by decide +kernel
theorem dX4_copyFrom_104 : decode cX4_copyFrom 104 = .ok (.aload_n 0, 1) := by decide +kernel
theorem dX4_copyFrom_105 : decode cX4_copyFrom 105 = .ok (.aload_n 1, 1) := by decide +kernel
theorem dX4_copyFrom_106 : decode cX4_copyFrom 106 = .ok (.getfield 49, 3) := by decide +kernel
theorem dX4_copyFrom_109 : decode cX4_copyFrom 109 = .ok (.putfield 49, 3) := by decide +kernel
theorem dX4_copyFrom_112 : decode cX4_copyFrom 112 = .ok (.return_, 1) := by decide +kernel
theorem dX5_init_0 : decode cX5_init 0 = .ok (.aload_n 0, 1) := by decide +kernel
theorem dX5_init_1 : decode cX5_init 1 = .ok (.invokespecial 3, 3) := by decide +kernel
theorem dX5_init_4 : decode cX5_init 4 = .ok (.aload_n 0, 1) := by decide +kernel
theorem dX5_init_5 : decode cX5_init 5 = .ok (.bipush 60, 2) := by decide +kernel
theorem dX5_init_7 : decode cX5_init 7 = .ok (.newarray .int, 2) := by decide +kernel
theorem dX5_init_9 : decode cX5_init 9 = .ok (.putfield 9, 3) := by decide +kernel
theorem dX5_init_12 : decode cX5_init 12 = .ok (.aload_n 0, 1) := by decide +kernel
theorem dX5_init_13 : decode cX5_init 13 = .ok (.bipush 60, 2) := by decide +kernel
theorem dX5_init_15 : decode cX5_init 15 = .ok (.newarray .int, 2) := by decide +kernel
theorem dX5_init_17 : decode cX5_init 17 = .ok (.putfield 13, 3) := by decide +kernel
theorem dX5_init_20 : decode cX5_init 20 = .ok (.aload_n 0, 1) := by decide +kernel
theorem dX5_init_21 : decode cX5_init 21 = .ok (.bipush 60, 2) := by decide +kernel
theorem dX5_init_23 : decode cX5_init 23 = .ok (.newarray .int, 2) := by decide +kernel
theorem dX5_init_25 : decode cX5_init 25 = .ok (.putfield 16, 3) := by decide +kernel
theorem dX5_init_28 : decode cX5_init 28 = .ok (.aload_n 0, 1) := by decide +kernel
theorem dX5_init_29 : decode cX5_init 29 = .ok (.bipush 60, 2) := by decide +kernel
theorem dX5_init_31 : decode cX5_init 31 = .ok (.newarray .int, 2) := by decide +kernel
theorem dX5_init_33 : decode cX5_init 33 = .ok (.putfield 19, 3) := by decide +kernel
theorem dX5_init_36 : decode cX5_init 36 = .ok (.aload_n 0, 1) := by decide +kernel
theorem dX5_init_37 : decode cX5_init 37 = .ok (.bipush 60, 2) := by decide +kernel
theorem dX5_init_39 : decode cX5_init 39 = .ok (.newarray .int, 2) := by decide +kernel
theorem dX5_init_41 : decode cX5_init 41 = .ok (.putfield 22, 3) := by decide +kernel
theorem dX5_init_44 : decode cX5_init 44 = .ok (.return_, 1) := by decide +kernel
theorem dX5_clear_0 : decode cX5_clear 0 = .ok (.aload_n 0, 1) := by decide +kernel
theorem dX5_clear_1 : decode cX5_clear 1 = .ok (.iconst 0, 1) := by decide +kernel
theorem dX5_clear_2 : decode cX5_clear 2 = .ok (.putfield 25, 3) := by decide +kernel
theorem dX5_clear_5 : decode cX5_clear 5 = .ok (.aload_n 0, 1) := by decide +kernel
theorem dX5_clear_6 : decode cX5_clear 6 = .ok (.iconst 0, 1) := by decide +kernel
theorem dX5_clear_7 : decode cX5_clear 7 = .ok (.putfield 29, 3) := by decide +kernel
theorem dX5_clear_10 : decode cX5_clear 10 = .ok (.aload_n 0, 1) := by decide +kernel
theorem dX5_clear_11 : decode cX5_clear 11 = .ok (.iconst 0, 1) := by decide +kernel
theorem dX5_clear_12 : decode cX5_clear 12 = .ok (.putfield 33, 3) := by decide +kernel
theorem dX5_clear_15 : decode cX5_clear 15 = .ok (.return_, 1) := by decide +kernel
theorem dX5_copyFrom_0 : decode cX5_copyFrom 0 = .ok (.aload_n 0, 1) := by decide +kernel
theorem dX5_copyFrom_1 : decode cX5_copyFrom 1 = .ok (.aload_n 1, 1) := by decide +kernel
theorem dX5_copyFrom_2 : decode cX5_copyFrom 2 = .ok (.getfield 25, 3) := by decide +kernel
theorem dX5_copyFrom_5 : decode cX5_copyFrom 5 = .ok (.putfield 25, 3) := by decide +kernel
theorem dX5_copyFrom_8 : decode cX5_copyFrom 8 = .ok (.aload_n 0, 1) := by decide +kernel
theorem dX5_copyFrom_9 : decode cX5_copyFrom 9 = .ok (.aload_n 1, 1) := by decide +kernel
theorem dX5_copyFrom_10 : decode cX5_copyFrom 10 = .ok (.getfield 29, 3) := by decide +kernel
theorem dX5_copyFrom_13 : decode cX5_copyFrom 13 = .ok (.putfield 29, 3) := by decide +kernel
theorem dX5_copyFrom_16 : decode cX5_copyFrom 16 = .ok (.aload_n 0, 1) := by decide +kernel
theorem dX5_copyFrom_17 : decode cX5_copyFrom 17 = .ok (.aload_n 1, 1) := by decide +kernel
theorem dX5_copyFrom_18 : decode cX5_copyFrom 18 = .ok (.getfield 33, 3) := by decide +kernel
theorem dX5_copyFrom_21 : decode cX5_copyFrom 21 = .ok (.putfield 33, 3) := by decide +kernel
theorem dX5_copyFrom_24 : decode cX5_copyFrom 24 = .ok (.aload_n 1, 1) := by decide +kernel
theorem dX5_copyFrom_25 : decode cX5_copyFrom 25 = .ok (.getfield 9, 3) := by decide +kernel
theorem dX5_copyFrom_28 : decode cX5_copyFrom 28 = .ok (.iconst 0, 1) := by decide +kernel
theorem dX5_copyFrom_29 : decode cX5_copyFrom 29 = .ok (.aload_n 0, 1) := by decide +kernel
theorem dX5_copyFrom_30 : decode cX5_copyFrom 30 = .ok (.getfield 9, 3) := by decide +kernel
theorem dX5_copyFrom_33 : decode cX5_copyFrom 33 = .ok (.iconst 0, 1) := by decide +kernel
theorem dX5_copyFrom_34 : decode cX5_copyFrom 34 = .ok (.bipush 60, 2) := by decide +kernel
theorem dX5_copyFrom_36 : decode cX5_copyFrom 36 = .ok (.invokestatic 36, 3) := by decide +kernel
theorem dX5_copyFrom_39 : decode cX5_copyFrom 39 = .ok (.aload_n 1, 1) := by decide +kernel
theorem dX5_copyFrom_40 : decode cX5_copyFrom 40 = .ok (.getfield 13, 3) := by decide +kernel
theorem dX5_copyFrom_43 : decode cX5_copyFrom 43 = .ok (.iconst 0, 1) := by decide +kernel
theorem dX5_copyFrom_44 : decode cX5_copyFrom 44 = .ok (.aload_n 0, 1) := by decide +kernel
theorem dX5_copyFrom_45 : decode cX5_copyFrom 45 = .ok (.getfield 13, 3) := by decide +kernel
theorem dX5_copyFrom_48 : decode cX5_copyFrom 48 = .ok (.iconst 0, 1) := by decide +kernel
theorem dX5_copyFrom_49 : decode cX5_copyFrom 49 = .ok (.bipush 60, 2) := by decide +kernel
theorem dX5_copyFrom_51 : decode cX5_copyFrom 51 = .ok (.invokestatic 36, 3) := by decide +kernel
theorem dX5_copyFrom_54 : decode cX5_copyFrom 54 = .ok (.aload_n 1, 1) := by decide +kernel
theorem dX5_copyFrom_55 : decode cX5_copyFrom 55 = .ok (.getfield 16, 3) := by decide +kernel
theorem dX5_copyFrom_58 : decode cX5_copyFrom 58 = .ok (.iconst 0, 1) := by decide +kernel
theorem dX5_copyFrom_59 : decode cX5_copyFrom 59 = .ok (.aload_n 0, 1) := by decide +kernel
theorem dX5_copyFrom_60 : decode cX5_copyFrom 60 = .ok (.getfield 16, 3) := by decide +kernel
theorem dX5_copyFrom_63 : decode cX5_copyFrom 63 = .ok (.iconst 0, 1) := by decide +kernel
theorem dX5_copyFrom_64 : decode cX5_copyFrom 64 = .ok (.bipush 60, 2) := by decide +kernel
theorem dX5_copyFrom_66 : decode cX5_copyFrom 66 = .ok (.invokestatic 36, 3) := by decide +kernel
theorem dX5_copyFrom_69 : decode cX5_copyFrom 69 = .ok (.aload_n 1, 1) := by decide +kernel
theorem dX5_copyFrom_70 : decode cX5_copyFrom 70 = .ok (.getfield 19, 3) := by decide +kernel
theorem dX5_copyFrom_73 : decode cX5_copyFrom 73 = .ok (.iconst 0, 1) := by decide +kernel
theorem dX5_copyFrom_74 : decode cX5_copyFrom 74 = .ok (.aload_n 0, 1) := by decide +kernel
theorem dX5_copyFrom_75 : decode cX5_copyFrom 75 = .ok (.getfield 19, 3) := by decide +kernel
theorem dX5_copyFrom_78 : decode cX5_copyFrom 78 = .ok (.iconst 0, 1) := by decide +kernel
theorem dX5_copyFrom_79 : decode cX5_copyFrom 79 = .ok (.bipush 60, 2) := by decide +kernel
theorem dX5_copyFrom_81 : decode cX5_copyFrom 81 = .ok (.invokestatic 36, 3) := by decide +kernel
theorem dX5_copyFrom_84 : decode cX5_copyFrom 84 = .ok (.aload_n 1, 1) := by decide +kernel
theorem dX5_copyFrom_85 : decode cX5_copyFrom 85 = .ok (.getfield 22, 3) := by decide +kernel
theorem dX5_copyFrom_88 : decode cX5_copyFrom 88 = .ok (.iconst 0, 1) := by decide +kernel
theorem dX5_copyFrom_89 : decode cX5_copyFrom 89 = .ok (.aload_n 0, 1) := by decide +kernel
theorem dX5_copyFrom_90 : decode cX5_copyFrom 90 = .ok (.getfield 22, 3) := by decide +kernel
theorem dX5_copyFrom_93 : decode cX5_copyFrom 93 = .ok (.iconst 0, 1) := by decide +kernel
theorem dX5_copyFrom_94 : decode cX5_copyFrom 94 = .ok (.bipush 60, 2) := by decide +kernel
theorem dX5_copyFrom_96 : decode cX5_copyFrom 96 = .ok (.invokestatic 36, 3) := by decide +kernel
theorem dX5_copyFrom_99 : decode cX5_copyFrom 99 = .ok (.return_, 1) := by decide +kernel
theorem dX6_init_0 : decode cX6_init 0 = .ok (.aload_n 0, 1) := by decide +kernel
theorem dX6_init_1 : decode cX6_init 1 = .ok (.invokespecial 3, 3) := by decide +kernel
theorem dX6_init_4 : decode cX6_init 4 = .ok (.aload_n 0, 1) := by decide +kernel
theorem dX6_init_5 : decode cX6_init 5 = .ok (.sipush 900, 3) := by decide +kernel
theorem dX6_init_8 : decode cX6_init 8 = .ok (.newarray .byte, 2) := by decide +kernel
theorem dX6_init_10 : decode cX6_init 10 = .ok (.putfield 11, 3) := by decide +kernel
theorem dX6_init_13 : decode cX6_init 13 = .ok (.return_, 1) := by decide +kernel
theorem dX6_hasRoomFor_0 : decode cX6_hasRoomFor 0 = .ok (.aload_n 0, 1) := by decide +kernel
theorem dX6_hasRoomFor_1 : decode cX6_hasRoomFor 1 = .ok (.getfield 15, 3) := by decide +kernel
theorem dX6_hasRoomFor_4 : decode cX6_hasRoomFor 4 = .ok (.iload_n 1, 1) := by decide +kernel
theorem dX6_hasRoomFor_5 : decode cX6_hasRoomFor 5 = .ok (.iadd, 1) := by decide +kernel
theorem dX6_hasRoomFor_6 : decode cX6_hasRoomFor 6 = .ok (.sipush 900, 3) := by decide +kernel
theorem dX6_hasRoomFor_9 : decode cX6_hasRoomFor 9 = .ok (.if_icmp .gt 7, 3) := by decide +kernel
theorem dX6_hasRoomFor_12 : decode cX6_hasRoomFor 12 = .ok (.iconst 1, 1) := by decide +kernel
theorem dX6_hasRoomFor_13 : decode cX6_hasRoomFor 13 = .ok (.goto 4, 3) := by decide +kernel
theorem dX6_hasRoomFor_16 : decode cX6_hasRoomFor 16 = .ok (.iconst 0, 1) := by decide +kernel
theorem dX6_hasRoomFor_17 : decode cX6_hasRoomFor 17 = .ok (.ireturn, 1) := by decide +kernel
theorem dX6_append_0 : decode cX6_append 0 = .ok (.bipush 24, 2) := by decide +kernel
theorem dX6_append_2 : decode cX6_append 2 = .ok (.istore_n 2, 1) := by decide +kernel
theorem dX6_append_3 : decode cX6_append 3 = .ok (.iload_n 2, 1) := by decide +kernel
theorem dX6_append_4 : decode cX6_append 4 = .ok (.ifCond .lt 42, 3) := by decide +kernel
theorem dX6_append_7 : decode cX6_append 7 = .ok (.aload_n 0, 1) := by decide +kernel
theorem dX6_append_8 : decode cX6_append 8 = .ok (.getfield 15, 3) := by decide +kernel
theorem dX6_append_11 : decode cX6_append 11 = .ok (.sipush 900, 3) := by decide +kernel
theorem dX6_append_14 : decode cX6_append 14 = .ok (.if_icmp .ge 32, 3) := by decide +kernel
theorem dX6_append_17 : decode cX6_append 17 = .ok (.aload_n 0, 1) := by decide +kernel
theorem dX6_append_18 : decode cX6_append 18 = .ok (.getfield 11, 3) := by decide +kernel
theorem dX6_append_21 : decode cX6_append 21 = .ok (.aload_n 0, 1) := by decide +kernel
theorem dX6_append_22 : decode cX6_append 22 = .ok (.getfield 15, 3) := by decide +kernel
theorem dX6_append_25 : decode cX6_append 25 = .ok (.iload_n 1, 1) := by decide +kernel
theorem dX6_append_26 : decode cX6_append 26 = .ok (.iload_n 2, 1) := by decide +kernel
theorem dX6_append_27 : decode cX6_append 27 = .ok (.ishr, 1) := by decide +kernel
theorem dX6_append_28 : decode cX6_append 28 = .ok (.i2b, 1) := by decide +kernel
theorem dX6_append_29 : decode cX6_append 29 = .ok (.bastore, 1) := by decide +kernel
theorem dX6_append_30 : decode cX6_append 30 = .ok (.aload_n 0, 1) := by decide +kernel
theorem dX6_append_31 : decode cX6_append 31 = .ok (.dup, 1) := by decide +kernel
theorem dX6_append_32 : decode cX6_append 32 = .ok (.getfield 15, 3) := by decide +kernel
theorem dX6_append_35 : decode cX6_append 35 = .ok (.iconst 1, 1) := by decide +kernel
theorem dX6_append_36 : decode cX6_append 36 = .ok (.iadd, 1) := by decide +kernel
theorem dX6_append_37 : decode cX6_append 37 = .ok (.putfield 15, 3) := by decide +kernel
theorem dX6_append_40 : decode cX6_append 40 = .ok (.iinc 2 (-8), 3) := by decide +kernel
theorem dX6_append_43 : decode cX6_append 43 = .ok (.goto (-40), 3) := by decide +kernel
theorem dX6_append_46 : decode cX6_append 46 = .ok (.return_, 1) := by decide +kernel
theorem dX6_open_0 : decode cX6_open 0 = .ok (.aload_n 0, 1) := by decide +kernel
theorem dX6_open_1 : decode cX6_open 1 = .ok (.iload_n 1, 1) := by decide +kernel
theorem dX6_open_2 : decode cX6_open 2 = .ok (.sipush 900, 3) := by decide +kernel
theorem dX6_open_5 : decode cX6_open 5 = .ok (.invokestatic 19, 3) := by decide +kernel
theorem dX6_open_8 : decode cX6_open 8 = .ok (.putfield 25, 3) := by decide +kernel
theorem dX6_open_11 : decode cX6_open 11 = .ok (.aload_n 0, 1) := by decide +kernel
theorem dX6_open_12 : decode cX6_open 12 = .ok (.iconst 0, 1) := by decide +kernel
theorem dX6_open_13 : decode cX6_open 13 = .ok (.putfield 28, 3) := by decide +kernel
theorem dX6_open_16 : decode cX6_open 16 = .ok (.aload_n 0, 1) := by decide +kernel
theorem dX6_open_17 : decode cX6_open 17 = .ok (.iconst 0, 1) := by decide +kernel
theorem dX6_open_18 : decode cX6_open 18 = .ok (.putfield 31, 3) := by decide +kernel
theorem dX6_open_21 : decode cX6_open 21 = .ok (.aload_n 0, 1) := by decide +kernel
theorem dX6_open_22 : decode cX6_open 22 = .ok (.iconst (-1), 1) := by decide +kernel
theorem dX6_open_23 : decode cX6_open 23 = .ok (.putfield 34, 3) := by decide +kernel
theorem dX6_open_26 : decode cX6_open 26 = .ok (.aload_n 0, 1) := by decide +kernel
theorem dX6_open_27 : decode cX6_open 27 = .ok (.invokevirtual 37, 3) := by decide +kernel
theorem dX6_open_30 : decode cX6_open 30 = .ok (.return_, 1) := by decide +kernel
theorem dX6_advance_0 : decode cX6_advance 0 = .ok (.aload_n 0, 1) := by decide +kernel
theorem dX6_advance_1 : decode cX6_advance 1 = .ok (.getfield 28, 3) := by decide +kernel
theorem dX6_advance_4 : decode cX6_advance 4 = .ok (.istore_n 1, 1) := by decide +kernel
theorem dX6_advance_5 : decode cX6_advance 5 = .ok (.iload_n 1, 1) := by decide +kernel
theorem dX6_advance_6 : decode cX6_advance 6 = .ok (.aload_n 0, 1) := by decide +kernel
theorem dX6_advance_7 : decode cX6_advance 7 = .ok (.getfield 25, 3) := by decide +kernel
theorem dX6_advance_10 : decode cX6_advance 10 = .ok (.if_icmp .ge 31, 3) := by decide +kernel
theorem dX6_advance_13 : decode cX6_advance 13 = .ok (.aload_n 0, 1) := by decide +kernel
theorem dX6_advance_14 : decode cX6_advance 14 = .ok (.getfield 11, 3) := by decide +kernel
theorem dX6_advance_17 : decode cX6_advance 17 = .ok (.iload_n 1, 1) := by decide +kernel
theorem dX6_advance_18 : decode cX6_advance 18 = .ok (.baload, 1) := by decide +kernel
theorem dX6_advance_19 : decode cX6_advance 19 = .ok (.bipush 32, 2) := by decide +kernel
theorem dX6_advance_21 : decode cX6_advance 21 = .ok (.if_icmp .eq 14, 3) := by decide +kernel
theorem dX6_advance_24 : decode cX6_advance 24 = .ok (.aload_n 0, 1) := by decide +kernel
theorem dX6_advance_25 : decode cX6_advance 25 = .ok (.getfield 11, 3) := by decide +kernel
theorem dX6_advance_28 : decode cX6_advance 28 = .ok (.iload_n 1, 1) := by decide +kernel
theorem dX6_advance_29 : decode cX6_advance 29 = .ok (.baload, 1) := by decide +kernel
theorem dX6_advance_30 : decode cX6_advance 30 = .ok (.bipush 10, 2) := by decide +kernel
theorem dX6_advance_32 : decode cX6_advance 32 = .ok (.if_icmp .ne 9, 3) := by decide +kernel
theorem dX6_advance_35 : decode cX6_advance 35 = .ok (.iinc 1 1, 3) := by decide +kernel
theorem dX6_advance_38 : decode cX6_advance 38 = .ok (.goto (-33), 3) := by decide +kernel
theorem dX6_advance_41 : decode cX6_advance 41 = .ok (.aload_n 0, 1) := by decide +kernel
theorem dX6_advance_42 : decode cX6_advance 42 = .ok (.iload_n 1, 1) := by decide +kernel
theorem dX6_advance_43 : decode cX6_advance 43 = .ok (.putfield 40, 3) := by decide +kernel
theorem dX6_advance_46 : decode cX6_advance 46 = .ok (.aload_n 0, 1) := by decide +kernel
theorem dX6_advance_47 : decode cX6_advance 47 = .ok (.iconst (-1), 1) := by decide +kernel
theorem dX6_advance_48 : decode cX6_advance 48 = .ok (.putfield 43, 3) := by decide +kernel
theorem dX6_advance_51 : decode cX6_advance 51 = .ok (.iload_n 1, 1) := by decide +kernel
theorem dX6_advance_52 : decode cX6_advance 52 = .ok (.aload_n 0, 1) := by decide +kernel
theorem dX6_advance_53 : decode cX6_advance 53 = .ok (.getfield 25, 3) := by decide +kernel
theorem dX6_advance_56 : decode cX6_advance 56 = .ok (.if_icmp .lt 19, 3) := by decide +kernel
theorem dX6_advance_59 : decode cX6_advance 59 = .ok (.aload_n 0, 1) := by decide +kernel
theorem dX6_advance_60 : decode cX6_advance 60 = .ok (.iconst 0, 1) := by decide +kernel
theorem dX6_advance_61 : decode cX6_advance 61 = .ok (.putfield 46, 3) := by decide +kernel
theorem dX6_advance_64 : decode cX6_advance 64 = .ok (.aload_n 0, 1) := by decide +kernel
theorem dX6_advance_65 : decode cX6_advance 65 = .ok (.aload_n 0, 1) := by decide +kernel
theorem dX6_advance_66 : decode cX6_advance 66 = .ok (.getfield 25, 3) := by decide +kernel
theorem dX6_advance_69 : decode cX6_advance 69 = .ok (.putfield 28, 3) := by decide +kernel
theorem dX6_advance_72 : decode cX6_advance 72 = .ok (.goto 97, 3) := by decide +kernel
theorem dX6_advance_75 : decode cX6_advance 75 = .ok (.aload_n 0, 1) := by decide +kernel
theorem dX6_advance_76 : decode cX6_advance 76 = .ok (.getfield 11, 3) := by decide +kernel
theorem dX6_advance_79 : decode cX6_advance 79 = .ok (.iload_n 1, 1) := by decide +kernel
theorem dX6_advance_80 : decode cX6_advance 80 = .ok (.baload, 1) := by decide +kernel
theorem dX6_advance_81 : decode cX6_advance 81 = .ok (.bipush 97, 2) := by decide +kernel
theorem dX6_advance_83 : decode cX6_advance 83 = .ok (.if_icmp .lt 21, 3) := by decide +kernel
theorem dX6_advance_86 : decode cX6_advance 86 = .ok (.aload_n 0, 1) := by decide +kernel
theorem dX6_advance_87 : decode cX6_advance 87 = .ok (.getfield 11, 3) := by decide +kernel
theorem dX6_advance_90 : decode cX6_advance 90 = .ok (.iload_n 1, 1) := by decide +kernel
theorem dX6_advance_91 : decode cX6_advance 91 = .ok (.baload, 1) := by decide +kernel
theorem dX6_advance_92 : decode cX6_advance 92 = .ok (.bipush 122, 2) := by decide +kernel
theorem dX6_advance_94 : decode cX6_advance 94 = .ok (.if_icmp .gt 10, 3) := by decide +kernel
theorem dX6_advance_97 : decode cX6_advance 97 = .ok (.aload_n 0, 1) := by decide +kernel
theorem dX6_advance_98 : decode cX6_advance 98 = .ok (.invokevirtual 49, 3) := by decide +kernel
theorem dX6_advance_101 : decode cX6_advance 101 = .ok (.goto 68, 3) := by decide +kernel
theorem dX6_advance_104 : decode cX6_advance 104 = .ok (.aload_n 0, 1) := by decide +kernel
theorem dX6_advance_105 : decode cX6_advance 105 = .ok (.getfield 11, 3) := by decide +kernel
theorem dX6_advance_108 : decode cX6_advance 108 = .ok (.iload_n 1, 1) := by decide +kernel
theorem dX6_advance_109 : decode cX6_advance 109 = .ok (.baload, 1) := by decide +kernel
theorem dX6_advance_110 : decode cX6_advance 110 = .ok (.bipush 48, 2) := by decide +kernel
theorem dX6_advance_112 : decode cX6_advance 112 = .ok (.if_icmp .lt 21, 3) := by decide +kernel
theorem dX6_advance_115 : decode cX6_advance 115 = .ok (.aload_n 0, 1) := by decide +kernel
theorem dX6_advance_116 : decode cX6_advance 116 = .ok (.getfield 11, 3) := by decide +kernel
theorem dX6_advance_119 : decode cX6_advance 119 = .ok (.iload_n 1, 1) := by decide +kernel
theorem dX6_advance_120 : decode cX6_advance 120 = .ok (.baload, 1) := by decide +kernel
theorem dX6_advance_121 : decode cX6_advance 121 = .ok (.bipush 57, 2) := by decide +kernel
theorem dX6_advance_123 : decode cX6_advance 123 = .ok (.if_icmp .gt 10, 3) := by decide +kernel
theorem dX6_advance_126 : decode cX6_advance 126 = .ok (.aload_n 0, 1) := by decide +kernel
theorem dX6_advance_127 : decode cX6_advance 127 = .ok (.invokevirtual 52, 3) := by decide +kernel
theorem dX6_advance_130 : decode cX6_advance 130 = .ok (.goto 39, 3) := by decide +kernel
theorem dX6_advance_133 : decode cX6_advance 133 = .ok (.aload_n 0, 1) := by decide +kernel
theorem dX6_advance_134 : decode cX6_advance 134 = .ok (.aload_n 0, 1) := by decide +kernel
theorem dX6_advance_135 : decode cX6_advance 135 = .ok (.getfield 11, 3) := by decide +kernel
theorem dX6_advance_138 : decode cX6_advance 138 = .ok (.iload_n 1, 1) := by decide +kernel
theorem dX6_advance_139 : decode cX6_advance 139 = .ok (.baload, 1) := by decide +kernel
theorem dX6_advance_140 : decode cX6_advance 140 = .ok (.putfield 55, 3) := by decide +kernel
theorem dX6_advance_143 : decode cX6_advance 143 = .ok (.aload_n 0, 1) := by decide +kernel
theorem dX6_advance_144 : decode cX6_advance 144 = .ok (.aload_n 0, 1) := by decide +kernel
theorem dX6_advance_145 : decode cX6_advance 145 = .ok (.getfield 55, 3) := by decide +kernel
theorem dX6_advance_148 : decode cX6_advance 148 = .ok (.invokestatic 58, 3) := by decide +kernel
theorem dX6_advance_151 : decode cX6_advance 151 = .ok (.ifCond .eq 7, 3) := by decide +kernel
theorem dX6_advance_154 : decode cX6_advance 154 = .ok (.iconst 4, 1) := by decide +kernel
theorem dX6_advance_155 : decode cX6_advance 155 = .ok (.goto 4, 3) := by decide +kernel
theorem dX6_advance_158 : decode cX6_advance 158 = .ok (.iconst 1, 1) := by decide +kernel
theorem dX6_advance_159 : decode cX6_advance 159 = .ok (.putfield 46, 3) := by decide +kernel
theorem dX6_advance_162 : decode cX6_advance 162 = .ok (.aload_n 0, 1) := by decide +kernel
theorem dX6_advance_163 : decode cX6_advance 163 = .ok (.iload_n 1, 1) := by decide +kernel
theorem dX6_advance_164 : decode cX6_advance 164 = .ok (.iconst 1, 1) := by decide +kernel
theorem dX6_advance_165 : decode cX6_advance 165 = .ok (.iadd, 1) := by decide +kernel
theorem dX6_advance_166 : decode cX6_advance 166 = .ok (.putfield 28, 3) := by decide +kernel
theorem dX6_advance_169 : decode cX6_advance 169 = .ok (.return_, 1) := by decide +kernel
theorem dX6_scanWord_0 : decode cX6_scanWord 0 = .ok (.aload_n 0, 1) := by decide +kernel
theorem dX6_scanWord_1 : decode cX6_scanWord 1 = .ok (.getfield 40, 3) := by decide +kernel
theorem dX6_scanWord_4 : decode cX6_scanWord 4 = .ok (.istore_n 1, 1) := by decide +kernel
theorem dX6_scanWord_5 : decode cX6_scanWord 5 = .ok (.aload_n 0, 1) := by decide +kernel
theorem dX6_scanWord_6 : decode cX6_scanWord 6 = .ok (.lconst 0, 1) := by decide +kernel
theorem dX6_scanWord_7 : decode cX6_scanWord 7 = .ok (.putfield 62, 3) := by decide +kernel
theorem dX6_scanWord_10 : decode cX6_scanWord 10 = .ok (.iload_n 1, 1) := by decide +kernel
theorem dX6_scanWord_11 : decode cX6_scanWord 11 = .ok (.aload_n 0, 1) := by decide +kernel
theorem dX6_scanWord_12 : decode cX6_scanWord 12 = .ok (.getfield 25, 3) := by decide +kernel
theorem dX6_scanWord_15 : decode cX6_scanWord 15 = .ok (.if_icmp .ge 50, 3) := by decide +kernel
theorem dX6_scanWord_18 : decode cX6_scanWord 18 = .ok (.aload_n 0, 1) := by decide +kernel
theorem dX6_scanWord_19 : decode cX6_scanWord 19 = .ok (.getfield 11, 3) := by decide +kernel
theorem dX6_scanWord_22 : decode cX6_scanWord 22 = .ok (.iload_n 1, 1) := by decide +kernel
theorem dX6_scanWord_23 : decode cX6_scanWord 23 = .ok (.baload, 1) := by decide +kernel
theorem dX6_scanWord_24 : decode cX6_scanWord 24 = .ok (.bipush 97, 2) := by decide +kernel
theorem dX6_scanWord_26 : decode cX6_scanWord 26 = .ok (.if_icmp .lt 39, 3) := by decide +kernel
theorem dX6_scanWord_29 : decode cX6_scanWord 29 = .ok (.aload_n 0, 1) := by decide +kernel
theorem dX6_scanWord_30 : decode cX6_scanWord 30 = .ok (.getfield 11, 3) := by decide +kernel
theorem dX6_scanWord_33 : decode cX6_scanWord 33 = .ok (.iload_n 1, 1) := by decide +kernel
theorem dX6_scanWord_34 : decode cX6_scanWord 34 = .ok (.baload, 1) := by decide +kernel
theorem dX6_scanWord_35 : decode cX6_scanWord 35 = .ok (.bipush 122, 2) := by decide +kernel
theorem dX6_scanWord_37 : decode cX6_scanWord 37 = .ok (.if_icmp .gt 28, 3) := by decide +kernel
theorem dX6_scanWord_40 : decode cX6_scanWord 40 = .ok (.aload_n 0, 1) := by decide +kernel
theorem dX6_scanWord_41 : decode cX6_scanWord 41 = .ok (.aload_n 0, 1) := by decide +kernel
theorem dX6_scanWord_42 : decode cX6_scanWord 42 = .ok (.getfield 62, 3) := by decide +kernel
theorem dX6_scanWord_45 : decode cX6_scanWord 45 = .ok (.bipush 8, 2) := by decide +kernel
theorem dX6_scanWord_47 : decode cX6_scanWord 47 = .ok (.lshl, 1) := by decide +kernel
theorem dX6_scanWord_48 : decode cX6_scanWord 48 = .ok (.aload_n 0, 1) := by decide +kernel
theorem dX6_scanWord_49 : decode cX6_scanWord 49 = .ok (.getfield 11, 3) := by decide +kernel
theorem dX6_scanWord_52 : decode cX6_scanWord 52 = .ok (.iload_n 1, 1) := by decide +kernel
theorem dX6_scanWord_53 : decode cX6_scanWord 53 = .ok (.baload, 1) := by decide +kernel
theorem dX6_scanWord_54 : decode cX6_scanWord 54 = .ok (.i2l, 1) := by decide +kernel
theorem dX6_scanWord_55 : decode cX6_scanWord 55 = .ok (.lor, 1) := by decide +kernel
theorem dX6_scanWord_56 : decode cX6_scanWord 56 = .ok (.putfield 62, 3) := by decide +kernel
theorem dX6_scanWord_59 : decode cX6_scanWord 59 = .ok (.iinc 1 1, 3) := by decide +kernel
theorem dX6_scanWord_62 : decode cX6_scanWord 62 = .ok (.goto (-52), 3) := by decide +kernel
theorem dX6_scanWord_65 : decode cX6_scanWord 65 = .ok (.aload_n 0, 1) := by decide +kernel
theorem dX6_scanWord_66 : decode cX6_scanWord 66 = .ok (.iload_n 1, 1) := by decide +kernel
theorem dX6_scanWord_67 : decode cX6_scanWord 67 = .ok (.putfield 28, 3) := by decide +kernel
theorem dX6_scanWord_70 : decode cX6_scanWord 70 = .ok (.aload_n 0, 1) := by decide +kernel
theorem dX6_scanWord_71 : decode cX6_scanWord 71 = .ok (.iconst 2, 1) := by decide +kernel
theorem dX6_scanWord_72 : decode cX6_scanWord 72 = .ok (.putfield 46, 3) := by decide +kernel
theorem dX6_scanWord_75 : decode cX6_scanWord 75 = .ok (.aload_n 0, 1) := by decide +kernel
theorem dX6_scanWord_76 : decode cX6_scanWord 76 = .ok (.getfield 28, 3) := by decide +kernel
theorem dX6_scanWord_79 : decode cX6_scanWord 79 = .ok (.aload_n 0, 1) := by decide +kernel
theorem dX6_scanWord_80 : decode cX6_scanWord 80 = .ok (.getfield 40, 3) := by decide +kernel
theorem dX6_scanWord_83 : decode cX6_scanWord 83 = .ok (.isub, 1) := by decide +kernel
theorem dX6_scanWord_84 : decode cX6_scanWord 84 = .ok (.bipush 8, 2) := by decide +kernel
theorem dX6_scanWord_86 : decode cX6_scanWord 86 = .ok (.if_icmp .le 8, 3) := by decide +kernel
theorem dX6_scanWord_89 : decode cX6_scanWord 89 = .ok (.aload_n 0, 1) := by decide +kernel
theorem dX6_scanWord_90 : decode cX6_scanWord 90 = .ok (.lconst 0, 1) := by decide +kernel
theorem dX6_scanWord_91 : decode cX6_scanWord 91 = .ok (.putfield 62, 3) := by decide +kernel
theorem dX6_scanWord_94 : decode cX6_scanWord 94 = .ok (.iconst 0, 1) := by decide +kernel
theorem dX6_scanWord_95 : decode cX6_scanWord 95 = .ok (.istore_n 2, 1) := by decide +kernel
theorem dX6_scanWord_96 : decode cX6_scanWord 96 = .ok (.iload_n 2, 1) := by decide +kernel
theorem dX6_scanWord_97 : decode cX6_scanWord 97 = .ok (.getstatic 66, 3) := by decide +kernel
theorem dX6_scanWord_100 : decode cX6_scanWord 100 = .ok (.arraylength, 1) := by decide +kernel
theorem dX6_scanWord_101 : decode cX6_scanWord 101 = .ok (.if_icmp .ge 27, 3) := by decide +kernel
theorem dX6_scanWord_104 : decode cX6_scanWord 104 = .ok (.getstatic 66, 3) := by decide +kernel
theorem dX6_scanWord_107 : decode cX6_scanWord 107 = .ok (.iload_n 2, 1) := by decide +kernel
theorem dX6_scanWord_108 : decode cX6_scanWord 108 = .ok (.laload, 1) := by decide +kernel
theorem dX6_scanWord_109 : decode cX6_scanWord 109 = .ok (.aload_n 0, 1) := by decide +kernel
theorem dX6_scanWord_110 : decode cX6_scanWord 110 = .ok (.getfield 62, 3) := by decide +kernel
theorem dX6_scanWord_113 : decode cX6_scanWord 113 = .ok (.lcmp, 1) := by decide +kernel
theorem dX6_scanWord_114 : decode cX6_scanWord 114 = .ok (.ifCond .ne 8, 3) := by decide +kernel
theorem dX6_scanWord_117 : decode cX6_scanWord 117 = .ok (.aload_n 0, 1) := by decide +kernel
theorem dX6_scanWord_118 : decode cX6_scanWord 118 = .ok (.iload_n 2, 1) := by decide +kernel
theorem dX6_scanWord_119 : decode cX6_scanWord 119 = .ok (.putfield 43, 3) := by decide +kernel
theorem dX6_scanWord_122 : decode cX6_scanWord 122 = .ok (.iinc 2 1, 3) := by decide +kernel
theorem dX6_scanWord_125 : decode cX6_scanWord 125 = .ok (.goto (-29), 3) := by decide +kernel
theorem dX6_scanWord_128 : decode cX6_scanWord 128 = .ok (.return_, 1) := by decide +kernel
theorem dX6_scanNumber_0 : decode cX6_scanNumber 0 = .ok (.aload_n 0, 1) := by decide +kernel
theorem dX6_scanNumber_1 : decode cX6_scanNumber 1 = .ok (.getfield 40, 3) := by decide +kernel
theorem dX6_scanNumber_4 : decode cX6_scanNumber 4 = .ok (.istore_n 1, 1) := by decide +kernel
theorem dX6_scanNumber_5 : decode cX6_scanNumber 5 = .ok (.aload_n 0, 1) := by decide +kernel
theorem dX6_scanNumber_6 : decode cX6_scanNumber 6 = .ok (.iconst 0, 1) := by decide +kernel
theorem dX6_scanNumber_7 : decode cX6_scanNumber 7 = .ok (.putfield 70, 3) := by decide +kernel
theorem dX6_scanNumber_10 : decode cX6_scanNumber 10 = .ok (.iload_n 1, 1) := by decide +kernel
theorem dX6_scanNumber_11 : decode cX6_scanNumber 11 = .ok (.aload_n 0, 1) := by decide +kernel
theorem dX6_scanNumber_12 : decode cX6_scanNumber 12 = .ok (.getfield 25, 3) := by decide +kernel
theorem dX6_scanNumber_15 : decode cX6_scanNumber 15 = .ok (.if_icmp .ge 52, 3) := by decide +kernel
theorem dX6_scanNumber_18 : decode cX6_scanNumber 18 = .ok (.aload_n 0, 1) := by decide +kernel
theorem dX6_scanNumber_19 : decode cX6_scanNumber 19 = .ok (.getfield 11, 3) := by decide +kernel
theorem dX6_scanNumber_22 : decode cX6_scanNumber 22 = .ok (.iload_n 1, 1) := by decide +kernel
theorem dX6_scanNumber_23 : decode cX6_scanNumber 23 = .ok (.baload, 1) := by decide +kernel
theorem dX6_scanNumber_24 : decode cX6_scanNumber 24 = .ok (.bipush 48, 2) := by decide +kernel
theorem dX6_scanNumber_26 : decode cX6_scanNumber 26 = .ok (.if_icmp .lt 41, 3) := by decide +kernel
theorem dX6_scanNumber_29 : decode cX6_scanNumber 29 = .ok (.aload_n 0, 1) := by decide +kernel
theorem dX6_scanNumber_30 : decode cX6_scanNumber 30 = .ok (.getfield 11, 3) := by decide +kernel
theorem dX6_scanNumber_33 : decode cX6_scanNumber 33 = .ok (.iload_n 1, 1) := by decide +kernel
theorem dX6_scanNumber_34 : decode cX6_scanNumber 34 = .ok (.baload, 1) := by decide +kernel
theorem dX6_scanNumber_35 : decode cX6_scanNumber 35 = .ok (.bipush 57, 2) := by decide +kernel
theorem dX6_scanNumber_37 : decode cX6_scanNumber 37 = .ok (.if_icmp .gt 30, 3) := by decide +kernel
theorem dX6_scanNumber_40 : decode cX6_scanNumber 40 = .ok (.aload_n 0, 1) := by decide +kernel
theorem dX6_scanNumber_41 : decode cX6_scanNumber 41 = .ok (.aload_n 0, 1) := by decide +kernel
theorem dX6_scanNumber_42 : decode cX6_scanNumber 42 = .ok (.getfield 70, 3) := by decide +kernel
theorem dX6_scanNumber_45 : decode cX6_scanNumber 45 = .ok (.bipush 10, 2) := by decide +kernel
theorem dX6_scanNumber_47 : decode cX6_scanNumber 47 = .ok (.imul, 1) := by decide +kernel
theorem dX6_scanNumber_48 : decode cX6_scanNumber 48 = .ok (.aload_n 0, 1) := by decide +kernel
theorem dX6_scanNumber_49 : decode cX6_scanNumber 49 = .ok (.getfield 11, 3) := by decide +kernel
theorem dX6_scanNumber_52 : decode cX6_scanNumber 52 = .ok (.iload_n 1, 1) := by decide +kernel
theorem dX6_scanNumber_53 : decode cX6_scanNumber 53 = .ok (.baload, 1) := by decide +kernel
theorem dX6_scanNumber_54 : decode cX6_scanNumber 54 = .ok (.iadd, 1) := by decide +kernel
theorem dX6_scanNumber_55 : decode cX6_scanNumber 55 = .ok (.bipush 48, 2) := by decide +kernel
theorem dX6_scanNumber_57 : decode cX6_scanNumber 57 = .ok (.isub, 1) := by decide +kernel
theorem dX6_scanNumber_58 : decode cX6_scanNumber 58 = .ok (.putfield 70, 3) := by decide +kernel
theorem dX6_scanNumber_61 : decode cX6_scanNumber 61 = .ok (.iinc 1 1, 3) := by decide +kernel
theorem dX6_scanNumber_64 : decode cX6_scanNumber 64 = .ok (.goto (-54), 3) := by decide +kernel
theorem dX6_scanNumber_67 : decode cX6_scanNumber 67 = .ok (.aload_n 0, 1) := by decide +kernel
theorem dX6_scanNumber_68 : decode cX6_scanNumber 68 = .ok (.iload_n 1, 1) := by decide +kernel
theorem dX6_scanNumber_69 : decode cX6_scanNumber 69 = .ok (.putfield 28, 3) := by decide +kernel
theorem dX6_scanNumber_72 : decode cX6_scanNumber 72 = .ok (.aload_n 0, 1) := by decide +kernel
theorem dX6_scanNumber_73 : decode cX6_scanNumber 73 = .ok (.aload_n 0, 1) := by decide +kernel
theorem dX6_scanNumber_74 : decode cX6_scanNumber 74 = .ok (.getfield 28, 3) := by decide +kernel
theorem dX6_scanNumber_77 : decode cX6_scanNumber 77 = .ok (.aload_n 0, 1) := by decide +kernel
theorem dX6_scanNumber_78 : decode cX6_scanNumber 78 = .ok (.getfield 40, 3) := by decide +kernel
theorem dX6_scanNumber_81 : decode cX6_scanNumber 81 = .ok (.isub, 1) := by decide +kernel
theorem dX6_scanNumber_82 : decode cX6_scanNumber 82 = .ok (.iconst 4, 1) := by decide +kernel
theorem dX6_scanNumber_83 : decode cX6_scanNumber 83 = .ok (.if_icmp .le 7, 3) := by decide +kernel
theorem dX6_scanNumber_86 : decode cX6_scanNumber 86 = .ok (.iconst 1, 1) := by decide +kernel
theorem dX6_scanNumber_87 : decode cX6_scanNumber 87 = .ok (.goto 4, 3) := by decide +kernel
theorem dX6_scanNumber_90 : decode cX6_scanNumber 90 = .ok (.iconst 3, 1) := by decide +kernel
theorem dX6_scanNumber_91 : decode cX6_scanNumber 91 = .ok (.putfield 46, 3) := by decide +kernel
theorem dX6_scanNumber_94 : decode cX6_scanNumber 94 = .ok (.return_, 1) := by decide +kernel
theorem dX6_isSign_0 : decode cX6_isSign 0 = .ok (.iload_n 0, 1) := by decide +kernel
theorem dX6_isSign_1 : decode cX6_isSign 1 = .ok (.bipush 59, 2) := by decide +kernel
theorem dX6_isSign_3 : decode cX6_isSign 3 = .ok (.if_icmp .eq 21, 3) := by decide +kernel
theorem dX6_isSign_6 : decode cX6_isSign 6 = .ok (.iload_n 0, 1) := by decide +kernel
theorem dX6_isSign_7 : decode cX6_isSign 7 = .ok (.bipush 60, 2) := by decide +kernel
theorem dX6_isSign_9 : decode cX6_isSign 9 = .ok (.if_icmp .eq 15, 3) := by decide +kernel
theorem dX6_isSign_12 : decode cX6_isSign 12 = .ok (.iload_n 0, 1) := by decide +kernel
theorem dX6_isSign_13 : decode cX6_isSign 13 = .ok (.bipush 62, 2) := by decide +kernel
theorem dX6_isSign_15 : decode cX6_isSign 15 = .ok (.if_icmp .eq 9, 3) := by decide +kernel
theorem dX6_isSign_18 : decode cX6_isSign 18 = .ok (.iload_n 0, 1) := by decide +kernel
theorem dX6_isSign_19 : decode cX6_isSign 19 = .ok (.bipush 61, 2) := by decide +kernel
theorem dX6_isSign_21 : decode cX6_isSign 21 = .ok (.if_icmp .ne 7, 3) := by decide +kernel
theorem dX6_isSign_24 : decode cX6_isSign 24 = .ok (.iconst 1, 1) := by decide +kernel
theorem dX6_isSign_25 : decode cX6_isSign 25 = .ok (.goto 4, 3) := by decide +kernel
theorem dX6_isSign_28 : decode cX6_isSign 28 = .ok (.iconst 0, 1) := by decide +kernel
theorem dX6_isSign_29 : decode cX6_isSign 29 = .ok (.ireturn, 1) := by decide +kernel
theorem dX6_refuse_0 : decode cX6_refuse 0 = .ok (.aload_n 0, 1) := by decide +kernel
theorem dX6_refuse_1 : decode cX6_refuse 1 = .ok (.iload_n 1, 1) := by decide +kernel
theorem dX6_refuse_2 : decode cX6_refuse 2 = .ok (.putfield 31, 3) := by decide +kernel
theorem dX6_refuse_5 : decode cX6_refuse 5 = .ok (.aload_n 0, 1) := by decide +kernel
theorem dX6_refuse_6 : decode cX6_refuse 6 = .ok (.aload_n 0, 1) := by decide +kernel
theorem dX6_refuse_7 : decode cX6_refuse 7 = .ok (.getfield 40, 3) := by decide +kernel
theorem dX6_refuse_10 : decode cX6_refuse 10 = .ok (.putfield 34, 3) := by decide +kernel
theorem dX6_refuse_13 : decode cX6_refuse 13 = .ok (.iconst 0, 1) := by decide +kernel
theorem dX6_refuse_14 : decode cX6_refuse 14 = .ok (.ireturn, 1) := by decide +kernel
theorem dX6_refuseToken_0 : decode cX6_refuseToken 0 = .ok (.aload_n 0, 1) := by decide +kernel
theorem dX6_refuseToken_1 : decode cX6_refuseToken 1 = .ok (.aload_n 0, 1) := by decide +kernel
theorem dX6_refuseToken_2 : decode cX6_refuseToken 2 = .ok (.getfield 46, 3) := by decide +kernel
theorem dX6_refuseToken_5 : decode cX6_refuseToken 5 = .ok (.iconst 1, 1) := by decide +kernel
theorem dX6_refuseToken_6 : decode cX6_refuseToken 6 = .ok (.if_icmp .ne 7, 3) := by decide +kernel
theorem dX6_refuseToken_9 : decode cX6_refuseToken 9 = .ok (.iconst 1, 1) := by decide +kernel
theorem dX6_refuseToken_10 : decode cX6_refuseToken 10 = .ok (.goto 4, 3) := by decide +kernel
theorem dX6_refuseToken_13 : decode cX6_refuseToken 13 = .ok (.iconst 2, 1) := by decide +kernel
theorem dX6_refuseToken_14 : decode cX6_refuseToken 14 = .ok (.invokevirtual 73, 3) := by decide +kernel
theorem dX6_refuseToken_17 : decode cX6_refuseToken 17 = .ok (.ireturn, 1) := by decide +kernel
theorem dX6_takeSemicolon_0 : decode cX6_takeSemicolon 0 = .ok (.aload_n 0, 1) := by decide +kernel
theorem dX6_takeSemicolon_1 : decode cX6_takeSemicolon 1 = .ok (.getfield 46, 3) := by decide +kernel
theorem dX6_takeSemicolon_4 : decode cX6_takeSemicolon 4 = .ok (.iconst 4, 1) := by decide +kernel
theorem dX6_takeSemicolon_5 : decode cX6_takeSemicolon 5 = .ok (.if_icmp .ne 12, 3) := by decide +kernel
theorem dX6_takeSemicolon_8 : decode cX6_takeSemicolon 8 = .ok (.aload_n 0, 1) := by decide +kernel
theorem dX6_takeSemicolon_9 : decode cX6_takeSemicolon 9 = .ok (.getfield 55, 3) := by decide +kernel
theorem dX6_takeSemicolon_12 : decode cX6_takeSemicolon 12 = .ok (.bipush 59, 2) := by decide +kernel
theorem dX6_takeSemicolon_14 : decode cX6_takeSemicolon 14 = .ok (.if_icmp .eq 8, 3) := by decide +kernel
theorem dX6_takeSemicolon_17 : decode cX6_takeSemicolon 17 = .ok (.aload_n 0, 1) := by decide +kernel
theorem dX6_takeSemicolon_18 : decode cX6_takeSemicolon 18 = .ok (.invokevirtual 76, 3) := by decide +kernel
theorem dX6_takeSemicolon_21 : decode cX6_takeSemicolon 21 = .ok (.ireturn, 1) := by decide +kernel
theorem dX6_takeSemicolon_22 : decode cX6_takeSemicolon 22 = .ok (.aload_n 0, 1) := by decide +kernel
theorem dX6_takeSemicolon_23 : decode cX6_takeSemicolon 23 = .ok (.invokevirtual 37, 3) := by decide +kernel
theorem dX6_takeSemicolon_26 : decode cX6_takeSemicolon 26 = .ok (.iconst 1, 1) := by decide +kernel
theorem dX6_takeSemicolon_27 : decode cX6_takeSemicolon 27 = .ok (.ireturn, 1) := by decide +kernel
theorem dX6_takeCompare_0 : decode cX6_takeCompare 0 = .ok (.aload_n 0, 1) := by decide +kernel
theorem dX6_takeCompare_1 : decode cX6_takeCompare 1 = .ok (.getfield 46, 3) := by decide +kernel
theorem dX6_takeCompare_4 : decode cX6_takeCompare 4 = .ok (.iconst 4, 1) := by decide +kernel
theorem dX6_takeCompare_5 : decode cX6_takeCompare 5 = .ok (.if_icmp .ne 12, 3) := by decide +kernel
theorem dX6_takeCompare_8 : decode cX6_takeCompare 8 = .ok (.aload_n 0, 1) := by decide +kernel
theorem dX6_takeCompare_9 : decode cX6_takeCompare 9 = .ok (.getfield 55, 3) := by decide +kernel
theorem dX6_takeCompare_12 : decode cX6_takeCompare 12 = .ok (.bipush 59, 2) := by decide +kernel
theorem dX6_takeCompare_14 : decode cX6_takeCompare 14 = .ok (.if_icmp .ne 8, 3) := by decide +kernel
theorem dX6_takeCompare_17 : decode cX6_takeCompare 17 = .ok (.aload_n 0, 1) := by decide +kernel
theorem dX6_takeCompare_18 : decode cX6_takeCompare 18 = .ok (.invokevirtual 76, 3) := by decide +kernel
theorem dX6_takeCompare_21 : decode cX6_takeCompare 21 = .ok (.ireturn, 1) := by decide +kernel
theorem dX6_takeCompare_22 : decode cX6_takeCompare 22 = .ok (.aload_n 0, 1) := by decide +kernel
theorem dX6_takeCompare_23 : decode cX6_takeCompare 23 = .ok (.aload_n 0, 1) := by decide +kernel
theorem dX6_takeCompare_24 : decode cX6_takeCompare 24 = .ok (.getfield 55, 3) := by decide +kernel
theorem dX6_takeCompare_27 : decode cX6_takeCompare 27 = .ok (.putfield 80, 3) := by decide +kernel
theorem dX6_takeCompare_30 : decode cX6_takeCompare 30 = .ok (.aload_n 0, 1) := by decide +kernel
theorem dX6_takeCompare_31 : decode cX6_takeCompare 31 = .ok (.invokevirtual 37, 3) := by decide +kernel
theorem dX6_takeCompare_34 : decode cX6_takeCompare 34 = .ok (.iconst 1, 1) := by decide +kernel
theorem dX6_takeCompare_35 : decode cX6_takeCompare 35 = .ok (.ireturn, 1) := by decide +kernel
theorem dX6_takeKeyword_0 : decode cX6_takeKeyword 0 = .ok (.aload_n 0, 1) := by decide +kernel
theorem dX6_takeKeyword_1 : decode cX6_takeKeyword 1 = .ok (.getfield 43, 3) := by decide +kernel
theorem dX6_takeKeyword_4 : decode cX6_takeKeyword 4 = .ok (.iload_n 1, 1) := by decide +kernel
theorem dX6_takeKeyword_5 : decode cX6_takeKeyword 5 = .ok (.if_icmp .eq 8, 3) := by decide +kernel
theorem dX6_takeKeyword_8 : decode cX6_takeKeyword 8 = .ok (.aload_n 0, 1) := by decide +kernel
theorem dX6_takeKeyword_9 : decode cX6_takeKeyword 9 = .ok (.invokevirtual 76, 3) := by decide +kernel
theorem dX6_takeKeyword_12 : decode cX6_takeKeyword 12 = .ok (.ireturn, 1) := by decide +kernel
theorem dX6_takeKeyword_13 : decode cX6_takeKeyword 13 = .ok (.aload_n 0, 1) := by decide +kernel
theorem dX6_takeKeyword_14 : decode cX6_takeKeyword 14 = .ok (.invokevirtual 37, 3) := by decide +kernel
theorem dX6_takeKeyword_17 : decode cX6_takeKeyword 17 = .ok (.iconst 1, 1) := by decide +kernel
theorem dX6_takeKeyword_18 : decode cX6_takeKeyword 18 = .ok (.ireturn, 1) := by decide +kernel
theorem dX6_takeNumber_0 : decode cX6_takeNumber 0 = .ok (.aload_n 0, 1) := by decide +kernel
theorem dX6_takeNumber_1 : decode cX6_takeNumber 1 = .ok (.getfield 46, 3) := by decide +kernel
theorem dX6_takeNumber_4 : decode cX6_takeNumber 4 = .ok (.iconst 3, 1) := by decide +kernel
theorem dX6_takeNumber_5 : decode cX6_takeNumber 5 = .ok (.if_icmp .eq 8, 3) := by decide +kernel
theorem dX6_takeNumber_8 : decode cX6_takeNumber 8 = .ok (.aload_n 0, 1) := by decide +kernel
theorem dX6_takeNumber_9 : decode cX6_takeNumber 9 = .ok (.invokevirtual 76, 3) := by decide +kernel
theorem dX6_takeNumber_12 : decode cX6_takeNumber 12 = .ok (.ireturn, 1) := by decide +kernel
theorem dX6_takeNumber_13 : decode cX6_takeNumber 13 = .ok (.aload_n 0, 1) := by decide +kernel
theorem dX6_takeNumber_14 : decode cX6_takeNumber 14 = .ok (.getfield 70, 3) := by decide +kernel
theorem dX6_takeNumber_17 : decode cX6_takeNumber 17 = .ok (.iload_n 1, 1) := by decide +kernel
theorem dX6_takeNumber_18 : decode cX6_takeNumber 18 = .ok (.if_icmp .lt 11, 3) := by decide +kernel
theorem dX6_takeNumber_21 : decode cX6_takeNumber 21 = .ok (.aload_n 0, 1) := by decide +kernel
theorem dX6_takeNumber_22 : decode cX6_takeNumber 22 = .ok (.getfield 70, 3) := by decide +kernel
theorem dX6_takeNumber_25 : decode cX6_takeNumber 25 = .ok (.iload_n 2, 1) := by decide +kernel
theorem dX6_takeNumber_26 : decode cX6_takeNumber 26 = .ok (.if_icmp .le 9, 3) := by decide +kernel
theorem dX6_takeNumber_29 : decode cX6_takeNumber 29 = .ok (.aload_n 0, 1) := by decide +kernel
theorem dX6_takeNumber_30 : decode cX6_takeNumber 30 = .ok (.iconst 4, 1) := by decide +kernel
theorem dX6_takeNumber_31 : decode cX6_takeNumber 31 = .ok (.invokevirtual 73, 3) := by decide +kernel
theorem dX6_takeNumber_34 : decode cX6_takeNumber 34 = .ok (.ireturn, 1) := by decide +kernel
theorem dX6_takeNumber_35 : decode cX6_takeNumber 35 = .ok (.aload_n 0, 1) := by decide +kernel
theorem dX6_takeNumber_36 : decode cX6_takeNumber 36 = .ok (.aload_n 0, 1) := by decide +kernel
theorem dX6_takeNumber_37 : decode cX6_takeNumber 37 = .ok (.getfield 70, 3) := by decide +kernel
theorem dX6_takeNumber_40 : decode cX6_takeNumber 40 = .ok (.putfield 80, 3) := by decide +kernel
theorem dX6_takeNumber_43 : decode cX6_takeNumber 43 = .ok (.aload_n 0, 1) := by decide +kernel
theorem dX6_takeNumber_44 : decode cX6_takeNumber 44 = .ok (.invokevirtual 37, 3) := by decide +kernel
theorem dX6_takeNumber_47 : decode cX6_takeNumber 47 = .ok (.iconst 1, 1) := by decide +kernel
theorem dX6_takeNumber_48 : decode cX6_takeNumber 48 = .ok (.ireturn, 1) := by decide +kernel
theorem dX6_takeOption_0 : decode cX6_takeOption 0 = .ok (.aload_n 0, 1) := by decide +kernel
theorem dX6_takeOption_1 : decode cX6_takeOption 1 = .ok (.iconst 0, 1) := by decide +kernel
theorem dX6_takeOption_2 : decode cX6_takeOption 2 = .ok (.putfield 80, 3) := by decide +kernel
theorem dX6_takeOption_5 : decode cX6_takeOption 5 = .ok (.aload_n 0, 1) := by decide +kernel
theorem dX6_takeOption_6 : decode cX6_takeOption 6 = .ok (.getfield 43, 3) := by decide +kernel
theorem dX6_takeOption_9 : decode cX6_takeOption 9 = .ok (.iload_n 1, 1) := by decide +kernel
theorem dX6_takeOption_10 : decode cX6_takeOption 10 = .ok (.if_icmp .eq 5, 3) := by decide +kernel
theorem dX6_takeOption_13 : decode cX6_takeOption 13 = .ok (.iconst 1, 1) := by decide +kernel
theorem dX6_takeOption_14 : decode cX6_takeOption 14 = .ok (.ireturn, 1) := by decide +kernel
theorem dX6_takeOption_15 : decode cX6_takeOption 15 = .ok (.aload_n 0, 1) := by decide +kernel
theorem dX6_takeOption_16 : decode cX6_takeOption 16 = .ok (.invokevirtual 37, 3) := by decide +kernel
theorem dX6_takeOption_19 : decode cX6_takeOption 19 = .ok (.aload_n 0, 1) := by decide +kernel
theorem dX6_takeOption_20 : decode cX6_takeOption 20 = .ok (.iconst 0, 1) := by decide +kernel
theorem dX6_takeOption_21 : decode cX6_takeOption 21 = .ok (.iload_n 2, 1) := by decide +kernel
theorem dX6_takeOption_22 : decode cX6_takeOption 22 = .ok (.invokevirtual 83, 3) := by decide +kernel
theorem dX6_takeOption_25 : decode cX6_takeOption 25 = .ok (.ireturn, 1) := by decide +kernel
theorem dX6_seesName_0 : decode cX6_seesName 0 = .ok (.aload_n 0, 1) := by decide +kernel
theorem dX6_seesName_1 : decode cX6_seesName 1 = .ok (.getfield 46, 3) := by decide +kernel
theorem dX6_seesName_4 : decode cX6_seesName 4 = .ok (.iconst 2, 1) := by decide +kernel
theorem dX6_seesName_5 : decode cX6_seesName 5 = .ok (.if_icmp .ne 20, 3) := by decide +kernel
theorem dX6_seesName_8 : decode cX6_seesName 8 = .ok (.aload_n 0, 1) := by decide +kernel
theorem dX6_seesName_9 : decode cX6_seesName 9 = .ok (.getfield 62, 3) := by decide +kernel
theorem dX6_seesName_12 : decode cX6_seesName 12 = .ok (.lconst 0, 1) := by decide +kernel
theorem dX6_seesName_13 : decode cX6_seesName 13 = .ok (.lcmp, 1) := by decide +kernel
theorem dX6_seesName_14 : decode cX6_seesName 14 = .ok (.ifCond .eq 11, 3) := by decide +kernel
theorem dX6_seesName_17 : decode cX6_seesName 17 = .ok (.aload_n 0, 1) := by decide +kernel
theorem dX6_seesName_18 : decode cX6_seesName 18 = .ok (.getfield 43, 3) := by decide +kernel
theorem dX6_seesName_21 : decode cX6_seesName 21 = .ok (.iconst (-1), 1) := by decide +kernel
theorem dX6_seesName_22 : decode cX6_seesName 22 = .ok (.if_icmp .eq 8, 3) := by decide +kernel
theorem dX6_seesName_25 : decode cX6_seesName 25 = .ok (.aload_n 0, 1) := by decide +kernel
theorem dX6_seesName_26 : decode cX6_seesName 26 = .ok (.invokevirtual 76, 3) := by decide +kernel
theorem dX6_seesName_29 : decode cX6_seesName 29 = .ok (.ireturn, 1) := by decide +kernel
theorem dX6_seesName_30 : decode cX6_seesName 30 = .ok (.iconst 1, 1) := by decide +kernel
theorem dX6_seesName_31 : decode cX6_seesName 31 = .ok (.ireturn, 1) := by decide +kernel
theorem dX6_takeNewName_0 : decode cX6_takeNewName 0 = .ok (.aload_n 0, 1) := by decide +kernel
theorem dX6_takeNewName_1 : decode cX6_takeNewName 1 = .ok (.invokevirtual 87, 3) := by decide +kernel
theorem dX6_takeNewName_4 : decode cX6_takeNewName 4 = .ok (.ifCond .ne 5, 3) := by decide +kernel
theorem dX6_takeNewName_7 : decode cX6_takeNewName 7 = .ok (.iconst 0, 1) := by decide +kernel
theorem dX6_takeNewName_8 : decode cX6_takeNewName 8 = .ok (.ireturn, 1) := by decide +kernel
theorem dX6_takeNewName_9 : decode cX6_takeNewName 9 = .ok (.aload_n 1, 1) := by decide +kernel
theorem dX6_takeNewName_10 : decode cX6_takeNewName 10 = .ok (.aload_n 0, 1) := by decide +kernel
theorem dX6_takeNewName_11 : decode cX6_takeNewName 11 = .ok (.getfield 62, 3) := by decide +kernel
theorem dX6_takeNewName_14 : decode cX6_takeNewName 14 = .ok (.invokevirtual 90, 3) := by decide +kernel
theorem dX6_takeNewName_17 : decode cX6_takeNewName 17 = .ok (.ifCond .eq 9, 3) := by decide +kernel
theorem dX6_takeNewName_20 : decode cX6_takeNewName 20 = .ok (.aload_n 0, 1) := by decide +kernel
theorem dX6_takeNewName_21 : decode cX6_takeNewName 21 = .ok (.iconst 3, 1) := by decide +kernel
theorem dX6_takeNewName_22 : decode cX6_takeNewName 22 = .ok (.invokevirtual 73, 3) := by decide +kernel
theorem dX6_takeNewName_25 : decode cX6_takeNewName 25 = .ok (.ireturn, 1) := by decide +kernel
theorem dX6_takeNewName_26 : decode cX6_takeNewName 26 = .ok (.aload_n 0, 1) := by decide +kernel
theorem dX6_takeNewName_27 : decode cX6_takeNewName 27 = .ok (.invokevirtual 37, 3) := by decide +kernel
theorem dX6_takeNewName_30 : decode cX6_takeNewName 30 = .ok (.iconst 1, 1) := by decide +kernel
theorem dX6_takeNewName_31 : decode cX6_takeNewName 31 = .ok (.ireturn, 1) := by decide +kernel
theorem dX6_takePlace_0 : decode cX6_takePlace 0 = .ok (.aload_n 0, 1) := by decide +kernel
theorem dX6_takePlace_1 : decode cX6_takePlace 1 = .ok (.invokevirtual 87, 3) := by decide +kernel
theorem dX6_takePlace_4 : decode cX6_takePlace 4 = .ok (.ifCond .eq 22, 3) := by decide +kernel
theorem dX6_takePlace_7 : decode cX6_takePlace 7 = .ok (.aload_n 0, 1) := by decide +kernel
theorem dX6_takePlace_8 : decode cX6_takePlace 8 = .ok (.aload_n 1, 1) := by decide +kernel
theorem dX6_takePlace_9 : decode cX6_takePlace 9 = .ok (.aload_n 0, 1) := by decide +kernel
theorem dX6_takePlace_10 : decode cX6_takePlace 10 = .ok (.getfield 62, 3) := by decide +kernel
theorem dX6_takePlace_13 : decode cX6_takePlace 13 = .ok (.invokevirtual 96, 3) := by decide +kernel
theorem dX6_takePlace_16 : decode cX6_takePlace 16 = .ok (.invokevirtual 100, 3) := by decide +kernel
theorem dX6_takePlace_19 : decode cX6_takePlace 19 = .ok (.ifCond .eq 7, 3) := by decide +kernel
theorem dX6_takePlace_22 : decode cX6_takePlace 22 = .ok (.iconst 1, 1) := by decide +kernel
theorem dX6_takePlace_23 : decode cX6_takePlace 23 = .ok (.goto 4, 3) := by decide +kernel
theorem dX6_takePlace_26 : decode cX6_takePlace 26 = .ok (.iconst 0, 1) := by decide +kernel
theorem dX6_takePlace_27 : decode cX6_takePlace 27 = .ok (.ireturn, 1) := by decide +kernel
theorem dX6_takeVane_0 : decode cX6_takeVane 0 = .ok (.aload_n 0, 1) := by decide +kernel
theorem dX6_takeVane_1 : decode cX6_takeVane 1 = .ok (.invokevirtual 87, 3) := by decide +kernel
theorem dX6_takeVane_4 : decode cX6_takeVane 4 = .ok (.ifCond .eq 22, 3) := by decide +kernel
theorem dX6_takeVane_7 : decode cX6_takeVane 7 = .ok (.aload_n 0, 1) := by decide +kernel
theorem dX6_takeVane_8 : decode cX6_takeVane 8 = .ok (.aload_n 1, 1) := by decide +kernel
theorem dX6_takeVane_9 : decode cX6_takeVane 9 = .ok (.aload_n 0, 1) := by decide +kernel
theorem dX6_takeVane_10 : decode cX6_takeVane 10 = .ok (.getfield 62, 3) := by decide +kernel
theorem dX6_takeVane_13 : decode cX6_takeVane 13 = .ok (.invokevirtual 103, 3) := by decide +kernel
theorem dX6_takeVane_16 : decode cX6_takeVane 16 = .ok (.invokevirtual 100, 3) := by decide +kernel
theorem dX6_takeVane_19 : decode cX6_takeVane 19 = .ok (.ifCond .eq 7, 3) := by decide +kernel
theorem dX6_takeVane_22 : decode cX6_takeVane 22 = .ok (.iconst 1, 1) := by decide +kernel
theorem dX6_takeVane_23 : decode cX6_takeVane 23 = .ok (.goto 4, 3) := by decide +kernel
theorem dX6_takeVane_26 : decode cX6_takeVane 26 = .ok (.iconst 0, 1) := by decide +kernel
theorem dX6_takeVane_27 : decode cX6_takeVane 27 = .ok (.ireturn, 1) := by decide +kernel
theorem dX6_takeShaft_0 : decode cX6_takeShaft 0 = .ok (.aload_n 0, 1) := by decide +kernel
theorem dX6_takeShaft_1 : decode cX6_takeShaft 1 = .ok (.invokevirtual 87, 3) := by decide +kernel
theorem dX6_takeShaft_4 : decode cX6_takeShaft 4 = .ok (.ifCond .eq 22, 3) := by decide +kernel
theorem dX6_takeShaft_7 : decode cX6_takeShaft 7 = .ok (.aload_n 0, 1) := by decide +kernel
theorem dX6_takeShaft_8 : decode cX6_takeShaft 8 = .ok (.aload_n 1, 1) := by decide +kernel
theorem dX6_takeShaft_9 : decode cX6_takeShaft 9 = .ok (.aload_n 0, 1) := by decide +kernel
theorem dX6_takeShaft_10 : decode cX6_takeShaft 10 = .ok (.getfield 62, 3) := by decide +kernel
theorem dX6_takeShaft_13 : decode cX6_takeShaft 13 = .ok (.invokevirtual 106, 3) := by decide +kernel
theorem dX6_takeShaft_16 : decode cX6_takeShaft 16 = .ok (.invokevirtual 100, 3) := by decide +kernel
theorem dX6_takeShaft_19 : decode cX6_takeShaft 19 = .ok (.ifCond .eq 7, 3) := by decide +kernel
theorem dX6_takeShaft_22 : decode cX6_takeShaft 22 = .ok (.iconst 1, 1) := by decide +kernel
theorem dX6_takeShaft_23 : decode cX6_takeShaft 23 = .ok (.goto 4, 3) := by decide +kernel
theorem dX6_takeShaft_26 : decode cX6_takeShaft 26 = .ok (.iconst 0, 1) := by decide +kernel
theorem dX6_takeShaft_27 : decode cX6_takeShaft 27 = .ok (.ireturn, 1) := by decide +kernel
theorem dX6_takeThing_0 : decode cX6_takeThing 0 = .ok (.iload_n 1, 1) := by decide +kernel
theorem dX6_takeThing_1 : decode cX6_takeThing 1 = .ok (.iconst (-1), 1) := by decide +kernel
theorem dX6_takeThing_2 : decode cX6_takeThing 2 = .ok (.if_icmp .ne 9, 3) := by decide +kernel
theorem dX6_takeThing_5 : decode cX6_takeThing 5 = .ok (.aload_n 0, 1) := by decide +kernel
theorem dX6_takeThing_6 : decode cX6_takeThing 6 = .ok (.iconst 3, 1) := by decide +kernel
theorem dX6_takeThing_7 : decode cX6_takeThing 7 = .ok (.invokevirtual 73, 3) := by decide +kernel
theorem dX6_takeThing_10 : decode cX6_takeThing 10 = .ok (.ireturn, 1) := by decide +kernel
theorem dX6_takeThing_11 : decode cX6_takeThing 11 = .ok (.aload_n 0, 1) := by decide +kernel
theorem dX6_takeThing_12 : decode cX6_takeThing 12 = .ok (.iload_n 1, 1) := by decide +kernel
theorem dX6_takeThing_13 : decode cX6_takeThing 13 = .ok (.putfield 80, 3) := by decide +kernel
theorem dX6_takeThing_16 : decode cX6_takeThing 16 = .ok (.aload_n 0, 1) := by decide +kernel
theorem dX6_takeThing_17 : decode cX6_takeThing 17 = .ok (.invokevirtual 37, 3) := by decide +kernel
theorem dX6_takeThing_20 : decode cX6_takeThing 20 = .ok (.iconst 1, 1) := by decide +kernel
theorem dX6_takeThing_21 : decode cX6_takeThing 21 = .ok (.ireturn, 1) := by decide +kernel
theorem dX7_init_0 : decode cX7_init 0 = .ok (.aload_n 0, 1) := by decide +kernel
theorem dX7_init_1 : decode cX7_init 1 = .ok (.invokespecial 1, 3) := by decide +kernel
theorem dX7_init_4 : decode cX7_init 4 = .ok (.aload_n 0, 1) := by decide +kernel
theorem dX7_init_5 : decode cX7_init 5 = .ok (.new 7, 3) := by decide +kernel
theorem dX7_init_8 : decode cX7_init 8 = .ok (.dup, 1) := by decide +kernel
theorem dX7_init_9 : decode cX7_init 9 = .ok (.invokespecial 9, 3) := by decide +kernel
theorem dX7_init_12 : decode cX7_init 12 = .ok (.putfield 10, 3) := by decide +kernel
theorem dX7_init_15 : decode cX7_init 15 = .ok (.aload_n 0, 1) := by decide +kernel
theorem dX7_init_16 : decode cX7_init 16 = .ok (.new 16, 3) := by decide +kernel
theorem dX7_init_19 : decode cX7_init 19 = .ok (.dup, 1) := by decide +kernel
theorem dX7_init_20 : decode cX7_init 20 = .ok (.invokespecial 18, 3) := by decide +kernel
theorem dX7_init_23 : decode cX7_init 23 = .ok (.putfield 19, 3) := by decide +kernel
theorem dX7_init_26 : decode cX7_init 26 = .ok (.aload_n 0, 1) := by decide +kernel
theorem dX7_init_27 : decode cX7_init 27 = .ok (.new 23, 3) := by decide +kernel
theorem dX7_init_30 : decode cX7_init 30 = .ok (.dup, 1) := by decide +kernel
theorem dX7_init_31 : decode cX7_init 31 = .ok (.invokespecial 25, 3) := by decide +kernel
theorem dX7_init_34 : decode cX7_init 34 = .ok (.putfield 26, 3) := by decide +kernel
theorem dX7_init_37 : decode cX7_init 37 = .ok (.return_, 1) := by decide +kernel
theorem dX7_copyFrom_0 : decode cX7_copyFrom 0 = .ok (.aload_n 0, 1) := by decide +kernel
theorem dX7_copyFrom_1 : decode cX7_copyFrom 1 = .ok (.getfield 10, 3) := by decide +kernel
theorem dX7_copyFrom_4 : decode cX7_copyFrom 4 = .ok (.aload_n 1, 1) := by decide +kernel
theorem dX7_copyFrom_5 : decode cX7_copyFrom 5 = .ok (.getfield 10, 3) := by decide +kernel
theorem dX7_copyFrom_8 : decode cX7_copyFrom 8 = .ok (.invokevirtual 30, 3) := by decide +kernel
theorem dX7_copyFrom_11 : decode cX7_copyFrom 11 = .ok (.aload_n 0, 1) := by decide +kernel
theorem dX7_copyFrom_12 : decode cX7_copyFrom 12 = .ok (.getfield 19, 3) := by decide +kernel
theorem dX7_copyFrom_15 : decode cX7_copyFrom 15 = .ok (.aload_n 1, 1) := by decide +kernel
theorem dX7_copyFrom_16 : decode cX7_copyFrom 16 = .ok (.getfield 19, 3) := by decide +kernel
theorem dX7_copyFrom_19 : decode cX7_copyFrom 19 = .ok (.invokevirtual 34, 3) := by decide +kernel
theorem dX7_copyFrom_22 : decode cX7_copyFrom 22 = .ok (.aload_n 0, 1) := by decide +kernel
theorem dX7_copyFrom_23 : decode cX7_copyFrom 23 = .ok (.getfield 26, 3) := by decide +kernel
theorem dX7_copyFrom_26 : decode cX7_copyFrom 26 = .ok (.aload_n 1, 1) := by decide +kernel
theorem dX7_copyFrom_27 : decode cX7_copyFrom 27 = .ok (.getfield 26, 3) := by decide +kernel
theorem dX7_copyFrom_30 : decode cX7_copyFrom 30 = .ok (.invokevirtual 37, 3) := by decide +kernel
theorem dX7_copyFrom_33 : decode cX7_copyFrom 33 = .ok (.return_, 1) := by decide +kernel
theorem dX8_init_0 : decode cX8_init 0 = .ok (.aload_n 0, 1) := by decide +kernel
theorem dX8_init_1 : decode cX8_init 1 = .ok (.invokespecial 3, 3) := by decide +kernel
theorem dX8_init_4 : decode cX8_init 4 = .ok (.aload_n 0, 1) := by decide +kernel
theorem dX8_init_5 : decode cX8_init 5 = .ok (.iconst (-1), 1) := by decide +kernel
theorem dX8_init_6 : decode cX8_init 6 = .ok (.putfield 9, 3) := by decide +kernel
theorem dX8_init_9 : decode cX8_init 9 = .ok (.aload_n 0, 1) := by decide +kernel
theorem dX8_init_10 : decode cX8_init 10 = .ok (.bipush 60, 2) := by decide +kernel
theorem dX8_init_12 : decode cX8_init 12 = .ok (.newarray .long, 2) := by decide +kernel
theorem dX8_init_14 : decode cX8_init 14 = .ok (.putfield 15, 3) := by decide +kernel
theorem dX8_init_17 : decode cX8_init 17 = .ok (.return_, 1) := by decide +kernel
theorem dX8_isMissing_0 : decode cX8_isMissing 0 = .ok (.aload_n 0, 1) := by decide +kernel
theorem dX8_isMissing_1 : decode cX8_isMissing 1 = .ok (.getfield 9, 3) := by decide +kernel
theorem dX8_isMissing_4 : decode cX8_isMissing 4 = .ok (.iconst (-1), 1) := by decide +kernel
theorem dX8_isMissing_5 : decode cX8_isMissing 5 = .ok (.if_icmp .ne 7, 3) := by decide +kernel
theorem dX8_isMissing_8 : decode cX8_isMissing 8 = .ok (.iconst 1, 1) := by decide +kernel
theorem dX8_isMissing_9 : decode cX8_isMissing 9 = .ok (.goto 4, 3) := by decide +kernel
theorem dX8_isMissing_12 : decode cX8_isMissing 12 = .ok (.iconst 0, 1) := by decide +kernel
theorem dX8_isMissing_13 : decode cX8_isMissing 13 = .ok (.ireturn, 1) := by decide +kernel
theorem dX8_lay_0 : decode cX8_lay 0 = .ok (.aload_n 0, 1) := by decide +kernel
theorem dX8_lay_1 : decode cX8_lay 1 = .ok (.iload_n 1, 1) := by decide +kernel
theorem dX8_lay_2 : decode cX8_lay 2 = .ok (.putfield 9, 3) := by decide +kernel
theorem dX8_lay_5 : decode cX8_lay 5 = .ok (.aload_n 0, 1) := by decide +kernel
theorem dX8_lay_6 : decode cX8_lay 6 = .ok (.iload_n 2, 1) := by decide +kernel
theorem dX8_lay_7 : decode cX8_lay 7 = .ok (.putfield 19, 3) := by decide +kernel
theorem dX8_lay_10 : decode cX8_lay 10 = .ok (.iconst 0, 1) := by decide +kernel
theorem dX8_lay_11 : decode cX8_lay 11 = .ok (.istore_n 3, 1) := by decide +kernel
theorem dX8_lay_12 : decode cX8_lay 12 = .ok (.iload_n 3, 1) := by decide +kernel
theorem dX8_lay_13 : decode cX8_lay 13 = .ok (.bipush 60, 2) := by decide +kernel
theorem dX8_lay_15 : decode cX8_lay 15 = .ok (.if_icmp .ge 16, 3) := by decide +kernel
theorem dX8_lay_18 : decode cX8_lay 18 = .ok (.aload_n 0, 1) := by decide +kernel
theorem dX8_lay_19 : decode cX8_lay 19 = .ok (.getfield 15, 3) := by decide +kernel
theorem dX8_lay_22 : decode cX8_lay 22 = .ok (.iload_n 3, 1) := by decide +kernel
theorem dX8_lay_23 : decode cX8_lay 23 = .ok (.lconst 0, 1) := by decide +kernel
theorem dX8_lay_24 : decode cX8_lay 24 = .ok (.lastore, 1) := by decide +kernel
theorem dX8_lay_25 : decode cX8_lay 25 = .ok (.iinc 3 1, 3) := by decide +kernel
theorem dX8_lay_28 : decode cX8_lay 28 = .ok (.goto (-16), 3) := by decide +kernel
theorem dX8_lay_31 : decode cX8_lay 31 = .ok (.return_, 1) := by decide +kernel
theorem dX8_put_0 : decode cX8_put 0 = .ok (.aload_n 0, 1) := by decide +kernel
theorem dX8_put_1 : decode cX8_put 1 = .ok (.getfield 9, 3) := by decide +kernel
theorem dX8_put_4 : decode cX8_put 4 = .ok (.tableswitch 66 0 2 #[28, 41, 54], 28) := by decide +kernel
theorem dX8_put_32 : decode cX8_put 32 = .ok (.aload_n 0, 1) := by decide +kernel
theorem dX8_put_33 : decode cX8_put 33 = .ok (.getfield 15, 3) := by decide +kernel
theorem dX8_put_36 : decode cX8_put 36 = .ok (.iload_n 1, 1) := by decide +kernel
theorem dX8_put_37 : decode cX8_put 37 = .ok (.lload_n 2, 1) := by decide +kernel
theorem dX8_put_38 : decode cX8_put 38 = .ok (.l2i, 1) := by decide +kernel
theorem dX8_put_39 : decode cX8_put 39 = .ok (.i2b, 1) := by decide +kernel
theorem dX8_put_40 : decode cX8_put 40 = .ok (.i2l, 1) := by decide +kernel
theorem dX8_put_41 : decode cX8_put 41 = .ok (.lastore, 1) := by decide +kernel
theorem dX8_put_42 : decode cX8_put 42 = .ok (.goto 35, 3) := by decide +kernel
theorem dX8_put_45 : decode cX8_put 45 = .ok (.aload_n 0, 1) := by decide +kernel
theorem dX8_put_46 : decode cX8_put 46 = .ok (.getfield 15, 3) := by decide +kernel
theorem dX8_put_49 : decode cX8_put 49 = .ok (.iload_n 1, 1) := by decide +kernel
theorem dX8_put_50 : decode cX8_put 50 = .ok (.lload_n 2, 1) := by decide +kernel
theorem dX8_put_51 : decode cX8_put 51 = .ok (.l2i, 1) := by decide +kernel
theorem dX8_put_52 : decode cX8_put 52 = .ok (.i2s, 1) := by decide +kernel
theorem dX8_put_53 : decode cX8_put 53 = .ok (.i2l, 1) := by decide +kernel
theorem dX8_put_54 : decode cX8_put 54 = .ok (.lastore, 1) := by decide +kernel
theorem dX8_put_55 : decode cX8_put 55 = .ok (.goto 22, 3) := by decide +kernel
theorem dX8_put_58 : decode cX8_put 58 = .ok (.aload_n 0, 1) := by decide +kernel
theorem dX8_put_59 : decode cX8_put 59 = .ok (.getfield 15, 3) := by decide +kernel
theorem dX8_put_62 : decode cX8_put 62 = .ok (.iload_n 1, 1) := by decide +kernel
theorem dX8_put_63 : decode cX8_put 63 = .ok (.lload_n 2, 1) := by decide +kernel
theorem dX8_put_64 : decode cX8_put 64 = .ok (.l2i, 1) := by decide +kernel
theorem dX8_put_65 : decode cX8_put 65 = .ok (.i2l, 1) := by decide +kernel
theorem dX8_put_66 : decode cX8_put 66 = .ok (.lastore, 1) := by decide +kernel
theorem dX8_put_67 : decode cX8_put 67 = .ok (.goto 10, 3) := by decide +kernel
theorem dX8_put_70 : decode cX8_put 70 = .ok (.aload_n 0, 1) := by decide +kernel
theorem dX8_put_71 : decode cX8_put 71 = .ok (.getfield 15, 3) := by decide +kernel
theorem dX8_put_74 : decode cX8_put 74 = .ok (.iload_n 1, 1) := by decide +kernel
theorem dX8_put_75 : decode cX8_put 75 = .ok (.lload_n 2, 1) := by decide +kernel
theorem dX8_put_76 : decode cX8_put 76 = .ok (.lastore, 1) := by decide +kernel
theorem dX8_put_77 : decode cX8_put 77 = .ok (.return_, 1) := by decide +kernel
theorem dX8_hasFrom_0 : decode cX8_hasFrom 0 = .ok (.iload_n 1, 1) := by decide +kernel
theorem dX8_hasFrom_1 : decode cX8_hasFrom 1 = .ok (.i2l, 1) := by decide +kernel
theorem dX8_hasFrom_2 : decode cX8_hasFrom 2 = .ok (.iload_n 2, 1) := by decide +kernel
theorem dX8_hasFrom_3 : decode cX8_hasFrom 3 = .ok (.i2l, 1) := by decide +kernel
theorem dX8_hasFrom_4 : decode cX8_hasFrom 4 = .ok (.ladd, 1) := by decide +kernel
theorem dX8_hasFrom_5 : decode cX8_hasFrom 5 = .ok (.aload_n 0, 1) := by decide +kernel
theorem dX8_hasFrom_6 : decode cX8_hasFrom 6 = .ok (.getfield 19, 3) := by decide +kernel
theorem dX8_hasFrom_9 : decode cX8_hasFrom 9 = .ok (.i2l, 1) := by decide +kernel
theorem dX8_hasFrom_10 : decode cX8_hasFrom 10 = .ok (.lcmp, 1) := by decide +kernel
theorem dX8_hasFrom_11 : decode cX8_hasFrom 11 = .ok (.ifCond .gt 7, 3) := by decide +kernel
theorem dX8_hasFrom_14 : decode cX8_hasFrom 14 = .ok (.iconst 1, 1) := by decide +kernel
theorem dX8_hasFrom_15 : decode cX8_hasFrom 15 = .ok (.goto 4, 3) := by decide +kernel
theorem dX8_hasFrom_18 : decode cX8_hasFrom 18 = .ok (.iconst 0, 1) := by decide +kernel
theorem dX8_hasFrom_19 : decode cX8_hasFrom 19 = .ok (.ireturn, 1) := by decide +kernel
theorem dX9_init_0 : decode cX9_init 0 = .ok (.aload_n 0, 1) := by decide +kernel
theorem dX9_init_1 : decode cX9_init 1 = .ok (.invokespecial 3, 3) := by decide +kernel
theorem dX9_init_4 : decode cX9_init 4 = .ok (.return_, 1) := by decide +kernel
theorem dX9_readAll_0 : decode cX9_readAll 0 = .ok (.aload_n 0, 1) := by decide +kernel
theorem dX9_readAll_1 : decode cX9_readAll 1 = .ok (.aload_n 1, 1) := by decide +kernel
theorem dX9_readAll_2 : decode cX9_readAll 2 = .ok (.putfield 9, 3) := by decide +kernel
theorem dX9_readAll_5 : decode cX9_readAll 5 = .ok (.aload_n 0, 1) := by decide +kernel
theorem dX9_readAll_6 : decode cX9_readAll 6 = .ok (.aload_n 2, 1) := by decide +kernel
theorem dX9_readAll_7 : decode cX9_readAll 7 = .ok (.putfield 15, 3) := by decide +kernel
theorem dX9_readAll_10 : decode cX9_readAll 10 = .ok (.aload_n 0, 1) := by decide +kernel
theorem dX9_readAll_11 : decode cX9_readAll 11 = .ok (.getfield 15, 3) := by decide +kernel
theorem dX9_readAll_14 : decode cX9_readAll 14 = .ok (.invokevirtual 19, 3) := by decide +kernel
theorem dX9_readAll_17 : decode cX9_readAll 17 = .ok (.iconst 0, 1) := by decide +kernel
theorem dX9_readAll_18 : decode cX9_readAll 18 = .ok (.istore_n 3, 1) := by decide +kernel
theorem dX9_readAll_19 : decode cX9_readAll 19 = .ok (.iload_n 3, 1) := by decide +kernel
theorem dX9_readAll_20 : decode cX9_readAll 20 = .ok (.sipush 900, 3) := by decide +kernel
theorem dX9_readAll_23 : decode cX9_readAll 23 = .ok (.if_icmp .ge 28, 3) := by decide +kernel
theorem dX9_readAll_26 : decode cX9_readAll 26 = .ok (.aload_n 0, 1) := by decide +kernel
theorem dX9_readAll_27 : decode cX9_readAll 27 = .ok (.getfield 9, 3) := by decide +kernel
theorem dX9_readAll_30 : decode cX9_readAll 30 = .ok (.getfield 26, 3) := by decide +kernel
theorem dX9_readAll_33 : decode cX9_readAll 33 = .ok (.ifCond .eq 18, 3) := by decide +kernel
theorem dX9_readAll_36 : decode cX9_readAll 36 = .ok (.aload_n 0, 1) := by decide +kernel
theorem dX9_readAll_37 : decode cX9_readAll 37 = .ok (.invokevirtual 30, 3) := by decide +kernel
theorem dX9_readAll_40 : decode cX9_readAll 40 = .ok (.ifCond .ne 5, 3) := by decide +kernel
theorem dX9_readAll_43 : decode cX9_readAll 43 = .ok (.iconst 0, 1) := by decide +kernel
theorem dX9_readAll_44 : decode cX9_readAll 44 = .ok (.ireturn, 1) := by decide +kernel
theorem dX9_readAll_45 : decode cX9_readAll 45 = .ok (.iinc 3 1, 3) := by decide +kernel
theorem dX9_readAll_48 : decode cX9_readAll 48 = .ok (.goto (-29), 3) := by decide +kernel
theorem dX9_readAll_51 : decode cX9_readAll 51 = .ok (.iconst 1, 1) := by decide +kernel
theorem dX9_readAll_52 : decode cX9_readAll 52 = .ok (.ireturn, 1) := by decide +kernel
theorem dX9_readPart_0 : decode cX9_readPart 0 = .ok (.aload_n 0, 1) := by decide +kernel
theorem dX9_readPart_1 : decode cX9_readPart 1 = .ok (.getfield 9, 3) := by decide +kernel
theorem dX9_readPart_4 : decode cX9_readPart 4 = .ok (.getfield 34, 3) := by decide +kernel
theorem dX9_readPart_7 : decode cX9_readPart 7 = .ok (.tableswitch 131 0 7 #[45, 73, 131, 131, 131, 131, 102, 102], 45) := by decide +kernel
theorem dX9_readPart_52 : decode cX9_readPart 52 = .ok (.aload_n 0, 1) := by decide +kernel
theorem dX9_readPart_53 : decode cX9_readPart 53 = .ok (.getfield 15, 3) := by decide +kernel
theorem dX9_readPart_56 : decode cX9_readPart 56 = .ok (.getfield 37, 3) := by decide +kernel
theorem dX9_readPart_59 : decode cX9_readPart 59 = .ok (.iconst 4, 1) := by decide +kernel
theorem dX9_readPart_60 : decode cX9_readPart 60 = .ok (.if_icmp .ge 10, 3) := by decide +kernel
theorem dX9_readPart_63 : decode cX9_readPart 63 = .ok (.aload_n 0, 1) := by decide +kernel
theorem dX9_readPart_64 : decode cX9_readPart 64 = .ok (.invokevirtual 40, 3) := by decide +kernel
theorem dX9_readPart_67 : decode cX9_readPart 67 = .ok (.goto 12, 3) := by decide +kernel
theorem dX9_readPart_70 : decode cX9_readPart 70 = .ok (.aload_n 0, 1) := by decide +kernel
theorem dX9_readPart_71 : decode cX9_readPart 71 = .ok (.getfield 9, 3) := by decide +kernel
theorem dX9_readPart_74 : decode cX9_readPart 74 = .ok (.bipush 6, 2) := by decide +kernel
theorem dX9_readPart_76 : decode cX9_readPart 76 = .ok (.invokevirtual 43, 3) := by decide +kernel
theorem dX9_readPart_79 : decode cX9_readPart 79 = .ok (.ireturn, 1) := by decide +kernel
theorem dX9_readPart_80 : decode cX9_readPart 80 = .ok (.aload_n 0, 1) := by decide +kernel
theorem dX9_readPart_81 : decode cX9_readPart 81 = .ok (.getfield 15, 3) := by decide +kernel
theorem dX9_readPart_84 : decode cX9_readPart 84 = .ok (.getfield 47, 3) := by decide +kernel
theorem dX9_readPart_87 : decode cX9_readPart 87 = .ok (.bipush 8, 2) := by decide +kernel
theorem dX9_readPart_89 : decode cX9_readPart 89 = .ok (.if_icmp .ge 10, 3) := by decide +kernel
theorem dX9_readPart_92 : decode cX9_readPart 92 = .ok (.aload_n 0, 1) := by decide +kernel
theorem dX9_readPart_93 : decode cX9_readPart 93 = .ok (.invokevirtual 50, 3) := by decide +kernel
theorem dX9_readPart_96 : decode cX9_readPart 96 = .ok (.goto 12, 3) := by decide +kernel
theorem dX9_readPart_99 : decode cX9_readPart 99 = .ok (.aload_n 0, 1) := by decide +kernel
theorem dX9_readPart_100 : decode cX9_readPart 100 = .ok (.getfield 9, 3) := by decide +kernel
theorem dX9_readPart_103 : decode cX9_readPart 103 = .ok (.bipush 6, 2) := by decide +kernel
theorem dX9_readPart_105 : decode cX9_readPart 105 = .ok (.invokevirtual 43, 3) := by decide +kernel
theorem dX9_readPart_108 : decode cX9_readPart 108 = .ok (.ireturn, 1) := by decide +kernel
theorem dX9_readPart_109 : decode cX9_readPart 109 = .ok (.aload_n 0, 1) := by decide +kernel
theorem dX9_readPart_110 : decode cX9_readPart 110 = .ok (.getfield 15, 3) := by decide +kernel
theorem dX9_readPart_113 : decode cX9_readPart 113 = .ok (.getfield 53, 3) := by decide +kernel
theorem dX9_readPart_116 : decode cX9_readPart 116 = .ok (.bipush 10, 2) := by decide +kernel
theorem dX9_readPart_118 : decode cX9_readPart 118 = .ok (.if_icmp .ge 10, 3) := by decide +kernel
theorem dX9_readPart_121 : decode cX9_readPart 121 = .ok (.aload_n 0, 1) := by decide +kernel
theorem dX9_readPart_122 : decode cX9_readPart 122 = .ok (.invokevirtual 56, 3) := by decide +kernel
theorem dX9_readPart_125 : decode cX9_readPart 125 = .ok (.goto 12, 3) := by decide +kernel
theorem dX9_readPart_128 : decode cX9_readPart 128 = .ok (.aload_n 0, 1) := by decide +kernel
theorem dX9_readPart_129 : decode cX9_readPart 129 = .ok (.getfield 9, 3) := by decide +kernel
theorem dX9_readPart_132 : decode cX9_readPart 132 = .ok (.bipush 6, 2) := by decide +kernel
theorem dX9_readPart_134 : decode cX9_readPart 134 = .ok (.invokevirtual 43, 3) := by decide +kernel
theorem dX9_readPart_137 : decode cX9_readPart 137 = .ok (.ireturn, 1) := by decide +kernel
theorem dX9_readPart_138 : decode cX9_readPart 138 = .ok (.aload_n 0, 1) := by decide +kernel
theorem dX9_readPart_139 : decode cX9_readPart 139 = .ok (.getfield 9, 3) := by decide +kernel
theorem dX9_readPart_142 : decode cX9_readPart 142 = .ok (.invokevirtual 59, 3) := by decide +kernel
theorem dX9_readPart_145 : decode cX9_readPart 145 = .ok (.ireturn, 1) := by decide +kernel
theorem dX9_readPlace_0 : decode cX9_readPlace 0 = .ok (.aload_n 0, 1) := by decide +kernel
theorem dX9_readPlace_1 : decode cX9_readPlace 1 = .ok (.getfield 9, 3) := by decide +kernel
theorem dX9_readPlace_4 : decode cX9_readPlace 4 = .ok (.invokevirtual 62, 3) := by decide +kernel
theorem dX9_readPlace_7 : decode cX9_readPlace 7 = .ok (.aload_n 0, 1) := by decide +kernel
theorem dX9_readPlace_8 : decode cX9_readPlace 8 = .ok (.getfield 9, 3) := by decide +kernel
theorem dX9_readPlace_11 : decode cX9_readPlace 11 = .ok (.getfield 65, 3) := by decide +kernel
theorem dX9_readPlace_14 : decode cX9_readPlace 14 = .ok (.lstore_n 1, 1) := by decide +kernel
theorem dX9_readPlace_15 : decode cX9_readPlace 15 = .ok (.aload_n 0, 1) := by decide +kernel
theorem dX9_readPlace_16 : decode cX9_readPlace 16 = .ok (.getfield 9, 3) := by decide +kernel
theorem dX9_readPlace_19 : decode cX9_readPlace 19 = .ok (.aload_n 0, 1) := by decide +kernel
theorem dX9_readPlace_20 : decode cX9_readPlace 20 = .ok (.getfield 15, 3) := by decide +kernel
theorem dX9_readPlace_23 : decode cX9_readPlace 23 = .ok (.invokevirtual 69, 3) := by decide +kernel
theorem dX9_readPlace_26 : decode cX9_readPlace 26 = .ok (.ifCond .eq 13, 3) := by decide +kernel
theorem dX9_readPlace_29 : decode cX9_readPlace 29 = .ok (.aload_n 0, 1) := by decide +kernel
theorem dX9_readPlace_30 : decode cX9_readPlace 30 = .ok (.getfield 9, 3) := by decide +kernel
theorem dX9_readPlace_33 : decode cX9_readPlace 33 = .ok (.invokevirtual 73, 3) := by decide +kernel
theorem dX9_readPlace_36 : decode cX9_readPlace 36 = .ok (.ifCond .ne 5, 3) := by decide +kernel
theorem dX9_readPlace_39 : decode cX9_readPlace 39 = .ok (.iconst 0, 1) := by decide +kernel
theorem dX9_readPlace_40 : decode cX9_readPlace 40 = .ok (.ireturn, 1) := by decide +kernel
theorem dX9_readPlace_41 : decode cX9_readPlace 41 = .ok (.aload_n 0, 1) := by decide +kernel
theorem dX9_readPlace_42 : decode cX9_readPlace 42 = .ok (.getfield 15, 3) := by decide +kernel
theorem dX9_readPlace_45 : decode cX9_readPlace 45 = .ok (.getfield 76, 3) := by decide +kernel
theorem dX9_readPlace_48 : decode cX9_readPlace 48 = .ok (.aload_n 0, 1) := by decide +kernel
theorem dX9_readPlace_49 : decode cX9_readPlace 49 = .ok (.getfield 15, 3) := by decide +kernel
theorem dX9_readPlace_52 : decode cX9_readPlace 52 = .ok (.getfield 37, 3) := by decide +kernel
theorem dX9_readPlace_55 : decode cX9_readPlace 55 = .ok (.lload_n 1, 1) := by decide +kernel
theorem dX9_readPlace_56 : decode cX9_readPlace 56 = .ok (.lastore, 1) := by decide +kernel
theorem dX9_readPlace_57 : decode cX9_readPlace 57 = .ok (.aload_n 0, 1) := by decide +kernel
theorem dX9_readPlace_58 : decode cX9_readPlace 58 = .ok (.getfield 15, 3) := by decide +kernel
theorem dX9_readPlace_61 : decode cX9_readPlace 61 = .ok (.dup, 1) := by decide +kernel
theorem dX9_readPlace_62 : decode cX9_readPlace 62 = .ok (.getfield 37, 3) := by decide +kernel
theorem dX9_readPlace_65 : decode cX9_readPlace 65 = .ok (.iconst 1, 1) := by decide +kernel
theorem dX9_readPlace_66 : decode cX9_readPlace 66 = .ok (.iadd, 1) := by decide +kernel
theorem dX9_readPlace_67 : decode cX9_readPlace 67 = .ok (.putfield 37, 3) := by decide +kernel
theorem dX9_readPlace_70 : decode cX9_readPlace 70 = .ok (.iconst 1, 1) := by decide +kernel
theorem dX9_readPlace_71 : decode cX9_readPlace 71 = .ok (.ireturn, 1) := by decide +kernel
theorem dX9_readVane_0 : decode cX9_readVane 0 = .ok (.aload_n 0, 1) := by decide +kernel
theorem dX9_readVane_1 : decode cX9_readVane 1 = .ok (.getfield 15, 3) := by decide +kernel
theorem dX9_readVane_4 : decode cX9_readVane 4 = .ok (.getfield 47, 3) := by decide +kernel
theorem dX9_readVane_7 : decode cX9_readVane 7 = .ok (.istore_n 1, 1) := by decide +kernel
theorem dX9_readVane_8 : decode cX9_readVane 8 = .ok (.aload_n 0, 1) := by decide +kernel
theorem dX9_readVane_9 : decode cX9_readVane 9 = .ok (.getfield 9, 3) := by decide +kernel
theorem dX9_readVane_12 : decode cX9_readVane 12 = .ok (.invokevirtual 62, 3) := by decide +kernel
theorem dX9_readVane_15 : decode cX9_readVane 15 = .ok (.aload_n 0, 1) := by decide +kernel
theorem dX9_readVane_16 : decode cX9_readVane 16 = .ok (.getfield 15, 3) := by decide +kernel
theorem dX9_readVane_19 : decode cX9_readVane 19 = .ok (.getfield 80, 3) := by decide +kernel
theorem dX9_readVane_22 : decode cX9_readVane 22 = .ok (.iload_n 1, 1) := by decide +kernel
theorem dX9_readVane_23 : decode cX9_readVane 23 = .ok (.aload_n 0, 1) := by decide +kernel
theorem dX9_readVane_24 : decode cX9_readVane 24 = .ok (.getfield 9, 3) := by decide +kernel
theorem dX9_readVane_27 : decode cX9_readVane 27 = .ok (.getfield 65, 3) := by decide +kernel
theorem dX9_readVane_30 : decode cX9_readVane 30 = .ok (.lastore, 1) := by decide +kernel
theorem dX9_readVane_31 : decode cX9_readVane 31 = .ok (.aload_n 0, 1) := by decide +kernel
theorem dX9_readVane_32 : decode cX9_readVane 32 = .ok (.getfield 9, 3) := by decide +kernel
theorem dX9_readVane_35 : decode cX9_readVane 35 = .ok (.aload_n 0, 1) := by decide +kernel
theorem dX9_readVane_36 : decode cX9_readVane 36 = .ok (.getfield 15, 3) := by decide +kernel
theorem dX9_readVane_39 : decode cX9_readVane 39 = .ok (.invokevirtual 69, 3) := by decide +kernel
theorem dX9_readVane_42 : decode cX9_readVane 42 = .ok (.ifCond .eq 27, 3) := by decide +kernel
theorem dX9_readVane_45 : decode cX9_readVane 45 = .ok (.aload_n 0, 1) := by decide +kernel
theorem dX9_readVane_46 : decode cX9_readVane 46 = .ok (.getfield 9, 3) := by decide +kernel
theorem dX9_readVane_49 : decode cX9_readVane 49 = .ok (.iconst 2, 1) := by decide +kernel
theorem dX9_readVane_50 : decode cX9_readVane 50 = .ok (.invokevirtual 83, 3) := by decide +kernel
theorem dX9_readVane_53 : decode cX9_readVane 53 = .ok (.ifCond .eq 16, 3) := by decide +kernel
theorem dX9_readVane_56 : decode cX9_readVane 56 = .ok (.aload_n 0, 1) := by decide +kernel
theorem dX9_readVane_57 : decode cX9_readVane 57 = .ok (.getfield 9, 3) := by decide +kernel
theorem dX9_readVane_60 : decode cX9_readVane 60 = .ok (.iconst 4, 1) := by decide +kernel
theorem dX9_readVane_61 : decode cX9_readVane 61 = .ok (.bipush 60, 2) := by decide +kernel
theorem dX9_readVane_63 : decode cX9_readVane 63 = .ok (.invokevirtual 86, 3) := by decide +kernel
theorem dX9_readVane_66 : decode cX9_readVane 66 = .ok (.ifCond .ne 5, 3) := by decide +kernel
theorem dX9_readVane_69 : decode cX9_readVane 69 = .ok (.iconst 0, 1) := by decide +kernel
theorem dX9_readVane_70 : decode cX9_readVane 70 = .ok (.ireturn, 1) := by decide +kernel
theorem dX9_readVane_71 : decode cX9_readVane 71 = .ok (.aload_n 0, 1) := by decide +kernel
theorem dX9_readVane_72 : decode cX9_readVane 72 = .ok (.getfield 15, 3) := by decide +kernel
theorem dX9_readVane_75 : decode cX9_readVane 75 = .ok (.getfield 90, 3) := by decide +kernel
theorem dX9_readVane_78 : decode cX9_readVane 78 = .ok (.iload_n 1, 1) := by decide +kernel
theorem dX9_readVane_79 : decode cX9_readVane 79 = .ok (.aload_n 0, 1) := by decide +kernel
theorem dX9_readVane_80 : decode cX9_readVane 80 = .ok (.getfield 9, 3) := by decide +kernel
theorem dX9_readVane_83 : decode cX9_readVane 83 = .ok (.getfield 94, 3) := by decide +kernel
theorem dX9_readVane_86 : decode cX9_readVane 86 = .ok (.iastore, 1) := by decide +kernel
theorem dX9_readVane_87 : decode cX9_readVane 87 = .ok (.aload_n 0, 1) := by decide +kernel
theorem dX9_readVane_88 : decode cX9_readVane 88 = .ok (.getfield 9, 3) := by decide +kernel
theorem dX9_readVane_91 : decode cX9_readVane 91 = .ok (.iconst 3, 1) := by decide +kernel
theorem dX9_readVane_92 : decode cX9_readVane 92 = .ok (.invokevirtual 83, 3) := by decide +kernel
theorem dX9_readVane_95 : decode cX9_readVane 95 = .ok (.ifCond .eq 17, 3) := by decide +kernel
theorem dX9_readVane_98 : decode cX9_readVane 98 = .ok (.aload_n 0, 1) := by decide +kernel
theorem dX9_readVane_99 : decode cX9_readVane 99 = .ok (.getfield 9, 3) := by decide +kernel
theorem dX9_readVane_102 : decode cX9_readVane 102 = .ok (.aload_n 0, 1) := by decide +kernel
theorem dX9_readVane_103 : decode cX9_readVane 103 = .ok (.getfield 15, 3) := by decide +kernel
theorem dX9_readVane_106 : decode cX9_readVane 106 = .ok (.invokevirtual 97, 3) := by decide +kernel
theorem dX9_readVane_109 : decode cX9_readVane 109 = .ok (.ifCond .ne 5, 3) := by decide +kernel
theorem dX9_readVane_112 : decode cX9_readVane 112 = .ok (.iconst 0, 1) := by decide +kernel
theorem dX9_readVane_113 : decode cX9_readVane 113 = .ok (.ireturn, 1) := by decide +kernel
theorem dX9_readVane_114 : decode cX9_readVane 114 = .ok (.aload_n 0, 1) := by decide +kernel
theorem dX9_readVane_115 : decode cX9_readVane 115 = .ok (.getfield 15, 3) := by decide +kernel
theorem dX9_readVane_118 : decode cX9_readVane 118 = .ok (.getfield 100, 3) := by decide +kernel
theorem dX9_readVane_121 : decode cX9_readVane 121 = .ok (.iload_n 1, 1) := by decide +kernel
theorem dX9_readVane_122 : decode cX9_readVane 122 = .ok (.aload_n 0, 1) := by decide +kernel
theorem dX9_readVane_123 : decode cX9_readVane 123 = .ok (.getfield 9, 3) := by decide +kernel
theorem dX9_readVane_126 : decode cX9_readVane 126 = .ok (.getfield 94, 3) := by decide +kernel
theorem dX9_readVane_129 : decode cX9_readVane 129 = .ok (.iastore, 1) := by decide +kernel
theorem dX9_readVane_130 : decode cX9_readVane 130 = .ok (.aload_n 0, 1) := by decide +kernel
theorem dX9_readVane_131 : decode cX9_readVane 131 = .ok (.getfield 9, 3) := by decide +kernel
theorem dX9_readVane_134 : decode cX9_readVane 134 = .ok (.iconst 4, 1) := by decide +kernel
theorem dX9_readVane_135 : decode cX9_readVane 135 = .ok (.bipush 99, 2) := by decide +kernel
theorem dX9_readVane_137 : decode cX9_readVane 137 = .ok (.invokevirtual 103, 3) := by decide +kernel
theorem dX9_readVane_140 : decode cX9_readVane 140 = .ok (.ifCond .ne 5, 3) := by decide +kernel
theorem dX9_readVane_143 : decode cX9_readVane 143 = .ok (.iconst 0, 1) := by decide +kernel
theorem dX9_readVane_144 : decode cX9_readVane 144 = .ok (.ireturn, 1) := by decide +kernel
theorem dX9_readVane_145 : decode cX9_readVane 145 = .ok (.aload_n 0, 1) := by decide +kernel
theorem dX9_readVane_146 : decode cX9_readVane 146 = .ok (.getfield 15, 3) := by decide +kernel
theorem dX9_readVane_149 : decode cX9_readVane 149 = .ok (.getfield 106, 3) := by decide +kernel
theorem dX9_readVane_152 : decode cX9_readVane 152 = .ok (.iload_n 1, 1) := by decide +kernel
theorem dX9_readVane_153 : decode cX9_readVane 153 = .ok (.aload_n 0, 1) := by decide +kernel
theorem dX9_readVane_154 : decode cX9_readVane 154 = .ok (.getfield 9, 3) := by decide +kernel
theorem dX9_readVane_157 : decode cX9_readVane 157 = .ok (.getfield 94, 3) := by decide +kernel
theorem dX9_readVane_160 : decode cX9_readVane 160 = .ok (.iastore, 1) := by decide +kernel
theorem dX9_readVane_161 : decode cX9_readVane 161 = .ok (.aload_n 0, 1) := by decide +kernel
theorem dX9_readVane_162 : decode cX9_readVane 162 = .ok (.getfield 9, 3) := by decide +kernel
theorem dX9_readVane_165 : decode cX9_readVane 165 = .ok (.iconst 5, 1) := by decide +kernel
theorem dX9_readVane_166 : decode cX9_readVane 166 = .ok (.aload_n 0, 1) := by decide +kernel
theorem dX9_readVane_167 : decode cX9_readVane 167 = .ok (.getfield 15, 3) := by decide +kernel
theorem dX9_readVane_170 : decode cX9_readVane 170 = .ok (.getfield 90, 3) := by decide +kernel
theorem dX9_readVane_173 : decode cX9_readVane 173 = .ok (.iload_n 1, 1) := by decide +kernel
theorem dX9_readVane_174 : decode cX9_readVane 174 = .ok (.iaload, 1) := by decide +kernel
theorem dX9_readVane_175 : decode cX9_readVane 175 = .ok (.iconst 1, 1) := by decide +kernel
theorem dX9_readVane_176 : decode cX9_readVane 176 = .ok (.isub, 1) := by decide +kernel
theorem dX9_readVane_177 : decode cX9_readVane 177 = .ok (.invokevirtual 103, 3) := by decide +kernel
theorem dX9_readVane_180 : decode cX9_readVane 180 = .ok (.ifCond .ne 5, 3) := by decide +kernel
theorem dX9_readVane_183 : decode cX9_readVane 183 = .ok (.iconst 0, 1) := by decide +kernel
theorem dX9_readVane_184 : decode cX9_readVane 184 = .ok (.ireturn, 1) := by decide +kernel
theorem dX9_readVane_185 : decode cX9_readVane 185 = .ok (.aload_n 0, 1) := by decide +kernel
theorem dX9_readVane_186 : decode cX9_readVane 186 = .ok (.getfield 15, 3) := by decide +kernel
theorem dX9_readVane_189 : decode cX9_readVane 189 = .ok (.getfield 109, 3) := by decide +kernel
theorem dX9_readVane_192 : decode cX9_readVane 192 = .ok (.iload_n 1, 1) := by decide +kernel
theorem dX9_readVane_193 : decode cX9_readVane 193 = .ok (.aload_n 0, 1) := by decide +kernel
theorem dX9_readVane_194 : decode cX9_readVane 194 = .ok (.getfield 9, 3) := by decide +kernel
theorem dX9_readVane_197 : decode cX9_readVane 197 = .ok (.getfield 94, 3) := by decide +kernel
theorem dX9_readVane_200 : decode cX9_readVane 200 = .ok (.iastore, 1) := by decide +kernel
theorem dX9_readVane_201 : decode cX9_readVane 201 = .ok (.aload_n 0, 1) := by decide +kernel
theorem dX9_readVane_202 : decode cX9_readVane 202 = .ok (.getfield 15, 3) := by decide +kernel
theorem dX9_readVane_205 : decode cX9_readVane 205 = .ok (.dup, 1) := by decide +kernel
theorem dX9_readVane_206 : decode cX9_readVane 206 = .ok (.getfield 47, 3) := by decide +kernel
theorem dX9_readVane_209 : decode cX9_readVane 209 = .ok (.iconst 1, 1) := by decide +kernel
theorem dX9_readVane_210 : decode cX9_readVane 210 = .ok (.iadd, 1) := by decide +kernel
theorem dX9_readVane_211 : decode cX9_readVane 211 = .ok (.putfield 47, 3) := by decide +kernel
theorem dX9_readVane_214 : decode cX9_readVane 214 = .ok (.aload_n 0, 1) := by decide +kernel
theorem dX9_readVane_215 : decode cX9_readVane 215 = .ok (.getfield 9, 3) := by decide +kernel
theorem dX9_readVane_218 : decode cX9_readVane 218 = .ok (.invokevirtual 73, 3) := by decide +kernel
theorem dX9_readVane_221 : decode cX9_readVane 221 = .ok (.ireturn, 1) := by decide +kernel
theorem dX9_readShaft_0 : decode cX9_readShaft 0 = .ok (.aload_n 0, 1) := by decide +kernel
theorem dX9_readShaft_1 : decode cX9_readShaft 1 = .ok (.getfield 15, 3) := by decide +kernel
theorem dX9_readShaft_4 : decode cX9_readShaft 4 = .ok (.getfield 53, 3) := by decide +kernel
theorem dX9_readShaft_7 : decode cX9_readShaft 7 = .ok (.istore_n 1, 1) := by decide +kernel
theorem dX9_readShaft_8 : decode cX9_readShaft 8 = .ok (.aload_n 0, 1) := by decide +kernel
theorem dX9_readShaft_9 : decode cX9_readShaft 9 = .ok (.getfield 15, 3) := by decide +kernel
theorem dX9_readShaft_12 : decode cX9_readShaft 12 = .ok (.getfield 112, 3) := by decide +kernel
theorem dX9_readShaft_15 : decode cX9_readShaft 15 = .ok (.iload_n 1, 1) := by decide +kernel
theorem dX9_readShaft_16 : decode cX9_readShaft 16 = .ok (.aload_n 0, 1) := by decide +kernel
theorem dX9_readShaft_17 : decode cX9_readShaft 17 = .ok (.getfield 9, 3) := by decide +kernel
theorem dX9_readShaft_20 : decode cX9_readShaft 20 = .ok (.getfield 34, 3) := by decide +kernel
theorem dX9_readShaft_23 : decode cX9_readShaft 23 = .ok (.bipush 7, 2) := by decide +kernel
theorem dX9_readShaft_25 : decode cX9_readShaft 25 = .ok (.if_icmp .ne 7, 3) := by decide +kernel
theorem dX9_readShaft_28 : decode cX9_readShaft 28 = .ok (.iconst 1, 1) := by decide +kernel
theorem dX9_readShaft_29 : decode cX9_readShaft 29 = .ok (.goto 4, 3) := by decide +kernel
theorem dX9_readShaft_32 : decode cX9_readShaft 32 = .ok (.iconst (-1), 1) := by decide +kernel
theorem dX9_readShaft_33 : decode cX9_readShaft 33 = .ok (.iastore, 1) := by decide +kernel
theorem dX9_readShaft_34 : decode cX9_readShaft 34 = .ok (.aload_n 0, 1) := by decide +kernel
theorem dX9_readShaft_35 : decode cX9_readShaft 35 = .ok (.getfield 9, 3) := by decide +kernel
theorem dX9_readShaft_38 : decode cX9_readShaft 38 = .ok (.invokevirtual 62, 3) := by decide +kernel
theorem dX9_readShaft_41 : decode cX9_readShaft 41 = .ok (.aload_n 0, 1) := by decide +kernel
theorem dX9_readShaft_42 : decode cX9_readShaft 42 = .ok (.getfield 15, 3) := by decide +kernel
theorem dX9_readShaft_45 : decode cX9_readShaft 45 = .ok (.getfield 115, 3) := by decide +kernel
theorem dX9_readShaft_48 : decode cX9_readShaft 48 = .ok (.iload_n 1, 1) := by decide +kernel
theorem dX9_readShaft_49 : decode cX9_readShaft 49 = .ok (.aload_n 0, 1) := by decide +kernel
theorem dX9_readShaft_50 : decode cX9_readShaft 50 = .ok (.getfield 9, 3) := by decide +kernel
theorem dX9_readShaft_53 : decode cX9_readShaft 53 = .ok (.getfield 65, 3) := by decide +kernel
theorem dX9_readShaft_56 : decode cX9_readShaft 56 = .ok (.lastore, 1) := by decide +kernel
theorem dX9_readShaft_57 : decode cX9_readShaft 57 = .ok (.aload_n 0, 1) := by decide +kernel
theorem dX9_readShaft_58 : decode cX9_readShaft 58 = .ok (.getfield 9, 3) := by decide +kernel
theorem dX9_readShaft_61 : decode cX9_readShaft 61 = .ok (.aload_n 0, 1) := by decide +kernel
theorem dX9_readShaft_62 : decode cX9_readShaft 62 = .ok (.getfield 15, 3) := by decide +kernel
theorem dX9_readShaft_65 : decode cX9_readShaft 65 = .ok (.invokevirtual 69, 3) := by decide +kernel
theorem dX9_readShaft_68 : decode cX9_readShaft 68 = .ok (.ifCond .eq 29, 3) := by decide +kernel
theorem dX9_readShaft_71 : decode cX9_readShaft 71 = .ok (.aload_n 0, 1) := by decide +kernel
theorem dX9_readShaft_72 : decode cX9_readShaft 72 = .ok (.getfield 9, 3) := by decide +kernel
theorem dX9_readShaft_75 : decode cX9_readShaft 75 = .ok (.bipush 8, 2) := by decide +kernel
theorem dX9_readShaft_77 : decode cX9_readShaft 77 = .ok (.invokevirtual 83, 3) := by decide +kernel
theorem dX9_readShaft_80 : decode cX9_readShaft 80 = .ok (.ifCond .eq 17, 3) := by decide +kernel
theorem dX9_readShaft_83 : decode cX9_readShaft 83 = .ok (.aload_n 0, 1) := by decide +kernel
theorem dX9_readShaft_84 : decode cX9_readShaft 84 = .ok (.getfield 9, 3) := by decide +kernel
theorem dX9_readShaft_87 : decode cX9_readShaft 87 = .ok (.aload_n 0, 1) := by decide +kernel
theorem dX9_readShaft_88 : decode cX9_readShaft 88 = .ok (.getfield 15, 3) := by decide +kernel
theorem dX9_readShaft_91 : decode cX9_readShaft 91 = .ok (.invokevirtual 118, 3) := by decide +kernel
theorem dX9_readShaft_94 : decode cX9_readShaft 94 = .ok (.ifCond .ne 5, 3) := by decide +kernel
theorem dX9_readShaft_97 : decode cX9_readShaft 97 = .ok (.iconst 0, 1) := by decide +kernel
theorem dX9_readShaft_98 : decode cX9_readShaft 98 = .ok (.ireturn, 1) := by decide +kernel
theorem dX9_readShaft_99 : decode cX9_readShaft 99 = .ok (.aload_n 0, 1) := by decide +kernel
theorem dX9_readShaft_100 : decode cX9_readShaft 100 = .ok (.getfield 15, 3) := by decide +kernel
theorem dX9_readShaft_103 : decode cX9_readShaft 103 = .ok (.getfield 121, 3) := by decide +kernel
theorem dX9_readShaft_106 : decode cX9_readShaft 106 = .ok (.iload_n 1, 1) := by decide +kernel
theorem dX9_readShaft_107 : decode cX9_readShaft 107 = .ok (.aload_n 0, 1) := by decide +kernel
theorem dX9_readShaft_108 : decode cX9_readShaft 108 = .ok (.getfield 9, 3) := by decide +kernel
theorem dX9_readShaft_111 : decode cX9_readShaft 111 = .ok (.getfield 94, 3) := by decide +kernel
theorem dX9_readShaft_114 : decode cX9_readShaft 114 = .ok (.iastore, 1) := by decide +kernel
theorem dX9_readShaft_115 : decode cX9_readShaft 115 = .ok (.aload_n 0, 1) := by decide +kernel
theorem dX9_readShaft_116 : decode cX9_readShaft 116 = .ok (.getfield 9, 3) := by decide +kernel
theorem dX9_readShaft_119 : decode cX9_readShaft 119 = .ok (.invokevirtual 124, 3) := by decide +kernel
theorem dX9_readShaft_122 : decode cX9_readShaft 122 = .ok (.ifCond .eq 38, 3) := by decide +kernel
theorem dX9_readShaft_125 : decode cX9_readShaft 125 = .ok (.aload_n 0, 1) := by decide +kernel
theorem dX9_readShaft_126 : decode cX9_readShaft 126 = .ok (.getfield 15, 3) := by decide +kernel
theorem dX9_readShaft_129 : decode cX9_readShaft 129 = .ok (.aload_n 0, 1) := by decide +kernel
theorem dX9_readShaft_130 : decode cX9_readShaft 130 = .ok (.getfield 9, 3) := by decide +kernel
theorem dX9_readShaft_133 : decode cX9_readShaft 133 = .ok (.getfield 65, 3) := by decide +kernel
theorem dX9_readShaft_136 : decode cX9_readShaft 136 = .ok (.invokevirtual 127, 3) := by decide +kernel
theorem dX9_readShaft_139 : decode cX9_readShaft 139 = .ok (.aload_n 0, 1) := by decide +kernel
theorem dX9_readShaft_140 : decode cX9_readShaft 140 = .ok (.getfield 15, 3) := by decide +kernel
theorem dX9_readShaft_143 : decode cX9_readShaft 143 = .ok (.getfield 121, 3) := by decide +kernel
theorem dX9_readShaft_146 : decode cX9_readShaft 146 = .ok (.iload_n 1, 1) := by decide +kernel
theorem dX9_readShaft_147 : decode cX9_readShaft 147 = .ok (.iaload, 1) := by decide +kernel
theorem dX9_readShaft_148 : decode cX9_readShaft 148 = .ok (.if_icmp .ne 12, 3) := by decide +kernel
theorem dX9_readShaft_151 : decode cX9_readShaft 151 = .ok (.aload_n 0, 1) := by decide +kernel
theorem dX9_readShaft_152 : decode cX9_readShaft 152 = .ok (.getfield 9, 3) := by decide +kernel
theorem dX9_readShaft_155 : decode cX9_readShaft 155 = .ok (.iconst 5, 1) := by decide +kernel
theorem dX9_readShaft_156 : decode cX9_readShaft 156 = .ok (.invokevirtual 43, 3) := by decide +kernel
theorem dX9_readShaft_159 : decode cX9_readShaft 159 = .ok (.ireturn, 1) := by decide +kernel
theorem dX9_readShaft_160 : decode cX9_readShaft 160 = .ok (.aload_n 0, 1) := by decide +kernel
theorem dX9_readShaft_161 : decode cX9_readShaft 161 = .ok (.getfield 9, 3) := by decide +kernel
theorem dX9_readShaft_164 : decode cX9_readShaft 164 = .ok (.aload_n 0, 1) := by decide +kernel
theorem dX9_readShaft_165 : decode cX9_readShaft 165 = .ok (.getfield 15, 3) := by decide +kernel
theorem dX9_readShaft_168 : decode cX9_readShaft 168 = .ok (.invokevirtual 118, 3) := by decide +kernel
theorem dX9_readShaft_171 : decode cX9_readShaft 171 = .ok (.ifCond .ne 5, 3) := by decide +kernel
theorem dX9_readShaft_174 : decode cX9_readShaft 174 = .ok (.iconst 0, 1) := by decide +kernel
theorem dX9_readShaft_175 : decode cX9_readShaft 175 = .ok (.ireturn, 1) := by decide +kernel
theorem dX9_readShaft_176 : decode cX9_readShaft 176 = .ok (.aload_n 0, 1) := by decide +kernel
theorem dX9_readShaft_177 : decode cX9_readShaft 177 = .ok (.getfield 15, 3) := by decide +kernel
theorem dX9_readShaft_180 : decode cX9_readShaft 180 = .ok (.getfield 131, 3) := by decide +kernel
theorem dX9_readShaft_183 : decode cX9_readShaft 183 = .ok (.iload_n 1, 1) := by decide +kernel
theorem dX9_readShaft_184 : decode cX9_readShaft 184 = .ok (.aload_n 0, 1) := by decide +kernel
theorem dX9_readShaft_185 : decode cX9_readShaft 185 = .ok (.getfield 9, 3) := by decide +kernel
theorem dX9_readShaft_188 : decode cX9_readShaft 188 = .ok (.getfield 94, 3) := by decide +kernel
theorem dX9_readShaft_191 : decode cX9_readShaft 191 = .ok (.iastore, 1) := by decide +kernel
theorem dX9_readShaft_192 : decode cX9_readShaft 192 = .ok (.aload_n 0, 1) := by decide +kernel
theorem dX9_readShaft_193 : decode cX9_readShaft 193 = .ok (.getfield 9, 3) := by decide +kernel
theorem dX9_readShaft_196 : decode cX9_readShaft 196 = .ok (.bipush 9, 2) := by decide +kernel
theorem dX9_readShaft_198 : decode cX9_readShaft 198 = .ok (.bipush 9, 2) := by decide +kernel
theorem dX9_readShaft_200 : decode cX9_readShaft 200 = .ok (.invokevirtual 103, 3) := by decide +kernel
theorem dX9_readShaft_203 : decode cX9_readShaft 203 = .ok (.ifCond .ne 5, 3) := by decide +kernel
theorem dX9_readShaft_206 : decode cX9_readShaft 206 = .ok (.iconst 0, 1) := by decide +kernel
theorem dX9_readShaft_207 : decode cX9_readShaft 207 = .ok (.ireturn, 1) := by decide +kernel
theorem dX9_readShaft_208 : decode cX9_readShaft 208 = .ok (.aload_n 0, 1) := by decide +kernel
theorem dX9_readShaft_209 : decode cX9_readShaft 209 = .ok (.getfield 15, 3) := by decide +kernel
theorem dX9_readShaft_212 : decode cX9_readShaft 212 = .ok (.getfield 134, 3) := by decide +kernel
theorem dX9_readShaft_215 : decode cX9_readShaft 215 = .ok (.iload_n 1, 1) := by decide +kernel
theorem dX9_readShaft_216 : decode cX9_readShaft 216 = .ok (.aload_n 0, 1) := by decide +kernel
theorem dX9_readShaft_217 : decode cX9_readShaft 217 = .ok (.getfield 9, 3) := by decide +kernel
theorem dX9_readShaft_220 : decode cX9_readShaft 220 = .ok (.getfield 94, 3) := by decide +kernel
theorem dX9_readShaft_223 : decode cX9_readShaft 223 = .ok (.iastore, 1) := by decide +kernel
theorem dX9_readShaft_224 : decode cX9_readShaft 224 = .ok (.aload_n 0, 1) := by decide +kernel
theorem dX9_readShaft_225 : decode cX9_readShaft 225 = .ok (.getfield 15, 3) := by decide +kernel
theorem dX9_readShaft_228 : decode cX9_readShaft 228 = .ok (.dup, 1) := by decide +kernel
theorem dX9_readShaft_229 : decode cX9_readShaft 229 = .ok (.getfield 53, 3) := by decide +kernel
theorem dX9_readShaft_232 : decode cX9_readShaft 232 = .ok (.iconst 1, 1) := by decide +kernel
theorem dX9_readShaft_233 : decode cX9_readShaft 233 = .ok (.iadd, 1) := by decide +kernel
theorem dX9_readShaft_234 : decode cX9_readShaft 234 = .ok (.putfield 53, 3) := by decide +kernel
theorem dX9_readShaft_237 : decode cX9_readShaft 237 = .ok (.aload_n 0, 1) := by decide +kernel
theorem dX9_readShaft_238 : decode cX9_readShaft 238 = .ok (.getfield 9, 3) := by decide +kernel
theorem dX9_readShaft_241 : decode cX9_readShaft 241 = .ok (.invokevirtual 73, 3) := by decide +kernel
theorem dX9_readShaft_244 : decode cX9_readShaft 244 = .ok (.ireturn, 1) := by decide +kernel
theorem dX10_init_0 : decode cX10_init 0 = .ok (.aload_n 0, 1) := by decide +kernel
theorem dX10_init_1 : decode cX10_init 1 = .ok (.invokespecial 3, 3) := by decide +kernel
theorem dX10_init_4 : decode cX10_init 4 = .ok (.aload_n 0, 1) := by decide +kernel
theorem dX10_init_5 : decode cX10_init 5 = .ok (.bipush 8, 2) := by decide +kernel
theorem dX10_init_7 : decode cX10_init 7 = .ok (.newarray .int, 2) := by decide +kernel
theorem dX10_init_9 : decode cX10_init 9 = .ok (.putfield 9, 3) := by decide +kernel
theorem dX10_init_12 : decode cX10_init 12 = .ok (.aload_n 0, 1) := by decide +kernel
theorem dX10_init_13 : decode cX10_init 13 = .ok (.bipush 8, 2) := by decide +kernel
theorem dX10_init_15 : decode cX10_init 15 = .ok (.newarray .int, 2) := by decide +kernel
theorem dX10_init_17 : decode cX10_init 17 = .ok (.putfield 15, 3) := by decide +kernel
theorem dX10_init_20 : decode cX10_init 20 = .ok (.return_, 1) := by decide +kernel
theorem dX10_use_0 : decode cX10_use 0 = .ok (.aload_n 0, 1) := by decide +kernel
theorem dX10_use_1 : decode cX10_use 1 = .ok (.aload_n 1, 1) := by decide +kernel
theorem dX10_use_2 : decode cX10_use 2 = .ok (.putfield 18, 3) := by decide +kernel
theorem dX10_use_5 : decode cX10_use 5 = .ok (.aload_n 0, 1) := by decide +kernel
theorem dX10_use_6 : decode cX10_use 6 = .ok (.aload_n 2, 1) := by decide +kernel
theorem dX10_use_7 : decode cX10_use 7 = .ok (.putfield 22, 3) := by decide +kernel
theorem dX10_use_10 : decode cX10_use 10 = .ok (.aload_n 0, 1) := by decide +kernel
theorem dX10_use_11 : decode cX10_use 11 = .ok (.iconst 0, 1) := by decide +kernel
theorem dX10_use_12 : decode cX10_use 12 = .ok (.putfield 26, 3) := by decide +kernel
theorem dX10_use_15 : decode cX10_use 15 = .ok (.aload_n 0, 1) := by decide +kernel
theorem dX10_use_16 : decode cX10_use 16 = .ok (.iconst 0, 1) := by decide +kernel
theorem dX10_use_17 : decode cX10_use 17 = .ok (.putfield 30, 3) := by decide +kernel
theorem dX10_use_20 : decode cX10_use 20 = .ok (.aload_n 0, 1) := by decide +kernel
theorem dX10_use_21 : decode cX10_use 21 = .ok (.iconst (-1), 1) := by decide +kernel
theorem dX10_use_22 : decode cX10_use 22 = .ok (.invokevirtual 33, 3) := by decide +kernel
theorem dX10_use_25 : decode cX10_use 25 = .ok (.aload_n 0, 1) := by decide +kernel
theorem dX10_use_26 : decode cX10_use 26 = .ok (.invokevirtual 37, 3) := by decide +kernel
theorem dX10_use_29 : decode cX10_use 29 = .ok (.return_, 1) := by decide +kernel
theorem dX10_listenFor_0 : decode cX10_listenFor 0 = .ok (.aload_n 0, 1) := by decide +kernel
theorem dX10_listenFor_1 : decode cX10_listenFor 1 = .ok (.iload_n 1, 1) := by decide +kernel
theorem dX10_listenFor_2 : decode cX10_listenFor 2 = .ok (.putfield 40, 3) := by decide +kernel
theorem dX10_listenFor_5 : decode cX10_listenFor 5 = .ok (.aload_n 0, 1) := by decide +kernel
theorem dX10_listenFor_6 : decode cX10_listenFor 6 = .ok (.iconst (-1), 1) := by decide +kernel
theorem dX10_listenFor_7 : decode cX10_listenFor 7 = .ok (.putfield 43, 3) := by decide +kernel
theorem dX10_listenFor_10 : decode cX10_listenFor 10 = .ok (.return_, 1) := by decide +kernel
theorem dX10_blow_0 : decode cX10_blow 0 = .ok (.aload_n 0, 1) := by decide +kernel
theorem dX10_blow_1 : decode cX10_blow 1 = .ok (.getfield 22, 3) := by decide +kernel
theorem dX10_blow_4 : decode cX10_blow 4 = .ok (.getfield 46, 3) := by decide +kernel
theorem dX10_blow_7 : decode cX10_blow 7 = .ok (.iload_n 1, 1) := by decide +kernel
theorem dX10_blow_8 : decode cX10_blow 8 = .ok (.iload_n 2, 1) := by decide +kernel
theorem dX10_blow_9 : decode cX10_blow 9 = .ok (.iastore, 1) := by decide +kernel
theorem dX10_blow_10 : decode cX10_blow 10 = .ok (.aload_n 0, 1) := by decide +kernel
theorem dX10_blow_11 : decode cX10_blow 11 = .ok (.getfield 22, 3) := by decide +kernel
theorem dX10_blow_14 : decode cX10_blow 14 = .ok (.getfield 51, 3) := by decide +kernel
theorem dX10_blow_17 : decode cX10_blow 17 = .ok (.iload_n 1, 1) := by decide +kernel
theorem dX10_blow_18 : decode cX10_blow 18 = .ok (.iload_n 3, 1) := by decide +kernel
theorem dX10_blow_19 : decode cX10_blow 19 = .ok (.iastore, 1) := by decide +kernel
theorem dX10_blow_20 : decode cX10_blow 20 = .ok (.aload_n 0, 1) := by decide +kernel
theorem dX10_blow_21 : decode cX10_blow 21 = .ok (.invokevirtual 37, 3) := by decide +kernel
theorem dX10_blow_24 : decode cX10_blow 24 = .ok (.return_, 1) := by decide +kernel
theorem dX10_blowEverywhere_0 : decode cX10_blowEverywhere 0 = .ok (.aload_n 0, 1) := by decide +kernel
theorem dX10_blowEverywhere_1 : decode cX10_blowEverywhere 1 = .ok (.getfield 22, 3) := by decide +kernel
theorem dX10_blowEverywhere_4 : decode cX10_blowEverywhere 4 = .ok (.iload_n 1, 1) := by decide +kernel
theorem dX10_blowEverywhere_5 : decode cX10_blowEverywhere 5 = .ok (.iload_n 2, 1) := by decide +kernel
theorem dX10_blowEverywhere_6 : decode cX10_blowEverywhere 6 = .ok (.invokevirtual 54, 3) := by decide +kernel
theorem dX10_blowEverywhere_9 : decode cX10_blowEverywhere 9 = .ok (.aload_n 0, 1) := by decide +kernel
theorem dX10_blowEverywhere_10 : decode cX10_blowEverywhere 10 = .ok (.invokevirtual 37, 3) := by decide +kernel
theorem dX10_blowEverywhere_13 : decode cX10_blowEverywhere 13 = .ok (.return_, 1) := by decide +kernel
theorem dX10_aim_0 : decode cX10_aim 0 = .ok (.iconst 0, 1) := by decide +kernel
theorem dX10_aim_1 : decode cX10_aim 1 = .ok (.istore_n 1, 1) := by decide +kernel
theorem dX10_aim_2 : decode cX10_aim 2 = .ok (.iload_n 1, 1) := by decide +kernel
theorem dX10_aim_3 : decode cX10_aim 3 = .ok (.aload_n 0, 1) := by decide +kernel
theorem dX10_aim_4 : decode cX10_aim 4 = .ok (.getfield 18, 3) := by decide +kernel
theorem dX10_aim_7 : decode cX10_aim 7 = .ok (.getfield 58, 3) := by decide +kernel
theorem dX10_aim_10 : decode cX10_aim 10 = .ok (.if_icmp .ge 88, 3) := by decide +kernel
theorem dX10_aim_13 : decode cX10_aim 13 = .ok (.aload_n 0, 1) := by decide +kernel
theorem dX10_aim_14 : decode cX10_aim 14 = .ok (.getfield 18, 3) := by decide +kernel
theorem dX10_aim_17 : decode cX10_aim 17 = .ok (.getfield 63, 3) := by decide +kernel
theorem dX10_aim_20 : decode cX10_aim 20 = .ok (.iload_n 1, 1) := by decide +kernel
theorem dX10_aim_21 : decode cX10_aim 21 = .ok (.iaload, 1) := by decide +kernel
theorem dX10_aim_22 : decode cX10_aim 22 = .ok (.istore_n 2, 1) := by decide +kernel
theorem dX10_aim_23 : decode cX10_aim 23 = .ok (.aload_n 0, 1) := by decide +kernel
theorem dX10_aim_24 : decode cX10_aim 24 = .ok (.getfield 18, 3) := by decide +kernel
theorem dX10_aim_27 : decode cX10_aim 27 = .ok (.getfield 66, 3) := by decide +kernel
theorem dX10_aim_30 : decode cX10_aim 30 = .ok (.iload_n 1, 1) := by decide +kernel
theorem dX10_aim_31 : decode cX10_aim 31 = .ok (.iaload, 1) := by decide +kernel
theorem dX10_aim_32 : decode cX10_aim 32 = .ok (.istore_n 3, 1) := by decide +kernel
theorem dX10_aim_33 : decode cX10_aim 33 = .ok (.iload_n 2, 1) := by decide +kernel
theorem dX10_aim_34 : decode cX10_aim 34 = .ok (.aload_n 0, 1) := by decide +kernel
theorem dX10_aim_35 : decode cX10_aim 35 = .ok (.getfield 22, 3) := by decide +kernel
theorem dX10_aim_38 : decode cX10_aim 38 = .ok (.getfield 46, 3) := by decide +kernel
theorem dX10_aim_41 : decode cX10_aim 41 = .ok (.iload_n 3, 1) := by decide +kernel
theorem dX10_aim_42 : decode cX10_aim 42 = .ok (.iaload, 1) := by decide +kernel
theorem dX10_aim_43 : decode cX10_aim 43 = .ok (.imul, 1) := by decide +kernel
theorem dX10_aim_44 : decode cX10_aim 44 = .ok (.bipush 8, 2) := by decide +kernel
theorem dX10_aim_46 : decode cX10_aim 46 = .ok (.iadd, 1) := by decide +kernel
theorem dX10_aim_47 : decode cX10_aim 47 = .ok (.bipush 16, 2) := by decide +kernel
theorem dX10_aim_49 : decode cX10_aim 49 = .ok (.idiv, 1) := by decide +kernel
theorem dX10_aim_50 : decode cX10_aim 50 = .ok (.istore 4, 2) := by decide +kernel
theorem dX10_aim_52 : decode cX10_aim 52 = .ok (.aload_n 0, 1) := by decide +kernel
theorem dX10_aim_53 : decode cX10_aim 53 = .ok (.getfield 22, 3) := by decide +kernel
theorem dX10_aim_56 : decode cX10_aim 56 = .ok (.getfield 51, 3) := by decide +kernel
theorem dX10_aim_59 : decode cX10_aim 59 = .ok (.iload_n 3, 1) := by decide +kernel
theorem dX10_aim_60 : decode cX10_aim 60 = .ok (.iaload, 1) := by decide +kernel
theorem dX10_aim_61 : decode cX10_aim 61 = .ok (.ifCond .ne 13, 3) := by decide +kernel
theorem dX10_aim_64 : decode cX10_aim 64 = .ok (.aload_n 0, 1) := by decide +kernel
theorem dX10_aim_65 : decode cX10_aim 65 = .ok (.getfield 9, 3) := by decide +kernel
theorem dX10_aim_68 : decode cX10_aim 68 = .ok (.iload_n 1, 1) := by decide +kernel
theorem dX10_aim_69 : decode cX10_aim 69 = .ok (.iconst (-1), 1) := by decide +kernel
theorem dX10_aim_70 : decode cX10_aim 70 = .ok (.iastore, 1) := by decide +kernel
theorem dX10_aim_71 : decode cX10_aim 71 = .ok (.goto 21, 3) := by decide +kernel
theorem dX10_aim_74 : decode cX10_aim 74 = .ok (.aload_n 0, 1) := by decide +kernel
theorem dX10_aim_75 : decode cX10_aim 75 = .ok (.getfield 9, 3) := by decide +kernel
theorem dX10_aim_78 : decode cX10_aim 78 = .ok (.iload_n 1, 1) := by decide +kernel
theorem dX10_aim_79 : decode cX10_aim 79 = .ok (.iload 4, 2) := by decide +kernel
theorem dX10_aim_81 : decode cX10_aim 81 = .ok (.iload_n 2, 1) := by decide +kernel
theorem dX10_aim_82 : decode cX10_aim 82 = .ok (.if_icmp .lt 7, 3) := by decide +kernel
theorem dX10_aim_85 : decode cX10_aim 85 = .ok (.iconst 0, 1) := by decide +kernel
theorem dX10_aim_86 : decode cX10_aim 86 = .ok (.goto 5, 3) := by decide +kernel
theorem dX10_aim_89 : decode cX10_aim 89 = .ok (.iload 4, 2) := by decide +kernel
theorem dX10_aim_91 : decode cX10_aim 91 = .ok (.iastore, 1) := by decide +kernel
theorem dX10_aim_92 : decode cX10_aim 92 = .ok (.iinc 1 1, 3) := by decide +kernel
theorem dX10_aim_95 : decode cX10_aim 95 = .ok (.goto (-93), 3) := by decide +kernel
theorem dX10_aim_98 : decode cX10_aim 98 = .ok (.return_, 1) := by decide +kernel
theorem dX10_isRight_0 : decode cX10_isRight 0 = .ok (.aload_n 0, 1) := by decide +kernel
theorem dX10_isRight_1 : decode cX10_isRight 1 = .ok (.getfield 9, 3) := by decide +kernel
theorem dX10_isRight_4 : decode cX10_isRight 4 = .ok (.iload_n 1, 1) := by decide +kernel
theorem dX10_isRight_5 : decode cX10_isRight 5 = .ok (.iaload, 1) := by decide +kernel
theorem dX10_isRight_6 : decode cX10_isRight 6 = .ok (.iconst (-1), 1) := by decide +kernel
theorem dX10_isRight_7 : decode cX10_isRight 7 = .ok (.if_icmp .eq 21, 3) := by decide +kernel
theorem dX10_isRight_10 : decode cX10_isRight 10 = .ok (.aload_n 0, 1) := by decide +kernel
theorem dX10_isRight_11 : decode cX10_isRight 11 = .ok (.getfield 9, 3) := by decide +kernel
theorem dX10_isRight_14 : decode cX10_isRight 14 = .ok (.iload_n 1, 1) := by decide +kernel
theorem dX10_isRight_15 : decode cX10_isRight 15 = .ok (.iaload, 1) := by decide +kernel
theorem dX10_isRight_16 : decode cX10_isRight 16 = .ok (.aload_n 0, 1) := by decide +kernel
theorem dX10_isRight_17 : decode cX10_isRight 17 = .ok (.getfield 22, 3) := by decide +kernel
theorem dX10_isRight_20 : decode cX10_isRight 20 = .ok (.getfield 69, 3) := by decide +kernel
theorem dX10_isRight_23 : decode cX10_isRight 23 = .ok (.iload_n 1, 1) := by decide +kernel
theorem dX10_isRight_24 : decode cX10_isRight 24 = .ok (.iaload, 1) := by decide +kernel
theorem dX10_isRight_25 : decode cX10_isRight 25 = .ok (.if_icmp .ne 7, 3) := by decide +kernel
theorem dX10_isRight_28 : decode cX10_isRight 28 = .ok (.iconst 1, 1) := by decide +kernel
theorem dX10_isRight_29 : decode cX10_isRight 29 = .ok (.goto 4, 3) := by decide +kernel
theorem dX10_isRight_32 : decode cX10_isRight 32 = .ok (.iconst 0, 1) := by decide +kernel
theorem dX10_isRight_33 : decode cX10_isRight 33 = .ok (.ireturn, 1) := by decide +kernel
theorem dX10_rightSet_0 : decode cX10_rightSet 0 = .ok (.iconst 0, 1) := by decide +kernel
theorem dX10_rightSet_1 : decode cX10_rightSet 1 = .ok (.istore_n 1, 1) := by decide +kernel
theorem dX10_rightSet_2 : decode cX10_rightSet 2 = .ok (.iconst 0, 1) := by decide +kernel
theorem dX10_rightSet_3 : decode cX10_rightSet 3 = .ok (.istore_n 2, 1) := by decide +kernel
theorem dX10_rightSet_4 : decode cX10_rightSet 4 = .ok (.iload_n 2, 1) := by decide +kernel
theorem dX10_rightSet_5 : decode cX10_rightSet 5 = .ok (.aload_n 0, 1) := by decide +kernel
theorem dX10_rightSet_6 : decode cX10_rightSet 6 = .ok (.getfield 18, 3) := by decide +kernel
theorem dX10_rightSet_9 : decode cX10_rightSet 9 = .ok (.getfield 58, 3) := by decide +kernel
theorem dX10_rightSet_12 : decode cX10_rightSet 12 = .ok (.if_icmp .ge 20, 3) := by decide +kernel
theorem dX10_rightSet_15 : decode cX10_rightSet 15 = .ok (.iload_n 1, 1) := by decide +kernel
theorem dX10_rightSet_16 : decode cX10_rightSet 16 = .ok (.iload_n 2, 1) := by decide +kernel
theorem dX10_rightSet_17 : decode cX10_rightSet 17 = .ok (.aload_n 0, 1) := by decide +kernel
theorem dX10_rightSet_18 : decode cX10_rightSet 18 = .ok (.iload_n 2, 1) := by decide +kernel
theorem dX10_rightSet_19 : decode cX10_rightSet 19 = .ok (.invokevirtual 72, 3) := by decide +kernel
theorem dX10_rightSet_22 : decode cX10_rightSet 22 = .ok (.invokestatic 76, 3) := by decide +kernel
theorem dX10_rightSet_25 : decode cX10_rightSet 25 = .ok (.istore_n 1, 1) := by decide +kernel
theorem dX10_rightSet_26 : decode cX10_rightSet 26 = .ok (.iinc 2 1, 3) := by decide +kernel
theorem dX10_rightSet_29 : decode cX10_rightSet 29 = .ok (.goto (-25), 3) := by decide +kernel
theorem dX10_rightSet_32 : decode cX10_rightSet 32 = .ok (.iload_n 1, 1) := by decide +kernel
theorem dX10_rightSet_33 : decode cX10_rightSet 33 = .ok (.ireturn, 1) := by decide +kernel
theorem dX10_gap_0 : decode cX10_gap 0 = .ok (.iload_n 2, 1) := by decide +kernel
theorem dX10_gap_1 : decode cX10_gap 1 = .ok (.aload_n 0, 1) := by decide +kernel
theorem dX10_gap_2 : decode cX10_gap 2 = .ok (.getfield 9, 3) := by decide +kernel
theorem dX10_gap_5 : decode cX10_gap 5 = .ok (.iload_n 1, 1) := by decide +kernel
theorem dX10_gap_6 : decode cX10_gap 6 = .ok (.iaload, 1) := by decide +kernel
theorem dX10_gap_7 : decode cX10_gap 7 = .ok (.if_icmp .ge 14, 3) := by decide +kernel
theorem dX10_gap_10 : decode cX10_gap 10 = .ok (.aload_n 0, 1) := by decide +kernel
theorem dX10_gap_11 : decode cX10_gap 11 = .ok (.getfield 9, 3) := by decide +kernel
theorem dX10_gap_14 : decode cX10_gap 14 = .ok (.iload_n 1, 1) := by decide +kernel
theorem dX10_gap_15 : decode cX10_gap 15 = .ok (.iaload, 1) := by decide +kernel
theorem dX10_gap_16 : decode cX10_gap 16 = .ok (.iload_n 2, 1) := by decide +kernel
theorem dX10_gap_17 : decode cX10_gap 17 = .ok (.isub, 1) := by decide +kernel
theorem dX10_gap_18 : decode cX10_gap 18 = .ok (.goto 11, 3) := by decide +kernel
theorem dX10_gap_21 : decode cX10_gap 21 = .ok (.iload_n 2, 1) := by decide +kernel
theorem dX10_gap_22 : decode cX10_gap 22 = .ok (.aload_n 0, 1) := by decide +kernel
theorem dX10_gap_23 : decode cX10_gap 23 = .ok (.getfield 9, 3) := by decide +kernel
theorem dX10_gap_26 : decode cX10_gap 26 = .ok (.iload_n 1, 1) := by decide +kernel
theorem dX10_gap_27 : decode cX10_gap 27 = .ok (.iaload, 1) := by decide +kernel
theorem dX10_gap_28 : decode cX10_gap 28 = .ok (.isub, 1) := by decide +kernel
theorem dX10_gap_29 : decode cX10_gap 29 = .ok (.istore_n 3, 1) := by decide +kernel
theorem dX10_gap_30 : decode cX10_gap 30 = .ok (.aload_n 0, 1) := by decide +kernel
theorem dX10_gap_31 : decode cX10_gap 31 = .ok (.getfield 18, 3) := by decide +kernel
theorem dX10_gap_34 : decode cX10_gap 34 = .ok (.getfield 63, 3) := by decide +kernel
theorem dX10_gap_37 : decode cX10_gap 37 = .ok (.iload_n 1, 1) := by decide +kernel
theorem dX10_gap_38 : decode cX10_gap 38 = .ok (.iaload, 1) := by decide +kernel
theorem dX10_gap_39 : decode cX10_gap 39 = .ok (.iload_n 3, 1) := by decide +kernel
theorem dX10_gap_40 : decode cX10_gap 40 = .ok (.isub, 1) := by decide +kernel
theorem dX10_gap_41 : decode cX10_gap 41 = .ok (.istore 4, 2) := by decide +kernel
theorem dX10_gap_43 : decode cX10_gap 43 = .ok (.iload_n 3, 1) := by decide +kernel
theorem dX10_gap_44 : decode cX10_gap 44 = .ok (.iload 4, 2) := by decide +kernel
theorem dX10_gap_46 : decode cX10_gap 46 = .ok (.if_icmp .ge 7, 3) := by decide +kernel
theorem dX10_gap_49 : decode cX10_gap 49 = .ok (.iload_n 3, 1) := by decide +kernel
theorem dX10_gap_50 : decode cX10_gap 50 = .ok (.goto 5, 3) := by decide +kernel
theorem dX10_gap_53 : decode cX10_gap 53 = .ok (.iload 4, 2) := by decide +kernel
theorem dX10_gap_55 : decode cX10_gap 55 = .ok (.ireturn, 1) := by decide +kernel
theorem dX10_gapNow_0 : decode cX10_gapNow 0 = .ok (.aload_n 0, 1) := by decide +kernel
theorem dX10_gapNow_1 : decode cX10_gapNow 1 = .ok (.getfield 9, 3) := by decide +kernel
theorem dX10_gapNow_4 : decode cX10_gapNow 4 = .ok (.iload_n 1, 1) := by decide +kernel
theorem dX10_gapNow_5 : decode cX10_gapNow 5 = .ok (.iaload, 1) := by decide +kernel
theorem dX10_gapNow_6 : decode cX10_gapNow 6 = .ok (.iconst (-1), 1) := by decide +kernel
theorem dX10_gapNow_7 : decode cX10_gapNow 7 = .ok (.if_icmp .ne 7, 3) := by decide +kernel
theorem dX10_gapNow_10 : decode cX10_gapNow 10 = .ok (.iconst 0, 1) := by decide +kernel
theorem dX10_gapNow_11 : decode cX10_gapNow 11 = .ok (.goto 17, 3) := by decide +kernel
theorem dX10_gapNow_14 : decode cX10_gapNow 14 = .ok (.aload_n 0, 1) := by decide +kernel
theorem dX10_gapNow_15 : decode cX10_gapNow 15 = .ok (.iload_n 1, 1) := by decide +kernel
theorem dX10_gapNow_16 : decode cX10_gapNow 16 = .ok (.aload_n 0, 1) := by decide +kernel
theorem dX10_gapNow_17 : decode cX10_gapNow 17 = .ok (.getfield 22, 3) := by decide +kernel
theorem dX10_gapNow_20 : decode cX10_gapNow 20 = .ok (.getfield 69, 3) := by decide +kernel
theorem dX10_gapNow_23 : decode cX10_gapNow 23 = .ok (.iload_n 1, 1) := by decide +kernel
theorem dX10_gapNow_24 : decode cX10_gapNow 24 = .ok (.iaload, 1) := by decide +kernel
theorem dX10_gapNow_25 : decode cX10_gapNow 25 = .ok (.invokevirtual 80, 3) := by decide +kernel
theorem dX10_gapNow_28 : decode cX10_gapNow 28 = .ok (.ireturn, 1) := by decide +kernel
theorem dX10_shorterWay_0 : decode cX10_shorterWay 0 = .ok (.aload_n 0, 1) := by decide +kernel
theorem dX10_shorterWay_1 : decode cX10_shorterWay 1 = .ok (.getfield 9, 3) := by decide +kernel
theorem dX10_shorterWay_4 : decode cX10_shorterWay 4 = .ok (.iload_n 1, 1) := by decide +kernel
theorem dX10_shorterWay_5 : decode cX10_shorterWay 5 = .ok (.iaload, 1) := by decide +kernel
theorem dX10_shorterWay_6 : decode cX10_shorterWay 6 = .ok (.aload_n 0, 1) := by decide +kernel
theorem dX10_shorterWay_7 : decode cX10_shorterWay 7 = .ok (.getfield 22, 3) := by decide +kernel
theorem dX10_shorterWay_10 : decode cX10_shorterWay 10 = .ok (.getfield 69, 3) := by decide +kernel
theorem dX10_shorterWay_13 : decode cX10_shorterWay 13 = .ok (.iload_n 1, 1) := by decide +kernel
theorem dX10_shorterWay_14 : decode cX10_shorterWay 14 = .ok (.iaload, 1) := by decide +kernel
theorem dX10_shorterWay_15 : decode cX10_shorterWay 15 = .ok (.isub, 1) := by decide +kernel
theorem dX10_shorterWay_16 : decode cX10_shorterWay 16 = .ok (.istore_n 2, 1) := by decide +kernel
theorem dX10_shorterWay_17 : decode cX10_shorterWay 17 = .ok (.iload_n 2, 1) := by decide +kernel
theorem dX10_shorterWay_18 : decode cX10_shorterWay 18 = .ok (.ifCond .ge 15, 3) := by decide +kernel
theorem dX10_shorterWay_21 : decode cX10_shorterWay 21 = .ok (.iload_n 2, 1) := by decide +kernel
theorem dX10_shorterWay_22 : decode cX10_shorterWay 22 = .ok (.aload_n 0, 1) := by decide +kernel
theorem dX10_shorterWay_23 : decode cX10_shorterWay 23 = .ok (.getfield 18, 3) := by decide +kernel
theorem dX10_shorterWay_26 : decode cX10_shorterWay 26 = .ok (.getfield 63, 3) := by decide +kernel
theorem dX10_shorterWay_29 : decode cX10_shorterWay 29 = .ok (.iload_n 1, 1) := by decide +kernel
theorem dX10_shorterWay_30 : decode cX10_shorterWay 30 = .ok (.iaload, 1) := by decide +kernel
theorem dX10_shorterWay_31 : decode cX10_shorterWay 31 = .ok (.iadd, 1) := by decide +kernel
theorem dX10_shorterWay_32 : decode cX10_shorterWay 32 = .ok (.istore_n 2, 1) := by decide +kernel
theorem dX10_shorterWay_33 : decode cX10_shorterWay 33 = .ok (.iload_n 2, 1) := by decide +kernel
theorem dX10_shorterWay_34 : decode cX10_shorterWay 34 = .ok (.aload_n 0, 1) := by decide +kernel
theorem dX10_shorterWay_35 : decode cX10_shorterWay 35 = .ok (.getfield 18, 3) := by decide +kernel
theorem dX10_shorterWay_38 : decode cX10_shorterWay 38 = .ok (.getfield 63, 3) := by decide +kernel
theorem dX10_shorterWay_41 : decode cX10_shorterWay 41 = .ok (.iload_n 1, 1) := by decide +kernel
theorem dX10_shorterWay_42 : decode cX10_shorterWay 42 = .ok (.iaload, 1) := by decide +kernel
theorem dX10_shorterWay_43 : decode cX10_shorterWay 43 = .ok (.iload_n 2, 1) := by decide +kernel
theorem dX10_shorterWay_44 : decode cX10_shorterWay 44 = .ok (.isub, 1) := by decide +kernel
theorem dX10_shorterWay_45 : decode cX10_shorterWay 45 = .ok (.if_icmp .gt 7, 3) := by decide +kernel
theorem dX10_shorterWay_48 : decode cX10_shorterWay 48 = .ok (.iconst 1, 1) := by decide +kernel
theorem dX10_shorterWay_49 : decode cX10_shorterWay 49 = .ok (.goto 4, 3) := by decide +kernel
theorem dX10_shorterWay_52 : decode cX10_shorterWay 52 = .ok (.iconst (-1), 1) := by decide +kernel
theorem dX10_shorterWay_53 : decode cX10_shorterWay 53 = .ok (.ireturn, 1) := by decide +kernel
theorem dX10_toothBehindStep_0 : decode cX10_toothBehindStep 0 = .ok (.aload_n 0, 1) := by decide +kernel
theorem dX10_toothBehindStep_1 : decode cX10_toothBehindStep 1 = .ok (.getfield 22, 3) := by decide +kernel
theorem dX10_toothBehindStep_4 : decode cX10_toothBehindStep 4 = .ok (.getfield 69, 3) := by decide +kernel
theorem dX10_toothBehindStep_7 : decode cX10_toothBehindStep 7 = .ok (.iload_n 1, 1) := by decide +kernel
theorem dX10_toothBehindStep_8 : decode cX10_toothBehindStep 8 = .ok (.iaload, 1) := by decide +kernel
theorem dX10_toothBehindStep_9 : decode cX10_toothBehindStep 9 = .ok (.aload_n 0, 1) := by decide +kernel
theorem dX10_toothBehindStep_10 : decode cX10_toothBehindStep 10 = .ok (.getfield 15, 3) := by decide +kernel
theorem dX10_toothBehindStep_13 : decode cX10_toothBehindStep 13 = .ok (.iload_n 1, 1) := by decide +kernel
theorem dX10_toothBehindStep_14 : decode cX10_toothBehindStep 14 = .ok (.iaload, 1) := by decide +kernel
theorem dX10_toothBehindStep_15 : decode cX10_toothBehindStep 15 = .ok (.iadd, 1) := by decide +kernel
theorem dX10_toothBehindStep_16 : decode cX10_toothBehindStep 16 = .ok (.istore_n 2, 1) := by decide +kernel
theorem dX10_toothBehindStep_17 : decode cX10_toothBehindStep 17 = .ok (.iload_n 2, 1) := by decide +kernel
theorem dX10_toothBehindStep_18 : decode cX10_toothBehindStep 18 = .ok (.ifCond .ge 15, 3) := by decide +kernel
theorem dX10_toothBehindStep_21 : decode cX10_toothBehindStep 21 = .ok (.aload_n 0, 1) := by decide +kernel
theorem dX10_toothBehindStep_22 : decode cX10_toothBehindStep 22 = .ok (.getfield 18, 3) := by decide +kernel
theorem dX10_toothBehindStep_25 : decode cX10_toothBehindStep 25 = .ok (.getfield 63, 3) := by decide +kernel
theorem dX10_toothBehindStep_28 : decode cX10_toothBehindStep 28 = .ok (.iload_n 1, 1) := by decide +kernel
theorem dX10_toothBehindStep_29 : decode cX10_toothBehindStep 29 = .ok (.iaload, 1) := by decide +kernel
theorem dX10_toothBehindStep_30 : decode cX10_toothBehindStep 30 = .ok (.iconst 1, 1) := by decide +kernel
theorem dX10_toothBehindStep_31 : decode cX10_toothBehindStep 31 = .ok (.isub, 1) := by decide +kernel
theorem dX10_toothBehindStep_32 : decode cX10_toothBehindStep 32 = .ok (.ireturn, 1) := by decide +kernel
theorem dX10_toothBehindStep_33 : decode cX10_toothBehindStep 33 = .ok (.iload_n 2, 1) := by decide +kernel
theorem dX10_toothBehindStep_34 : decode cX10_toothBehindStep 34 = .ok (.aload_n 0, 1) := by decide +kernel
theorem dX10_toothBehindStep_35 : decode cX10_toothBehindStep 35 = .ok (.getfield 18, 3) := by decide +kernel
theorem dX10_toothBehindStep_38 : decode cX10_toothBehindStep 38 = .ok (.getfield 63, 3) := by decide +kernel
theorem dX10_toothBehindStep_41 : decode cX10_toothBehindStep 41 = .ok (.iload_n 1, 1) := by decide +kernel
theorem dX10_toothBehindStep_42 : decode cX10_toothBehindStep 42 = .ok (.iaload, 1) := by decide +kernel
theorem dX10_toothBehindStep_43 : decode cX10_toothBehindStep 43 = .ok (.if_icmp .lt 7, 3) := by decide +kernel
theorem dX10_toothBehindStep_46 : decode cX10_toothBehindStep 46 = .ok (.iconst 0, 1) := by decide +kernel
theorem dX10_toothBehindStep_47 : decode cX10_toothBehindStep 47 = .ok (.goto 4, 3) := by decide +kernel
theorem dX10_toothBehindStep_50 : decode cX10_toothBehindStep 50 = .ok (.iload_n 2, 1) := by decide +kernel
theorem dX10_toothBehindStep_51 : decode cX10_toothBehindStep 51 = .ok (.ireturn, 1) := by decide +kernel
theorem dX10_engage_0 : decode cX10_engage 0 = .ok (.iconst 0, 1) := by decide +kernel
theorem dX10_engage_1 : decode cX10_engage 1 = .ok (.istore_n 3, 1) := by decide +kernel
theorem dX10_engage_2 : decode cX10_engage 2 = .ok (.iload_n 3, 1) := by decide +kernel
theorem dX10_engage_3 : decode cX10_engage 3 = .ok (.bipush 8, 2) := by decide +kernel
theorem dX10_engage_5 : decode cX10_engage 5 = .ok (.if_icmp .ge 16, 3) := by decide +kernel
theorem dX10_engage_8 : decode cX10_engage 8 = .ok (.aload_n 0, 1) := by decide +kernel
theorem dX10_engage_9 : decode cX10_engage 9 = .ok (.getfield 15, 3) := by decide +kernel
theorem dX10_engage_12 : decode cX10_engage 12 = .ok (.iload_n 3, 1) := by decide +kernel
theorem dX10_engage_13 : decode cX10_engage 13 = .ok (.iconst 0, 1) := by decide +kernel
theorem dX10_engage_14 : decode cX10_engage 14 = .ok (.iastore, 1) := by decide +kernel
theorem dX10_engage_15 : decode cX10_engage 15 = .ok (.iinc 3 1, 3) := by decide +kernel
theorem dX10_engage_18 : decode cX10_engage 18 = .ok (.goto (-16), 3) := by decide +kernel
theorem dX10_engage_21 : decode cX10_engage 21 = .ok (.aload_n 0, 1) := by decide +kernel
theorem dX10_engage_22 : decode cX10_engage 22 = .ok (.getfield 15, 3) := by decide +kernel
theorem dX10_engage_25 : decode cX10_engage 25 = .ok (.iload_n 1, 1) := by decide +kernel
theorem dX10_engage_26 : decode cX10_engage 26 = .ok (.iload_n 2, 1) := by decide +kernel
theorem dX10_engage_27 : decode cX10_engage 27 = .ok (.iastore, 1) := by decide +kernel
theorem dX10_engage_28 : decode cX10_engage 28 = .ok (.aload_n 0, 1) := by decide +kernel
theorem dX10_engage_29 : decode cX10_engage 29 = .ok (.iconst 1, 1) := by decide +kernel
theorem dX10_engage_30 : decode cX10_engage 30 = .ok (.iload_n 1, 1) := by decide +kernel
theorem dX10_engage_31 : decode cX10_engage 31 = .ok (.ishl, 1) := by decide +kernel
theorem dX10_engage_32 : decode cX10_engage 32 = .ok (.putfield 84, 3) := by decide +kernel
theorem dX10_engage_35 : decode cX10_engage 35 = .ok (.aload_n 0, 1) := by decide +kernel
theorem dX10_engage_36 : decode cX10_engage 36 = .ok (.invokevirtual 87, 3) := by decide +kernel
theorem dX10_engage_39 : decode cX10_engage 39 = .ok (.istore_n 3, 1) := by decide +kernel
theorem dX10_engage_40 : decode cX10_engage 40 = .ok (.iconst 0, 1) := by decide +kernel
theorem dX10_engage_41 : decode cX10_engage 41 = .ok (.istore 4, 2) := by decide +kernel
theorem dX10_engage_43 : decode cX10_engage 43 = .ok (.iload 4, 2) := by decide +kernel
theorem dX10_engage_45 : decode cX10_engage 45 = .ok (.bipush 8, 2) := by decide +kernel
theorem dX10_engage_47 : decode cX10_engage 47 = .ok (.if_icmp .ge 109, 3) := by decide +kernel
theorem dX10_engage_50 : decode cX10_engage 50 = .ok (.iload_n 3, 1) := by decide +kernel
theorem dX10_engage_51 : decode cX10_engage 51 = .ok (.iconst (-1), 1) := by decide +kernel
theorem dX10_engage_52 : decode cX10_engage 52 = .ok (.if_icmp .eq 104, 3) := by decide +kernel
theorem dX10_engage_55 : decode cX10_engage 55 = .ok (.aload_n 0, 1) := by decide +kernel
theorem dX10_engage_56 : decode cX10_engage 56 = .ok (.getfield 18, 3) := by decide +kernel
theorem dX10_engage_59 : decode cX10_engage 59 = .ok (.getfield 91, 3) := by decide +kernel
theorem dX10_engage_62 : decode cX10_engage 62 = .ok (.iload_n 3, 1) := by decide +kernel
theorem dX10_engage_63 : decode cX10_engage 63 = .ok (.iaload, 1) := by decide +kernel
theorem dX10_engage_64 : decode cX10_engage 64 = .ok (.istore 5, 2) := by decide +kernel
theorem dX10_engage_66 : decode cX10_engage 66 = .ok (.aload_n 0, 1) := by decide +kernel
theorem dX10_engage_67 : decode cX10_engage 67 = .ok (.getfield 18, 3) := by decide +kernel
theorem dX10_engage_70 : decode cX10_engage 70 = .ok (.getfield 94, 3) := by decide +kernel
theorem dX10_engage_73 : decode cX10_engage 73 = .ok (.iload_n 3, 1) := by decide +kernel
theorem dX10_engage_74 : decode cX10_engage 74 = .ok (.iaload, 1) := by decide +kernel
theorem dX10_engage_75 : decode cX10_engage 75 = .ok (.istore 6, 2) := by decide +kernel
theorem dX10_engage_77 : decode cX10_engage 77 = .ok (.aload_n 0, 1) := by decide +kernel
theorem dX10_engage_78 : decode cX10_engage 78 = .ok (.getfield 18, 3) := by decide +kernel
theorem dX10_engage_81 : decode cX10_engage 81 = .ok (.getfield 97, 3) := by decide +kernel
theorem dX10_engage_84 : decode cX10_engage 84 = .ok (.iload_n 3, 1) := by decide +kernel
theorem dX10_engage_85 : decode cX10_engage 85 = .ok (.iaload, 1) := by decide +kernel
theorem dX10_engage_86 : decode cX10_engage 86 = .ok (.aload_n 0, 1) := by decide +kernel
theorem dX10_engage_87 : decode cX10_engage 87 = .ok (.getfield 15, 3) := by decide +kernel
theorem dX10_engage_90 : decode cX10_engage 90 = .ok (.iload 5, 2) := by decide +kernel
theorem dX10_engage_92 : decode cX10_engage 92 = .ok (.iaload, 1) := by decide +kernel
theorem dX10_engage_93 : decode cX10_engage 93 = .ok (.aload_n 0, 1) := by decide +kernel
theorem dX10_engage_94 : decode cX10_engage 94 = .ok (.getfield 15, 3) := by decide +kernel
theorem dX10_engage_97 : decode cX10_engage 97 = .ok (.iload 6, 2) := by decide +kernel
theorem dX10_engage_99 : decode cX10_engage 99 = .ok (.iaload, 1) := by decide +kernel
theorem dX10_engage_100 : decode cX10_engage 100 = .ok (.iadd, 1) := by decide +kernel
theorem dX10_engage_101 : decode cX10_engage 101 = .ok (.imul, 1) := by decide +kernel
theorem dX10_engage_102 : decode cX10_engage 102 = .ok (.istore 7, 2) := by decide +kernel
theorem dX10_engage_104 : decode cX10_engage 104 = .ok (.aload_n 0, 1) := by decide +kernel
theorem dX10_engage_105 : decode cX10_engage 105 = .ok (.getfield 15, 3) := by decide +kernel
theorem dX10_engage_108 : decode cX10_engage 108 = .ok (.iload 5, 2) := by decide +kernel
theorem dX10_engage_110 : decode cX10_engage 110 = .ok (.iaload, 1) := by decide +kernel
theorem dX10_engage_111 : decode cX10_engage 111 = .ok (.ifCond .ne 8, 3) := by decide +kernel
theorem dX10_engage_114 : decode cX10_engage 114 = .ok (.iload 5, 2) := by decide +kernel
theorem dX10_engage_116 : decode cX10_engage 116 = .ok (.goto 5, 3) := by decide +kernel
theorem dX10_engage_119 : decode cX10_engage 119 = .ok (.iload 6, 2) := by decide +kernel
theorem dX10_engage_121 : decode cX10_engage 121 = .ok (.istore 8, 2) := by decide +kernel
theorem dX10_engage_123 : decode cX10_engage 123 = .ok (.aload_n 0, 1) := by decide +kernel
theorem dX10_engage_124 : decode cX10_engage 124 = .ok (.getfield 15, 3) := by decide +kernel
theorem dX10_engage_127 : decode cX10_engage 127 = .ok (.iload 8, 2) := by decide +kernel
theorem dX10_engage_129 : decode cX10_engage 129 = .ok (.iload 7, 2) := by decide +kernel
theorem dX10_engage_131 : decode cX10_engage 131 = .ok (.iastore, 1) := by decide +kernel
theorem dX10_engage_132 : decode cX10_engage 132 = .ok (.aload_n 0, 1) := by decide +kernel
theorem dX10_engage_133 : decode cX10_engage 133 = .ok (.dup, 1) := by decide +kernel
theorem dX10_engage_134 : decode cX10_engage 134 = .ok (.getfield 84, 3) := by decide +kernel
theorem dX10_engage_137 : decode cX10_engage 137 = .ok (.iconst 1, 1) := by decide +kernel
theorem dX10_engage_138 : decode cX10_engage 138 = .ok (.iload 8, 2) := by decide +kernel
theorem dX10_engage_140 : decode cX10_engage 140 = .ok (.ishl, 1) := by decide +kernel
theorem dX10_engage_141 : decode cX10_engage 141 = .ok (.ior, 1) := by decide +kernel
theorem dX10_engage_142 : decode cX10_engage 142 = .ok (.putfield 84, 3) := by decide +kernel
theorem dX10_engage_145 : decode cX10_engage 145 = .ok (.aload_n 0, 1) := by decide +kernel
theorem dX10_engage_146 : decode cX10_engage 146 = .ok (.invokevirtual 87, 3) := by decide +kernel
theorem dX10_engage_149 : decode cX10_engage 149 = .ok (.istore_n 3, 1) := by decide +kernel
theorem dX10_engage_150 : decode cX10_engage 150 = .ok (.iinc 4 1, 3) := by decide +kernel
theorem dX10_engage_153 : decode cX10_engage 153 = .ok (.goto (-110), 3) := by decide +kernel
theorem dX10_engage_156 : decode cX10_engage 156 = .ok (.aload_n 0, 1) := by decide +kernel
theorem dX10_engage_157 : decode cX10_engage 157 = .ok (.getfield 84, 3) := by decide +kernel
theorem dX10_engage_160 : decode cX10_engage 160 = .ok (.aload_n 0, 1) := by decide +kernel
theorem dX10_engage_161 : decode cX10_engage 161 = .ok (.getfield 22, 3) := by decide +kernel
theorem dX10_engage_164 : decode cX10_engage 164 = .ok (.getfield 100, 3) := by decide +kernel
theorem dX10_engage_167 : decode cX10_engage 167 = .ok (.iand, 1) := by decide +kernel
theorem dX10_engage_168 : decode cX10_engage 168 = .ok (.ifCond .ne 14, 3) := by decide +kernel
theorem dX10_engage_171 : decode cX10_engage 171 = .ok (.aload_n 0, 1) := by decide +kernel
theorem dX10_engage_172 : decode cX10_engage 172 = .ok (.invokevirtual 103, 3) := by decide +kernel
theorem dX10_engage_175 : decode cX10_engage 175 = .ok (.ifCond .eq 7, 3) := by decide +kernel
theorem dX10_engage_178 : decode cX10_engage 178 = .ok (.iconst 1, 1) := by decide +kernel
theorem dX10_engage_179 : decode cX10_engage 179 = .ok (.goto 4, 3) := by decide +kernel
theorem dX10_engage_182 : decode cX10_engage 182 = .ok (.iconst 0, 1) := by decide +kernel
theorem dX10_engage_183 : decode cX10_engage 183 = .ok (.ireturn, 1) := by decide +kernel
theorem dX10_draggingShaft_0 : decode cX10_draggingShaft 0 = .ok (.iconst 0, 1) := by decide +kernel
theorem dX10_draggingShaft_1 : decode cX10_draggingShaft 1 = .ok (.istore_n 1, 1) := by decide +kernel
theorem dX10_draggingShaft_2 : decode cX10_draggingShaft 2 = .ok (.iload_n 1, 1) := by decide +kernel
theorem dX10_draggingShaft_3 : decode cX10_draggingShaft 3 = .ok (.aload_n 0, 1) := by decide +kernel
theorem dX10_draggingShaft_4 : decode cX10_draggingShaft 4 = .ok (.getfield 18, 3) := by decide +kernel
theorem dX10_draggingShaft_7 : decode cX10_draggingShaft 7 = .ok (.getfield 107, 3) := by decide +kernel
theorem dX10_draggingShaft_10 : decode cX10_draggingShaft 10 = .ok (.if_icmp .ge 105, 3) := by decide +kernel
theorem dX10_draggingShaft_13 : decode cX10_draggingShaft 13 = .ok (.aload_n 0, 1) := by decide +kernel
theorem dX10_draggingShaft_14 : decode cX10_draggingShaft 14 = .ok (.getfield 15, 3) := by decide +kernel
theorem dX10_draggingShaft_17 : decode cX10_draggingShaft 17 = .ok (.aload_n 0, 1) := by decide +kernel
theorem dX10_draggingShaft_18 : decode cX10_draggingShaft 18 = .ok (.getfield 18, 3) := by decide +kernel
theorem dX10_draggingShaft_21 : decode cX10_draggingShaft 21 = .ok (.getfield 91, 3) := by decide +kernel
theorem dX10_draggingShaft_24 : decode cX10_draggingShaft 24 = .ok (.iload_n 1, 1) := by decide +kernel
theorem dX10_draggingShaft_25 : decode cX10_draggingShaft 25 = .ok (.iaload, 1) := by decide +kernel
theorem dX10_draggingShaft_26 : decode cX10_draggingShaft 26 = .ok (.iaload, 1) := by decide +kernel
theorem dX10_draggingShaft_27 : decode cX10_draggingShaft 27 = .ok (.ifCond .ne 7, 3) := by decide +kernel
theorem dX10_draggingShaft_30 : decode cX10_draggingShaft 30 = .ok (.iconst 1, 1) := by decide +kernel
theorem dX10_draggingShaft_31 : decode cX10_draggingShaft 31 = .ok (.goto 4, 3) := by decide +kernel
theorem dX10_draggingShaft_34 : decode cX10_draggingShaft 34 = .ok (.iconst 0, 1) := by decide +kernel
theorem dX10_draggingShaft_35 : decode cX10_draggingShaft 35 = .ok (.aload_n 0, 1) := by decide +kernel
theorem dX10_draggingShaft_36 : decode cX10_draggingShaft 36 = .ok (.getfield 15, 3) := by decide +kernel
theorem dX10_draggingShaft_39 : decode cX10_draggingShaft 39 = .ok (.aload_n 0, 1) := by decide +kernel
theorem dX10_draggingShaft_40 : decode cX10_draggingShaft 40 = .ok (.getfield 18, 3) := by decide +kernel
theorem dX10_draggingShaft_43 : decode cX10_draggingShaft 43 = .ok (.getfield 94, 3) := by decide +kernel
theorem dX10_draggingShaft_46 : decode cX10_draggingShaft 46 = .ok (.iload_n 1, 1) := by decide +kernel
theorem dX10_draggingShaft_47 : decode cX10_draggingShaft 47 = .ok (.iaload, 1) := by decide +kernel
theorem dX10_draggingShaft_48 : decode cX10_draggingShaft 48 = .ok (.iaload, 1) := by decide +kernel
theorem dX10_draggingShaft_49 : decode cX10_draggingShaft 49 = .ok (.ifCond .ne 7, 3) := by decide +kernel
theorem dX10_draggingShaft_52 : decode cX10_draggingShaft 52 = .ok (.iconst 1, 1) := by decide +kernel
theorem dX10_draggingShaft_53 : decode cX10_draggingShaft 53 = .ok (.goto 4, 3) := by decide +kernel
theorem dX10_draggingShaft_56 : decode cX10_draggingShaft 56 = .ok (.iconst 0, 1) := by decide +kernel
theorem dX10_draggingShaft_57 : decode cX10_draggingShaft 57 = .ok (.if_icmp .eq 7, 3) := by decide +kernel
theorem dX10_draggingShaft_60 : decode cX10_draggingShaft 60 = .ok (.iconst 1, 1) := by decide +kernel
theorem dX10_draggingShaft_61 : decode cX10_draggingShaft 61 = .ok (.goto 4, 3) := by decide +kernel
theorem dX10_draggingShaft_64 : decode cX10_draggingShaft 64 = .ok (.iconst 0, 1) := by decide +kernel
theorem dX10_draggingShaft_65 : decode cX10_draggingShaft 65 = .ok (.istore_n 2, 1) := by decide +kernel
theorem dX10_draggingShaft_66 : decode cX10_draggingShaft 66 = .ok (.iload_n 2, 1) := by decide +kernel
theorem dX10_draggingShaft_67 : decode cX10_draggingShaft 67 = .ok (.ifCond .eq 42, 3) := by decide +kernel
theorem dX10_draggingShaft_70 : decode cX10_draggingShaft 70 = .ok (.aload_n 0, 1) := by decide +kernel
theorem dX10_draggingShaft_71 : decode cX10_draggingShaft 71 = .ok (.getfield 22, 3) := by decide +kernel
theorem dX10_draggingShaft_74 : decode cX10_draggingShaft 74 = .ok (.getfield 110, 3) := by decide +kernel
theorem dX10_draggingShaft_77 : decode cX10_draggingShaft 77 = .ok (.iload_n 1, 1) := by decide +kernel
theorem dX10_draggingShaft_78 : decode cX10_draggingShaft 78 = .ok (.invokestatic 113, 3) := by decide +kernel
theorem dX10_draggingShaft_81 : decode cX10_draggingShaft 81 = .ok (.ifCond .ne 28, 3) := by decide +kernel
theorem dX10_draggingShaft_84 : decode cX10_draggingShaft 84 = .ok (.aload_n 0, 1) := by decide +kernel
theorem dX10_draggingShaft_85 : decode cX10_draggingShaft 85 = .ok (.iload_n 1, 1) := by decide +kernel
theorem dX10_draggingShaft_86 : decode cX10_draggingShaft 86 = .ok (.aload_n 0, 1) := by decide +kernel
theorem dX10_draggingShaft_87 : decode cX10_draggingShaft 87 = .ok (.getfield 22, 3) := by decide +kernel
theorem dX10_draggingShaft_90 : decode cX10_draggingShaft 90 = .ok (.getfield 117, 3) := by decide +kernel
theorem dX10_draggingShaft_93 : decode cX10_draggingShaft 93 = .ok (.iload_n 1, 1) := by decide +kernel
theorem dX10_draggingShaft_94 : decode cX10_draggingShaft 94 = .ok (.iaload, 1) := by decide +kernel
theorem dX10_draggingShaft_95 : decode cX10_draggingShaft 95 = .ok (.aload_n 0, 1) := by decide +kernel
theorem dX10_draggingShaft_96 : decode cX10_draggingShaft 96 = .ok (.iload_n 1, 1) := by decide +kernel
theorem dX10_draggingShaft_97 : decode cX10_draggingShaft 97 = .ok (.invokevirtual 120, 3) := by decide +kernel
theorem dX10_draggingShaft_100 : decode cX10_draggingShaft 100 = .ok (.iadd, 1) := by decide +kernel
theorem dX10_draggingShaft_101 : decode cX10_draggingShaft 101 = .ok (.invokevirtual 124, 3) := by decide +kernel
theorem dX10_draggingShaft_104 : decode cX10_draggingShaft 104 = .ok (.ifCond .ne 5, 3) := by decide +kernel
theorem dX10_draggingShaft_107 : decode cX10_draggingShaft 107 = .ok (.iload_n 1, 1) := by decide +kernel
theorem dX10_draggingShaft_108 : decode cX10_draggingShaft 108 = .ok (.ireturn, 1) := by decide +kernel
theorem dX10_draggingShaft_109 : decode cX10_draggingShaft 109 = .ok (.iinc 1 1, 3) := by decide +kernel
theorem dX10_draggingShaft_112 : decode cX10_draggingShaft 112 = .ok (.goto (-110), 3) := by decide +kernel
theorem dX10_draggingShaft_115 : decode cX10_draggingShaft 115 = .ok (.iconst (-1), 1) := by decide +kernel
theorem dX10_draggingShaft_116 : decode cX10_draggingShaft 116 = .ok (.ireturn, 1) := by decide +kernel
theorem dX10_playChange_0 : decode cX10_playChange 0 = .ok (.aload_n 0, 1) := by decide +kernel
theorem dX10_playChange_1 : decode cX10_playChange 1 = .ok (.getfield 15, 3) := by decide +kernel
theorem dX10_playChange_4 : decode cX10_playChange 4 = .ok (.aload_n 0, 1) := by decide +kernel
theorem dX10_playChange_5 : decode cX10_playChange 5 = .ok (.getfield 18, 3) := by decide +kernel
theorem dX10_playChange_8 : decode cX10_playChange 8 = .ok (.getfield 91, 3) := by decide +kernel
theorem dX10_playChange_11 : decode cX10_playChange 11 = .ok (.iload_n 1, 1) := by decide +kernel
theorem dX10_playChange_12 : decode cX10_playChange 12 = .ok (.iaload, 1) := by decide +kernel
theorem dX10_playChange_13 : decode cX10_playChange 13 = .ok (.iaload, 1) := by decide +kernel
theorem dX10_playChange_14 : decode cX10_playChange 14 = .ok (.aload_n 0, 1) := by decide +kernel
theorem dX10_playChange_15 : decode cX10_playChange 15 = .ok (.getfield 18, 3) := by decide +kernel
theorem dX10_playChange_18 : decode cX10_playChange 18 = .ok (.getfield 97, 3) := by decide +kernel
theorem dX10_playChange_21 : decode cX10_playChange 21 = .ok (.iload_n 1, 1) := by decide +kernel
theorem dX10_playChange_22 : decode cX10_playChange 22 = .ok (.iaload, 1) := by decide +kernel
theorem dX10_playChange_23 : decode cX10_playChange 23 = .ok (.aload_n 0, 1) := by decide +kernel
theorem dX10_playChange_24 : decode cX10_playChange 24 = .ok (.getfield 15, 3) := by decide +kernel
theorem dX10_playChange_27 : decode cX10_playChange 27 = .ok (.aload_n 0, 1) := by decide +kernel
theorem dX10_playChange_28 : decode cX10_playChange 28 = .ok (.getfield 18, 3) := by decide +kernel
theorem dX10_playChange_31 : decode cX10_playChange 31 = .ok (.getfield 94, 3) := by decide +kernel
theorem dX10_playChange_34 : decode cX10_playChange 34 = .ok (.iload_n 1, 1) := by decide +kernel
theorem dX10_playChange_35 : decode cX10_playChange 35 = .ok (.iaload, 1) := by decide +kernel
theorem dX10_playChange_36 : decode cX10_playChange 36 = .ok (.iaload, 1) := by decide +kernel
theorem dX10_playChange_37 : decode cX10_playChange 37 = .ok (.imul, 1) := by decide +kernel
theorem dX10_playChange_38 : decode cX10_playChange 38 = .ok (.isub, 1) := by decide +kernel
theorem dX10_playChange_39 : decode cX10_playChange 39 = .ok (.ireturn, 1) := by decide +kernel
theorem dX10_isInBounds_0 : decode cX10_isInBounds 0 = .ok (.iload_n 2, 1) := by decide +kernel
theorem dX10_isInBounds_1 : decode cX10_isInBounds 1 = .ok (.ifCond .lt 20, 3) := by decide +kernel
theorem dX10_isInBounds_4 : decode cX10_isInBounds 4 = .ok (.iload_n 2, 1) := by decide +kernel
theorem dX10_isInBounds_5 : decode cX10_isInBounds 5 = .ok (.aload_n 0, 1) := by decide +kernel
theorem dX10_isInBounds_6 : decode cX10_isInBounds 6 = .ok (.getfield 18, 3) := by decide +kernel
theorem dX10_isInBounds_9 : decode cX10_isInBounds 9 = .ok (.getfield 127, 3) := by decide +kernel
theorem dX10_isInBounds_12 : decode cX10_isInBounds 12 = .ok (.iload_n 1, 1) := by decide +kernel
theorem dX10_isInBounds_13 : decode cX10_isInBounds 13 = .ok (.iaload, 1) := by decide +kernel
theorem dX10_isInBounds_14 : decode cX10_isInBounds 14 = .ok (.if_icmp .gt 7, 3) := by decide +kernel
theorem dX10_isInBounds_17 : decode cX10_isInBounds 17 = .ok (.iconst 1, 1) := by decide +kernel
theorem dX10_isInBounds_18 : decode cX10_isInBounds 18 = .ok (.goto 4, 3) := by decide +kernel
theorem dX10_isInBounds_21 : decode cX10_isInBounds 21 = .ok (.iconst 0, 1) := by decide +kernel
theorem dX10_isInBounds_22 : decode cX10_isInBounds 22 = .ok (.ireturn, 1) := by decide +kernel
theorem dX10_isAllPlayInBounds_0 : decode cX10_isAllPlayInBounds 0 = .ok (.iconst 0, 1) := by decide +kernel
theorem dX10_isAllPlayInBounds_1 : decode cX10_isAllPlayInBounds 1 = .ok (.istore_n 1, 1) := by decide +kernel
theorem dX10_isAllPlayInBounds_2 : decode cX10_isAllPlayInBounds 2 = .ok (.iload_n 1, 1) := by decide +kernel
theorem dX10_isAllPlayInBounds_3 : decode cX10_isAllPlayInBounds 3 = .ok (.aload_n 0, 1) := by decide +kernel
theorem dX10_isAllPlayInBounds_4 : decode cX10_isAllPlayInBounds 4 = .ok (.getfield 18, 3) := by decide +kernel
theorem dX10_isAllPlayInBounds_7 : decode cX10_isAllPlayInBounds 7 = .ok (.getfield 107, 3) := by decide +kernel
theorem dX10_isAllPlayInBounds_10 : decode cX10_isAllPlayInBounds 10 = .ok (.if_icmp .ge 48, 3) := by decide +kernel
theorem dX10_isAllPlayInBounds_13 : decode cX10_isAllPlayInBounds 13 = .ok (.aload_n 0, 1) := by decide +kernel
theorem dX10_isAllPlayInBounds_14 : decode cX10_isAllPlayInBounds 14 = .ok (.getfield 22, 3) := by decide +kernel
theorem dX10_isAllPlayInBounds_17 : decode cX10_isAllPlayInBounds 17 = .ok (.getfield 110, 3) := by decide +kernel
theorem dX10_isAllPlayInBounds_20 : decode cX10_isAllPlayInBounds 20 = .ok (.iload_n 1, 1) := by decide +kernel
theorem dX10_isAllPlayInBounds_21 : decode cX10_isAllPlayInBounds 21 = .ok (.invokestatic 113, 3) := by decide +kernel
theorem dX10_isAllPlayInBounds_24 : decode cX10_isAllPlayInBounds 24 = .ok (.ifCond .ne 28, 3) := by decide +kernel
theorem dX10_isAllPlayInBounds_27 : decode cX10_isAllPlayInBounds 27 = .ok (.aload_n 0, 1) := by decide +kernel
theorem dX10_isAllPlayInBounds_28 : decode cX10_isAllPlayInBounds 28 = .ok (.iload_n 1, 1) := by decide +kernel
theorem dX10_isAllPlayInBounds_29 : decode cX10_isAllPlayInBounds 29 = .ok (.aload_n 0, 1) := by decide +kernel
theorem dX10_isAllPlayInBounds_30 : decode cX10_isAllPlayInBounds 30 = .ok (.getfield 22, 3) := by decide +kernel
theorem dX10_isAllPlayInBounds_33 : decode cX10_isAllPlayInBounds 33 = .ok (.getfield 117, 3) := by decide +kernel
theorem dX10_isAllPlayInBounds_36 : decode cX10_isAllPlayInBounds 36 = .ok (.iload_n 1, 1) := by decide +kernel
theorem dX10_isAllPlayInBounds_37 : decode cX10_isAllPlayInBounds 37 = .ok (.iaload, 1) := by decide +kernel
theorem dX10_isAllPlayInBounds_38 : decode cX10_isAllPlayInBounds 38 = .ok (.aload_n 0, 1) := by decide +kernel
theorem dX10_isAllPlayInBounds_39 : decode cX10_isAllPlayInBounds 39 = .ok (.iload_n 1, 1) := by decide +kernel
theorem dX10_isAllPlayInBounds_40 : decode cX10_isAllPlayInBounds 40 = .ok (.invokevirtual 120, 3) := by decide +kernel
theorem dX10_isAllPlayInBounds_43 : decode cX10_isAllPlayInBounds 43 = .ok (.iadd, 1) := by decide +kernel
theorem dX10_isAllPlayInBounds_44 : decode cX10_isAllPlayInBounds 44 = .ok (.invokevirtual 124, 3) := by decide +kernel
theorem dX10_isAllPlayInBounds_47 : decode cX10_isAllPlayInBounds 47 = .ok (.ifCond .ne 5, 3) := by decide +kernel
theorem dX10_isAllPlayInBounds_50 : decode cX10_isAllPlayInBounds 50 = .ok (.iconst 0, 1) := by decide +kernel
theorem dX10_isAllPlayInBounds_51 : decode cX10_isAllPlayInBounds 51 = .ok (.ireturn, 1) := by decide +kernel
theorem dX10_isAllPlayInBounds_52 : decode cX10_isAllPlayInBounds 52 = .ok (.iinc 1 1, 3) := by decide +kernel
theorem dX10_isAllPlayInBounds_55 : decode cX10_isAllPlayInBounds 55 = .ok (.goto (-53), 3) := by decide +kernel
theorem dX10_isAllPlayInBounds_58 : decode cX10_isAllPlayInBounds 58 = .ok (.iconst 1, 1) := by decide +kernel
theorem dX10_isAllPlayInBounds_59 : decode cX10_isAllPlayInBounds 59 = .ok (.ireturn, 1) := by decide +kernel
theorem dX10_move_0 : decode cX10_move 0 = .ok (.iconst 0, 1) := by decide +kernel
theorem dX10_move_1 : decode cX10_move 1 = .ok (.istore_n 1, 1) := by decide +kernel
theorem dX10_move_2 : decode cX10_move 2 = .ok (.iload_n 1, 1) := by decide +kernel
theorem dX10_move_3 : decode cX10_move 3 = .ok (.aload_n 0, 1) := by decide +kernel
theorem dX10_move_4 : decode cX10_move 4 = .ok (.getfield 18, 3) := by decide +kernel
theorem dX10_move_7 : decode cX10_move 7 = .ok (.getfield 107, 3) := by decide +kernel
theorem dX10_move_10 : decode cX10_move 10 = .ok (.if_icmp .ge 40, 3) := by decide +kernel
theorem dX10_move_13 : decode cX10_move 13 = .ok (.aload_n 0, 1) := by decide +kernel
theorem dX10_move_14 : decode cX10_move 14 = .ok (.getfield 22, 3) := by decide +kernel
theorem dX10_move_17 : decode cX10_move 17 = .ok (.getfield 110, 3) := by decide +kernel
theorem dX10_move_20 : decode cX10_move 20 = .ok (.iload_n 1, 1) := by decide +kernel
theorem dX10_move_21 : decode cX10_move 21 = .ok (.invokestatic 113, 3) := by decide +kernel
theorem dX10_move_24 : decode cX10_move 24 = .ok (.ifCond .ne 20, 3) := by decide +kernel
theorem dX10_move_27 : decode cX10_move 27 = .ok (.aload_n 0, 1) := by decide +kernel
theorem dX10_move_28 : decode cX10_move 28 = .ok (.getfield 22, 3) := by decide +kernel
theorem dX10_move_31 : decode cX10_move 31 = .ok (.getfield 117, 3) := by decide +kernel
theorem dX10_move_34 : decode cX10_move 34 = .ok (.iload_n 1, 1) := by decide +kernel
theorem dX10_move_35 : decode cX10_move 35 = .ok (.dup2, 1) := by decide +kernel
theorem dX10_move_36 : decode cX10_move 36 = .ok (.iaload, 1) := by decide +kernel
theorem dX10_move_37 : decode cX10_move 37 = .ok (.aload_n 0, 1) := by decide +kernel
theorem dX10_move_38 : decode cX10_move 38 = .ok (.iload_n 1, 1) := by decide +kernel
theorem dX10_move_39 : decode cX10_move 39 = .ok (.invokevirtual 120, 3) := by decide +kernel
theorem dX10_move_42 : decode cX10_move 42 = .ok (.iadd, 1) := by decide +kernel
theorem dX10_move_43 : decode cX10_move 43 = .ok (.iastore, 1) := by decide +kernel
theorem dX10_move_44 : decode cX10_move 44 = .ok (.iinc 1 1, 3) := by decide +kernel
theorem dX10_move_47 : decode cX10_move 47 = .ok (.goto (-45), 3) := by decide +kernel
theorem dX10_move_50 : decode cX10_move 50 = .ok (.iconst 0, 1) := by decide +kernel
theorem dX10_move_51 : decode cX10_move 51 = .ok (.istore_n 1, 1) := by decide +kernel
theorem dX10_move_52 : decode cX10_move 52 = .ok (.iload_n 1, 1) := by decide +kernel
theorem dX10_move_53 : decode cX10_move 53 = .ok (.aload_n 0, 1) := by decide +kernel
theorem dX10_move_54 : decode cX10_move 54 = .ok (.getfield 18, 3) := by decide +kernel
theorem dX10_move_57 : decode cX10_move 57 = .ok (.getfield 58, 3) := by decide +kernel
theorem dX10_move_60 : decode cX10_move 60 = .ok (.if_icmp .ge 25, 3) := by decide +kernel
theorem dX10_move_63 : decode cX10_move 63 = .ok (.aload_n 0, 1) := by decide +kernel
theorem dX10_move_64 : decode cX10_move 64 = .ok (.getfield 84, 3) := by decide +kernel
theorem dX10_move_67 : decode cX10_move 67 = .ok (.iload_n 1, 1) := by decide +kernel
theorem dX10_move_68 : decode cX10_move 68 = .ok (.invokestatic 113, 3) := by decide +kernel
theorem dX10_move_71 : decode cX10_move 71 = .ok (.ifCond .eq 8, 3) := by decide +kernel
theorem dX10_move_74 : decode cX10_move 74 = .ok (.aload_n 0, 1) := by decide +kernel
theorem dX10_move_75 : decode cX10_move 75 = .ok (.iload_n 1, 1) := by decide +kernel
theorem dX10_move_76 : decode cX10_move 76 = .ok (.invokevirtual 130, 3) := by decide +kernel
theorem dX10_move_79 : decode cX10_move 79 = .ok (.iinc 1 1, 3) := by decide +kernel
theorem dX10_move_82 : decode cX10_move 82 = .ok (.goto (-30), 3) := by decide +kernel
theorem dX10_move_85 : decode cX10_move 85 = .ok (.return_, 1) := by decide +kernel
theorem dX10_moveVane_0 : decode cX10_moveVane 0 = .ok (.aload_n 0, 1) := by decide +kernel
theorem dX10_moveVane_1 : decode cX10_moveVane 1 = .ok (.getfield 22, 3) := by decide +kernel
theorem dX10_moveVane_4 : decode cX10_moveVane 4 = .ok (.getfield 69, 3) := by decide +kernel
theorem dX10_moveVane_7 : decode cX10_moveVane 7 = .ok (.iload_n 1, 1) := by decide +kernel
theorem dX10_moveVane_8 : decode cX10_moveVane 8 = .ok (.aload_n 0, 1) := by decide +kernel
theorem dX10_moveVane_9 : decode cX10_moveVane 9 = .ok (.iload_n 1, 1) := by decide +kernel
theorem dX10_moveVane_10 : decode cX10_moveVane 10 = .ok (.invokevirtual 133, 3) := by decide +kernel
theorem dX10_moveVane_13 : decode cX10_moveVane 13 = .ok (.iastore, 1) := by decide +kernel
theorem dX10_moveVane_14 : decode cX10_moveVane 14 = .ok (.aload_n 0, 1) := by decide +kernel
theorem dX10_moveVane_15 : decode cX10_moveVane 15 = .ok (.getfield 22, 3) := by decide +kernel
theorem dX10_moveVane_18 : decode cX10_moveVane 18 = .ok (.getfield 136, 3) := by decide +kernel
theorem dX10_moveVane_21 : decode cX10_moveVane 21 = .ok (.iload_n 1, 1) := by decide +kernel
theorem dX10_moveVane_22 : decode cX10_moveVane 22 = .ok (.dup2, 1) := by decide +kernel
theorem dX10_moveVane_23 : decode cX10_moveVane 23 = .ok (.iaload, 1) := by decide +kernel
theorem dX10_moveVane_24 : decode cX10_moveVane 24 = .ok (.iconst 1, 1) := by decide +kernel
theorem dX10_moveVane_25 : decode cX10_moveVane 25 = .ok (.iadd, 1) := by decide +kernel
theorem dX10_moveVane_26 : decode cX10_moveVane 26 = .ok (.iastore, 1) := by decide +kernel
theorem dX10_moveVane_27 : decode cX10_moveVane 27 = .ok (.aload_n 0, 1) := by decide +kernel
theorem dX10_moveVane_28 : decode cX10_moveVane 28 = .ok (.dup, 1) := by decide +kernel
theorem dX10_moveVane_29 : decode cX10_moveVane 29 = .ok (.getfield 26, 3) := by decide +kernel
theorem dX10_moveVane_32 : decode cX10_moveVane 32 = .ok (.iconst 1, 1) := by decide +kernel
theorem dX10_moveVane_33 : decode cX10_moveVane 33 = .ok (.iadd, 1) := by decide +kernel
theorem dX10_moveVane_34 : decode cX10_moveVane 34 = .ok (.putfield 26, 3) := by decide +kernel
theorem dX10_moveVane_37 : decode cX10_moveVane 37 = .ok (.aload_n 0, 1) := by decide +kernel
theorem dX10_moveVane_38 : decode cX10_moveVane 38 = .ok (.getfield 22, 3) := by decide +kernel
theorem dX10_moveVane_41 : decode cX10_moveVane 41 = .ok (.getfield 69, 3) := by decide +kernel
theorem dX10_moveVane_44 : decode cX10_moveVane 44 = .ok (.iload_n 1, 1) := by decide +kernel
theorem dX10_moveVane_45 : decode cX10_moveVane 45 = .ok (.iaload, 1) := by decide +kernel
theorem dX10_moveVane_46 : decode cX10_moveVane 46 = .ok (.ifCond .ne 42, 3) := by decide +kernel
theorem dX10_moveVane_49 : decode cX10_moveVane 49 = .ok (.aload_n 0, 1) := by decide +kernel
theorem dX10_moveVane_50 : decode cX10_moveVane 50 = .ok (.getfield 22, 3) := by decide +kernel
theorem dX10_moveVane_53 : decode cX10_moveVane 53 = .ok (.getfield 139, 3) := by decide +kernel
theorem dX10_moveVane_56 : decode cX10_moveVane 56 = .ok (.iload_n 1, 1) := by decide +kernel
theorem dX10_moveVane_57 : decode cX10_moveVane 57 = .ok (.dup2, 1) := by decide +kernel
theorem dX10_moveVane_58 : decode cX10_moveVane 58 = .ok (.iaload, 1) := by decide +kernel
theorem dX10_moveVane_59 : decode cX10_moveVane 59 = .ok (.iconst 1, 1) := by decide +kernel
theorem dX10_moveVane_60 : decode cX10_moveVane 60 = .ok (.iadd, 1) := by decide +kernel
theorem dX10_moveVane_61 : decode cX10_moveVane 61 = .ok (.iastore, 1) := by decide +kernel
theorem dX10_moveVane_62 : decode cX10_moveVane 62 = .ok (.aload_n 0, 1) := by decide +kernel
theorem dX10_moveVane_63 : decode cX10_moveVane 63 = .ok (.getfield 30, 3) := by decide +kernel
theorem dX10_moveVane_66 : decode cX10_moveVane 66 = .ok (.aload_n 0, 1) := by decide +kernel
theorem dX10_moveVane_67 : decode cX10_moveVane 67 = .ok (.getfield 40, 3) := by decide +kernel
theorem dX10_moveVane_70 : decode cX10_moveVane 70 = .ok (.if_icmp .ne 8, 3) := by decide +kernel
theorem dX10_moveVane_73 : decode cX10_moveVane 73 = .ok (.aload_n 0, 1) := by decide +kernel
theorem dX10_moveVane_74 : decode cX10_moveVane 74 = .ok (.iload_n 1, 1) := by decide +kernel
theorem dX10_moveVane_75 : decode cX10_moveVane 75 = .ok (.putfield 43, 3) := by decide +kernel
theorem dX10_moveVane_78 : decode cX10_moveVane 78 = .ok (.aload_n 0, 1) := by decide +kernel
theorem dX10_moveVane_79 : decode cX10_moveVane 79 = .ok (.dup, 1) := by decide +kernel
theorem dX10_moveVane_80 : decode cX10_moveVane 80 = .ok (.getfield 30, 3) := by decide +kernel
theorem dX10_moveVane_83 : decode cX10_moveVane 83 = .ok (.iconst 1, 1) := by decide +kernel
theorem dX10_moveVane_84 : decode cX10_moveVane 84 = .ok (.iadd, 1) := by decide +kernel
theorem dX10_moveVane_85 : decode cX10_moveVane 85 = .ok (.putfield 30, 3) := by decide +kernel
theorem dX10_moveVane_88 : decode cX10_moveVane 88 = .ok (.return_, 1) := by decide +kernel
theorem dX10_gain_0 : decode cX10_gain 0 = .ok (.aload_n 0, 1) := by decide +kernel
theorem dX10_gain_1 : decode cX10_gain 1 = .ok (.getfield 9, 3) := by decide +kernel
theorem dX10_gain_4 : decode cX10_gain 4 = .ok (.iload_n 1, 1) := by decide +kernel
theorem dX10_gain_5 : decode cX10_gain 5 = .ok (.iaload, 1) := by decide +kernel
theorem dX10_gain_6 : decode cX10_gain 6 = .ok (.iconst (-1), 1) := by decide +kernel
theorem dX10_gain_7 : decode cX10_gain 7 = .ok (.if_icmp .ne 5, 3) := by decide +kernel
theorem dX10_gain_10 : decode cX10_gain 10 = .ok (.iconst 0, 1) := by decide +kernel
theorem dX10_gain_11 : decode cX10_gain 11 = .ok (.ireturn, 1) := by decide +kernel
theorem dX10_gain_12 : decode cX10_gain 12 = .ok (.aload_n 0, 1) := by decide +kernel
theorem dX10_gain_13 : decode cX10_gain 13 = .ok (.iload_n 1, 1) := by decide +kernel
theorem dX10_gain_14 : decode cX10_gain 14 = .ok (.aload_n 0, 1) := by decide +kernel
theorem dX10_gain_15 : decode cX10_gain 15 = .ok (.getfield 22, 3) := by decide +kernel
theorem dX10_gain_18 : decode cX10_gain 18 = .ok (.getfield 69, 3) := by decide +kernel
theorem dX10_gain_21 : decode cX10_gain 21 = .ok (.iload_n 1, 1) := by decide +kernel
theorem dX10_gain_22 : decode cX10_gain 22 = .ok (.iaload, 1) := by decide +kernel
theorem dX10_gain_23 : decode cX10_gain 23 = .ok (.invokevirtual 80, 3) := by decide +kernel
theorem dX10_gain_26 : decode cX10_gain 26 = .ok (.aload_n 0, 1) := by decide +kernel
theorem dX10_gain_27 : decode cX10_gain 27 = .ok (.iload_n 1, 1) := by decide +kernel
theorem dX10_gain_28 : decode cX10_gain 28 = .ok (.aload_n 0, 1) := by decide +kernel
theorem dX10_gain_29 : decode cX10_gain 29 = .ok (.iload_n 1, 1) := by decide +kernel
theorem dX10_gain_30 : decode cX10_gain 30 = .ok (.invokevirtual 133, 3) := by decide +kernel
theorem dX10_gain_33 : decode cX10_gain 33 = .ok (.invokevirtual 80, 3) := by decide +kernel
theorem dX10_gain_36 : decode cX10_gain 36 = .ok (.isub, 1) := by decide +kernel
theorem dX10_gain_37 : decode cX10_gain 37 = .ok (.ireturn, 1) := by decide +kernel
theorem dX10_comingNearer_0 : decode cX10_comingNearer 0 = .ok (.iconst 0, 1) := by decide +kernel
theorem dX10_comingNearer_1 : decode cX10_comingNearer 1 = .ok (.istore_n 2, 1) := by decide +kernel
theorem dX10_comingNearer_2 : decode cX10_comingNearer 2 = .ok (.iconst 0, 1) := by decide +kernel
theorem dX10_comingNearer_3 : decode cX10_comingNearer 3 = .ok (.istore_n 3, 1) := by decide +kernel
theorem dX10_comingNearer_4 : decode cX10_comingNearer 4 = .ok (.iload_n 3, 1) := by decide +kernel
theorem dX10_comingNearer_5 : decode cX10_comingNearer 5 = .ok (.aload_n 0, 1) := by decide +kernel
theorem dX10_comingNearer_6 : decode cX10_comingNearer 6 = .ok (.getfield 18, 3) := by decide +kernel
theorem dX10_comingNearer_9 : decode cX10_comingNearer 9 = .ok (.getfield 58, 3) := by decide +kernel
theorem dX10_comingNearer_12 : decode cX10_comingNearer 12 = .ok (.if_icmp .ge 40, 3) := by decide +kernel
theorem dX10_comingNearer_15 : decode cX10_comingNearer 15 = .ok (.iload_n 3, 1) := by decide +kernel
theorem dX10_comingNearer_16 : decode cX10_comingNearer 16 = .ok (.iload_n 1, 1) := by decide +kernel
theorem dX10_comingNearer_17 : decode cX10_comingNearer 17 = .ok (.if_icmp .eq 29, 3) := by decide +kernel
theorem dX10_comingNearer_20 : decode cX10_comingNearer 20 = .ok (.aload_n 0, 1) := by decide +kernel
theorem dX10_comingNearer_21 : decode cX10_comingNearer 21 = .ok (.getfield 84, 3) := by decide +kernel
theorem dX10_comingNearer_24 : decode cX10_comingNearer 24 = .ok (.iload_n 3, 1) := by decide +kernel
theorem dX10_comingNearer_25 : decode cX10_comingNearer 25 = .ok (.invokestatic 113, 3) := by decide +kernel
theorem dX10_comingNearer_28 : decode cX10_comingNearer 28 = .ok (.ifCond .eq 18, 3) := by decide +kernel
theorem dX10_comingNearer_31 : decode cX10_comingNearer 31 = .ok (.aload_n 0, 1) := by decide +kernel
theorem dX10_comingNearer_32 : decode cX10_comingNearer 32 = .ok (.iload_n 3, 1) := by decide +kernel
theorem dX10_comingNearer_33 : decode cX10_comingNearer 33 = .ok (.invokevirtual 142, 3) := by decide +kernel
theorem dX10_comingNearer_36 : decode cX10_comingNearer 36 = .ok (.ifCond .le 10, 3) := by decide +kernel
theorem dX10_comingNearer_39 : decode cX10_comingNearer 39 = .ok (.iload_n 2, 1) := by decide +kernel
theorem dX10_comingNearer_40 : decode cX10_comingNearer 40 = .ok (.iload_n 3, 1) := by decide +kernel
theorem dX10_comingNearer_41 : decode cX10_comingNearer 41 = .ok (.iconst 1, 1) := by decide +kernel
theorem dX10_comingNearer_42 : decode cX10_comingNearer 42 = .ok (.invokestatic 76, 3) := by decide +kernel
theorem dX10_comingNearer_45 : decode cX10_comingNearer 45 = .ok (.istore_n 2, 1) := by decide +kernel
theorem dX10_comingNearer_46 : decode cX10_comingNearer 46 = .ok (.iinc 3 1, 3) := by decide +kernel
theorem dX10_comingNearer_49 : decode cX10_comingNearer 49 = .ok (.goto (-45), 3) := by decide +kernel
theorem dX10_comingNearer_52 : decode cX10_comingNearer 52 = .ok (.iload_n 2, 1) := by decide +kernel
theorem dX10_comingNearer_53 : decode cX10_comingNearer 53 = .ok (.ireturn, 1) := by decide +kernel
theorem dX10_loadOf_0 : decode cX10_loadOf 0 = .ok (.aload_n 0, 1) := by decide +kernel
theorem dX10_loadOf_1 : decode cX10_loadOf 1 = .ok (.iload_n 1, 1) := by decide +kernel
theorem dX10_loadOf_2 : decode cX10_loadOf 2 = .ok (.iload_n 2, 1) := by decide +kernel
theorem dX10_loadOf_3 : decode cX10_loadOf 3 = .ok (.invokevirtual 145, 3) := by decide +kernel
theorem dX10_loadOf_6 : decode cX10_loadOf 6 = .ok (.ifCond .eq 13, 3) := by decide +kernel
theorem dX10_loadOf_9 : decode cX10_loadOf 9 = .ok (.aload_n 0, 1) := by decide +kernel
theorem dX10_loadOf_10 : decode cX10_loadOf 10 = .ok (.getfield 84, 3) := by decide +kernel
theorem dX10_loadOf_13 : decode cX10_loadOf 13 = .ok (.invokestatic 148, 3) := by decide +kernel
theorem dX10_loadOf_16 : decode cX10_loadOf 16 = .ok (.goto 4, 3) := by decide +kernel
theorem dX10_loadOf_19 : decode cX10_loadOf 19 = .ok (.iconst 0, 1) := by decide +kernel
theorem dX10_loadOf_20 : decode cX10_loadOf 20 = .ok (.ireturn, 1) := by decide +kernel
theorem dX10_isDriven_0 : decode cX10_isDriven 0 = .ok (.aload_n 0, 1) := by decide +kernel
theorem dX10_isDriven_1 : decode cX10_isDriven 1 = .ok (.getfield 22, 3) := by decide +kernel
theorem dX10_isDriven_4 : decode cX10_isDriven 4 = .ok (.getfield 100, 3) := by decide +kernel
theorem dX10_isDriven_7 : decode cX10_isDriven 7 = .ok (.iload_n 1, 1) := by decide +kernel
theorem dX10_isDriven_8 : decode cX10_isDriven 8 = .ok (.invokestatic 113, 3) := by decide +kernel
theorem dX10_isDriven_11 : decode cX10_isDriven 11 = .ok (.ifCond .ne 11, 3) := by decide +kernel
theorem dX10_isDriven_14 : decode cX10_isDriven 14 = .ok (.aload_n 0, 1) := by decide +kernel
theorem dX10_isDriven_15 : decode cX10_isDriven 15 = .ok (.iload_n 1, 1) := by decide +kernel
theorem dX10_isDriven_16 : decode cX10_isDriven 16 = .ok (.invokevirtual 72, 3) := by decide +kernel
theorem dX10_isDriven_19 : decode cX10_isDriven 19 = .ok (.ifCond .eq 5, 3) := by decide +kernel
theorem dX10_isDriven_22 : decode cX10_isDriven 22 = .ok (.iconst 0, 1) := by decide +kernel
theorem dX10_isDriven_23 : decode cX10_isDriven 23 = .ok (.ireturn, 1) := by decide +kernel
theorem dX10_isDriven_24 : decode cX10_isDriven 24 = .ok (.aload_n 0, 1) := by decide +kernel
theorem dX10_isDriven_25 : decode cX10_isDriven 25 = .ok (.iload_n 1, 1) := by decide +kernel
theorem dX10_isDriven_26 : decode cX10_isDriven 26 = .ok (.aload_n 0, 1) := by decide +kernel
theorem dX10_isDriven_27 : decode cX10_isDriven 27 = .ok (.iload_n 1, 1) := by decide +kernel
theorem dX10_isDriven_28 : decode cX10_isDriven 28 = .ok (.invokevirtual 153, 3) := by decide +kernel
theorem dX10_isDriven_31 : decode cX10_isDriven 31 = .ok (.invokevirtual 145, 3) := by decide +kernel
theorem dX10_isDriven_34 : decode cX10_isDriven 34 = .ok (.ifCond .eq 14, 3) := by decide +kernel
theorem dX10_isDriven_37 : decode cX10_isDriven 37 = .ok (.aload_n 0, 1) := by decide +kernel
theorem dX10_isDriven_38 : decode cX10_isDriven 38 = .ok (.invokevirtual 156, 3) := by decide +kernel
theorem dX10_isDriven_41 : decode cX10_isDriven 41 = .ok (.ifCond .le 7, 3) := by decide +kernel
theorem dX10_isDriven_44 : decode cX10_isDriven 44 = .ok (.iconst 1, 1) := by decide +kernel
theorem dX10_isDriven_45 : decode cX10_isDriven 45 = .ok (.goto 4, 3) := by decide +kernel
theorem dX10_isDriven_48 : decode cX10_isDriven 48 = .ok (.iconst 0, 1) := by decide +kernel
theorem dX10_isDriven_49 : decode cX10_isDriven 49 = .ok (.ireturn, 1) := by decide +kernel
theorem dX10_force_0 : decode cX10_force 0 = .ok (.iconst 0, 1) := by decide +kernel
theorem dX10_force_1 : decode cX10_force 1 = .ok (.istore_n 1, 1) := by decide +kernel
theorem dX10_force_2 : decode cX10_force 2 = .ok (.iconst 0, 1) := by decide +kernel
theorem dX10_force_3 : decode cX10_force 3 = .ok (.istore_n 2, 1) := by decide +kernel
theorem dX10_force_4 : decode cX10_force 4 = .ok (.iload_n 2, 1) := by decide +kernel
theorem dX10_force_5 : decode cX10_force 5 = .ok (.aload_n 0, 1) := by decide +kernel
theorem dX10_force_6 : decode cX10_force 6 = .ok (.getfield 18, 3) := by decide +kernel
theorem dX10_force_9 : decode cX10_force 9 = .ok (.getfield 58, 3) := by decide +kernel
theorem dX10_force_12 : decode cX10_force 12 = .ok (.if_icmp .ge 56, 3) := by decide +kernel
theorem dX10_force_15 : decode cX10_force 15 = .ok (.aload_n 0, 1) := by decide +kernel
theorem dX10_force_16 : decode cX10_force 16 = .ok (.getfield 84, 3) := by decide +kernel
theorem dX10_force_19 : decode cX10_force 19 = .ok (.iload_n 2, 1) := by decide +kernel
theorem dX10_force_20 : decode cX10_force 20 = .ok (.invokestatic 113, 3) := by decide +kernel
theorem dX10_force_23 : decode cX10_force 23 = .ok (.ifCond .eq 39, 3) := by decide +kernel
theorem dX10_force_26 : decode cX10_force 26 = .ok (.iload_n 1, 1) := by decide +kernel
theorem dX10_force_27 : decode cX10_force 27 = .ok (.aload_n 0, 1) := by decide +kernel
theorem dX10_force_28 : decode cX10_force 28 = .ok (.iload_n 2, 1) := by decide +kernel
theorem dX10_force_29 : decode cX10_force 29 = .ok (.invokevirtual 142, 3) := by decide +kernel
theorem dX10_force_32 : decode cX10_force 32 = .ok (.aload_n 0, 1) := by decide +kernel
theorem dX10_force_33 : decode cX10_force 33 = .ok (.getfield 22, 3) := by decide +kernel
theorem dX10_force_36 : decode cX10_force 36 = .ok (.getfield 51, 3) := by decide +kernel
theorem dX10_force_39 : decode cX10_force 39 = .ok (.aload_n 0, 1) := by decide +kernel
theorem dX10_force_40 : decode cX10_force 40 = .ok (.getfield 18, 3) := by decide +kernel
theorem dX10_force_43 : decode cX10_force 43 = .ok (.getfield 66, 3) := by decide +kernel
theorem dX10_force_46 : decode cX10_force 46 = .ok (.iload_n 2, 1) := by decide +kernel
theorem dX10_force_47 : decode cX10_force 47 = .ok (.iaload, 1) := by decide +kernel
theorem dX10_force_48 : decode cX10_force 48 = .ok (.iaload, 1) := by decide +kernel
theorem dX10_force_49 : decode cX10_force 49 = .ok (.imul, 1) := by decide +kernel
theorem dX10_force_50 : decode cX10_force 50 = .ok (.aload_n 0, 1) := by decide +kernel
theorem dX10_force_51 : decode cX10_force 51 = .ok (.getfield 18, 3) := by decide +kernel
theorem dX10_force_54 : decode cX10_force 54 = .ok (.getfield 159, 3) := by decide +kernel
theorem dX10_force_57 : decode cX10_force 57 = .ok (.iload_n 2, 1) := by decide +kernel
theorem dX10_force_58 : decode cX10_force 58 = .ok (.iaload, 1) := by decide +kernel
theorem dX10_force_59 : decode cX10_force 59 = .ok (.isub, 1) := by decide +kernel
theorem dX10_force_60 : decode cX10_force 60 = .ok (.iadd, 1) := by decide +kernel
theorem dX10_force_61 : decode cX10_force 61 = .ok (.istore_n 1, 1) := by decide +kernel
theorem dX10_force_62 : decode cX10_force 62 = .ok (.iinc 2 1, 3) := by decide +kernel
theorem dX10_force_65 : decode cX10_force 65 = .ok (.goto (-61), 3) := by decide +kernel
theorem dX10_force_68 : decode cX10_force 68 = .ok (.iload_n 1, 1) := by decide +kernel
theorem dX10_force_69 : decode cX10_force 69 = .ok (.ireturn, 1) := by decide +kernel
theorem dX10_firstDriven_0 : decode cX10_firstDriven 0 = .ok (.iconst 0, 1) := by decide +kernel
theorem dX10_firstDriven_1 : decode cX10_firstDriven 1 = .ok (.istore_n 1, 1) := by decide +kernel
theorem dX10_firstDriven_2 : decode cX10_firstDriven 2 = .ok (.iload_n 1, 1) := by decide +kernel
theorem dX10_firstDriven_3 : decode cX10_firstDriven 3 = .ok (.aload_n 0, 1) := by decide +kernel
theorem dX10_firstDriven_4 : decode cX10_firstDriven 4 = .ok (.getfield 18, 3) := by decide +kernel
theorem dX10_firstDriven_7 : decode cX10_firstDriven 7 = .ok (.getfield 58, 3) := by decide +kernel
theorem dX10_firstDriven_10 : decode cX10_firstDriven 10 = .ok (.if_icmp .ge 19, 3) := by decide +kernel
theorem dX10_firstDriven_13 : decode cX10_firstDriven 13 = .ok (.aload_n 0, 1) := by decide +kernel
theorem dX10_firstDriven_14 : decode cX10_firstDriven 14 = .ok (.iload_n 1, 1) := by decide +kernel
theorem dX10_firstDriven_15 : decode cX10_firstDriven 15 = .ok (.invokevirtual 162, 3) := by decide +kernel
theorem dX10_firstDriven_18 : decode cX10_firstDriven 18 = .ok (.ifCond .eq 5, 3) := by decide +kernel
theorem dX10_firstDriven_21 : decode cX10_firstDriven 21 = .ok (.iload_n 1, 1) := by decide +kernel
theorem dX10_firstDriven_22 : decode cX10_firstDriven 22 = .ok (.ireturn, 1) := by decide +kernel
theorem dX10_firstDriven_23 : decode cX10_firstDriven 23 = .ok (.iinc 1 1, 3) := by decide +kernel
theorem dX10_firstDriven_26 : decode cX10_firstDriven 26 = .ok (.goto (-24), 3) := by decide +kernel
theorem dX10_firstDriven_29 : decode cX10_firstDriven 29 = .ok (.iconst (-1), 1) := by decide +kernel
theorem dX10_firstDriven_30 : decode cX10_firstDriven 30 = .ok (.ireturn, 1) := by decide +kernel
theorem dX10_goOn_0 : decode cX10_goOn 0 = .ok (.iconst 0, 1) := by decide +kernel
theorem dX10_goOn_1 : decode cX10_goOn 1 = .ok (.istore_n 2, 1) := by decide +kernel
theorem dX10_goOn_2 : decode cX10_goOn 2 = .ok (.iload_n 2, 1) := by decide +kernel
theorem dX10_goOn_3 : decode cX10_goOn 3 = .ok (.iload_n 1, 1) := by decide +kernel
theorem dX10_goOn_4 : decode cX10_goOn 4 = .ok (.if_icmp .ge 58, 3) := by decide +kernel
theorem dX10_goOn_7 : decode cX10_goOn 7 = .ok (.aload_n 0, 1) := by decide +kernel
theorem dX10_goOn_8 : decode cX10_goOn 8 = .ok (.getfield 26, 3) := by decide +kernel
theorem dX10_goOn_11 : decode cX10_goOn 11 = .ok (.istore_n 3, 1) := by decide +kernel
theorem dX10_goOn_12 : decode cX10_goOn 12 = .ok (.iconst 0, 1) := by decide +kernel
theorem dX10_goOn_13 : decode cX10_goOn 13 = .ok (.istore 4, 2) := by decide +kernel
theorem dX10_goOn_15 : decode cX10_goOn 15 = .ok (.iload 4, 2) := by decide +kernel
theorem dX10_goOn_17 : decode cX10_goOn 17 = .ok (.aload_n 0, 1) := by decide +kernel
theorem dX10_goOn_18 : decode cX10_goOn 18 = .ok (.getfield 18, 3) := by decide +kernel
theorem dX10_goOn_21 : decode cX10_goOn 21 = .ok (.getfield 58, 3) := by decide +kernel
theorem dX10_goOn_24 : decode cX10_goOn 24 = .ok (.if_icmp .ge 22, 3) := by decide +kernel
theorem dX10_goOn_27 : decode cX10_goOn 27 = .ok (.aload_n 0, 1) := by decide +kernel
theorem dX10_goOn_28 : decode cX10_goOn 28 = .ok (.iload 4, 2) := by decide +kernel
theorem dX10_goOn_30 : decode cX10_goOn 30 = .ok (.invokevirtual 162, 3) := by decide +kernel
theorem dX10_goOn_33 : decode cX10_goOn 33 = .ok (.ifCond .eq 7, 3) := by decide +kernel
theorem dX10_goOn_36 : decode cX10_goOn 36 = .ok (.aload_n 0, 1) := by decide +kernel
theorem dX10_goOn_37 : decode cX10_goOn 37 = .ok (.invokevirtual 165, 3) := by decide +kernel
theorem dX10_goOn_40 : decode cX10_goOn 40 = .ok (.iinc 4 1, 3) := by decide +kernel
theorem dX10_goOn_43 : decode cX10_goOn 43 = .ok (.goto (-28), 3) := by decide +kernel
theorem dX10_goOn_46 : decode cX10_goOn 46 = .ok (.aload_n 0, 1) := by decide +kernel
theorem dX10_goOn_47 : decode cX10_goOn 47 = .ok (.getfield 26, 3) := by decide +kernel
theorem dX10_goOn_50 : decode cX10_goOn 50 = .ok (.iload_n 3, 1) := by decide +kernel
theorem dX10_goOn_51 : decode cX10_goOn 51 = .ok (.if_icmp .ne 5, 3) := by decide +kernel
theorem dX10_goOn_54 : decode cX10_goOn 54 = .ok (.iload_n 2, 1) := by decide +kernel
theorem dX10_goOn_55 : decode cX10_goOn 55 = .ok (.ireturn, 1) := by decide +kernel
theorem dX10_goOn_56 : decode cX10_goOn 56 = .ok (.iinc 2 1, 3) := by decide +kernel
theorem dX10_goOn_59 : decode cX10_goOn 59 = .ok (.goto (-57), 3) := by decide +kernel
theorem dX10_goOn_62 : decode cX10_goOn 62 = .ok (.iload_n 1, 1) := by decide +kernel
theorem dX10_goOn_63 : decode cX10_goOn 63 = .ok (.ireturn, 1) := by decide +kernel
theorem dX10_turnByHand_0 : decode cX10_turnByHand 0 = .ok (.iload_n 2, 1) := by decide +kernel
theorem dX10_turnByHand_1 : decode cX10_turnByHand 1 = .ok (.ifCond .ge 7, 3) := by decide +kernel
theorem dX10_turnByHand_4 : decode cX10_turnByHand 4 = .ok (.iconst (-1), 1) := by decide +kernel
theorem dX10_turnByHand_5 : decode cX10_turnByHand 5 = .ok (.goto 4, 3) := by decide +kernel
theorem dX10_turnByHand_8 : decode cX10_turnByHand 8 = .ok (.iconst 1, 1) := by decide +kernel
theorem dX10_turnByHand_9 : decode cX10_turnByHand 9 = .ok (.istore_n 3, 1) := by decide +kernel
theorem dX10_turnByHand_10 : decode cX10_turnByHand 10 = .ok (.iload_n 2, 1) := by decide +kernel
theorem dX10_turnByHand_11 : decode cX10_turnByHand 11 = .ok (.invokestatic 168, 3) := by decide +kernel
theorem dX10_turnByHand_14 : decode cX10_turnByHand 14 = .ok (.istore 4, 2) := by decide +kernel
theorem dX10_turnByHand_16 : decode cX10_turnByHand 16 = .ok (.iconst 0, 1) := by decide +kernel
theorem dX10_turnByHand_17 : decode cX10_turnByHand 17 = .ok (.istore 5, 2) := by decide +kernel
theorem dX10_turnByHand_19 : decode cX10_turnByHand 19 = .ok (.iload 5, 2) := by decide +kernel
theorem dX10_turnByHand_21 : decode cX10_turnByHand 21 = .ok (.iload 4, 2) := by decide +kernel
theorem dX10_turnByHand_23 : decode cX10_turnByHand 23 = .ok (.if_icmp .ge 25, 3) := by decide +kernel
theorem dX10_turnByHand_26 : decode cX10_turnByHand 26 = .ok (.aload_n 0, 1) := by decide +kernel
theorem dX10_turnByHand_27 : decode cX10_turnByHand 27 = .ok (.iload_n 1, 1) := by decide +kernel
theorem dX10_turnByHand_28 : decode cX10_turnByHand 28 = .ok (.iload_n 3, 1) := by decide +kernel
theorem dX10_turnByHand_29 : decode cX10_turnByHand 29 = .ok (.invokevirtual 145, 3) := by decide +kernel
theorem dX10_turnByHand_32 : decode cX10_turnByHand 32 = .ok (.ifCond .ne 6, 3) := by decide +kernel
theorem dX10_turnByHand_35 : decode cX10_turnByHand 35 = .ok (.iload 5, 2) := by decide +kernel
theorem dX10_turnByHand_37 : decode cX10_turnByHand 37 = .ok (.ireturn, 1) := by decide +kernel
theorem dX10_turnByHand_38 : decode cX10_turnByHand 38 = .ok (.aload_n 0, 1) := by decide +kernel
theorem dX10_turnByHand_39 : decode cX10_turnByHand 39 = .ok (.invokevirtual 165, 3) := by decide +kernel
theorem dX10_turnByHand_42 : decode cX10_turnByHand 42 = .ok (.iinc 5 1, 3) := by decide +kernel
theorem dX10_turnByHand_45 : decode cX10_turnByHand 45 = .ok (.goto (-26), 3) := by decide +kernel
theorem dX10_turnByHand_48 : decode cX10_turnByHand 48 = .ok (.iload 4, 2) := by decide +kernel
theorem dX10_turnByHand_50 : decode cX10_turnByHand 50 = .ok (.ireturn, 1) := by decide +kernel
theorem dX10_wrongQuarters_0 : decode cX10_wrongQuarters 0 = .ok (.iconst 0, 1) := by decide +kernel
theorem dX10_wrongQuarters_1 : decode cX10_wrongQuarters 1 = .ok (.istore_n 3, 1) := by decide +kernel
theorem dX10_wrongQuarters_2 : decode cX10_wrongQuarters 2 = .ok (.iconst 0, 1) := by decide +kernel
theorem dX10_wrongQuarters_3 : decode cX10_wrongQuarters 3 = .ok (.istore 4, 2) := by decide +kernel
theorem dX10_wrongQuarters_5 : decode cX10_wrongQuarters 5 = .ok (.iload 4, 2) := by decide +kernel
theorem dX10_wrongQuarters_7 : decode cX10_wrongQuarters 7 = .ok (.iload_n 2, 1) := by decide +kernel
theorem dX10_wrongQuarters_8 : decode cX10_wrongQuarters 8 = .ok (.if_icmp .ge 57, 3) := by decide +kernel
theorem dX10_wrongQuarters_11 : decode cX10_wrongQuarters 11 = .ok (.aload_n 0, 1) := by decide +kernel
theorem dX10_wrongQuarters_12 : decode cX10_wrongQuarters 12 = .ok (.iconst 1, 1) := by decide +kernel
theorem dX10_wrongQuarters_13 : decode cX10_wrongQuarters 13 = .ok (.invokevirtual 173, 3) := by decide +kernel
theorem dX10_wrongQuarters_16 : decode cX10_wrongQuarters 16 = .ok (.ifCond .ne 7, 3) := by decide +kernel
theorem dX10_wrongQuarters_19 : decode cX10_wrongQuarters 19 = .ok (.iconst 1, 1) := by decide +kernel
theorem dX10_wrongQuarters_20 : decode cX10_wrongQuarters 20 = .ok (.goto 4, 3) := by decide +kernel
theorem dX10_wrongQuarters_23 : decode cX10_wrongQuarters 23 = .ok (.iconst 0, 1) := by decide +kernel
theorem dX10_wrongQuarters_24 : decode cX10_wrongQuarters 24 = .ok (.istore 5, 2) := by decide +kernel
theorem dX10_wrongQuarters_26 : decode cX10_wrongQuarters 26 = .ok (.iload_n 1, 1) := by decide +kernel
theorem dX10_wrongQuarters_27 : decode cX10_wrongQuarters 27 = .ok (.aload_n 0, 1) := by decide +kernel
theorem dX10_wrongQuarters_28 : decode cX10_wrongQuarters 28 = .ok (.invokevirtual 176, 3) := by decide +kernel
theorem dX10_wrongQuarters_31 : decode cX10_wrongQuarters 31 = .ok (.iconst (-1), 1) := by decide +kernel
theorem dX10_wrongQuarters_32 : decode cX10_wrongQuarters 32 = .ok (.ixor, 1) := by decide +kernel
theorem dX10_wrongQuarters_33 : decode cX10_wrongQuarters 33 = .ok (.iand, 1) := by decide +kernel
theorem dX10_wrongQuarters_34 : decode cX10_wrongQuarters 34 = .ok (.invokestatic 148, 3) := by decide +kernel
theorem dX10_wrongQuarters_37 : decode cX10_wrongQuarters 37 = .ok (.istore 6, 2) := by decide +kernel
theorem dX10_wrongQuarters_39 : decode cX10_wrongQuarters 39 = .ok (.iload 5, 2) := by decide +kernel
theorem dX10_wrongQuarters_41 : decode cX10_wrongQuarters 41 = .ok (.ifCond .eq 13, 3) := by decide +kernel
theorem dX10_wrongQuarters_44 : decode cX10_wrongQuarters 44 = .ok (.iload_n 3, 1) := by decide +kernel
theorem dX10_wrongQuarters_45 : decode cX10_wrongQuarters 45 = .ok (.iload 6, 2) := by decide +kernel
theorem dX10_wrongQuarters_47 : decode cX10_wrongQuarters 47 = .ok (.iload_n 2, 1) := by decide +kernel
theorem dX10_wrongQuarters_48 : decode cX10_wrongQuarters 48 = .ok (.iload 4, 2) := by decide +kernel
theorem dX10_wrongQuarters_50 : decode cX10_wrongQuarters 50 = .ok (.isub, 1) := by decide +kernel
theorem dX10_wrongQuarters_51 : decode cX10_wrongQuarters 51 = .ok (.imul, 1) := by decide +kernel
theorem dX10_wrongQuarters_52 : decode cX10_wrongQuarters 52 = .ok (.iadd, 1) := by decide +kernel
theorem dX10_wrongQuarters_53 : decode cX10_wrongQuarters 53 = .ok (.ireturn, 1) := by decide +kernel
theorem dX10_wrongQuarters_54 : decode cX10_wrongQuarters 54 = .ok (.iload_n 3, 1) := by decide +kernel
theorem dX10_wrongQuarters_55 : decode cX10_wrongQuarters 55 = .ok (.iload 6, 2) := by decide +kernel
theorem dX10_wrongQuarters_57 : decode cX10_wrongQuarters 57 = .ok (.iadd, 1) := by decide +kernel
theorem dX10_wrongQuarters_58 : decode cX10_wrongQuarters 58 = .ok (.istore_n 3, 1) := by decide +kernel
theorem dX10_wrongQuarters_59 : decode cX10_wrongQuarters 59 = .ok (.iinc 4 1, 3) := by decide +kernel
theorem dX10_wrongQuarters_62 : decode cX10_wrongQuarters 62 = .ok (.goto (-57), 3) := by decide +kernel
theorem dX10_wrongQuarters_65 : decode cX10_wrongQuarters 65 = .ok (.iload_n 3, 1) := by decide +kernel
theorem dX10_wrongQuarters_66 : decode cX10_wrongQuarters 66 = .ok (.ireturn, 1) := by decide +kernel
theorem dX11_init_0 : decode cX11_init 0 = .ok (.aload_n 0, 1) := by decide +kernel
theorem dX11_init_1 : decode cX11_init 1 = .ok (.invokespecial 1, 3) := by decide +kernel
theorem dX11_init_4 : decode cX11_init 4 = .ok (.aload_n 0, 1) := by decide +kernel
theorem dX11_init_5 : decode cX11_init 5 = .ok (.lconst 1, 1) := by decide +kernel
theorem dX11_init_6 : decode cX11_init 6 = .ok (.putfield 7, 3) := by decide +kernel
theorem dX11_init_9 : decode cX11_init 9 = .ok (.aload_n 0, 1) := by decide +kernel
theorem dX11_init_10 : decode cX11_init 10 = .ok (.iconst 4, 1) := by decide +kernel
theorem dX11_init_11 : decode cX11_init 11 = .ok (.anewarray 13, 3) := by decide +kernel
theorem dX11_init_14 : decode cX11_init 14 = .ok (.putfield 15, 3) := by decide +kernel
theorem dX11_init_17 : decode cX11_init 17 = .ok (.aload_n 0, 1) := by decide +kernel
theorem dX11_init_18 : decode cX11_init 18 = .ok (.new 19, 3) := by decide +kernel
theorem dX11_init_21 : decode cX11_init 21 = .ok (.dup, 1) := by decide +kernel
theorem dX11_init_22 : decode cX11_init 22 = .ok (.invokespecial 21, 3) := by decide +kernel
theorem dX11_init_25 : decode cX11_init 25 = .ok (.putfield 22, 3) := by decide +kernel
theorem dX11_init_28 : decode cX11_init 28 = .ok (.aload_n 0, 1) := by decide +kernel
theorem dX11_init_29 : decode cX11_init 29 = .ok (.new 26, 3) := by decide +kernel
theorem dX11_init_32 : decode cX11_init 32 = .ok (.dup, 1) := by decide +kernel
theorem dX11_init_33 : decode cX11_init 33 = .ok (.invokespecial 28, 3) := by decide +kernel
theorem dX11_init_36 : decode cX11_init 36 = .ok (.putfield 29, 3) := by decide +kernel
theorem dX11_init_39 : decode cX11_init 39 = .ok (.aload_n 0, 1) := by decide +kernel
theorem dX11_init_40 : decode cX11_init 40 = .ok (.new 33, 3) := by decide +kernel
theorem dX11_init_43 : decode cX11_init 43 = .ok (.dup, 1) := by decide +kernel
theorem dX11_init_44 : decode cX11_init 44 = .ok (.invokespecial 35, 3) := by decide +kernel
theorem dX11_init_47 : decode cX11_init 47 = .ok (.putfield 36, 3) := by decide +kernel
theorem dX11_init_50 : decode cX11_init 50 = .ok (.aload_n 0, 1) := by decide +kernel
theorem dX11_init_51 : decode cX11_init 51 = .ok (.iconst (-1), 1) := by decide +kernel
theorem dX11_init_52 : decode cX11_init 52 = .ok (.putfield 40, 3) := by decide +kernel
theorem dX11_init_55 : decode cX11_init 55 = .ok (.aload_n 0, 1) := by decide +kernel
theorem dX11_init_56 : decode cX11_init 56 = .ok (.iconst (-1), 1) := by decide +kernel
theorem dX11_init_57 : decode cX11_init 57 = .ok (.putfield 44, 3) := by decide +kernel
theorem dX11_init_60 : decode cX11_init 60 = .ok (.aload_n 0, 1) := by decide +kernel
theorem dX11_init_61 : decode cX11_init 61 = .ok (.new 47, 3) := by decide +kernel
theorem dX11_init_64 : decode cX11_init 64 = .ok (.dup, 1) := by decide +kernel
theorem dX11_init_65 : decode cX11_init 65 = .ok (.invokespecial 49, 3) := by decide +kernel
theorem dX11_init_68 : decode cX11_init 68 = .ok (.putfield 50, 3) := by decide +kernel
theorem dX11_init_71 : decode cX11_init 71 = .ok (.aload_n 0, 1) := by decide +kernel
theorem dX11_init_72 : decode cX11_init 72 = .ok (.new 54, 3) := by decide +kernel
theorem dX11_init_75 : decode cX11_init 75 = .ok (.dup, 1) := by decide +kernel
theorem dX11_init_76 : decode cX11_init 76 = .ok (.invokespecial 56, 3) := by decide +kernel
theorem dX11_init_79 : decode cX11_init 79 = .ok (.putfield 57, 3) := by decide +kernel
theorem dX11_init_82 : decode cX11_init 82 = .ok (.aload_n 0, 1) := by decide +kernel
theorem dX11_init_83 : decode cX11_init 83 = .ok (.new 61, 3) := by decide +kernel
theorem dX11_init_86 : decode cX11_init 86 = .ok (.dup, 1) := by decide +kernel
theorem dX11_init_87 : decode cX11_init 87 = .ok (.invokespecial 63, 3) := by decide +kernel
theorem dX11_init_90 : decode cX11_init 90 = .ok (.putfield 64, 3) := by decide +kernel
theorem dX11_init_93 : decode cX11_init 93 = .ok (.aload_n 0, 1) := by decide +kernel
theorem dX11_init_94 : decode cX11_init 94 = .ok (.iconst 3, 1) := by decide +kernel
theorem dX11_init_95 : decode cX11_init 95 = .ok (.anewarray 47, 3) := by decide +kernel
theorem dX11_init_98 : decode cX11_init 98 = .ok (.putfield 68, 3) := by decide +kernel
theorem dX11_init_101 : decode cX11_init 101 = .ok (.aload_n 0, 1) := by decide +kernel
theorem dX11_init_102 : decode cX11_init 102 = .ok (.new 72, 3) := by decide +kernel
theorem dX11_init_105 : decode cX11_init 105 = .ok (.dup, 1) := by decide +kernel
theorem dX11_init_106 : decode cX11_init 106 = .ok (.invokespecial 74, 3) := by decide +kernel
theorem dX11_init_109 : decode cX11_init 109 = .ok (.putfield 75, 3) := by decide +kernel
theorem dX11_init_112 : decode cX11_init 112 = .ok (.aload_n 0, 1) := by decide +kernel
theorem dX11_init_113 : decode cX11_init 113 = .ok (.new 79, 3) := by decide +kernel
theorem dX11_init_116 : decode cX11_init 116 = .ok (.dup, 1) := by decide +kernel
theorem dX11_init_117 : decode cX11_init 117 = .ok (.invokespecial 81, 3) := by decide +kernel
theorem dX11_init_120 : decode cX11_init 120 = .ok (.putfield 82, 3) := by decide +kernel
theorem dX11_init_123 : decode cX11_init 123 = .ok (.aload_n 0, 1) := by decide +kernel
theorem dX11_init_124 : decode cX11_init 124 = .ok (.new 86, 3) := by decide +kernel
theorem dX11_init_127 : decode cX11_init 127 = .ok (.dup, 1) := by decide +kernel
theorem dX11_init_128 : decode cX11_init 128 = .ok (.invokespecial 88, 3) := by decide +kernel
theorem dX11_init_131 : decode cX11_init 131 = .ok (.putfield 89, 3) := by decide +kernel
theorem dX11_init_134 : decode cX11_init 134 = .ok (.aload_n 0, 1) := by decide +kernel
theorem dX11_init_135 : decode cX11_init 135 = .ok (.new 93, 3) := by decide +kernel
theorem dX11_init_138 : decode cX11_init 138 = .ok (.dup, 1) := by decide +kernel
theorem dX11_init_139 : decode cX11_init 139 = .ok (.invokespecial 95, 3) := by decide +kernel
theorem dX11_init_142 : decode cX11_init 142 = .ok (.putfield 96, 3) := by decide +kernel
theorem dX11_init_145 : decode cX11_init 145 = .ok (.iconst 0, 1) := by decide +kernel
theorem dX11_init_146 : decode cX11_init 146 = .ok (.istore_n 1, 1) := by decide +kernel
theorem dX11_init_147 : decode cX11_init 147 = .ok (.iload_n 1, 1) := by decide +kernel
theorem dX11_init_148 : decode cX11_init 148 = .ok (.iconst 4, 1) := by decide +kernel
theorem dX11_init_149 : decode cX11_init 149 = .ok (.if_icmp .ge 22, 3) := by decide +kernel
theorem dX11_init_152 : decode cX11_init 152 = .ok (.aload_n 0, 1) := by decide +kernel
theorem dX11_init_153 : decode cX11_init 153 = .ok (.getfield 15, 3) := by decide +kernel
theorem dX11_init_156 : decode cX11_init 156 = .ok (.iload_n 1, 1) := by decide +kernel
theorem dX11_init_157 : decode cX11_init 157 = .ok (.new 13, 3) := by decide +kernel
theorem dX11_init_160 : decode cX11_init 160 = .ok (.dup, 1) := by decide +kernel
theorem dX11_init_161 : decode cX11_init 161 = .ok (.invokespecial 100, 3) := by decide +kernel
theorem dX11_init_164 : decode cX11_init 164 = .ok (.aastore, 1) := by decide +kernel
theorem dX11_init_165 : decode cX11_init 165 = .ok (.iinc 1 1, 3) := by decide +kernel
theorem dX11_init_168 : decode cX11_init 168 = .ok (.goto (-21), 3) := by decide +kernel
theorem dX11_init_171 : decode cX11_init 171 = .ok (.iconst 0, 1) := by decide +kernel
theorem dX11_init_172 : decode cX11_init 172 = .ok (.istore_n 1, 1) := by decide +kernel
theorem dX11_init_173 : decode cX11_init 173 = .ok (.iload_n 1, 1) := by decide +kernel
theorem dX11_init_174 : decode cX11_init 174 = .ok (.iconst 3, 1) := by decide +kernel
theorem dX11_init_175 : decode cX11_init 175 = .ok (.if_icmp .ge 22, 3) := by decide +kernel
theorem dX11_init_178 : decode cX11_init 178 = .ok (.aload_n 0, 1) := by decide +kernel
theorem dX11_init_179 : decode cX11_init 179 = .ok (.getfield 68, 3) := by decide +kernel
theorem dX11_init_182 : decode cX11_init 182 = .ok (.iload_n 1, 1) := by decide +kernel
theorem dX11_init_183 : decode cX11_init 183 = .ok (.new 47, 3) := by decide +kernel
theorem dX11_init_186 : decode cX11_init 186 = .ok (.dup, 1) := by decide +kernel
theorem dX11_init_187 : decode cX11_init 187 = .ok (.invokespecial 49, 3) := by decide +kernel
theorem dX11_init_190 : decode cX11_init 190 = .ok (.aastore, 1) := by decide +kernel
theorem dX11_init_191 : decode cX11_init 191 = .ok (.iinc 1 1, 3) := by decide +kernel
theorem dX11_init_194 : decode cX11_init 194 = .ok (.goto (-21), 3) := by decide +kernel
theorem dX11_init_197 : decode cX11_init 197 = .ok (.return_, 1) := by decide +kernel
theorem dX11_status_0 : decode cX11_status 0 = .ok (.aload_n 0, 1) := by decide +kernel
theorem dX11_status_1 : decode cX11_status 1 = .ok (.getfield 101, 3) := by decide +kernel
theorem dX11_status_4 : decode cX11_status 4 = .ok (.ireturn, 1) := by decide +kernel
theorem dX11_top_0 : decode cX11_top 0 = .ok (.aload_n 0, 1) := by decide +kernel
theorem dX11_top_1 : decode cX11_top 1 = .ok (.getfield 104, 3) := by decide +kernel
theorem dX11_top_4 : decode cX11_top 4 = .ok (.lreturn, 1) := by decide +kernel
theorem dX11_bottom_0 : decode cX11_bottom 0 = .ok (.aload_n 0, 1) := by decide +kernel
theorem dX11_bottom_1 : decode cX11_bottom 1 = .ok (.getfield 7, 3) := by decide +kernel
theorem dX11_bottom_4 : decode cX11_bottom 4 = .ok (.lreturn, 1) := by decide +kernel
theorem dX11_tray_0 : decode cX11_tray 0 = .ok (.aload_n 0, 1) := by decide +kernel
theorem dX11_tray_1 : decode cX11_tray 1 = .ok (.iload_n 1, 1) := by decide +kernel
theorem dX11_tray_2 : decode cX11_tray 2 = .ok (.invokevirtual 107, 3) := by decide +kernel
theorem dX11_tray_5 : decode cX11_tray 5 = .ok (.ifCond .eq 22, 3) := by decide +kernel
theorem dX11_tray_8 : decode cX11_tray 8 = .ok (.iload_n 2, 1) := by decide +kernel
theorem dX11_tray_9 : decode cX11_tray 9 = .ok (.ifCond .lt 18, 3) := by decide +kernel
theorem dX11_tray_12 : decode cX11_tray 12 = .ok (.iload_n 2, 1) := by decide +kernel
theorem dX11_tray_13 : decode cX11_tray 13 = .ok (.iconst 3, 1) := by decide +kernel
theorem dX11_tray_14 : decode cX11_tray 14 = .ok (.if_icmp .gt 13, 3) := by decide +kernel
theorem dX11_tray_17 : decode cX11_tray 17 = .ok (.iload_n 3, 1) := by decide +kernel
theorem dX11_tray_18 : decode cX11_tray 18 = .ok (.ifCond .lt 9, 3) := by decide +kernel
theorem dX11_tray_21 : decode cX11_tray 21 = .ok (.iload_n 3, 1) := by decide +kernel
theorem dX11_tray_22 : decode cX11_tray 22 = .ok (.bipush 60, 2) := by decide +kernel
theorem dX11_tray_24 : decode cX11_tray 24 = .ok (.if_icmp .le 9, 3) := by decide +kernel
theorem dX11_tray_27 : decode cX11_tray 27 = .ok (.aload_n 0, 1) := by decide +kernel
theorem dX11_tray_28 : decode cX11_tray 28 = .ok (.iconst 1, 1) := by decide +kernel
theorem dX11_tray_29 : decode cX11_tray 29 = .ok (.invokevirtual 111, 3) := by decide +kernel
theorem dX11_tray_32 : decode cX11_tray 32 = .ok (.ireturn, 1) := by decide +kernel
theorem dX11_tray_33 : decode cX11_tray 33 = .ok (.aload_n 0, 1) := by decide +kernel
theorem dX11_tray_34 : decode cX11_tray 34 = .ok (.getfield 15, 3) := by decide +kernel
theorem dX11_tray_37 : decode cX11_tray 37 = .ok (.iload_n 1, 1) := by decide +kernel
theorem dX11_tray_38 : decode cX11_tray 38 = .ok (.aaload, 1) := by decide +kernel
theorem dX11_tray_39 : decode cX11_tray 39 = .ok (.iload_n 2, 1) := by decide +kernel
theorem dX11_tray_40 : decode cX11_tray 40 = .ok (.iload_n 3, 1) := by decide +kernel
theorem dX11_tray_41 : decode cX11_tray 41 = .ok (.invokevirtual 114, 3) := by decide +kernel
theorem dX11_tray_44 : decode cX11_tray 44 = .ok (.aload_n 0, 1) := by decide +kernel
theorem dX11_tray_45 : decode cX11_tray 45 = .ok (.invokevirtual 118, 3) := by decide +kernel
theorem dX11_tray_48 : decode cX11_tray 48 = .ok (.ireturn, 1) := by decide +kernel
theorem dX11_write_0 : decode cX11_write 0 = .ok (.aload_n 0, 1) := by decide +kernel
theorem dX11_write_1 : decode cX11_write 1 = .ok (.iload_n 1, 1) := by decide +kernel
theorem dX11_write_2 : decode cX11_write 2 = .ok (.iload_n 2, 1) := by decide +kernel
theorem dX11_write_3 : decode cX11_write 3 = .ok (.invokevirtual 122, 3) := by decide +kernel
theorem dX11_write_6 : decode cX11_write 6 = .ok (.istore 5, 2) := by decide +kernel
theorem dX11_write_8 : decode cX11_write 8 = .ok (.iload 5, 2) := by decide +kernel
theorem dX11_write_10 : decode cX11_write 10 = .ok (.ifCond .eq 10, 3) := by decide +kernel
theorem dX11_write_13 : decode cX11_write 13 = .ok (.aload_n 0, 1) := by decide +kernel
theorem dX11_write_14 : decode cX11_write 14 = .ok (.iload 5, 2) := by decide +kernel
theorem dX11_write_16 : decode cX11_write 16 = .ok (.invokevirtual 111, 3) := by decide +kernel
theorem dX11_write_19 : decode cX11_write 19 = .ok (.ireturn, 1) := by decide +kernel
theorem dX11_write_20 : decode cX11_write 20 = .ok (.aload_n 0, 1) := by decide +kernel
theorem dX11_write_21 : decode cX11_write 21 = .ok (.getfield 15, 3) := by decide +kernel
theorem dX11_write_24 : decode cX11_write 24 = .ok (.iload_n 1, 1) := by decide +kernel
theorem dX11_write_25 : decode cX11_write 25 = .ok (.aaload, 1) := by decide +kernel
theorem dX11_write_26 : decode cX11_write 26 = .ok (.iload_n 2, 1) := by decide +kernel
theorem dX11_write_27 : decode cX11_write 27 = .ok (.lload_n 3, 1) := by decide +kernel
theorem dX11_write_28 : decode cX11_write 28 = .ok (.invokevirtual 126, 3) := by decide +kernel
theorem dX11_write_31 : decode cX11_write 31 = .ok (.aload_n 0, 1) := by decide +kernel
theorem dX11_write_32 : decode cX11_write 32 = .ok (.invokevirtual 118, 3) := by decide +kernel
theorem dX11_write_35 : decode cX11_write 35 = .ok (.ireturn, 1) := by decide +kernel
theorem dX11_read_0 : decode cX11_read 0 = .ok (.aload_n 0, 1) := by decide +kernel
theorem dX11_read_1 : decode cX11_read 1 = .ok (.iload_n 1, 1) := by decide +kernel
theorem dX11_read_2 : decode cX11_read 2 = .ok (.iload_n 2, 1) := by decide +kernel
theorem dX11_read_3 : decode cX11_read 3 = .ok (.invokevirtual 122, 3) := by decide +kernel
theorem dX11_read_6 : decode cX11_read 6 = .ok (.istore_n 3, 1) := by decide +kernel
theorem dX11_read_7 : decode cX11_read 7 = .ok (.iload_n 3, 1) := by decide +kernel
theorem dX11_read_8 : decode cX11_read 8 = .ok (.ifCond .eq 10, 3) := by decide +kernel
theorem dX11_read_11 : decode cX11_read 11 = .ok (.aload_n 0, 1) := by decide +kernel
theorem dX11_read_12 : decode cX11_read 12 = .ok (.iload_n 3, 1) := by decide +kernel
theorem dX11_read_13 : decode cX11_read 13 = .ok (.invokevirtual 130, 3) := by decide +kernel
theorem dX11_read_16 : decode cX11_read 16 = .ok (.i2l, 1) := by decide +kernel
theorem dX11_read_17 : decode cX11_read 17 = .ok (.lreturn, 1) := by decide +kernel
theorem dX11_read_18 : decode cX11_read 18 = .ok (.aload_n 0, 1) := by decide +kernel
theorem dX11_read_19 : decode cX11_read 19 = .ok (.iconst 0, 1) := by decide +kernel
theorem dX11_read_20 : decode cX11_read 20 = .ok (.putfield 101, 3) := by decide +kernel
theorem dX11_read_23 : decode cX11_read 23 = .ok (.aload_n 0, 1) := by decide +kernel
theorem dX11_read_24 : decode cX11_read 24 = .ok (.getfield 15, 3) := by decide +kernel
theorem dX11_read_27 : decode cX11_read 27 = .ok (.iload_n 1, 1) := by decide +kernel
theorem dX11_read_28 : decode cX11_read 28 = .ok (.aaload, 1) := by decide +kernel
theorem dX11_read_29 : decode cX11_read 29 = .ok (.getfield 134, 3) := by decide +kernel
theorem dX11_read_32 : decode cX11_read 32 = .ok (.iload_n 2, 1) := by decide +kernel
theorem dX11_read_33 : decode cX11_read 33 = .ok (.laload, 1) := by decide +kernel
theorem dX11_read_34 : decode cX11_read 34 = .ok (.lreturn, 1) := by decide +kernel
theorem dX11_pour_0 : decode cX11_pour 0 = .ok (.aload_n 0, 1) := by decide +kernel
theorem dX11_pour_1 : decode cX11_pour 1 = .ok (.iload_n 1, 1) := by decide +kernel
theorem dX11_pour_2 : decode cX11_pour 2 = .ok (.invokevirtual 107, 3) := by decide +kernel
theorem dX11_pour_5 : decode cX11_pour 5 = .ok (.ifCond .eq 25, 3) := by decide +kernel
theorem dX11_pour_8 : decode cX11_pour 8 = .ok (.aload_n 0, 1) := by decide +kernel
theorem dX11_pour_9 : decode cX11_pour 9 = .ok (.iload_n 3, 1) := by decide +kernel
theorem dX11_pour_10 : decode cX11_pour 10 = .ok (.invokevirtual 107, 3) := by decide +kernel
theorem dX11_pour_13 : decode cX11_pour 13 = .ok (.ifCond .eq 17, 3) := by decide +kernel
theorem dX11_pour_16 : decode cX11_pour 16 = .ok (.iload_n 2, 1) := by decide +kernel
theorem dX11_pour_17 : decode cX11_pour 17 = .ok (.ifCond .lt 13, 3) := by decide +kernel
theorem dX11_pour_20 : decode cX11_pour 20 = .ok (.iload 4, 2) := by decide +kernel
theorem dX11_pour_22 : decode cX11_pour 22 = .ok (.ifCond .lt 8, 3) := by decide +kernel
theorem dX11_pour_25 : decode cX11_pour 25 = .ok (.iload 5, 2) := by decide +kernel
theorem dX11_pour_27 : decode cX11_pour 27 = .ok (.ifCond .ge 9, 3) := by decide +kernel
theorem dX11_pour_30 : decode cX11_pour 30 = .ok (.aload_n 0, 1) := by decide +kernel
theorem dX11_pour_31 : decode cX11_pour 31 = .ok (.iconst 1, 1) := by decide +kernel
theorem dX11_pour_32 : decode cX11_pour 32 = .ok (.invokevirtual 111, 3) := by decide +kernel
theorem dX11_pour_35 : decode cX11_pour 35 = .ok (.ireturn, 1) := by decide +kernel
theorem dX11_pour_36 : decode cX11_pour 36 = .ok (.aload_n 0, 1) := by decide +kernel
theorem dX11_pour_37 : decode cX11_pour 37 = .ok (.getfield 15, 3) := by decide +kernel
theorem dX11_pour_40 : decode cX11_pour 40 = .ok (.iload_n 1, 1) := by decide +kernel
theorem dX11_pour_41 : decode cX11_pour 41 = .ok (.aaload, 1) := by decide +kernel
theorem dX11_pour_42 : decode cX11_pour 42 = .ok (.astore 6, 2) := by decide +kernel
theorem dX11_pour_44 : decode cX11_pour 44 = .ok (.aload_n 0, 1) := by decide +kernel
theorem dX11_pour_45 : decode cX11_pour 45 = .ok (.getfield 15, 3) := by decide +kernel
theorem dX11_pour_48 : decode cX11_pour 48 = .ok (.iload_n 3, 1) := by decide +kernel
theorem dX11_pour_49 : decode cX11_pour 49 = .ok (.aaload, 1) := by decide +kernel
theorem dX11_pour_50 : decode cX11_pour 50 = .ok (.astore 7, 2) := by decide +kernel
theorem dX11_pour_52 : decode cX11_pour 52 = .ok (.aload 6, 2) := by decide +kernel
theorem dX11_pour_54 : decode cX11_pour 54 = .ok (.invokevirtual 138, 3) := by decide +kernel
theorem dX11_pour_57 : decode cX11_pour 57 = .ok (.ifCond .ne 11, 3) := by decide +kernel
theorem dX11_pour_60 : decode cX11_pour 60 = .ok (.aload 7, 2) := by decide +kernel
theorem dX11_pour_62 : decode cX11_pour 62 = .ok (.invokevirtual 138, 3) := by decide +kernel
theorem dX11_pour_65 : decode cX11_pour 65 = .ok (.ifCond .eq 9, 3) := by decide +kernel
theorem dX11_pour_68 : decode cX11_pour 68 = .ok (.aload_n 0, 1) := by decide +kernel
theorem dX11_pour_69 : decode cX11_pour 69 = .ok (.iconst 2, 1) := by decide +kernel
theorem dX11_pour_70 : decode cX11_pour 70 = .ok (.invokevirtual 111, 3) := by decide +kernel
theorem dX11_pour_73 : decode cX11_pour 73 = .ok (.ireturn, 1) := by decide +kernel
theorem dX11_pour_74 : decode cX11_pour 74 = .ok (.aload 6, 2) := by decide +kernel
theorem dX11_pour_76 : decode cX11_pour 76 = .ok (.getfield 141, 3) := by decide +kernel
theorem dX11_pour_79 : decode cX11_pour 79 = .ok (.aload 7, 2) := by decide +kernel
theorem dX11_pour_81 : decode cX11_pour 81 = .ok (.getfield 141, 3) := by decide +kernel
theorem dX11_pour_84 : decode cX11_pour 84 = .ok (.if_icmp .eq 10, 3) := by decide +kernel
theorem dX11_pour_87 : decode cX11_pour 87 = .ok (.aload_n 0, 1) := by decide +kernel
theorem dX11_pour_88 : decode cX11_pour 88 = .ok (.bipush 8, 2) := by decide +kernel
theorem dX11_pour_90 : decode cX11_pour 90 = .ok (.invokevirtual 111, 3) := by decide +kernel
theorem dX11_pour_93 : decode cX11_pour 93 = .ok (.ireturn, 1) := by decide +kernel
theorem dX11_pour_94 : decode cX11_pour 94 = .ok (.aload 6, 2) := by decide +kernel
theorem dX11_pour_96 : decode cX11_pour 96 = .ok (.iload_n 2, 1) := by decide +kernel
theorem dX11_pour_97 : decode cX11_pour 97 = .ok (.iload 5, 2) := by decide +kernel
theorem dX11_pour_99 : decode cX11_pour 99 = .ok (.invokevirtual 144, 3) := by decide +kernel
theorem dX11_pour_102 : decode cX11_pour 102 = .ok (.ifCond .eq 15, 3) := by decide +kernel
theorem dX11_pour_105 : decode cX11_pour 105 = .ok (.aload 7, 2) := by decide +kernel
theorem dX11_pour_107 : decode cX11_pour 107 = .ok (.iload 4, 2) := by decide +kernel
theorem dX11_pour_109 : decode cX11_pour 109 = .ok (.iload 5, 2) := by decide +kernel
theorem dX11_pour_111 : decode cX11_pour 111 = .ok (.invokevirtual 144, 3) := by decide +kernel
theorem dX11_pour_114 : decode cX11_pour 114 = .ok (.ifCond .ne 9, 3) := by decide +kernel
theorem dX11_pour_117 : decode cX11_pour 117 = .ok (.aload_n 0, 1) := by decide +kernel
theorem dX11_pour_118 : decode cX11_pour 118 = .ok (.iconst 3, 1) := by decide +kernel
theorem dX11_pour_119 : decode cX11_pour 119 = .ok (.invokevirtual 111, 3) := by decide +kernel
theorem dX11_pour_122 : decode cX11_pour 122 = .ok (.ireturn, 1) := by decide +kernel
theorem dX11_pour_123 : decode cX11_pour 123 = .ok (.aload 6, 2) := by decide +kernel
theorem dX11_pour_125 : decode cX11_pour 125 = .ok (.getfield 134, 3) := by decide +kernel
theorem dX11_pour_128 : decode cX11_pour 128 = .ok (.iload_n 2, 1) := by decide +kernel
theorem dX11_pour_129 : decode cX11_pour 129 = .ok (.aload 7, 2) := by decide +kernel
theorem dX11_pour_131 : decode cX11_pour 131 = .ok (.getfield 134, 3) := by decide +kernel
theorem dX11_pour_134 : decode cX11_pour 134 = .ok (.iload 4, 2) := by decide +kernel
theorem dX11_pour_136 : decode cX11_pour 136 = .ok (.iload 5, 2) := by decide +kernel
theorem dX11_pour_138 : decode cX11_pour 138 = .ok (.invokestatic 148, 3) := by decide +kernel
theorem dX11_pour_141 : decode cX11_pour 141 = .ok (.aload_n 0, 1) := by decide +kernel
theorem dX11_pour_142 : decode cX11_pour 142 = .ok (.invokevirtual 118, 3) := by decide +kernel
theorem dX11_pour_145 : decode cX11_pour 145 = .ok (.ireturn, 1) := by decide +kernel
theorem dX11_feed_0 : decode cX11_feed 0 = .ok (.aload_n 0, 1) := by decide +kernel
theorem dX11_feed_1 : decode cX11_feed 1 = .ok (.getfield 22, 3) := by decide +kernel
theorem dX11_feed_4 : decode cX11_feed 4 = .ok (.bipush 20, 2) := by decide +kernel
theorem dX11_feed_6 : decode cX11_feed 6 = .ok (.invokevirtual 154, 3) := by decide +kernel
theorem dX11_feed_9 : decode cX11_feed 9 = .ok (.ifCond .ne 5, 3) := by decide +kernel
theorem dX11_feed_12 : decode cX11_feed 12 = .ok (.iconst (-1), 1) := by decide +kernel
theorem dX11_feed_13 : decode cX11_feed 13 = .ok (.ireturn, 1) := by decide +kernel
theorem dX11_feed_14 : decode cX11_feed 14 = .ok (.aload_n 0, 1) := by decide +kernel
theorem dX11_feed_15 : decode cX11_feed 15 = .ok (.getfield 22, 3) := by decide +kernel
theorem dX11_feed_18 : decode cX11_feed 18 = .ok (.iload_n 1, 1) := by decide +kernel
theorem dX11_feed_19 : decode cX11_feed 19 = .ok (.invokevirtual 157, 3) := by decide +kernel
theorem dX11_feed_22 : decode cX11_feed 22 = .ok (.aload_n 0, 1) := by decide +kernel
theorem dX11_feed_23 : decode cX11_feed 23 = .ok (.getfield 22, 3) := by decide +kernel
theorem dX11_feed_26 : decode cX11_feed 26 = .ok (.iload_n 2, 1) := by decide +kernel
theorem dX11_feed_27 : decode cX11_feed 27 = .ok (.invokevirtual 157, 3) := by decide +kernel
theorem dX11_feed_30 : decode cX11_feed 30 = .ok (.aload_n 0, 1) := by decide +kernel
theorem dX11_feed_31 : decode cX11_feed 31 = .ok (.getfield 22, 3) := by decide +kernel
theorem dX11_feed_34 : decode cX11_feed 34 = .ok (.iload_n 3, 1) := by decide +kernel
theorem dX11_feed_35 : decode cX11_feed 35 = .ok (.invokevirtual 157, 3) := by decide +kernel
theorem dX11_feed_38 : decode cX11_feed 38 = .ok (.aload_n 0, 1) := by decide +kernel
theorem dX11_feed_39 : decode cX11_feed 39 = .ok (.getfield 22, 3) := by decide +kernel
theorem dX11_feed_42 : decode cX11_feed 42 = .ok (.iload 4, 2) := by decide +kernel
theorem dX11_feed_44 : decode cX11_feed 44 = .ok (.invokevirtual 157, 3) := by decide +kernel
theorem dX11_feed_47 : decode cX11_feed 47 = .ok (.aload_n 0, 1) := by decide +kernel
theorem dX11_feed_48 : decode cX11_feed 48 = .ok (.getfield 22, 3) := by decide +kernel
theorem dX11_feed_51 : decode cX11_feed 51 = .ok (.iload 5, 2) := by decide +kernel
theorem dX11_feed_53 : decode cX11_feed 53 = .ok (.invokevirtual 157, 3) := by decide +kernel
theorem dX11_feed_56 : decode cX11_feed 56 = .ok (.aload_n 0, 1) := by decide +kernel
theorem dX11_feed_57 : decode cX11_feed 57 = .ok (.getfield 22, 3) := by decide +kernel
theorem dX11_feed_60 : decode cX11_feed 60 = .ok (.getfield 161, 3) := by decide +kernel
theorem dX11_feed_63 : decode cX11_feed 63 = .ok (.ireturn, 1) := by decide +kernel
theorem dX11_village_0 : decode cX11_village 0 = .ok (.iload_n 1, 1) := by decide +kernel
theorem dX11_village_1 : decode cX11_village 1 = .ok (.ifCond .lt 14, 3) := by decide +kernel
theorem dX11_village_4 : decode cX11_village 4 = .ok (.iload_n 1, 1) := by decide +kernel
theorem dX11_village_5 : decode cX11_village 5 = .ok (.aload_n 0, 1) := by decide +kernel
theorem dX11_village_6 : decode cX11_village 6 = .ok (.getfield 22, 3) := by decide +kernel
theorem dX11_village_9 : decode cX11_village 9 = .ok (.getfield 161, 3) := by decide +kernel
theorem dX11_village_12 : decode cX11_village 12 = .ok (.if_icmp .le 9, 3) := by decide +kernel
theorem dX11_village_15 : decode cX11_village 15 = .ok (.aload_n 0, 1) := by decide +kernel
theorem dX11_village_16 : decode cX11_village 16 = .ok (.iconst 1, 1) := by decide +kernel
theorem dX11_village_17 : decode cX11_village 17 = .ok (.invokevirtual 130, 3) := by decide +kernel
theorem dX11_village_20 : decode cX11_village 20 = .ok (.ireturn, 1) := by decide +kernel
theorem dX11_village_21 : decode cX11_village 21 = .ok (.aload_n 0, 1) := by decide +kernel
theorem dX11_village_22 : decode cX11_village 22 = .ok (.getfield 22, 3) := by decide +kernel
theorem dX11_village_25 : decode cX11_village 25 = .ok (.iload_n 1, 1) := by decide +kernel
theorem dX11_village_26 : decode cX11_village 26 = .ok (.invokevirtual 164, 3) := by decide +kernel
theorem dX11_village_29 : decode cX11_village 29 = .ok (.aload_n 0, 1) := by decide +kernel
theorem dX11_village_30 : decode cX11_village 30 = .ok (.getfield 29, 3) := by decide +kernel
theorem dX11_village_33 : decode cX11_village 33 = .ok (.aload_n 0, 1) := by decide +kernel
theorem dX11_village_34 : decode cX11_village 34 = .ok (.getfield 22, 3) := by decide +kernel
theorem dX11_village_37 : decode cX11_village 37 = .ok (.aload_n 0, 1) := by decide +kernel
theorem dX11_village_38 : decode cX11_village 38 = .ok (.getfield 57, 3) := by decide +kernel
theorem dX11_village_41 : decode cX11_village 41 = .ok (.invokevirtual 167, 3) := by decide +kernel
theorem dX11_village_44 : decode cX11_village 44 = .ok (.istore_n 2, 1) := by decide +kernel
theorem dX11_village_45 : decode cX11_village 45 = .ok (.aload_n 0, 1) := by decide +kernel
theorem dX11_village_46 : decode cX11_village 46 = .ok (.invokevirtual 171, 3) := by decide +kernel
theorem dX11_village_49 : decode cX11_village 49 = .ok (.iload_n 2, 1) := by decide +kernel
theorem dX11_village_50 : decode cX11_village 50 = .ok (.ifCond .ne 10, 3) := by decide +kernel
theorem dX11_village_53 : decode cX11_village 53 = .ok (.aload_n 0, 1) := by decide +kernel
theorem dX11_village_54 : decode cX11_village 54 = .ok (.bipush 9, 2) := by decide +kernel
theorem dX11_village_56 : decode cX11_village 56 = .ok (.invokevirtual 130, 3) := by decide +kernel
theorem dX11_village_59 : decode cX11_village 59 = .ok (.ireturn, 1) := by decide +kernel
theorem dX11_village_60 : decode cX11_village 60 = .ok (.aload_n 0, 1) := by decide +kernel
theorem dX11_village_61 : decode cX11_village 61 = .ok (.getfield 57, 3) := by decide +kernel
theorem dX11_village_64 : decode cX11_village 64 = .ok (.astore_n 3, 1) := by decide +kernel
theorem dX11_village_65 : decode cX11_village 65 = .ok (.aload_n 0, 1) := by decide +kernel
theorem dX11_village_66 : decode cX11_village 66 = .ok (.aload_n 0, 1) := by decide +kernel
theorem dX11_village_67 : decode cX11_village 67 = .ok (.getfield 50, 3) := by decide +kernel
theorem dX11_village_70 : decode cX11_village 70 = .ok (.getfield 174, 3) := by decide +kernel
theorem dX11_village_73 : decode cX11_village 73 = .ok (.putfield 57, 3) := by decide +kernel
theorem dX11_village_76 : decode cX11_village 76 = .ok (.aload_n 0, 1) := by decide +kernel
theorem dX11_village_77 : decode cX11_village 77 = .ok (.getfield 50, 3) := by decide +kernel
theorem dX11_village_80 : decode cX11_village 80 = .ok (.aload_n 3, 1) := by decide +kernel
theorem dX11_village_81 : decode cX11_village 81 = .ok (.putfield 174, 3) := by decide +kernel
theorem dX11_village_84 : decode cX11_village 84 = .ok (.aload_n 0, 1) := by decide +kernel
theorem dX11_village_85 : decode cX11_village 85 = .ok (.getfield 50, 3) := by decide +kernel
theorem dX11_village_88 : decode cX11_village 88 = .ok (.getfield 177, 3) := by decide +kernel
theorem dX11_village_91 : decode cX11_village 91 = .ok (.aload_n 3, 1) := by decide +kernel
theorem dX11_village_92 : decode cX11_village 92 = .ok (.invokevirtual 180, 3) := by decide +kernel
theorem dX11_village_95 : decode cX11_village 95 = .ok (.aload_n 0, 1) := by decide +kernel
theorem dX11_village_96 : decode cX11_village 96 = .ok (.getfield 50, 3) := by decide +kernel
theorem dX11_village_99 : decode cX11_village 99 = .ok (.getfield 184, 3) := by decide +kernel
theorem dX11_village_102 : decode cX11_village 102 = .ok (.invokevirtual 187, 3) := by decide +kernel
theorem dX11_village_105 : decode cX11_village 105 = .ok (.aload_n 0, 1) := by decide +kernel
theorem dX11_village_106 : decode cX11_village 106 = .ok (.aload_n 3, 1) := by decide +kernel
theorem dX11_village_107 : decode cX11_village 107 = .ok (.getfield 190, 3) := by decide +kernel
theorem dX11_village_110 : decode cX11_village 110 = .ok (.invokevirtual 193, 3) := by decide +kernel
theorem dX11_village_113 : decode cX11_village 113 = .ok (.ireturn, 1) := by decide +kernel
theorem dX11_orders_0 : decode cX11_orders 0 = .ok (.iload_n 1, 1) := by decide +kernel
theorem dX11_orders_1 : decode cX11_orders 1 = .ok (.ifCond .lt 21, 3) := by decide +kernel
theorem dX11_orders_4 : decode cX11_orders 4 = .ok (.iload_n 1, 1) := by decide +kernel
theorem dX11_orders_5 : decode cX11_orders 5 = .ok (.aload_n 0, 1) := by decide +kernel
theorem dX11_orders_6 : decode cX11_orders 6 = .ok (.getfield 22, 3) := by decide +kernel
theorem dX11_orders_9 : decode cX11_orders 9 = .ok (.getfield 161, 3) := by decide +kernel
theorem dX11_orders_12 : decode cX11_orders 12 = .ok (.if_icmp .gt 10, 3) := by decide +kernel
theorem dX11_orders_15 : decode cX11_orders 15 = .ok (.iload_n 1, 1) := by decide +kernel
theorem dX11_orders_16 : decode cX11_orders 16 = .ok (.sipush 300, 3) := by decide +kernel
theorem dX11_orders_19 : decode cX11_orders 19 = .ok (.if_icmp .le 9, 3) := by decide +kernel
theorem dX11_orders_22 : decode cX11_orders 22 = .ok (.aload_n 0, 1) := by decide +kernel
theorem dX11_orders_23 : decode cX11_orders 23 = .ok (.iconst 1, 1) := by decide +kernel
theorem dX11_orders_24 : decode cX11_orders 24 = .ok (.invokevirtual 130, 3) := by decide +kernel
theorem dX11_orders_27 : decode cX11_orders 27 = .ok (.ireturn, 1) := by decide +kernel
theorem dX11_orders_28 : decode cX11_orders 28 = .ok (.aload_n 0, 1) := by decide +kernel
theorem dX11_orders_29 : decode cX11_orders 29 = .ok (.getfield 22, 3) := by decide +kernel
theorem dX11_orders_32 : decode cX11_orders 32 = .ok (.iload_n 1, 1) := by decide +kernel
theorem dX11_orders_33 : decode cX11_orders 33 = .ok (.invokevirtual 164, 3) := by decide +kernel
theorem dX11_orders_36 : decode cX11_orders 36 = .ok (.aload_n 0, 1) := by decide +kernel
theorem dX11_orders_37 : decode cX11_orders 37 = .ok (.getfield 36, 3) := by decide +kernel
theorem dX11_orders_40 : decode cX11_orders 40 = .ok (.aload_n 0, 1) := by decide +kernel
theorem dX11_orders_41 : decode cX11_orders 41 = .ok (.getfield 22, 3) := by decide +kernel
theorem dX11_orders_44 : decode cX11_orders 44 = .ok (.aload_n 0, 1) := by decide +kernel
theorem dX11_orders_45 : decode cX11_orders 45 = .ok (.getfield 50, 3) := by decide +kernel
theorem dX11_orders_48 : decode cX11_orders 48 = .ok (.getfield 174, 3) := by decide +kernel
theorem dX11_orders_51 : decode cX11_orders 51 = .ok (.aload_n 0, 1) := by decide +kernel
theorem dX11_orders_52 : decode cX11_orders 52 = .ok (.getfield 64, 3) := by decide +kernel
theorem dX11_orders_55 : decode cX11_orders 55 = .ok (.invokevirtual 196, 3) := by decide +kernel
theorem dX11_orders_58 : decode cX11_orders 58 = .ok (.istore_n 2, 1) := by decide +kernel
theorem dX11_orders_59 : decode cX11_orders 59 = .ok (.aload_n 0, 1) := by decide +kernel
theorem dX11_orders_60 : decode cX11_orders 60 = .ok (.invokevirtual 171, 3) := by decide +kernel
theorem dX11_orders_63 : decode cX11_orders 63 = .ok (.iload_n 2, 1) := by decide +kernel
theorem dX11_orders_64 : decode cX11_orders 64 = .ok (.ifCond .ne 10, 3) := by decide +kernel
theorem dX11_orders_67 : decode cX11_orders 67 = .ok (.aload_n 0, 1) := by decide +kernel
theorem dX11_orders_68 : decode cX11_orders 68 = .ok (.bipush 9, 2) := by decide +kernel
theorem dX11_orders_70 : decode cX11_orders 70 = .ok (.invokevirtual 130, 3) := by decide +kernel
theorem dX11_orders_73 : decode cX11_orders 73 = .ok (.ireturn, 1) := by decide +kernel
theorem dX11_orders_74 : decode cX11_orders 74 = .ok (.aload_n 0, 1) := by decide +kernel
theorem dX11_orders_75 : decode cX11_orders 75 = .ok (.getfield 64, 3) := by decide +kernel
theorem dX11_orders_78 : decode cX11_orders 78 = .ok (.astore_n 3, 1) := by decide +kernel
theorem dX11_orders_79 : decode cX11_orders 79 = .ok (.aload_n 0, 1) := by decide +kernel
theorem dX11_orders_80 : decode cX11_orders 80 = .ok (.aload_n 0, 1) := by decide +kernel
theorem dX11_orders_81 : decode cX11_orders 81 = .ok (.getfield 50, 3) := by decide +kernel
theorem dX11_orders_84 : decode cX11_orders 84 = .ok (.getfield 184, 3) := by decide +kernel
theorem dX11_orders_87 : decode cX11_orders 87 = .ok (.putfield 64, 3) := by decide +kernel
theorem dX11_orders_90 : decode cX11_orders 90 = .ok (.aload_n 0, 1) := by decide +kernel
theorem dX11_orders_91 : decode cX11_orders 91 = .ok (.getfield 50, 3) := by decide +kernel
theorem dX11_orders_94 : decode cX11_orders 94 = .ok (.aload_n 3, 1) := by decide +kernel
theorem dX11_orders_95 : decode cX11_orders 95 = .ok (.putfield 184, 3) := by decide +kernel
theorem dX11_orders_98 : decode cX11_orders 98 = .ok (.aload_n 0, 1) := by decide +kernel
theorem dX11_orders_99 : decode cX11_orders 99 = .ok (.aload_n 3, 1) := by decide +kernel
theorem dX11_orders_100 : decode cX11_orders 100 = .ok (.getfield 199, 3) := by decide +kernel
theorem dX11_orders_103 : decode cX11_orders 103 = .ok (.invokevirtual 193, 3) := by decide +kernel
theorem dX11_orders_106 : decode cX11_orders 106 = .ok (.ireturn, 1) := by decide +kernel
theorem dX11_fault_0 : decode cX11_fault 0 = .ok (.iload_n 1, 1) := by decide +kernel
theorem dX11_fault_1 : decode cX11_fault 1 = .ok (.ifCond .ne 8, 3) := by decide +kernel
theorem dX11_fault_4 : decode cX11_fault 4 = .ok (.aload_n 0, 1) := by decide +kernel
theorem dX11_fault_5 : decode cX11_fault 5 = .ok (.getfield 40, 3) := by decide +kernel
theorem dX11_fault_8 : decode cX11_fault 8 = .ok (.ireturn, 1) := by decide +kernel
theorem dX11_fault_9 : decode cX11_fault 9 = .ok (.iload_n 1, 1) := by decide +kernel
theorem dX11_fault_10 : decode cX11_fault 10 = .ok (.iconst 1, 1) := by decide +kernel
theorem dX11_fault_11 : decode cX11_fault 11 = .ok (.if_icmp .ne 10, 3) := by decide +kernel
theorem dX11_fault_14 : decode cX11_fault 14 = .ok (.aload_n 0, 1) := by decide +kernel
theorem dX11_fault_15 : decode cX11_fault 15 = .ok (.getfield 44, 3) := by decide +kernel
theorem dX11_fault_18 : decode cX11_fault 18 = .ok (.goto 4, 3) := by decide +kernel
theorem dX11_fault_21 : decode cX11_fault 21 = .ok (.iconst (-1), 1) := by decide +kernel
theorem dX11_fault_22 : decode cX11_fault 22 = .ok (.ireturn, 1) := by decide +kernel
theorem dX11_told_0 : decode cX11_told 0 = .ok (.iload_n 1, 1) := by decide +kernel
theorem dX11_told_1 : decode cX11_told 1 = .ok (.tableswitch 129 0 5 #[39, 54, 69, 84, 99, 114], 39) := by decide +kernel
theorem dX11_told_40 : decode cX11_told 40 = .ok (.aload_n 0, 1) := by decide +kernel
theorem dX11_told_41 : decode cX11_told 41 = .ok (.aload_n 0, 1) := by decide +kernel
theorem dX11_told_42 : decode cX11_told 42 = .ok (.getfield 50, 3) := by decide +kernel
theorem dX11_told_45 : decode cX11_told 45 = .ok (.getfield 174, 3) := by decide +kernel
theorem dX11_told_48 : decode cX11_told 48 = .ok (.getfield 202, 3) := by decide +kernel
theorem dX11_told_51 : decode cX11_told 51 = .ok (.invokevirtual 193, 3) := by decide +kernel
theorem dX11_told_54 : decode cX11_told 54 = .ok (.ireturn, 1) := by decide +kernel
theorem dX11_told_55 : decode cX11_told 55 = .ok (.aload_n 0, 1) := by decide +kernel
theorem dX11_told_56 : decode cX11_told 56 = .ok (.aload_n 0, 1) := by decide +kernel
theorem dX11_told_57 : decode cX11_told 57 = .ok (.getfield 50, 3) := by decide +kernel
theorem dX11_told_60 : decode cX11_told 60 = .ok (.getfield 174, 3) := by decide +kernel
theorem dX11_told_63 : decode cX11_told 63 = .ok (.getfield 190, 3) := by decide +kernel
theorem dX11_told_66 : decode cX11_told 66 = .ok (.invokevirtual 193, 3) := by decide +kernel
theorem dX11_told_69 : decode cX11_told 69 = .ok (.ireturn, 1) := by decide +kernel
theorem dX11_told_70 : decode cX11_told 70 = .ok (.aload_n 0, 1) := by decide +kernel
theorem dX11_told_71 : decode cX11_told 71 = .ok (.aload_n 0, 1) := by decide +kernel
theorem dX11_told_72 : decode cX11_told 72 = .ok (.getfield 50, 3) := by decide +kernel
theorem dX11_told_75 : decode cX11_told 75 = .ok (.getfield 174, 3) := by decide +kernel
theorem dX11_told_78 : decode cX11_told 78 = .ok (.getfield 205, 3) := by decide +kernel
theorem dX11_told_81 : decode cX11_told 81 = .ok (.invokevirtual 193, 3) := by decide +kernel
theorem dX11_told_84 : decode cX11_told 84 = .ok (.ireturn, 1) := by decide +kernel
theorem dX11_told_85 : decode cX11_told 85 = .ok (.aload_n 0, 1) := by decide +kernel
theorem dX11_told_86 : decode cX11_told 86 = .ok (.aload_n 0, 1) := by decide +kernel
theorem dX11_told_87 : decode cX11_told 87 = .ok (.getfield 50, 3) := by decide +kernel
theorem dX11_told_90 : decode cX11_told 90 = .ok (.getfield 177, 3) := by decide +kernel
theorem dX11_told_93 : decode cX11_told 93 = .ok (.getfield 208, 3) := by decide +kernel
theorem dX11_told_96 : decode cX11_told 96 = .ok (.invokevirtual 193, 3) := by decide +kernel
theorem dX11_told_99 : decode cX11_told 99 = .ok (.ireturn, 1) := by decide +kernel
theorem dX11_told_100 : decode cX11_told 100 = .ok (.aload_n 0, 1) := by decide +kernel
theorem dX11_told_101 : decode cX11_told 101 = .ok (.aload_n 0, 1) := by decide +kernel
theorem dX11_told_102 : decode cX11_told 102 = .ok (.getfield 50, 3) := by decide +kernel
theorem dX11_told_105 : decode cX11_told 105 = .ok (.getfield 177, 3) := by decide +kernel
theorem dX11_told_108 : decode cX11_told 108 = .ok (.getfield 211, 3) := by decide +kernel
theorem dX11_told_111 : decode cX11_told 111 = .ok (.invokevirtual 193, 3) := by decide +kernel
theorem dX11_told_114 : decode cX11_told 114 = .ok (.ireturn, 1) := by decide +kernel
theorem dX11_told_115 : decode cX11_told 115 = .ok (.aload_n 0, 1) := by decide +kernel
theorem dX11_told_116 : decode cX11_told 116 = .ok (.aload_n 0, 1) := by decide +kernel
theorem dX11_told_117 : decode cX11_told 117 = .ok (.getfield 50, 3) := by decide +kernel
theorem dX11_told_120 : decode cX11_told 120 = .ok (.getfield 177, 3) := by decide +kernel
theorem dX11_told_123 : decode cX11_told 123 = .ok (.getfield 214, 3) := by decide +kernel
theorem dX11_told_126 : decode cX11_told 126 = .ok (.invokevirtual 193, 3) := by decide +kernel
theorem dX11_told_129 : decode cX11_told 129 = .ok (.ireturn, 1) := by decide +kernel
theorem dX11_told_130 : decode cX11_told 130 = .ok (.aload_n 0, 1) := by decide +kernel
theorem dX11_told_131 : decode cX11_told 131 = .ok (.iconst 1, 1) := by decide +kernel
theorem dX11_told_132 : decode cX11_told 132 = .ok (.invokevirtual 130, 3) := by decide +kernel
theorem dX11_told_135 : decode cX11_told 135 = .ok (.ireturn, 1) := by decide +kernel
theorem dX11_vane_0 : decode cX11_vane 0 = .ok (.aload_n 0, 1) := by decide +kernel
theorem dX11_vane_1 : decode cX11_vane 1 = .ok (.iload_n 1, 1) := by decide +kernel
theorem dX11_vane_2 : decode cX11_vane 2 = .ok (.invokevirtual 217, 3) := by decide +kernel
theorem dX11_vane_5 : decode cX11_vane 5 = .ok (.ifCond .ne 9, 3) := by decide +kernel
theorem dX11_vane_8 : decode cX11_vane 8 = .ok (.aload_n 0, 1) := by decide +kernel
theorem dX11_vane_9 : decode cX11_vane 9 = .ok (.iconst 1, 1) := by decide +kernel
theorem dX11_vane_10 : decode cX11_vane 10 = .ok (.invokevirtual 130, 3) := by decide +kernel
theorem dX11_vane_13 : decode cX11_vane 13 = .ok (.ireturn, 1) := by decide +kernel
theorem dX11_vane_14 : decode cX11_vane 14 = .ok (.iload_n 2, 1) := by decide +kernel
theorem dX11_vane_15 : decode cX11_vane 15 = .ok (.tableswitch 139 0 5 #[37, 54, 71, 88, 105, 122], 37) := by decide +kernel
theorem dX11_vane_52 : decode cX11_vane 52 = .ok (.aload_n 0, 1) := by decide +kernel
theorem dX11_vane_53 : decode cX11_vane 53 = .ok (.aload_n 0, 1) := by decide +kernel
theorem dX11_vane_54 : decode cX11_vane 54 = .ok (.getfield 50, 3) := by decide +kernel
theorem dX11_vane_57 : decode cX11_vane 57 = .ok (.getfield 174, 3) := by decide +kernel
theorem dX11_vane_60 : decode cX11_vane 60 = .ok (.getfield 220, 3) := by decide +kernel
theorem dX11_vane_63 : decode cX11_vane 63 = .ok (.iload_n 1, 1) := by decide +kernel
theorem dX11_vane_64 : decode cX11_vane 64 = .ok (.iaload, 1) := by decide +kernel
theorem dX11_vane_65 : decode cX11_vane 65 = .ok (.invokevirtual 193, 3) := by decide +kernel
theorem dX11_vane_68 : decode cX11_vane 68 = .ok (.ireturn, 1) := by decide +kernel
theorem dX11_vane_69 : decode cX11_vane 69 = .ok (.aload_n 0, 1) := by decide +kernel
theorem dX11_vane_70 : decode cX11_vane 70 = .ok (.aload_n 0, 1) := by decide +kernel
theorem dX11_vane_71 : decode cX11_vane 71 = .ok (.getfield 50, 3) := by decide +kernel
theorem dX11_vane_74 : decode cX11_vane 74 = .ok (.getfield 174, 3) := by decide +kernel
theorem dX11_vane_77 : decode cX11_vane 77 = .ok (.getfield 224, 3) := by decide +kernel
theorem dX11_vane_80 : decode cX11_vane 80 = .ok (.iload_n 1, 1) := by decide +kernel
theorem dX11_vane_81 : decode cX11_vane 81 = .ok (.iaload, 1) := by decide +kernel
theorem dX11_vane_82 : decode cX11_vane 82 = .ok (.invokevirtual 193, 3) := by decide +kernel
theorem dX11_vane_85 : decode cX11_vane 85 = .ok (.ireturn, 1) := by decide +kernel
theorem dX11_vane_86 : decode cX11_vane 86 = .ok (.aload_n 0, 1) := by decide +kernel
theorem dX11_vane_87 : decode cX11_vane 87 = .ok (.aload_n 0, 1) := by decide +kernel
theorem dX11_vane_88 : decode cX11_vane 88 = .ok (.getfield 50, 3) := by decide +kernel
theorem dX11_vane_91 : decode cX11_vane 91 = .ok (.getfield 174, 3) := by decide +kernel
theorem dX11_vane_94 : decode cX11_vane 94 = .ok (.getfield 227, 3) := by decide +kernel
theorem dX11_vane_97 : decode cX11_vane 97 = .ok (.iload_n 1, 1) := by decide +kernel
theorem dX11_vane_98 : decode cX11_vane 98 = .ok (.iaload, 1) := by decide +kernel
theorem dX11_vane_99 : decode cX11_vane 99 = .ok (.invokevirtual 193, 3) := by decide +kernel
theorem dX11_vane_102 : decode cX11_vane 102 = .ok (.ireturn, 1) := by decide +kernel
theorem dX11_vane_103 : decode cX11_vane 103 = .ok (.aload_n 0, 1) := by decide +kernel
theorem dX11_vane_104 : decode cX11_vane 104 = .ok (.aload_n 0, 1) := by decide +kernel
theorem dX11_vane_105 : decode cX11_vane 105 = .ok (.getfield 50, 3) := by decide +kernel
theorem dX11_vane_108 : decode cX11_vane 108 = .ok (.getfield 177, 3) := by decide +kernel
theorem dX11_vane_111 : decode cX11_vane 111 = .ok (.getfield 230, 3) := by decide +kernel
theorem dX11_vane_114 : decode cX11_vane 114 = .ok (.iload_n 1, 1) := by decide +kernel
theorem dX11_vane_115 : decode cX11_vane 115 = .ok (.iaload, 1) := by decide +kernel
theorem dX11_vane_116 : decode cX11_vane 116 = .ok (.invokevirtual 193, 3) := by decide +kernel
theorem dX11_vane_119 : decode cX11_vane 119 = .ok (.ireturn, 1) := by decide +kernel
theorem dX11_vane_120 : decode cX11_vane 120 = .ok (.aload_n 0, 1) := by decide +kernel
theorem dX11_vane_121 : decode cX11_vane 121 = .ok (.aload_n 0, 1) := by decide +kernel
theorem dX11_vane_122 : decode cX11_vane 122 = .ok (.getfield 50, 3) := by decide +kernel
theorem dX11_vane_125 : decode cX11_vane 125 = .ok (.getfield 177, 3) := by decide +kernel
theorem dX11_vane_128 : decode cX11_vane 128 = .ok (.getfield 233, 3) := by decide +kernel
theorem dX11_vane_131 : decode cX11_vane 131 = .ok (.iload_n 1, 1) := by decide +kernel
theorem dX11_vane_132 : decode cX11_vane 132 = .ok (.iaload, 1) := by decide +kernel
theorem dX11_vane_133 : decode cX11_vane 133 = .ok (.invokevirtual 193, 3) := by decide +kernel
theorem dX11_vane_136 : decode cX11_vane 136 = .ok (.ireturn, 1) := by decide +kernel
theorem dX11_vane_137 : decode cX11_vane 137 = .ok (.aload_n 0, 1) := by decide +kernel
theorem dX11_vane_138 : decode cX11_vane 138 = .ok (.aload_n 0, 1) := by decide +kernel
theorem dX11_vane_139 : decode cX11_vane 139 = .ok (.getfield 50, 3) := by decide +kernel
theorem dX11_vane_142 : decode cX11_vane 142 = .ok (.getfield 177, 3) := by decide +kernel
theorem dX11_vane_145 : decode cX11_vane 145 = .ok (.getfield 236, 3) := by decide +kernel
theorem dX11_vane_148 : decode cX11_vane 148 = .ok (.iload_n 1, 1) := by decide +kernel
theorem dX11_vane_149 : decode cX11_vane 149 = .ok (.iaload, 1) := by decide +kernel
theorem dX11_vane_150 : decode cX11_vane 150 = .ok (.invokevirtual 193, 3) := by decide +kernel
theorem dX11_vane_153 : decode cX11_vane 153 = .ok (.ireturn, 1) := by decide +kernel
theorem dX11_vane_154 : decode cX11_vane 154 = .ok (.aload_n 0, 1) := by decide +kernel
theorem dX11_vane_155 : decode cX11_vane 155 = .ok (.iconst 1, 1) := by decide +kernel
theorem dX11_vane_156 : decode cX11_vane 156 = .ok (.invokevirtual 130, 3) := by decide +kernel
theorem dX11_vane_159 : decode cX11_vane 159 = .ok (.ireturn, 1) := by decide +kernel
theorem dX11_shaft_0 : decode cX11_shaft 0 = .ok (.aload_n 0, 1) := by decide +kernel
theorem dX11_shaft_1 : decode cX11_shaft 1 = .ok (.iload_n 1, 1) := by decide +kernel
theorem dX11_shaft_2 : decode cX11_shaft 2 = .ok (.invokevirtual 239, 3) := by decide +kernel
theorem dX11_shaft_5 : decode cX11_shaft 5 = .ok (.ifCond .ne 9, 3) := by decide +kernel
theorem dX11_shaft_8 : decode cX11_shaft 8 = .ok (.aload_n 0, 1) := by decide +kernel
theorem dX11_shaft_9 : decode cX11_shaft 9 = .ok (.iconst 1, 1) := by decide +kernel
theorem dX11_shaft_10 : decode cX11_shaft 10 = .ok (.invokevirtual 130, 3) := by decide +kernel
theorem dX11_shaft_13 : decode cX11_shaft 13 = .ok (.ireturn, 1) := by decide +kernel
theorem dX11_shaft_14 : decode cX11_shaft 14 = .ok (.iload_n 2, 1) := by decide +kernel
theorem dX11_shaft_15 : decode cX11_shaft 15 = .ok (.tableswitch 127 0 4 #[33, 50, 67, 93, 110], 33) := by decide +kernel
theorem dX11_shaft_48 : decode cX11_shaft 48 = .ok (.aload_n 0, 1) := by decide +kernel
theorem dX11_shaft_49 : decode cX11_shaft 49 = .ok (.aload_n 0, 1) := by decide +kernel
theorem dX11_shaft_50 : decode cX11_shaft 50 = .ok (.getfield 50, 3) := by decide +kernel
theorem dX11_shaft_53 : decode cX11_shaft 53 = .ok (.getfield 174, 3) := by decide +kernel
theorem dX11_shaft_56 : decode cX11_shaft 56 = .ok (.getfield 242, 3) := by decide +kernel
theorem dX11_shaft_59 : decode cX11_shaft 59 = .ok (.iload_n 1, 1) := by decide +kernel
theorem dX11_shaft_60 : decode cX11_shaft 60 = .ok (.iaload, 1) := by decide +kernel
theorem dX11_shaft_61 : decode cX11_shaft 61 = .ok (.invokevirtual 193, 3) := by decide +kernel
theorem dX11_shaft_64 : decode cX11_shaft 64 = .ok (.ireturn, 1) := by decide +kernel
theorem dX11_shaft_65 : decode cX11_shaft 65 = .ok (.aload_n 0, 1) := by decide +kernel
theorem dX11_shaft_66 : decode cX11_shaft 66 = .ok (.aload_n 0, 1) := by decide +kernel
theorem dX11_shaft_67 : decode cX11_shaft 67 = .ok (.getfield 50, 3) := by decide +kernel
theorem dX11_shaft_70 : decode cX11_shaft 70 = .ok (.getfield 174, 3) := by decide +kernel
theorem dX11_shaft_73 : decode cX11_shaft 73 = .ok (.getfield 245, 3) := by decide +kernel
theorem dX11_shaft_76 : decode cX11_shaft 76 = .ok (.iload_n 1, 1) := by decide +kernel
theorem dX11_shaft_77 : decode cX11_shaft 77 = .ok (.iaload, 1) := by decide +kernel
theorem dX11_shaft_78 : decode cX11_shaft 78 = .ok (.invokevirtual 193, 3) := by decide +kernel
theorem dX11_shaft_81 : decode cX11_shaft 81 = .ok (.ireturn, 1) := by decide +kernel
theorem dX11_shaft_82 : decode cX11_shaft 82 = .ok (.aload_n 0, 1) := by decide +kernel
theorem dX11_shaft_83 : decode cX11_shaft 83 = .ok (.aload_n 0, 1) := by decide +kernel
theorem dX11_shaft_84 : decode cX11_shaft 84 = .ok (.getfield 50, 3) := by decide +kernel
theorem dX11_shaft_87 : decode cX11_shaft 87 = .ok (.getfield 174, 3) := by decide +kernel
theorem dX11_shaft_90 : decode cX11_shaft 90 = .ok (.getfield 248, 3) := by decide +kernel
theorem dX11_shaft_93 : decode cX11_shaft 93 = .ok (.iload_n 1, 1) := by decide +kernel
theorem dX11_shaft_94 : decode cX11_shaft 94 = .ok (.iaload, 1) := by decide +kernel
theorem dX11_shaft_95 : decode cX11_shaft 95 = .ok (.iconst 1, 1) := by decide +kernel
theorem dX11_shaft_96 : decode cX11_shaft 96 = .ok (.if_icmp .ne 7, 3) := by decide +kernel
theorem dX11_shaft_99 : decode cX11_shaft 99 = .ok (.iconst 1, 1) := by decide +kernel
theorem dX11_shaft_100 : decode cX11_shaft 100 = .ok (.goto 4, 3) := by decide +kernel
theorem dX11_shaft_103 : decode cX11_shaft 103 = .ok (.iconst 0, 1) := by decide +kernel
theorem dX11_shaft_104 : decode cX11_shaft 104 = .ok (.invokevirtual 193, 3) := by decide +kernel
theorem dX11_shaft_107 : decode cX11_shaft 107 = .ok (.ireturn, 1) := by decide +kernel
theorem dX11_shaft_108 : decode cX11_shaft 108 = .ok (.aload_n 0, 1) := by decide +kernel
theorem dX11_shaft_109 : decode cX11_shaft 109 = .ok (.aload_n 0, 1) := by decide +kernel
theorem dX11_shaft_110 : decode cX11_shaft 110 = .ok (.getfield 50, 3) := by decide +kernel
theorem dX11_shaft_113 : decode cX11_shaft 113 = .ok (.getfield 174, 3) := by decide +kernel
theorem dX11_shaft_116 : decode cX11_shaft 116 = .ok (.getfield 251, 3) := by decide +kernel
theorem dX11_shaft_119 : decode cX11_shaft 119 = .ok (.iload_n 1, 1) := by decide +kernel
theorem dX11_shaft_120 : decode cX11_shaft 120 = .ok (.iaload, 1) := by decide +kernel
theorem dX11_shaft_121 : decode cX11_shaft 121 = .ok (.invokevirtual 193, 3) := by decide +kernel
theorem dX11_shaft_124 : decode cX11_shaft 124 = .ok (.ireturn, 1) := by decide +kernel
theorem dX11_shaft_125 : decode cX11_shaft 125 = .ok (.aload_n 0, 1) := by decide +kernel
theorem dX11_shaft_126 : decode cX11_shaft 126 = .ok (.aload_n 0, 1) := by decide +kernel
theorem dX11_shaft_127 : decode cX11_shaft 127 = .ok (.getfield 50, 3) := by decide +kernel
theorem dX11_shaft_130 : decode cX11_shaft 130 = .ok (.getfield 177, 3) := by decide +kernel
theorem dX11_shaft_133 : decode cX11_shaft 133 = .ok (.getfield 254, 3) := by decide +kernel
theorem dX11_shaft_136 : decode cX11_shaft 136 = .ok (.iload_n 1, 1) := by decide +kernel
theorem dX11_shaft_137 : decode cX11_shaft 137 = .ok (.iaload, 1) := by decide +kernel
theorem dX11_shaft_138 : decode cX11_shaft 138 = .ok (.invokevirtual 193, 3) := by decide +kernel
theorem dX11_shaft_141 : decode cX11_shaft 141 = .ok (.ireturn, 1) := by decide +kernel
theorem dX11_shaft_142 : decode cX11_shaft 142 = .ok (.aload_n 0, 1) := by decide +kernel
theorem dX11_shaft_143 : decode cX11_shaft 143 = .ok (.iconst 1, 1) := by decide +kernel
theorem dX11_shaft_144 : decode cX11_shaft 144 = .ok (.invokevirtual 130, 3) := by decide +kernel
theorem dX11_shaft_147 : decode cX11_shaft 147 = .ok (.ireturn, 1) := by decide +kernel
theorem dX11_wants_0 : decode cX11_wants 0 = .ok (.aload_n 0, 1) := by decide +kernel
theorem dX11_wants_1 : decode cX11_wants 1 = .ok (.iload_n 1, 1) := by decide +kernel
theorem dX11_wants_2 : decode cX11_wants 2 = .ok (.invokevirtual 217, 3) := by decide +kernel
theorem dX11_wants_5 : decode cX11_wants 5 = .ok (.ifCond .ne 9, 3) := by decide +kernel
theorem dX11_wants_8 : decode cX11_wants 8 = .ok (.aload_n 0, 1) := by decide +kernel
theorem dX11_wants_9 : decode cX11_wants 9 = .ok (.iconst 1, 1) := by decide +kernel
theorem dX11_wants_10 : decode cX11_wants 10 = .ok (.invokevirtual 130, 3) := by decide +kernel
theorem dX11_wants_13 : decode cX11_wants 13 = .ok (.ireturn, 1) := by decide +kernel
theorem dX11_wants_14 : decode cX11_wants 14 = .ok (.aload_n 0, 1) := by decide +kernel
theorem dX11_wants_15 : decode cX11_wants 15 = .ok (.invokevirtual 257, 3) := by decide +kernel
theorem dX11_wants_18 : decode cX11_wants 18 = .ok (.aload_n 0, 1) := by decide +kernel
theorem dX11_wants_19 : decode cX11_wants 19 = .ok (.getfield 75, 3) := by decide +kernel
theorem dX11_wants_22 : decode cX11_wants 22 = .ok (.getfield 260, 3) := by decide +kernel
theorem dX11_wants_25 : decode cX11_wants 25 = .ok (.iload_n 1, 1) := by decide +kernel
theorem dX11_wants_26 : decode cX11_wants 26 = .ok (.iaload, 1) := by decide +kernel
theorem dX11_wants_27 : decode cX11_wants 27 = .ok (.istore_n 2, 1) := by decide +kernel
theorem dX11_wants_28 : decode cX11_wants 28 = .ok (.iload_n 2, 1) := by decide +kernel
theorem dX11_wants_29 : decode cX11_wants 29 = .ok (.iconst (-1), 1) := by decide +kernel
theorem dX11_wants_30 : decode cX11_wants 30 = .ok (.if_icmp .ne 12, 3) := by decide +kernel
theorem dX11_wants_33 : decode cX11_wants 33 = .ok (.aload_n 0, 1) := by decide +kernel
theorem dX11_wants_34 : decode cX11_wants 34 = .ok (.bipush 6, 2) := by decide +kernel
theorem dX11_wants_36 : decode cX11_wants 36 = .ok (.invokevirtual 130, 3) := by decide +kernel
theorem dX11_wants_39 : decode cX11_wants 39 = .ok (.goto 8, 3) := by decide +kernel
theorem dX11_wants_42 : decode cX11_wants 42 = .ok (.aload_n 0, 1) := by decide +kernel
theorem dX11_wants_43 : decode cX11_wants 43 = .ok (.iload_n 2, 1) := by decide +kernel
theorem dX11_wants_44 : decode cX11_wants 44 = .ok (.invokevirtual 193, 3) := by decide +kernel
theorem dX11_wants_47 : decode cX11_wants 47 = .ok (.ireturn, 1) := by decide +kernel
theorem dX11_right_0 : decode cX11_right 0 = .ok (.aload_n 0, 1) := by decide +kernel
theorem dX11_right_1 : decode cX11_right 1 = .ok (.iload_n 1, 1) := by decide +kernel
theorem dX11_right_2 : decode cX11_right 2 = .ok (.invokevirtual 217, 3) := by decide +kernel
theorem dX11_right_5 : decode cX11_right 5 = .ok (.ifCond .ne 9, 3) := by decide +kernel
theorem dX11_right_8 : decode cX11_right 8 = .ok (.aload_n 0, 1) := by decide +kernel
theorem dX11_right_9 : decode cX11_right 9 = .ok (.iconst 1, 1) := by decide +kernel
theorem dX11_right_10 : decode cX11_right 10 = .ok (.invokevirtual 130, 3) := by decide +kernel
theorem dX11_right_13 : decode cX11_right 13 = .ok (.ireturn, 1) := by decide +kernel
theorem dX11_right_14 : decode cX11_right 14 = .ok (.aload_n 0, 1) := by decide +kernel
theorem dX11_right_15 : decode cX11_right 15 = .ok (.invokevirtual 257, 3) := by decide +kernel
theorem dX11_right_18 : decode cX11_right 18 = .ok (.aload_n 0, 1) := by decide +kernel
theorem dX11_right_19 : decode cX11_right 19 = .ok (.aload_n 0, 1) := by decide +kernel
theorem dX11_right_20 : decode cX11_right 20 = .ok (.getfield 75, 3) := by decide +kernel
theorem dX11_right_23 : decode cX11_right 23 = .ok (.iload_n 1, 1) := by decide +kernel
theorem dX11_right_24 : decode cX11_right 24 = .ok (.invokevirtual 263, 3) := by decide +kernel
theorem dX11_right_27 : decode cX11_right 27 = .ok (.ifCond .eq 7, 3) := by decide +kernel
theorem dX11_right_30 : decode cX11_right 30 = .ok (.iconst 1, 1) := by decide +kernel
theorem dX11_right_31 : decode cX11_right 31 = .ok (.goto 4, 3) := by decide +kernel
theorem dX11_right_34 : decode cX11_right 34 = .ok (.iconst 0, 1) := by decide +kernel
theorem dX11_right_35 : decode cX11_right 35 = .ok (.invokevirtual 193, 3) := by decide +kernel
theorem dX11_right_38 : decode cX11_right 38 = .ok (.ireturn, 1) := by decide +kernel
theorem dX11_wind_0 : decode cX11_wind 0 = .ok (.aload_n 0, 1) := by decide +kernel
theorem dX11_wind_1 : decode cX11_wind 1 = .ok (.iload_n 1, 1) := by decide +kernel
theorem dX11_wind_2 : decode cX11_wind 2 = .ok (.invokevirtual 266, 3) := by decide +kernel
theorem dX11_wind_5 : decode cX11_wind 5 = .ok (.ifCond .eq 13, 3) := by decide +kernel
theorem dX11_wind_8 : decode cX11_wind 8 = .ok (.iload_n 2, 1) := by decide +kernel
theorem dX11_wind_9 : decode cX11_wind 9 = .ok (.ifCond .lt 9, 3) := by decide +kernel
theorem dX11_wind_12 : decode cX11_wind 12 = .ok (.iload_n 2, 1) := by decide +kernel
theorem dX11_wind_13 : decode cX11_wind 13 = .ok (.bipush 16, 2) := by decide +kernel
theorem dX11_wind_15 : decode cX11_wind 15 = .ok (.if_icmp .lt 9, 3) := by decide +kernel
theorem dX11_wind_18 : decode cX11_wind 18 = .ok (.aload_n 0, 1) := by decide +kernel
theorem dX11_wind_19 : decode cX11_wind 19 = .ok (.iconst 1, 1) := by decide +kernel
theorem dX11_wind_20 : decode cX11_wind 20 = .ok (.invokevirtual 111, 3) := by decide +kernel
theorem dX11_wind_23 : decode cX11_wind 23 = .ok (.ireturn, 1) := by decide +kernel
theorem dX11_wind_24 : decode cX11_wind 24 = .ok (.iload_n 3, 1) := by decide +kernel
theorem dX11_wind_25 : decode cX11_wind 25 = .ok (.ifCond .lt 9, 3) := by decide +kernel
theorem dX11_wind_28 : decode cX11_wind 28 = .ok (.iload_n 3, 1) := by decide +kernel
theorem dX11_wind_29 : decode cX11_wind 29 = .ok (.bipush 99, 2) := by decide +kernel
theorem dX11_wind_31 : decode cX11_wind 31 = .ok (.if_icmp .le 9, 3) := by decide +kernel
theorem dX11_wind_34 : decode cX11_wind 34 = .ok (.aload_n 0, 1) := by decide +kernel
theorem dX11_wind_35 : decode cX11_wind 35 = .ok (.iconst 1, 1) := by decide +kernel
theorem dX11_wind_36 : decode cX11_wind 36 = .ok (.invokevirtual 111, 3) := by decide +kernel
theorem dX11_wind_39 : decode cX11_wind 39 = .ok (.ireturn, 1) := by decide +kernel
theorem dX11_wind_40 : decode cX11_wind 40 = .ok (.aload_n 0, 1) := by decide +kernel
theorem dX11_wind_41 : decode cX11_wind 41 = .ok (.getfield 50, 3) := by decide +kernel
theorem dX11_wind_44 : decode cX11_wind 44 = .ok (.getfield 177, 3) := by decide +kernel
theorem dX11_wind_47 : decode cX11_wind 47 = .ok (.getfield 269, 3) := by decide +kernel
theorem dX11_wind_50 : decode cX11_wind 50 = .ok (.iload_n 1, 1) := by decide +kernel
theorem dX11_wind_51 : decode cX11_wind 51 = .ok (.iload_n 2, 1) := by decide +kernel
theorem dX11_wind_52 : decode cX11_wind 52 = .ok (.iastore, 1) := by decide +kernel
theorem dX11_wind_53 : decode cX11_wind 53 = .ok (.aload_n 0, 1) := by decide +kernel
theorem dX11_wind_54 : decode cX11_wind 54 = .ok (.getfield 50, 3) := by decide +kernel
theorem dX11_wind_57 : decode cX11_wind 57 = .ok (.getfield 177, 3) := by decide +kernel
theorem dX11_wind_60 : decode cX11_wind 60 = .ok (.getfield 272, 3) := by decide +kernel
theorem dX11_wind_63 : decode cX11_wind 63 = .ok (.iload_n 1, 1) := by decide +kernel
theorem dX11_wind_64 : decode cX11_wind 64 = .ok (.iload_n 3, 1) := by decide +kernel
theorem dX11_wind_65 : decode cX11_wind 65 = .ok (.iastore, 1) := by decide +kernel
theorem dX11_wind_66 : decode cX11_wind 66 = .ok (.aload_n 0, 1) := by decide +kernel
theorem dX11_wind_67 : decode cX11_wind 67 = .ok (.invokevirtual 118, 3) := by decide +kernel
theorem dX11_wind_70 : decode cX11_wind 70 = .ok (.ireturn, 1) := by decide +kernel
theorem dX11_windAt_0 : decode cX11_windAt 0 = .ok (.aload_n 0, 1) := by decide +kernel
theorem dX11_windAt_1 : decode cX11_windAt 1 = .ok (.iload_n 1, 1) := by decide +kernel
theorem dX11_windAt_2 : decode cX11_windAt 2 = .ok (.invokevirtual 266, 3) := by decide +kernel
theorem dX11_windAt_5 : decode cX11_windAt 5 = .ok (.ifCond .eq 12, 3) := by decide +kernel
theorem dX11_windAt_8 : decode cX11_windAt 8 = .ok (.iload_n 2, 1) := by decide +kernel
theorem dX11_windAt_9 : decode cX11_windAt 9 = .ok (.ifCond .lt 8, 3) := by decide +kernel
theorem dX11_windAt_12 : decode cX11_windAt 12 = .ok (.iload_n 2, 1) := by decide +kernel
theorem dX11_windAt_13 : decode cX11_windAt 13 = .ok (.iconst 1, 1) := by decide +kernel
theorem dX11_windAt_14 : decode cX11_windAt 14 = .ok (.if_icmp .le 9, 3) := by decide +kernel
theorem dX11_windAt_17 : decode cX11_windAt 17 = .ok (.aload_n 0, 1) := by decide +kernel
theorem dX11_windAt_18 : decode cX11_windAt 18 = .ok (.iconst 1, 1) := by decide +kernel
theorem dX11_windAt_19 : decode cX11_windAt 19 = .ok (.invokevirtual 130, 3) := by decide +kernel
theorem dX11_windAt_22 : decode cX11_windAt 22 = .ok (.ireturn, 1) := by decide +kernel
theorem dX11_windAt_23 : decode cX11_windAt 23 = .ok (.aload_n 0, 1) := by decide +kernel
theorem dX11_windAt_24 : decode cX11_windAt 24 = .ok (.iload_n 2, 1) := by decide +kernel
theorem dX11_windAt_25 : decode cX11_windAt 25 = .ok (.ifCond .ne 18, 3) := by decide +kernel
theorem dX11_windAt_28 : decode cX11_windAt 28 = .ok (.aload_n 0, 1) := by decide +kernel
theorem dX11_windAt_29 : decode cX11_windAt 29 = .ok (.getfield 50, 3) := by decide +kernel
theorem dX11_windAt_32 : decode cX11_windAt 32 = .ok (.getfield 177, 3) := by decide +kernel
theorem dX11_windAt_35 : decode cX11_windAt 35 = .ok (.getfield 269, 3) := by decide +kernel
theorem dX11_windAt_38 : decode cX11_windAt 38 = .ok (.iload_n 1, 1) := by decide +kernel
theorem dX11_windAt_39 : decode cX11_windAt 39 = .ok (.iaload, 1) := by decide +kernel
theorem dX11_windAt_40 : decode cX11_windAt 40 = .ok (.goto 15, 3) := by decide +kernel
theorem dX11_windAt_43 : decode cX11_windAt 43 = .ok (.aload_n 0, 1) := by decide +kernel
theorem dX11_windAt_44 : decode cX11_windAt 44 = .ok (.getfield 50, 3) := by decide +kernel
theorem dX11_windAt_47 : decode cX11_windAt 47 = .ok (.getfield 177, 3) := by decide +kernel
theorem dX11_windAt_50 : decode cX11_windAt 50 = .ok (.getfield 272, 3) := by decide +kernel
theorem dX11_windAt_53 : decode cX11_windAt 53 = .ok (.iload_n 1, 1) := by decide +kernel
theorem dX11_windAt_54 : decode cX11_windAt 54 = .ok (.iaload, 1) := by decide +kernel
theorem dX11_windAt_55 : decode cX11_windAt 55 = .ok (.invokevirtual 193, 3) := by decide +kernel
theorem dX11_windAt_58 : decode cX11_windAt 58 = .ok (.ireturn, 1) := by decide +kernel
theorem dX11_lift_0 : decode cX11_lift 0 = .ok (.aload_n 0, 1) := by decide +kernel
theorem dX11_lift_1 : decode cX11_lift 1 = .ok (.iload_n 1, 1) := by decide +kernel
theorem dX11_lift_2 : decode cX11_lift 2 = .ok (.invokevirtual 239, 3) := by decide +kernel
theorem dX11_lift_5 : decode cX11_lift 5 = .ok (.ifCond .ne 9, 3) := by decide +kernel
theorem dX11_lift_8 : decode cX11_lift 8 = .ok (.aload_n 0, 1) := by decide +kernel
theorem dX11_lift_9 : decode cX11_lift 9 = .ok (.iconst 1, 1) := by decide +kernel
theorem dX11_lift_10 : decode cX11_lift 10 = .ok (.invokevirtual 111, 3) := by decide +kernel
theorem dX11_lift_13 : decode cX11_lift 13 = .ok (.ireturn, 1) := by decide +kernel
theorem dX11_lift_14 : decode cX11_lift 14 = .ok (.aload_n 0, 1) := by decide +kernel
theorem dX11_lift_15 : decode cX11_lift 15 = .ok (.getfield 50, 3) := by decide +kernel
theorem dX11_lift_18 : decode cX11_lift 18 = .ok (.getfield 177, 3) := by decide +kernel
theorem dX11_lift_21 : decode cX11_lift 21 = .ok (.aload_n 0, 1) := by decide +kernel
theorem dX11_lift_22 : decode cX11_lift 22 = .ok (.getfield 50, 3) := by decide +kernel
theorem dX11_lift_25 : decode cX11_lift 25 = .ok (.getfield 177, 3) := by decide +kernel
theorem dX11_lift_28 : decode cX11_lift 28 = .ok (.getfield 211, 3) := by decide +kernel
theorem dX11_lift_31 : decode cX11_lift 31 = .ok (.iload_n 1, 1) := by decide +kernel
theorem dX11_lift_32 : decode cX11_lift 32 = .ok (.iload_n 2, 1) := by decide +kernel
theorem dX11_lift_33 : decode cX11_lift 33 = .ok (.invokestatic 275, 3) := by decide +kernel
theorem dX11_lift_36 : decode cX11_lift 36 = .ok (.putfield 211, 3) := by decide +kernel
theorem dX11_lift_39 : decode cX11_lift 39 = .ok (.aload_n 0, 1) := by decide +kernel
theorem dX11_lift_40 : decode cX11_lift 40 = .ok (.invokevirtual 118, 3) := by decide +kernel
theorem dX11_lift_43 : decode cX11_lift 43 = .ok (.ireturn, 1) := by decide +kernel
theorem dX11_hold_0 : decode cX11_hold 0 = .ok (.aload_n 0, 1) := by decide +kernel
theorem dX11_hold_1 : decode cX11_hold 1 = .ok (.iload_n 1, 1) := by decide +kernel
theorem dX11_hold_2 : decode cX11_hold 2 = .ok (.invokevirtual 217, 3) := by decide +kernel
theorem dX11_hold_5 : decode cX11_hold 5 = .ok (.ifCond .ne 9, 3) := by decide +kernel
theorem dX11_hold_8 : decode cX11_hold 8 = .ok (.aload_n 0, 1) := by decide +kernel
theorem dX11_hold_9 : decode cX11_hold 9 = .ok (.iconst 1, 1) := by decide +kernel
theorem dX11_hold_10 : decode cX11_hold 10 = .ok (.invokevirtual 111, 3) := by decide +kernel
theorem dX11_hold_13 : decode cX11_hold 13 = .ok (.ireturn, 1) := by decide +kernel
theorem dX11_hold_14 : decode cX11_hold 14 = .ok (.aload_n 0, 1) := by decide +kernel
theorem dX11_hold_15 : decode cX11_hold 15 = .ok (.getfield 50, 3) := by decide +kernel
theorem dX11_hold_18 : decode cX11_hold 18 = .ok (.getfield 177, 3) := by decide +kernel
theorem dX11_hold_21 : decode cX11_hold 21 = .ok (.aload_n 0, 1) := by decide +kernel
theorem dX11_hold_22 : decode cX11_hold 22 = .ok (.getfield 50, 3) := by decide +kernel
theorem dX11_hold_25 : decode cX11_hold 25 = .ok (.getfield 177, 3) := by decide +kernel
theorem dX11_hold_28 : decode cX11_hold 28 = .ok (.getfield 214, 3) := by decide +kernel
theorem dX11_hold_31 : decode cX11_hold 31 = .ok (.iload_n 1, 1) := by decide +kernel
theorem dX11_hold_32 : decode cX11_hold 32 = .ok (.iload_n 2, 1) := by decide +kernel
theorem dX11_hold_33 : decode cX11_hold 33 = .ok (.invokestatic 275, 3) := by decide +kernel
theorem dX11_hold_36 : decode cX11_hold 36 = .ok (.putfield 214, 3) := by decide +kernel
theorem dX11_hold_39 : decode cX11_hold 39 = .ok (.aload_n 0, 1) := by decide +kernel
theorem dX11_hold_40 : decode cX11_hold 40 = .ok (.invokevirtual 118, 3) := by decide +kernel
theorem dX11_hold_43 : decode cX11_hold 43 = .ok (.ireturn, 1) := by decide +kernel
theorem dX11_pass_0 : decode cX11_pass 0 = .ok (.iload_n 1, 1) := by decide +kernel
theorem dX11_pass_1 : decode cX11_pass 1 = .ok (.iconst 1, 1) := by decide +kernel
theorem dX11_pass_2 : decode cX11_pass 2 = .ok (.if_icmp .lt 9, 3) := by decide +kernel
theorem dX11_pass_5 : decode cX11_pass 5 = .ok (.iload_n 1, 1) := by decide +kernel
theorem dX11_pass_6 : decode cX11_pass 6 = .ok (.bipush 99, 2) := by decide +kernel
theorem dX11_pass_8 : decode cX11_pass 8 = .ok (.if_icmp .le 9, 3) := by decide +kernel
theorem dX11_pass_11 : decode cX11_pass 11 = .ok (.aload_n 0, 1) := by decide +kernel
theorem dX11_pass_12 : decode cX11_pass 12 = .ok (.iconst 1, 1) := by decide +kernel
theorem dX11_pass_13 : decode cX11_pass 13 = .ok (.invokevirtual 130, 3) := by decide +kernel
theorem dX11_pass_16 : decode cX11_pass 16 = .ok (.ireturn, 1) := by decide +kernel
theorem dX11_pass_17 : decode cX11_pass 17 = .ok (.aload_n 0, 1) := by decide +kernel
theorem dX11_pass_18 : decode cX11_pass 18 = .ok (.getfield 50, 3) := by decide +kernel
theorem dX11_pass_21 : decode cX11_pass 21 = .ok (.getfield 177, 3) := by decide +kernel
theorem dX11_pass_24 : decode cX11_pass 24 = .ok (.getfield 208, 3) := by decide +kernel
theorem dX11_pass_27 : decode cX11_pass 27 = .ok (.iload_n 1, 1) := by decide +kernel
theorem dX11_pass_28 : decode cX11_pass 28 = .ok (.iadd, 1) := by decide +kernel
theorem dX11_pass_29 : decode cX11_pass 29 = .ok (.sipush 9999, 3) := by decide +kernel
theorem dX11_pass_32 : decode cX11_pass 32 = .ok (.if_icmp .le 9, 3) := by decide +kernel
theorem dX11_pass_35 : decode cX11_pass 35 = .ok (.aload_n 0, 1) := by decide +kernel
theorem dX11_pass_36 : decode cX11_pass 36 = .ok (.iconst 4, 1) := by decide +kernel
theorem dX11_pass_37 : decode cX11_pass 37 = .ok (.invokevirtual 130, 3) := by decide +kernel
theorem dX11_pass_40 : decode cX11_pass 40 = .ok (.ireturn, 1) := by decide +kernel
theorem dX11_pass_41 : decode cX11_pass 41 = .ok (.aload_n 0, 1) := by decide +kernel
theorem dX11_pass_42 : decode cX11_pass 42 = .ok (.invokevirtual 257, 3) := by decide +kernel
theorem dX11_pass_45 : decode cX11_pass 45 = .ok (.aload_n 0, 1) := by decide +kernel
theorem dX11_pass_46 : decode cX11_pass 46 = .ok (.getfield 75, 3) := by decide +kernel
theorem dX11_pass_49 : decode cX11_pass 49 = .ok (.iload_n 1, 1) := by decide +kernel
theorem dX11_pass_50 : decode cX11_pass 50 = .ok (.invokevirtual 279, 3) := by decide +kernel
theorem dX11_pass_53 : decode cX11_pass 53 = .ok (.pop, 1) := by decide +kernel
theorem dX11_pass_54 : decode cX11_pass 54 = .ok (.aload_n 0, 1) := by decide +kernel
theorem dX11_pass_55 : decode cX11_pass 55 = .ok (.getfield 50, 3) := by decide +kernel
theorem dX11_pass_58 : decode cX11_pass 58 = .ok (.getfield 177, 3) := by decide +kernel
theorem dX11_pass_61 : decode cX11_pass 61 = .ok (.dup, 1) := by decide +kernel
theorem dX11_pass_62 : decode cX11_pass 62 = .ok (.getfield 208, 3) := by decide +kernel
theorem dX11_pass_65 : decode cX11_pass 65 = .ok (.iload_n 1, 1) := by decide +kernel
theorem dX11_pass_66 : decode cX11_pass 66 = .ok (.iadd, 1) := by decide +kernel
theorem dX11_pass_67 : decode cX11_pass 67 = .ok (.putfield 208, 3) := by decide +kernel
theorem dX11_pass_70 : decode cX11_pass 70 = .ok (.aload_n 0, 1) := by decide +kernel
theorem dX11_pass_71 : decode cX11_pass 71 = .ok (.aload_n 0, 1) := by decide +kernel
theorem dX11_pass_72 : decode cX11_pass 72 = .ok (.getfield 50, 3) := by decide +kernel
theorem dX11_pass_75 : decode cX11_pass 75 = .ok (.getfield 177, 3) := by decide +kernel
theorem dX11_pass_78 : decode cX11_pass 78 = .ok (.getfield 208, 3) := by decide +kernel
theorem dX11_pass_81 : decode cX11_pass 81 = .ok (.invokevirtual 193, 3) := by decide +kernel
theorem dX11_pass_84 : decode cX11_pass 84 = .ok (.ireturn, 1) := by decide +kernel
theorem dX11_turn_0 : decode cX11_turn 0 = .ok (.aload_n 0, 1) := by decide +kernel
theorem dX11_turn_1 : decode cX11_turn 1 = .ok (.iload_n 1, 1) := by decide +kernel
theorem dX11_turn_2 : decode cX11_turn 2 = .ok (.invokevirtual 217, 3) := by decide +kernel
theorem dX11_turn_5 : decode cX11_turn 5 = .ok (.ifCond .eq 19, 3) := by decide +kernel
theorem dX11_turn_8 : decode cX11_turn 8 = .ok (.iload_n 2, 1) := by decide +kernel
theorem dX11_turn_9 : decode cX11_turn 9 = .ok (.bipush (-99), 2) := by decide +kernel
theorem dX11_turn_11 : decode cX11_turn 11 = .ok (.if_icmp .lt 13, 3) := by decide +kernel
theorem dX11_turn_14 : decode cX11_turn 14 = .ok (.iload_n 2, 1) := by decide +kernel
theorem dX11_turn_15 : decode cX11_turn 15 = .ok (.bipush 99, 2) := by decide +kernel
theorem dX11_turn_17 : decode cX11_turn 17 = .ok (.if_icmp .gt 7, 3) := by decide +kernel
theorem dX11_turn_20 : decode cX11_turn 20 = .ok (.iload_n 2, 1) := by decide +kernel
theorem dX11_turn_21 : decode cX11_turn 21 = .ok (.ifCond .ne 9, 3) := by decide +kernel
theorem dX11_turn_24 : decode cX11_turn 24 = .ok (.aload_n 0, 1) := by decide +kernel
theorem dX11_turn_25 : decode cX11_turn 25 = .ok (.iconst 1, 1) := by decide +kernel
theorem dX11_turn_26 : decode cX11_turn 26 = .ok (.invokevirtual 130, 3) := by decide +kernel
theorem dX11_turn_29 : decode cX11_turn 29 = .ok (.ireturn, 1) := by decide +kernel
theorem dX11_turn_30 : decode cX11_turn 30 = .ok (.aload_n 0, 1) := by decide +kernel
theorem dX11_turn_31 : decode cX11_turn 31 = .ok (.invokevirtual 257, 3) := by decide +kernel
theorem dX11_turn_34 : decode cX11_turn 34 = .ok (.aload_n 0, 1) := by decide +kernel
theorem dX11_turn_35 : decode cX11_turn 35 = .ok (.aload_n 0, 1) := by decide +kernel
theorem dX11_turn_36 : decode cX11_turn 36 = .ok (.getfield 75, 3) := by decide +kernel
theorem dX11_turn_39 : decode cX11_turn 39 = .ok (.iload_n 1, 1) := by decide +kernel
theorem dX11_turn_40 : decode cX11_turn 40 = .ok (.iload_n 2, 1) := by decide +kernel
theorem dX11_turn_41 : decode cX11_turn 41 = .ok (.invokevirtual 282, 3) := by decide +kernel
theorem dX11_turn_44 : decode cX11_turn 44 = .ok (.invokevirtual 193, 3) := by decide +kernel
theorem dX11_turn_47 : decode cX11_turn 47 = .ok (.ireturn, 1) := by decide +kernel
theorem dX11_drags_0 : decode cX11_drags 0 = .ok (.aload_n 0, 1) := by decide +kernel
theorem dX11_drags_1 : decode cX11_drags 1 = .ok (.iload_n 1, 1) := by decide +kernel
theorem dX11_drags_2 : decode cX11_drags 2 = .ok (.invokevirtual 217, 3) := by decide +kernel
theorem dX11_drags_5 : decode cX11_drags 5 = .ok (.ifCond .eq 13, 3) := by decide +kernel
theorem dX11_drags_8 : decode cX11_drags 8 = .ok (.iload_n 2, 1) := by decide +kernel
theorem dX11_drags_9 : decode cX11_drags 9 = .ok (.iconst 1, 1) := by decide +kernel
theorem dX11_drags_10 : decode cX11_drags 10 = .ok (.if_icmp .eq 14, 3) := by decide +kernel
theorem dX11_drags_13 : decode cX11_drags 13 = .ok (.iload_n 2, 1) := by decide +kernel
theorem dX11_drags_14 : decode cX11_drags 14 = .ok (.iconst (-1), 1) := by decide +kernel
theorem dX11_drags_15 : decode cX11_drags 15 = .ok (.if_icmp .eq 9, 3) := by decide +kernel
theorem dX11_drags_18 : decode cX11_drags 18 = .ok (.aload_n 0, 1) := by decide +kernel
theorem dX11_drags_19 : decode cX11_drags 19 = .ok (.iconst 1, 1) := by decide +kernel
theorem dX11_drags_20 : decode cX11_drags 20 = .ok (.invokevirtual 130, 3) := by decide +kernel
theorem dX11_drags_23 : decode cX11_drags 23 = .ok (.ireturn, 1) := by decide +kernel
theorem dX11_drags_24 : decode cX11_drags 24 = .ok (.aload_n 0, 1) := by decide +kernel
theorem dX11_drags_25 : decode cX11_drags 25 = .ok (.invokevirtual 257, 3) := by decide +kernel
theorem dX11_drags_28 : decode cX11_drags 28 = .ok (.aload_n 0, 1) := by decide +kernel
theorem dX11_drags_29 : decode cX11_drags 29 = .ok (.getfield 75, 3) := by decide +kernel
theorem dX11_drags_32 : decode cX11_drags 32 = .ok (.iload_n 1, 1) := by decide +kernel
theorem dX11_drags_33 : decode cX11_drags 33 = .ok (.iload_n 2, 1) := by decide +kernel
theorem dX11_drags_34 : decode cX11_drags 34 = .ok (.invokevirtual 285, 3) := by decide +kernel
theorem dX11_drags_37 : decode cX11_drags 37 = .ok (.ifCond .eq 17, 3) := by decide +kernel
theorem dX11_drags_40 : decode cX11_drags 40 = .ok (.aload_n 0, 1) := by decide +kernel
theorem dX11_drags_41 : decode cX11_drags 41 = .ok (.aload_n 0, 1) := by decide +kernel
theorem dX11_drags_42 : decode cX11_drags 42 = .ok (.getfield 75, 3) := by decide +kernel
theorem dX11_drags_45 : decode cX11_drags 45 = .ok (.getfield 288, 3) := by decide +kernel
theorem dX11_drags_48 : decode cX11_drags 48 = .ok (.invokevirtual 193, 3) := by decide +kernel
theorem dX11_drags_51 : decode cX11_drags 51 = .ok (.goto 9, 3) := by decide +kernel
theorem dX11_drags_54 : decode cX11_drags 54 = .ok (.aload_n 0, 1) := by decide +kernel
theorem dX11_drags_55 : decode cX11_drags 55 = .ok (.bipush 7, 2) := by decide +kernel
theorem dX11_drags_57 : decode cX11_drags 57 = .ok (.invokevirtual 130, 3) := by decide +kernel
theorem dX11_drags_60 : decode cX11_drags 60 = .ok (.ireturn, 1) := by decide +kernel
theorem dX11_joined_0 : decode cX11_joined 0 = .ok (.aload_n 0, 1) := by decide +kernel
theorem dX11_joined_1 : decode cX11_joined 1 = .ok (.iload_n 1, 1) := by decide +kernel
theorem dX11_joined_2 : decode cX11_joined 2 = .ok (.invokevirtual 217, 3) := by decide +kernel
theorem dX11_joined_5 : decode cX11_joined 5 = .ok (.ifCond .ne 9, 3) := by decide +kernel
theorem dX11_joined_8 : decode cX11_joined 8 = .ok (.aload_n 0, 1) := by decide +kernel
theorem dX11_joined_9 : decode cX11_joined 9 = .ok (.iconst 1, 1) := by decide +kernel
theorem dX11_joined_10 : decode cX11_joined 10 = .ok (.invokevirtual 130, 3) := by decide +kernel
theorem dX11_joined_13 : decode cX11_joined 13 = .ok (.ireturn, 1) := by decide +kernel
theorem dX11_joined_14 : decode cX11_joined 14 = .ok (.aload_n 0, 1) := by decide +kernel
theorem dX11_joined_15 : decode cX11_joined 15 = .ok (.getfield 89, 3) := by decide +kernel
theorem dX11_joined_18 : decode cX11_joined 18 = .ok (.aload_n 0, 1) := by decide +kernel
theorem dX11_joined_19 : decode cX11_joined 19 = .ok (.getfield 50, 3) := by decide +kernel
theorem dX11_joined_22 : decode cX11_joined 22 = .ok (.getfield 174, 3) := by decide +kernel
theorem dX11_joined_25 : decode cX11_joined 25 = .ok (.aload_n 0, 1) := by decide +kernel
theorem dX11_joined_26 : decode cX11_joined 26 = .ok (.getfield 50, 3) := by decide +kernel
theorem dX11_joined_29 : decode cX11_joined 29 = .ok (.getfield 177, 3) := by decide +kernel
theorem dX11_joined_32 : decode cX11_joined 32 = .ok (.getfield 211, 3) := by decide +kernel
theorem dX11_joined_35 : decode cX11_joined 35 = .ok (.iload_n 1, 1) := by decide +kernel
theorem dX11_joined_36 : decode cX11_joined 36 = .ok (.invokevirtual 291, 3) := by decide +kernel
theorem dX11_joined_39 : decode cX11_joined 39 = .ok (.aload_n 0, 1) := by decide +kernel
theorem dX11_joined_40 : decode cX11_joined 40 = .ok (.aload_n 0, 1) := by decide +kernel
theorem dX11_joined_41 : decode cX11_joined 41 = .ok (.getfield 89, 3) := by decide +kernel
theorem dX11_joined_44 : decode cX11_joined 44 = .ok (.getfield 295, 3) := by decide +kernel
theorem dX11_joined_47 : decode cX11_joined 47 = .ok (.invokevirtual 193, 3) := by decide +kernel
theorem dX11_joined_50 : decode cX11_joined 50 = .ok (.ireturn, 1) := by decide +kernel
theorem dX11_ratio_0 : decode cX11_ratio 0 = .ok (.aload_n 0, 1) := by decide +kernel
theorem dX11_ratio_1 : decode cX11_ratio 1 = .ok (.iload_n 1, 1) := by decide +kernel
theorem dX11_ratio_2 : decode cX11_ratio 2 = .ok (.invokevirtual 217, 3) := by decide +kernel
theorem dX11_ratio_5 : decode cX11_ratio 5 = .ok (.ifCond .eq 11, 3) := by decide +kernel
theorem dX11_ratio_8 : decode cX11_ratio 8 = .ok (.aload_n 0, 1) := by decide +kernel
theorem dX11_ratio_9 : decode cX11_ratio 9 = .ok (.iload_n 2, 1) := by decide +kernel
theorem dX11_ratio_10 : decode cX11_ratio 10 = .ok (.invokevirtual 217, 3) := by decide +kernel
theorem dX11_ratio_13 : decode cX11_ratio 13 = .ok (.ifCond .ne 9, 3) := by decide +kernel
theorem dX11_ratio_16 : decode cX11_ratio 16 = .ok (.aload_n 0, 1) := by decide +kernel
theorem dX11_ratio_17 : decode cX11_ratio 17 = .ok (.iconst 1, 1) := by decide +kernel
theorem dX11_ratio_18 : decode cX11_ratio 18 = .ok (.invokevirtual 111, 3) := by decide +kernel
theorem dX11_ratio_21 : decode cX11_ratio 21 = .ok (.ireturn, 1) := by decide +kernel
theorem dX11_ratio_22 : decode cX11_ratio 22 = .ok (.aload_n 0, 1) := by decide +kernel
theorem dX11_ratio_23 : decode cX11_ratio 23 = .ok (.getfield 89, 3) := by decide +kernel
theorem dX11_ratio_26 : decode cX11_ratio 26 = .ok (.aload_n 0, 1) := by decide +kernel
theorem dX11_ratio_27 : decode cX11_ratio 27 = .ok (.getfield 50, 3) := by decide +kernel
theorem dX11_ratio_30 : decode cX11_ratio 30 = .ok (.getfield 174, 3) := by decide +kernel
theorem dX11_ratio_33 : decode cX11_ratio 33 = .ok (.aload_n 0, 1) := by decide +kernel
theorem dX11_ratio_34 : decode cX11_ratio 34 = .ok (.getfield 50, 3) := by decide +kernel
theorem dX11_ratio_37 : decode cX11_ratio 37 = .ok (.getfield 177, 3) := by decide +kernel
theorem dX11_ratio_40 : decode cX11_ratio 40 = .ok (.getfield 211, 3) := by decide +kernel
theorem dX11_ratio_43 : decode cX11_ratio 43 = .ok (.iload_n 1, 1) := by decide +kernel
theorem dX11_ratio_44 : decode cX11_ratio 44 = .ok (.invokevirtual 291, 3) := by decide +kernel
theorem dX11_ratio_47 : decode cX11_ratio 47 = .ok (.aload_n 0, 1) := by decide +kernel
theorem dX11_ratio_48 : decode cX11_ratio 48 = .ok (.getfield 89, 3) := by decide +kernel
theorem dX11_ratio_51 : decode cX11_ratio 51 = .ok (.getfield 295, 3) := by decide +kernel
theorem dX11_ratio_54 : decode cX11_ratio 54 = .ok (.iload_n 2, 1) := by decide +kernel
theorem dX11_ratio_55 : decode cX11_ratio 55 = .ok (.invokestatic 298, 3) := by decide +kernel
theorem dX11_ratio_58 : decode cX11_ratio 58 = .ok (.ifCond .ne 10, 3) := by decide +kernel
theorem dX11_ratio_61 : decode cX11_ratio 61 = .ok (.aload_n 0, 1) := by decide +kernel
theorem dX11_ratio_62 : decode cX11_ratio 62 = .ok (.bipush 7, 2) := by decide +kernel
theorem dX11_ratio_64 : decode cX11_ratio 64 = .ok (.invokevirtual 111, 3) := by decide +kernel
theorem dX11_ratio_67 : decode cX11_ratio 67 = .ok (.ireturn, 1) := by decide +kernel
theorem dX11_ratio_68 : decode cX11_ratio 68 = .ok (.aload_n 0, 1) := by decide +kernel
theorem dX11_ratio_69 : decode cX11_ratio 69 = .ok (.aload_n 0, 1) := by decide +kernel
theorem dX11_ratio_70 : decode cX11_ratio 70 = .ok (.getfield 89, 3) := by decide +kernel
theorem dX11_ratio_73 : decode cX11_ratio 73 = .ok (.getfield 301, 3) := by decide +kernel
theorem dX11_ratio_76 : decode cX11_ratio 76 = .ok (.iload_n 2, 1) := by decide +kernel
theorem dX11_ratio_77 : decode cX11_ratio 77 = .ok (.iaload, 1) := by decide +kernel
theorem dX11_ratio_78 : decode cX11_ratio 78 = .ok (.i2l, 1) := by decide +kernel
theorem dX11_ratio_79 : decode cX11_ratio 79 = .ok (.aload_n 0, 1) := by decide +kernel
theorem dX11_ratio_80 : decode cX11_ratio 80 = .ok (.getfield 50, 3) := by decide +kernel
theorem dX11_ratio_83 : decode cX11_ratio 83 = .ok (.getfield 174, 3) := by decide +kernel
theorem dX11_ratio_86 : decode cX11_ratio 86 = .ok (.getfield 220, 3) := by decide +kernel
theorem dX11_ratio_89 : decode cX11_ratio 89 = .ok (.iload_n 1, 1) := by decide +kernel
theorem dX11_ratio_90 : decode cX11_ratio 90 = .ok (.iaload, 1) := by decide +kernel
theorem dX11_ratio_91 : decode cX11_ratio 91 = .ok (.i2l, 1) := by decide +kernel
theorem dX11_ratio_92 : decode cX11_ratio 92 = .ok (.lmul, 1) := by decide +kernel
theorem dX11_ratio_93 : decode cX11_ratio 93 = .ok (.aload_n 0, 1) := by decide +kernel
theorem dX11_ratio_94 : decode cX11_ratio 94 = .ok (.getfield 50, 3) := by decide +kernel
theorem dX11_ratio_97 : decode cX11_ratio 97 = .ok (.getfield 174, 3) := by decide +kernel
theorem dX11_ratio_100 : decode cX11_ratio 100 = .ok (.getfield 220, 3) := by decide +kernel
theorem dX11_ratio_103 : decode cX11_ratio 103 = .ok (.iload_n 2, 1) := by decide +kernel
theorem dX11_ratio_104 : decode cX11_ratio 104 = .ok (.iaload, 1) := by decide +kernel
theorem dX11_ratio_105 : decode cX11_ratio 105 = .ok (.i2l, 1) := by decide +kernel
theorem dX11_ratio_106 : decode cX11_ratio 106 = .ok (.invokevirtual 304, 3) := by decide +kernel
theorem dX11_ratio_109 : decode cX11_ratio 109 = .ok (.aload_n 0, 1) := by decide +kernel
theorem dX11_ratio_110 : decode cX11_ratio 110 = .ok (.invokevirtual 118, 3) := by decide +kernel
theorem dX11_ratio_113 : decode cX11_ratio 113 = .ok (.ireturn, 1) := by decide +kernel
theorem dX11_locked_0 : decode cX11_locked 0 = .ok (.aload_n 0, 1) := by decide +kernel
theorem dX11_locked_1 : decode cX11_locked 1 = .ok (.aload_n 0, 1) := by decide +kernel
theorem dX11_locked_2 : decode cX11_locked 2 = .ok (.getfield 89, 3) := by decide +kernel
theorem dX11_locked_5 : decode cX11_locked 5 = .ok (.aload_n 0, 1) := by decide +kernel
theorem dX11_locked_6 : decode cX11_locked 6 = .ok (.getfield 50, 3) := by decide +kernel
theorem dX11_locked_9 : decode cX11_locked 9 = .ok (.getfield 174, 3) := by decide +kernel
theorem dX11_locked_12 : decode cX11_locked 12 = .ok (.aload_n 0, 1) := by decide +kernel
theorem dX11_locked_13 : decode cX11_locked 13 = .ok (.getfield 50, 3) := by decide +kernel
theorem dX11_locked_16 : decode cX11_locked 16 = .ok (.getfield 177, 3) := by decide +kernel
theorem dX11_locked_19 : decode cX11_locked 19 = .ok (.getfield 211, 3) := by decide +kernel
theorem dX11_locked_22 : decode cX11_locked 22 = .ok (.invokevirtual 308, 3) := by decide +kernel
theorem dX11_locked_25 : decode cX11_locked 25 = .ok (.invokevirtual 193, 3) := by decide +kernel
theorem dX11_locked_28 : decode cX11_locked 28 = .ok (.ireturn, 1) := by decide +kernel
theorem dX11_common_0 : decode cX11_common 0 = .ok (.iload_n 1, 1) := by decide +kernel
theorem dX11_common_1 : decode cX11_common 1 = .ok (.ifCond .le 19, 3) := by decide +kernel
theorem dX11_common_4 : decode cX11_common 4 = .ok (.iload_n 1, 1) := by decide +kernel
theorem dX11_common_5 : decode cX11_common 5 = .ok (.iconst 1, 1) := by decide +kernel
theorem dX11_common_6 : decode cX11_common 6 = .ok (.aload_n 0, 1) := by decide +kernel
theorem dX11_common_7 : decode cX11_common 7 = .ok (.getfield 50, 3) := by decide +kernel
theorem dX11_common_10 : decode cX11_common 10 = .ok (.getfield 174, 3) := by decide +kernel
theorem dX11_common_13 : decode cX11_common 13 = .ok (.getfield 190, 3) := by decide +kernel
theorem dX11_common_16 : decode cX11_common 16 = .ok (.ishl, 1) := by decide +kernel
theorem dX11_common_17 : decode cX11_common 17 = .ok (.if_icmp .lt 10, 3) := by decide +kernel
theorem dX11_common_20 : decode cX11_common 20 = .ok (.aload_n 0, 1) := by decide +kernel
theorem dX11_common_21 : decode cX11_common 21 = .ok (.iconst 1, 1) := by decide +kernel
theorem dX11_common_22 : decode cX11_common 22 = .ok (.invokevirtual 130, 3) := by decide +kernel
theorem dX11_common_25 : decode cX11_common 25 = .ok (.i2l, 1) := by decide +kernel
theorem dX11_common_26 : decode cX11_common 26 = .ok (.lreturn, 1) := by decide +kernel
theorem dX11_common_27 : decode cX11_common 27 = .ok (.lconst 1, 1) := by decide +kernel
theorem dX11_common_28 : decode cX11_common 28 = .ok (.lstore_n 2, 1) := by decide +kernel
theorem dX11_common_29 : decode cX11_common 29 = .ok (.iconst 0, 1) := by decide +kernel
theorem dX11_common_30 : decode cX11_common 30 = .ok (.istore 4, 2) := by decide +kernel
theorem dX11_common_32 : decode cX11_common 32 = .ok (.iload 4, 2) := by decide +kernel
theorem dX11_common_34 : decode cX11_common 34 = .ok (.aload_n 0, 1) := by decide +kernel
theorem dX11_common_35 : decode cX11_common 35 = .ok (.getfield 50, 3) := by decide +kernel
theorem dX11_common_38 : decode cX11_common 38 = .ok (.getfield 174, 3) := by decide +kernel
theorem dX11_common_41 : decode cX11_common 41 = .ok (.getfield 190, 3) := by decide +kernel
theorem dX11_common_44 : decode cX11_common 44 = .ok (.if_icmp .ge 37, 3) := by decide +kernel
theorem dX11_common_47 : decode cX11_common 47 = .ok (.iload_n 1, 1) := by decide +kernel
theorem dX11_common_48 : decode cX11_common 48 = .ok (.iload 4, 2) := by decide +kernel
theorem dX11_common_50 : decode cX11_common 50 = .ok (.invokestatic 298, 3) := by decide +kernel
theorem dX11_common_53 : decode cX11_common 53 = .ok (.ifCond .eq 22, 3) := by decide +kernel
theorem dX11_common_56 : decode cX11_common 56 = .ok (.lload_n 2, 1) := by decide +kernel
theorem dX11_common_57 : decode cX11_common 57 = .ok (.aload_n 0, 1) := by decide +kernel
theorem dX11_common_58 : decode cX11_common 58 = .ok (.getfield 50, 3) := by decide +kernel
theorem dX11_common_61 : decode cX11_common 61 = .ok (.getfield 174, 3) := by decide +kernel
theorem dX11_common_64 : decode cX11_common 64 = .ok (.getfield 220, 3) := by decide +kernel
theorem dX11_common_67 : decode cX11_common 67 = .ok (.iload 4, 2) := by decide +kernel
theorem dX11_common_69 : decode cX11_common 69 = .ok (.iaload, 1) := by decide +kernel
theorem dX11_common_70 : decode cX11_common 70 = .ok (.i2l, 1) := by decide +kernel
theorem dX11_common_71 : decode cX11_common 71 = .ok (.invokestatic 312, 3) := by decide +kernel
theorem dX11_common_74 : decode cX11_common 74 = .ok (.lstore_n 2, 1) := by decide +kernel
theorem dX11_common_75 : decode cX11_common 75 = .ok (.iinc 4 1, 3) := by decide +kernel
theorem dX11_common_78 : decode cX11_common 78 = .ok (.goto (-46), 3) := by decide +kernel
theorem dX11_common_81 : decode cX11_common 81 = .ok (.aload_n 0, 1) := by decide +kernel
theorem dX11_common_82 : decode cX11_common 82 = .ok (.iconst 0, 1) := by decide +kernel
theorem dX11_common_83 : decode cX11_common 83 = .ok (.putfield 101, 3) := by decide +kernel
theorem dX11_common_86 : decode cX11_common 86 = .ok (.lload_n 2, 1) := by decide +kernel
theorem dX11_common_87 : decode cX11_common 87 = .ok (.lreturn, 1) := by decide +kernel
theorem dX11_sway_0 : decode cX11_sway 0 = .ok (.aload_n 0, 1) := by decide +kernel
theorem dX11_sway_1 : decode cX11_sway 1 = .ok (.iload_n 1, 1) := by decide +kernel
theorem dX11_sway_2 : decode cX11_sway 2 = .ok (.invokevirtual 217, 3) := by decide +kernel
theorem dX11_sway_5 : decode cX11_sway 5 = .ok (.ifCond .eq 11, 3) := by decide +kernel
theorem dX11_sway_8 : decode cX11_sway 8 = .ok (.aload_n 0, 1) := by decide +kernel
theorem dX11_sway_9 : decode cX11_sway 9 = .ok (.iload_n 2, 1) := by decide +kernel
theorem dX11_sway_10 : decode cX11_sway 10 = .ok (.invokevirtual 217, 3) := by decide +kernel
theorem dX11_sway_13 : decode cX11_sway 13 = .ok (.ifCond .ne 9, 3) := by decide +kernel
theorem dX11_sway_16 : decode cX11_sway 16 = .ok (.aload_n 0, 1) := by decide +kernel
theorem dX11_sway_17 : decode cX11_sway 17 = .ok (.iconst 1, 1) := by decide +kernel
theorem dX11_sway_18 : decode cX11_sway 18 = .ok (.invokevirtual 130, 3) := by decide +kernel
theorem dX11_sway_21 : decode cX11_sway 21 = .ok (.ireturn, 1) := by decide +kernel
theorem dX11_sway_22 : decode cX11_sway 22 = .ok (.aload_n 0, 1) := by decide +kernel
theorem dX11_sway_23 : decode cX11_sway 23 = .ok (.getfield 89, 3) := by decide +kernel
theorem dX11_sway_26 : decode cX11_sway 26 = .ok (.aload_n 0, 1) := by decide +kernel
theorem dX11_sway_27 : decode cX11_sway 27 = .ok (.getfield 50, 3) := by decide +kernel
theorem dX11_sway_30 : decode cX11_sway 30 = .ok (.getfield 174, 3) := by decide +kernel
theorem dX11_sway_33 : decode cX11_sway 33 = .ok (.aload_n 0, 1) := by decide +kernel
theorem dX11_sway_34 : decode cX11_sway 34 = .ok (.getfield 50, 3) := by decide +kernel
theorem dX11_sway_37 : decode cX11_sway 37 = .ok (.getfield 177, 3) := by decide +kernel
theorem dX11_sway_40 : decode cX11_sway 40 = .ok (.getfield 211, 3) := by decide +kernel
theorem dX11_sway_43 : decode cX11_sway 43 = .ok (.iload_n 1, 1) := by decide +kernel
theorem dX11_sway_44 : decode cX11_sway 44 = .ok (.iload_n 2, 1) := by decide +kernel
theorem dX11_sway_45 : decode cX11_sway 45 = .ok (.invokevirtual 316, 3) := by decide +kernel
theorem dX11_sway_48 : decode cX11_sway 48 = .ok (.istore_n 3, 1) := by decide +kernel
theorem dX11_sway_49 : decode cX11_sway 49 = .ok (.iload_n 3, 1) := by decide +kernel
theorem dX11_sway_50 : decode cX11_sway 50 = .ok (.iconst (-1), 1) := by decide +kernel
theorem dX11_sway_51 : decode cX11_sway 51 = .ok (.if_icmp .ne 12, 3) := by decide +kernel
theorem dX11_sway_54 : decode cX11_sway 54 = .ok (.aload_n 0, 1) := by decide +kernel
theorem dX11_sway_55 : decode cX11_sway 55 = .ok (.bipush 7, 2) := by decide +kernel
theorem dX11_sway_57 : decode cX11_sway 57 = .ok (.invokevirtual 130, 3) := by decide +kernel
theorem dX11_sway_60 : decode cX11_sway 60 = .ok (.goto 8, 3) := by decide +kernel
theorem dX11_sway_63 : decode cX11_sway 63 = .ok (.aload_n 0, 1) := by decide +kernel
theorem dX11_sway_64 : decode cX11_sway 64 = .ok (.iload_n 3, 1) := by decide +kernel
theorem dX11_sway_65 : decode cX11_sway 65 = .ok (.invokevirtual 193, 3) := by decide +kernel
theorem dX11_sway_68 : decode cX11_sway 68 = .ok (.ireturn, 1) := by decide +kernel
theorem dX11_points_0 : decode cX11_points 0 = .ok (.aload_n 0, 1) := by decide +kernel
theorem dX11_points_1 : decode cX11_points 1 = .ok (.iload_n 1, 1) := by decide +kernel
theorem dX11_points_2 : decode cX11_points 2 = .ok (.invokevirtual 217, 3) := by decide +kernel
theorem dX11_points_5 : decode cX11_points 5 = .ok (.ifCond .eq 11, 3) := by decide +kernel
theorem dX11_points_8 : decode cX11_points 8 = .ok (.aload_n 0, 1) := by decide +kernel
theorem dX11_points_9 : decode cX11_points 9 = .ok (.iload_n 2, 1) := by decide +kernel
theorem dX11_points_10 : decode cX11_points 10 = .ok (.invokevirtual 320, 3) := by decide +kernel
theorem dX11_points_13 : decode cX11_points 13 = .ok (.ifCond .ne 9, 3) := by decide +kernel
theorem dX11_points_16 : decode cX11_points 16 = .ok (.aload_n 0, 1) := by decide +kernel
theorem dX11_points_17 : decode cX11_points 17 = .ok (.iconst 1, 1) := by decide +kernel
theorem dX11_points_18 : decode cX11_points 18 = .ok (.invokevirtual 130, 3) := by decide +kernel
theorem dX11_points_21 : decode cX11_points 21 = .ok (.ireturn, 1) := by decide +kernel
theorem dX11_points_22 : decode cX11_points 22 = .ok (.aload_n 0, 1) := by decide +kernel
theorem dX11_points_23 : decode cX11_points 23 = .ok (.invokevirtual 323, 3) := by decide +kernel
theorem dX11_points_26 : decode cX11_points 26 = .ok (.aload_n 0, 1) := by decide +kernel
theorem dX11_points_27 : decode cX11_points 27 = .ok (.getfield 75, 3) := by decide +kernel
theorem dX11_points_30 : decode cX11_points 30 = .ok (.iload_n 2, 1) := by decide +kernel
theorem dX11_points_31 : decode cX11_points 31 = .ok (.invokevirtual 279, 3) := by decide +kernel
theorem dX11_points_34 : decode cX11_points 34 = .ok (.pop, 1) := by decide +kernel
theorem dX11_points_35 : decode cX11_points 35 = .ok (.aload_n 0, 1) := by decide +kernel
theorem dX11_points_36 : decode cX11_points 36 = .ok (.aload_n 0, 1) := by decide +kernel
theorem dX11_points_37 : decode cX11_points 37 = .ok (.getfield 82, 3) := by decide +kernel
theorem dX11_points_40 : decode cX11_points 40 = .ok (.getfield 230, 3) := by decide +kernel
theorem dX11_points_43 : decode cX11_points 43 = .ok (.iload_n 1, 1) := by decide +kernel
theorem dX11_points_44 : decode cX11_points 44 = .ok (.iaload, 1) := by decide +kernel
theorem dX11_points_45 : decode cX11_points 45 = .ok (.invokevirtual 193, 3) := by decide +kernel
theorem dX11_points_48 : decode cX11_points 48 = .ok (.ireturn, 1) := by decide +kernel
theorem dX11_rights_0 : decode cX11_rights 0 = .ok (.aload_n 0, 1) := by decide +kernel
theorem dX11_rights_1 : decode cX11_rights 1 = .ok (.iload_n 1, 1) := by decide +kernel
theorem dX11_rights_2 : decode cX11_rights 2 = .ok (.invokevirtual 320, 3) := by decide +kernel
theorem dX11_rights_5 : decode cX11_rights 5 = .ok (.ifCond .ne 9, 3) := by decide +kernel
theorem dX11_rights_8 : decode cX11_rights 8 = .ok (.aload_n 0, 1) := by decide +kernel
theorem dX11_rights_9 : decode cX11_rights 9 = .ok (.iconst 1, 1) := by decide +kernel
theorem dX11_rights_10 : decode cX11_rights 10 = .ok (.invokevirtual 130, 3) := by decide +kernel
theorem dX11_rights_13 : decode cX11_rights 13 = .ok (.ireturn, 1) := by decide +kernel
theorem dX11_rights_14 : decode cX11_rights 14 = .ok (.aload_n 0, 1) := by decide +kernel
theorem dX11_rights_15 : decode cX11_rights 15 = .ok (.invokevirtual 323, 3) := by decide +kernel
theorem dX11_rights_18 : decode cX11_rights 18 = .ok (.aload_n 0, 1) := by decide +kernel
theorem dX11_rights_19 : decode cX11_rights 19 = .ok (.getfield 75, 3) := by decide +kernel
theorem dX11_rights_22 : decode cX11_rights 22 = .ok (.iload_n 1, 1) := by decide +kernel
theorem dX11_rights_23 : decode cX11_rights 23 = .ok (.invokevirtual 279, 3) := by decide +kernel
theorem dX11_rights_26 : decode cX11_rights 26 = .ok (.pop, 1) := by decide +kernel
theorem dX11_rights_27 : decode cX11_rights 27 = .ok (.aload_n 0, 1) := by decide +kernel
theorem dX11_rights_28 : decode cX11_rights 28 = .ok (.aload_n 0, 1) := by decide +kernel
theorem dX11_rights_29 : decode cX11_rights 29 = .ok (.getfield 75, 3) := by decide +kernel
theorem dX11_rights_32 : decode cX11_rights 32 = .ok (.invokevirtual 326, 3) := by decide +kernel
theorem dX11_rights_35 : decode cX11_rights 35 = .ok (.invokevirtual 193, 3) := by decide +kernel
theorem dX11_rights_38 : decode cX11_rights 38 = .ok (.ireturn, 1) := by decide +kernel
theorem dX11_again_0 : decode cX11_again 0 = .ok (.iload_n 1, 1) := by decide +kernel
theorem dX11_again_1 : decode cX11_again 1 = .ok (.ifCond .lt 8, 3) := by decide +kernel
theorem dX11_again_4 : decode cX11_again 4 = .ok (.iload_n 1, 1) := by decide +kernel
theorem dX11_again_5 : decode cX11_again 5 = .ok (.iconst 1, 1) := by decide +kernel
theorem dX11_again_6 : decode cX11_again 6 = .ok (.if_icmp .le 9, 3) := by decide +kernel
theorem dX11_again_9 : decode cX11_again 9 = .ok (.aload_n 0, 1) := by decide +kernel
theorem dX11_again_10 : decode cX11_again 10 = .ok (.iconst 1, 1) := by decide +kernel
theorem dX11_again_11 : decode cX11_again 11 = .ok (.invokevirtual 130, 3) := by decide +kernel
theorem dX11_again_14 : decode cX11_again 14 = .ok (.ireturn, 1) := by decide +kernel
theorem dX11_again_15 : decode cX11_again 15 = .ok (.aload_n 0, 1) := by decide +kernel
theorem dX11_again_16 : decode cX11_again 16 = .ok (.invokevirtual 330, 3) := by decide +kernel
theorem dX11_again_19 : decode cX11_again 19 = .ok (.istore_n 2, 1) := by decide +kernel
theorem dX11_again_20 : decode cX11_again 20 = .ok (.iload_n 2, 1) := by decide +kernel
theorem dX11_again_21 : decode cX11_again 21 = .ok (.iconst (-1), 1) := by decide +kernel
theorem dX11_again_22 : decode cX11_again 22 = .ok (.if_icmp .ne 10, 3) := by decide +kernel
theorem dX11_again_25 : decode cX11_again 25 = .ok (.aload_n 0, 1) := by decide +kernel
theorem dX11_again_26 : decode cX11_again 26 = .ok (.bipush 6, 2) := by decide +kernel
theorem dX11_again_28 : decode cX11_again 28 = .ok (.invokevirtual 130, 3) := by decide +kernel
theorem dX11_again_31 : decode cX11_again 31 = .ok (.ireturn, 1) := by decide +kernel
theorem dX11_again_32 : decode cX11_again 32 = .ok (.aload_n 0, 1) := by decide +kernel
theorem dX11_again_33 : decode cX11_again 33 = .ok (.iload_n 1, 1) := by decide +kernel
theorem dX11_again_34 : decode cX11_again 34 = .ok (.ifCond .ne 7, 3) := by decide +kernel
theorem dX11_again_37 : decode cX11_again 37 = .ok (.iload_n 2, 1) := by decide +kernel
theorem dX11_again_38 : decode cX11_again 38 = .ok (.goto 4, 3) := by decide +kernel
theorem dX11_again_41 : decode cX11_again 41 = .ok (.iconst 1, 1) := by decide +kernel
theorem dX11_again_42 : decode cX11_again 42 = .ok (.invokevirtual 193, 3) := by decide +kernel
theorem dX11_again_45 : decode cX11_again 45 = .ok (.ireturn, 1) := by decide +kernel
theorem dX11_strikes_0 : decode cX11_strikes 0 = .ok (.aload_n 0, 1) := by decide +kernel
theorem dX11_strikes_1 : decode cX11_strikes 1 = .ok (.iload_n 1, 1) := by decide +kernel
theorem dX11_strikes_2 : decode cX11_strikes 2 = .ok (.invokevirtual 217, 3) := by decide +kernel
theorem dX11_strikes_5 : decode cX11_strikes 5 = .ok (.ifCond .eq 11, 3) := by decide +kernel
theorem dX11_strikes_8 : decode cX11_strikes 8 = .ok (.aload_n 0, 1) := by decide +kernel
theorem dX11_strikes_9 : decode cX11_strikes 9 = .ok (.iload_n 2, 1) := by decide +kernel
theorem dX11_strikes_10 : decode cX11_strikes 10 = .ok (.invokevirtual 333, 3) := by decide +kernel
theorem dX11_strikes_13 : decode cX11_strikes 13 = .ok (.ifCond .ne 9, 3) := by decide +kernel
theorem dX11_strikes_16 : decode cX11_strikes 16 = .ok (.aload_n 0, 1) := by decide +kernel
theorem dX11_strikes_17 : decode cX11_strikes 17 = .ok (.iconst 1, 1) := by decide +kernel
theorem dX11_strikes_18 : decode cX11_strikes 18 = .ok (.invokevirtual 130, 3) := by decide +kernel
theorem dX11_strikes_21 : decode cX11_strikes 21 = .ok (.ireturn, 1) := by decide +kernel
theorem dX11_strikes_22 : decode cX11_strikes 22 = .ok (.aload_n 0, 1) := by decide +kernel
theorem dX11_strikes_23 : decode cX11_strikes 23 = .ok (.invokevirtual 323, 3) := by decide +kernel
theorem dX11_strikes_26 : decode cX11_strikes 26 = .ok (.aload_n 0, 1) := by decide +kernel
theorem dX11_strikes_27 : decode cX11_strikes 27 = .ok (.getfield 75, 3) := by decide +kernel
theorem dX11_strikes_30 : decode cX11_strikes 30 = .ok (.iload_n 2, 1) := by decide +kernel
theorem dX11_strikes_31 : decode cX11_strikes 31 = .ok (.invokevirtual 279, 3) := by decide +kernel
theorem dX11_strikes_34 : decode cX11_strikes 34 = .ok (.pop, 1) := by decide +kernel
theorem dX11_strikes_35 : decode cX11_strikes 35 = .ok (.aload_n 0, 1) := by decide +kernel
theorem dX11_strikes_36 : decode cX11_strikes 36 = .ok (.aload_n 0, 1) := by decide +kernel
theorem dX11_strikes_37 : decode cX11_strikes 37 = .ok (.getfield 82, 3) := by decide +kernel
theorem dX11_strikes_40 : decode cX11_strikes 40 = .ok (.getfield 236, 3) := by decide +kernel
theorem dX11_strikes_43 : decode cX11_strikes 43 = .ok (.iload_n 1, 1) := by decide +kernel
theorem dX11_strikes_44 : decode cX11_strikes 44 = .ok (.iaload, 1) := by decide +kernel
theorem dX11_strikes_45 : decode cX11_strikes 45 = .ok (.aload_n 0, 1) := by decide +kernel
theorem dX11_strikes_46 : decode cX11_strikes 46 = .ok (.getfield 50, 3) := by decide +kernel
theorem dX11_strikes_49 : decode cX11_strikes 49 = .ok (.getfield 177, 3) := by decide +kernel
theorem dX11_strikes_52 : decode cX11_strikes 52 = .ok (.getfield 236, 3) := by decide +kernel
theorem dX11_strikes_55 : decode cX11_strikes 55 = .ok (.iload_n 1, 1) := by decide +kernel
theorem dX11_strikes_56 : decode cX11_strikes 56 = .ok (.iaload, 1) := by decide +kernel
theorem dX11_strikes_57 : decode cX11_strikes 57 = .ok (.isub, 1) := by decide +kernel
theorem dX11_strikes_58 : decode cX11_strikes 58 = .ok (.invokevirtual 193, 3) := by decide +kernel
theorem dX11_strikes_61 : decode cX11_strikes 61 = .ok (.ireturn, 1) := by decide +kernel
theorem dX11_bell_0 : decode cX11_bell 0 = .ok (.iload_n 1, 1) := by decide +kernel
theorem dX11_bell_1 : decode cX11_bell 1 = .ok (.ifCond .lt 11, 3) := by decide +kernel
theorem dX11_bell_4 : decode cX11_bell 4 = .ok (.aload_n 0, 1) := by decide +kernel
theorem dX11_bell_5 : decode cX11_bell 5 = .ok (.iload_n 2, 1) := by decide +kernel
theorem dX11_bell_6 : decode cX11_bell 6 = .ok (.invokevirtual 333, 3) := by decide +kernel
theorem dX11_bell_9 : decode cX11_bell 9 = .ok (.ifCond .ne 9, 3) := by decide +kernel
theorem dX11_bell_12 : decode cX11_bell 12 = .ok (.aload_n 0, 1) := by decide +kernel
theorem dX11_bell_13 : decode cX11_bell 13 = .ok (.iconst 1, 1) := by decide +kernel
theorem dX11_bell_14 : decode cX11_bell 14 = .ok (.invokevirtual 130, 3) := by decide +kernel
theorem dX11_bell_17 : decode cX11_bell 17 = .ok (.ireturn, 1) := by decide +kernel
theorem dX11_bell_18 : decode cX11_bell 18 = .ok (.aload_n 0, 1) := by decide +kernel
theorem dX11_bell_19 : decode cX11_bell 19 = .ok (.invokevirtual 323, 3) := by decide +kernel
theorem dX11_bell_22 : decode cX11_bell 22 = .ok (.aload_n 0, 1) := by decide +kernel
theorem dX11_bell_23 : decode cX11_bell 23 = .ok (.getfield 75, 3) := by decide +kernel
theorem dX11_bell_26 : decode cX11_bell 26 = .ok (.iload_n 1, 1) := by decide +kernel
theorem dX11_bell_27 : decode cX11_bell 27 = .ok (.invokevirtual 336, 3) := by decide +kernel
theorem dX11_bell_30 : decode cX11_bell 30 = .ok (.aload_n 0, 1) := by decide +kernel
theorem dX11_bell_31 : decode cX11_bell 31 = .ok (.getfield 75, 3) := by decide +kernel
theorem dX11_bell_34 : decode cX11_bell 34 = .ok (.iload_n 2, 1) := by decide +kernel
theorem dX11_bell_35 : decode cX11_bell 35 = .ok (.invokevirtual 279, 3) := by decide +kernel
theorem dX11_bell_38 : decode cX11_bell 38 = .ok (.pop, 1) := by decide +kernel
theorem dX11_bell_39 : decode cX11_bell 39 = .ok (.aload_n 0, 1) := by decide +kernel
theorem dX11_bell_40 : decode cX11_bell 40 = .ok (.getfield 75, 3) := by decide +kernel
theorem dX11_bell_43 : decode cX11_bell 43 = .ok (.getfield 339, 3) := by decide +kernel
theorem dX11_bell_46 : decode cX11_bell 46 = .ok (.iconst (-1), 1) := by decide +kernel
theorem dX11_bell_47 : decode cX11_bell 47 = .ok (.if_icmp .ne 12, 3) := by decide +kernel
theorem dX11_bell_50 : decode cX11_bell 50 = .ok (.aload_n 0, 1) := by decide +kernel
theorem dX11_bell_51 : decode cX11_bell 51 = .ok (.bipush 6, 2) := by decide +kernel
theorem dX11_bell_53 : decode cX11_bell 53 = .ok (.invokevirtual 130, 3) := by decide +kernel
theorem dX11_bell_56 : decode cX11_bell 56 = .ok (.goto 14, 3) := by decide +kernel
theorem dX11_bell_59 : decode cX11_bell 59 = .ok (.aload_n 0, 1) := by decide +kernel
theorem dX11_bell_60 : decode cX11_bell 60 = .ok (.aload_n 0, 1) := by decide +kernel
theorem dX11_bell_61 : decode cX11_bell 61 = .ok (.getfield 75, 3) := by decide +kernel
theorem dX11_bell_64 : decode cX11_bell 64 = .ok (.getfield 339, 3) := by decide +kernel
theorem dX11_bell_67 : decode cX11_bell 67 = .ok (.invokevirtual 193, 3) := by decide +kernel
theorem dX11_bell_70 : decode cX11_bell 70 = .ok (.ireturn, 1) := by decide +kernel
theorem dX11_wrong_0 : decode cX11_wrong 0 = .ok (.aload_n 0, 1) := by decide +kernel
theorem dX11_wrong_1 : decode cX11_wrong 1 = .ok (.iload_n 1, 1) := by decide +kernel
theorem dX11_wrong_2 : decode cX11_wrong 2 = .ok (.invokevirtual 217, 3) := by decide +kernel
theorem dX11_wrong_5 : decode cX11_wrong 5 = .ok (.ifCond .eq 11, 3) := by decide +kernel
theorem dX11_wrong_8 : decode cX11_wrong 8 = .ok (.aload_n 0, 1) := by decide +kernel
theorem dX11_wrong_9 : decode cX11_wrong 9 = .ok (.iload_n 2, 1) := by decide +kernel
theorem dX11_wrong_10 : decode cX11_wrong 10 = .ok (.invokevirtual 333, 3) := by decide +kernel
theorem dX11_wrong_13 : decode cX11_wrong 13 = .ok (.ifCond .ne 9, 3) := by decide +kernel
theorem dX11_wrong_16 : decode cX11_wrong 16 = .ok (.aload_n 0, 1) := by decide +kernel
theorem dX11_wrong_17 : decode cX11_wrong 17 = .ok (.iconst 1, 1) := by decide +kernel
theorem dX11_wrong_18 : decode cX11_wrong 18 = .ok (.invokevirtual 130, 3) := by decide +kernel
theorem dX11_wrong_21 : decode cX11_wrong 21 = .ok (.ireturn, 1) := by decide +kernel
theorem dX11_wrong_22 : decode cX11_wrong 22 = .ok (.aload_n 0, 1) := by decide +kernel
theorem dX11_wrong_23 : decode cX11_wrong 23 = .ok (.invokevirtual 323, 3) := by decide +kernel
theorem dX11_wrong_26 : decode cX11_wrong 26 = .ok (.aload_n 0, 1) := by decide +kernel
theorem dX11_wrong_27 : decode cX11_wrong 27 = .ok (.aload_n 0, 1) := by decide +kernel
theorem dX11_wrong_28 : decode cX11_wrong 28 = .ok (.getfield 75, 3) := by decide +kernel
theorem dX11_wrong_31 : decode cX11_wrong 31 = .ok (.iconst 1, 1) := by decide +kernel
theorem dX11_wrong_32 : decode cX11_wrong 32 = .ok (.iload_n 1, 1) := by decide +kernel
theorem dX11_wrong_33 : decode cX11_wrong 33 = .ok (.ishl, 1) := by decide +kernel
theorem dX11_wrong_34 : decode cX11_wrong 34 = .ok (.iload_n 2, 1) := by decide +kernel
theorem dX11_wrong_35 : decode cX11_wrong 35 = .ok (.invokevirtual 342, 3) := by decide +kernel
theorem dX11_wrong_38 : decode cX11_wrong 38 = .ok (.invokevirtual 193, 3) := by decide +kernel
theorem dX11_wrong_41 : decode cX11_wrong 41 = .ok (.ireturn, 1) := by decide +kernel
theorem dX11_holding_0 : decode cX11_holding 0 = .ok (.aload_n 0, 1) := by decide +kernel
theorem dX11_holding_1 : decode cX11_holding 1 = .ok (.iload_n 1, 1) := by decide +kernel
theorem dX11_holding_2 : decode cX11_holding 2 = .ok (.invokevirtual 217, 3) := by decide +kernel
theorem dX11_holding_5 : decode cX11_holding 5 = .ok (.ifCond .eq 11, 3) := by decide +kernel
theorem dX11_holding_8 : decode cX11_holding 8 = .ok (.aload_n 0, 1) := by decide +kernel
theorem dX11_holding_9 : decode cX11_holding 9 = .ok (.iload_n 2, 1) := by decide +kernel
theorem dX11_holding_10 : decode cX11_holding 10 = .ok (.invokevirtual 333, 3) := by decide +kernel
theorem dX11_holding_13 : decode cX11_holding 13 = .ok (.ifCond .ne 9, 3) := by decide +kernel
theorem dX11_holding_16 : decode cX11_holding 16 = .ok (.aload_n 0, 1) := by decide +kernel
theorem dX11_holding_17 : decode cX11_holding 17 = .ok (.iconst 1, 1) := by decide +kernel
theorem dX11_holding_18 : decode cX11_holding 18 = .ok (.invokevirtual 130, 3) := by decide +kernel
theorem dX11_holding_21 : decode cX11_holding 21 = .ok (.ireturn, 1) := by decide +kernel
theorem dX11_holding_22 : decode cX11_holding 22 = .ok (.aload_n 0, 1) := by decide +kernel
theorem dX11_holding_23 : decode cX11_holding 23 = .ok (.invokevirtual 345, 3) := by decide +kernel
theorem dX11_holding_26 : decode cX11_holding 26 = .ok (.iload_n 1, 1) := by decide +kernel
theorem dX11_holding_27 : decode cX11_holding 27 = .ok (.iconst 0, 1) := by decide +kernel
theorem dX11_holding_28 : decode cX11_holding 28 = .ok (.invokestatic 275, 3) := by decide +kernel
theorem dX11_holding_31 : decode cX11_holding 31 = .ok (.istore_n 3, 1) := by decide +kernel
theorem dX11_holding_32 : decode cX11_holding 32 = .ok (.aload_n 0, 1) := by decide +kernel
theorem dX11_holding_33 : decode cX11_holding 33 = .ok (.invokevirtual 323, 3) := by decide +kernel
theorem dX11_holding_36 : decode cX11_holding 36 = .ok (.aload_n 0, 1) := by decide +kernel
theorem dX11_holding_37 : decode cX11_holding 37 = .ok (.getfield 75, 3) := by decide +kernel
theorem dX11_holding_40 : decode cX11_holding 40 = .ok (.iload_n 3, 1) := by decide +kernel
theorem dX11_holding_41 : decode cX11_holding 41 = .ok (.iload_n 2, 1) := by decide +kernel
theorem dX11_holding_42 : decode cX11_holding 42 = .ok (.invokevirtual 342, 3) := by decide +kernel
theorem dX11_holding_45 : decode cX11_holding 45 = .ok (.istore 4, 2) := by decide +kernel
theorem dX11_holding_47 : decode cX11_holding 47 = .ok (.aload_n 0, 1) := by decide +kernel
theorem dX11_holding_48 : decode cX11_holding 48 = .ok (.invokevirtual 323, 3) := by decide +kernel
theorem dX11_holding_51 : decode cX11_holding 51 = .ok (.aload_n 0, 1) := by decide +kernel
theorem dX11_holding_52 : decode cX11_holding 52 = .ok (.getfield 82, 3) := by decide +kernel
theorem dX11_holding_55 : decode cX11_holding 55 = .ok (.aload_n 0, 1) := by decide +kernel
theorem dX11_holding_56 : decode cX11_holding 56 = .ok (.getfield 82, 3) := by decide +kernel
theorem dX11_holding_59 : decode cX11_holding 59 = .ok (.getfield 214, 3) := by decide +kernel
theorem dX11_holding_62 : decode cX11_holding 62 = .ok (.iload_n 1, 1) := by decide +kernel
theorem dX11_holding_63 : decode cX11_holding 63 = .ok (.iconst 1, 1) := by decide +kernel
theorem dX11_holding_64 : decode cX11_holding 64 = .ok (.invokestatic 275, 3) := by decide +kernel
theorem dX11_holding_67 : decode cX11_holding 67 = .ok (.putfield 214, 3) := by decide +kernel
theorem dX11_holding_70 : decode cX11_holding 70 = .ok (.aload_n 0, 1) := by decide +kernel
theorem dX11_holding_71 : decode cX11_holding 71 = .ok (.aload_n 0, 1) := by decide +kernel
theorem dX11_holding_72 : decode cX11_holding 72 = .ok (.getfield 75, 3) := by decide +kernel
theorem dX11_holding_75 : decode cX11_holding 75 = .ok (.iload_n 3, 1) := by decide +kernel
theorem dX11_holding_76 : decode cX11_holding 76 = .ok (.iload_n 2, 1) := by decide +kernel
theorem dX11_holding_77 : decode cX11_holding 77 = .ok (.invokevirtual 342, 3) := by decide +kernel
theorem dX11_holding_80 : decode cX11_holding 80 = .ok (.iload 4, 2) := by decide +kernel
theorem dX11_holding_82 : decode cX11_holding 82 = .ok (.isub, 1) := by decide +kernel
theorem dX11_holding_83 : decode cX11_holding 83 = .ok (.invokevirtual 193, 3) := by decide +kernel
theorem dX11_holding_86 : decode cX11_holding 86 = .ok (.ireturn, 1) := by decide +kernel
theorem dX11_helpers_0 : decode cX11_helpers 0 = .ok (.aload_n 0, 1) := by decide +kernel
theorem dX11_helpers_1 : decode cX11_helpers 1 = .ok (.iload_n 1, 1) := by decide +kernel
theorem dX11_helpers_2 : decode cX11_helpers 2 = .ok (.invokevirtual 217, 3) := by decide +kernel
theorem dX11_helpers_5 : decode cX11_helpers 5 = .ok (.ifCond .ne 9, 3) := by decide +kernel
theorem dX11_helpers_8 : decode cX11_helpers 8 = .ok (.aload_n 0, 1) := by decide +kernel
theorem dX11_helpers_9 : decode cX11_helpers 9 = .ok (.iconst 1, 1) := by decide +kernel
theorem dX11_helpers_10 : decode cX11_helpers 10 = .ok (.invokevirtual 130, 3) := by decide +kernel
theorem dX11_helpers_13 : decode cX11_helpers 13 = .ok (.ireturn, 1) := by decide +kernel
theorem dX11_helpers_14 : decode cX11_helpers 14 = .ok (.aload_n 0, 1) := by decide +kernel
theorem dX11_helpers_15 : decode cX11_helpers 15 = .ok (.invokevirtual 257, 3) := by decide +kernel
theorem dX11_helpers_18 : decode cX11_helpers 18 = .ok (.aload_n 0, 1) := by decide +kernel
theorem dX11_helpers_19 : decode cX11_helpers 19 = .ok (.getfield 75, 3) := by decide +kernel
theorem dX11_helpers_22 : decode cX11_helpers 22 = .ok (.iload_n 1, 1) := by decide +kernel
theorem dX11_helpers_23 : decode cX11_helpers 23 = .ok (.invokevirtual 263, 3) := by decide +kernel
theorem dX11_helpers_26 : decode cX11_helpers 26 = .ok (.ifCond .eq 10, 3) := by decide +kernel
theorem dX11_helpers_29 : decode cX11_helpers 29 = .ok (.aload_n 0, 1) := by decide +kernel
theorem dX11_helpers_30 : decode cX11_helpers 30 = .ok (.bipush 6, 2) := by decide +kernel
theorem dX11_helpers_32 : decode cX11_helpers 32 = .ok (.invokevirtual 130, 3) := by decide +kernel
theorem dX11_helpers_35 : decode cX11_helpers 35 = .ok (.ireturn, 1) := by decide +kernel
theorem dX11_helpers_36 : decode cX11_helpers 36 = .ok (.aload_n 0, 1) := by decide +kernel
theorem dX11_helpers_37 : decode cX11_helpers 37 = .ok (.getfield 75, 3) := by decide +kernel
theorem dX11_helpers_40 : decode cX11_helpers 40 = .ok (.iload_n 1, 1) := by decide +kernel
theorem dX11_helpers_41 : decode cX11_helpers 41 = .ok (.aload_n 0, 1) := by decide +kernel
theorem dX11_helpers_42 : decode cX11_helpers 42 = .ok (.getfield 75, 3) := by decide +kernel
theorem dX11_helpers_45 : decode cX11_helpers 45 = .ok (.iload_n 1, 1) := by decide +kernel
theorem dX11_helpers_46 : decode cX11_helpers 46 = .ok (.invokevirtual 348, 3) := by decide +kernel
theorem dX11_helpers_49 : decode cX11_helpers 49 = .ok (.invokevirtual 285, 3) := by decide +kernel
theorem dX11_helpers_52 : decode cX11_helpers 52 = .ok (.ifCond .ne 10, 3) := by decide +kernel
theorem dX11_helpers_55 : decode cX11_helpers 55 = .ok (.aload_n 0, 1) := by decide +kernel
theorem dX11_helpers_56 : decode cX11_helpers 56 = .ok (.bipush 7, 2) := by decide +kernel
theorem dX11_helpers_58 : decode cX11_helpers 58 = .ok (.invokevirtual 130, 3) := by decide +kernel
theorem dX11_helpers_61 : decode cX11_helpers 61 = .ok (.ireturn, 1) := by decide +kernel
theorem dX11_helpers_62 : decode cX11_helpers 62 = .ok (.aload_n 0, 1) := by decide +kernel
theorem dX11_helpers_63 : decode cX11_helpers 63 = .ok (.aload_n 0, 1) := by decide +kernel
theorem dX11_helpers_64 : decode cX11_helpers 64 = .ok (.getfield 75, 3) := by decide +kernel
theorem dX11_helpers_67 : decode cX11_helpers 67 = .ok (.iload_n 1, 1) := by decide +kernel
theorem dX11_helpers_68 : decode cX11_helpers 68 = .ok (.invokevirtual 351, 3) := by decide +kernel
theorem dX11_helpers_71 : decode cX11_helpers 71 = .ok (.invokevirtual 193, 3) := by decide +kernel
theorem dX11_helpers_74 : decode cX11_helpers 74 = .ok (.ireturn, 1) := by decide +kernel
theorem dX11_firstToTurn_0 : decode cX11_firstToTurn 0 = .ok (.aload_n 0, 1) := by decide +kernel
theorem dX11_firstToTurn_1 : decode cX11_firstToTurn 1 = .ok (.invokevirtual 257, 3) := by decide +kernel
theorem dX11_firstToTurn_4 : decode cX11_firstToTurn 4 = .ok (.aload_n 0, 1) := by decide +kernel
theorem dX11_firstToTurn_5 : decode cX11_firstToTurn 5 = .ok (.getfield 75, 3) := by decide +kernel
theorem dX11_firstToTurn_8 : decode cX11_firstToTurn 8 = .ok (.invokevirtual 354, 3) := by decide +kernel
theorem dX11_firstToTurn_11 : decode cX11_firstToTurn 11 = .ok (.istore_n 1, 1) := by decide +kernel
theorem dX11_firstToTurn_12 : decode cX11_firstToTurn 12 = .ok (.iload_n 1, 1) := by decide +kernel
theorem dX11_firstToTurn_13 : decode cX11_firstToTurn 13 = .ok (.iconst (-1), 1) := by decide +kernel
theorem dX11_firstToTurn_14 : decode cX11_firstToTurn 14 = .ok (.if_icmp .ne 12, 3) := by decide +kernel
theorem dX11_firstToTurn_17 : decode cX11_firstToTurn 17 = .ok (.aload_n 0, 1) := by decide +kernel
theorem dX11_firstToTurn_18 : decode cX11_firstToTurn 18 = .ok (.bipush 6, 2) := by decide +kernel
theorem dX11_firstToTurn_20 : decode cX11_firstToTurn 20 = .ok (.invokevirtual 130, 3) := by decide +kernel
theorem dX11_firstToTurn_23 : decode cX11_firstToTurn 23 = .ok (.goto 8, 3) := by decide +kernel
theorem dX11_firstToTurn_26 : decode cX11_firstToTurn 26 = .ok (.aload_n 0, 1) := by decide +kernel
theorem dX11_firstToTurn_27 : decode cX11_firstToTurn 27 = .ok (.iload_n 1, 1) := by decide +kernel
theorem dX11_firstToTurn_28 : decode cX11_firstToTurn 28 = .ok (.invokevirtual 193, 3) := by decide +kernel
theorem dX11_firstToTurn_31 : decode cX11_firstToTurn 31 = .ok (.ireturn, 1) := by decide +kernel
theorem dX11_heaviest_0 : decode cX11_heaviest 0 = .ok (.aload_n 0, 1) := by decide +kernel
theorem dX11_heaviest_1 : decode cX11_heaviest 1 = .ok (.invokevirtual 257, 3) := by decide +kernel
theorem dX11_heaviest_4 : decode cX11_heaviest 4 = .ok (.iconst (-1), 1) := by decide +kernel
theorem dX11_heaviest_5 : decode cX11_heaviest 5 = .ok (.istore_n 1, 1) := by decide +kernel
theorem dX11_heaviest_6 : decode cX11_heaviest 6 = .ok (.iconst 0, 1) := by decide +kernel
theorem dX11_heaviest_7 : decode cX11_heaviest 7 = .ok (.istore_n 2, 1) := by decide +kernel
theorem dX11_heaviest_8 : decode cX11_heaviest 8 = .ok (.iconst 0, 1) := by decide +kernel
theorem dX11_heaviest_9 : decode cX11_heaviest 9 = .ok (.istore_n 3, 1) := by decide +kernel
theorem dX11_heaviest_10 : decode cX11_heaviest 10 = .ok (.iload_n 3, 1) := by decide +kernel
theorem dX11_heaviest_11 : decode cX11_heaviest 11 = .ok (.aload_n 0, 1) := by decide +kernel
theorem dX11_heaviest_12 : decode cX11_heaviest 12 = .ok (.getfield 50, 3) := by decide +kernel
theorem dX11_heaviest_15 : decode cX11_heaviest 15 = .ok (.getfield 174, 3) := by decide +kernel
theorem dX11_heaviest_18 : decode cX11_heaviest 18 = .ok (.getfield 190, 3) := by decide +kernel
theorem dX11_heaviest_21 : decode cX11_heaviest 21 = .ok (.if_icmp .ge 43, 3) := by decide +kernel
theorem dX11_heaviest_24 : decode cX11_heaviest 24 = .ok (.aload_n 0, 1) := by decide +kernel
theorem dX11_heaviest_25 : decode cX11_heaviest 25 = .ok (.getfield 75, 3) := by decide +kernel
theorem dX11_heaviest_28 : decode cX11_heaviest 28 = .ok (.iload_n 3, 1) := by decide +kernel
theorem dX11_heaviest_29 : decode cX11_heaviest 29 = .ok (.iconst 1, 1) := by decide +kernel
theorem dX11_heaviest_30 : decode cX11_heaviest 30 = .ok (.invokevirtual 357, 3) := by decide +kernel
theorem dX11_heaviest_33 : decode cX11_heaviest 33 = .ok (.aload_n 0, 1) := by decide +kernel
theorem dX11_heaviest_34 : decode cX11_heaviest 34 = .ok (.getfield 75, 3) := by decide +kernel
theorem dX11_heaviest_37 : decode cX11_heaviest 37 = .ok (.iload_n 3, 1) := by decide +kernel
theorem dX11_heaviest_38 : decode cX11_heaviest 38 = .ok (.iconst (-1), 1) := by decide +kernel
theorem dX11_heaviest_39 : decode cX11_heaviest 39 = .ok (.invokevirtual 357, 3) := by decide +kernel
theorem dX11_heaviest_42 : decode cX11_heaviest 42 = .ok (.invokestatic 360, 3) := by decide +kernel
theorem dX11_heaviest_45 : decode cX11_heaviest 45 = .ok (.istore 4, 2) := by decide +kernel
theorem dX11_heaviest_47 : decode cX11_heaviest 47 = .ok (.iload 4, 2) := by decide +kernel
theorem dX11_heaviest_49 : decode cX11_heaviest 49 = .ok (.iload_n 2, 1) := by decide +kernel
theorem dX11_heaviest_50 : decode cX11_heaviest 50 = .ok (.if_icmp .le 8, 3) := by decide +kernel
theorem dX11_heaviest_53 : decode cX11_heaviest 53 = .ok (.iload 4, 2) := by decide +kernel
theorem dX11_heaviest_55 : decode cX11_heaviest 55 = .ok (.istore_n 2, 1) := by decide +kernel
theorem dX11_heaviest_56 : decode cX11_heaviest 56 = .ok (.iload_n 3, 1) := by decide +kernel
theorem dX11_heaviest_57 : decode cX11_heaviest 57 = .ok (.istore_n 1, 1) := by decide +kernel
theorem dX11_heaviest_58 : decode cX11_heaviest 58 = .ok (.iinc 3 1, 3) := by decide +kernel
theorem dX11_heaviest_61 : decode cX11_heaviest 61 = .ok (.goto (-51), 3) := by decide +kernel
theorem dX11_heaviest_64 : decode cX11_heaviest 64 = .ok (.iload_n 1, 1) := by decide +kernel
theorem dX11_heaviest_65 : decode cX11_heaviest 65 = .ok (.iconst (-1), 1) := by decide +kernel
theorem dX11_heaviest_66 : decode cX11_heaviest 66 = .ok (.if_icmp .ne 12, 3) := by decide +kernel
theorem dX11_heaviest_69 : decode cX11_heaviest 69 = .ok (.aload_n 0, 1) := by decide +kernel
theorem dX11_heaviest_70 : decode cX11_heaviest 70 = .ok (.bipush 6, 2) := by decide +kernel
theorem dX11_heaviest_72 : decode cX11_heaviest 72 = .ok (.invokevirtual 130, 3) := by decide +kernel
theorem dX11_heaviest_75 : decode cX11_heaviest 75 = .ok (.goto 8, 3) := by decide +kernel
theorem dX11_heaviest_78 : decode cX11_heaviest 78 = .ok (.aload_n 0, 1) := by decide +kernel
theorem dX11_heaviest_79 : decode cX11_heaviest 79 = .ok (.iload_n 1, 1) := by decide +kernel
theorem dX11_heaviest_80 : decode cX11_heaviest 80 = .ok (.invokevirtual 193, 3) := by decide +kernel
theorem dX11_heaviest_83 : decode cX11_heaviest 83 = .ok (.ireturn, 1) := by decide +kernel
theorem dX11_farthest_0 : decode cX11_farthest 0 = .ok (.aload_n 0, 1) := by decide +kernel
theorem dX11_farthest_1 : decode cX11_farthest 1 = .ok (.invokevirtual 257, 3) := by decide +kernel
theorem dX11_farthest_4 : decode cX11_farthest 4 = .ok (.iconst (-1), 1) := by decide +kernel
theorem dX11_farthest_5 : decode cX11_farthest 5 = .ok (.istore_n 1, 1) := by decide +kernel
theorem dX11_farthest_6 : decode cX11_farthest 6 = .ok (.iconst 0, 1) := by decide +kernel
theorem dX11_farthest_7 : decode cX11_farthest 7 = .ok (.istore_n 2, 1) := by decide +kernel
theorem dX11_farthest_8 : decode cX11_farthest 8 = .ok (.iconst 0, 1) := by decide +kernel
theorem dX11_farthest_9 : decode cX11_farthest 9 = .ok (.istore_n 3, 1) := by decide +kernel
theorem dX11_farthest_10 : decode cX11_farthest 10 = .ok (.iload_n 3, 1) := by decide +kernel
theorem dX11_farthest_11 : decode cX11_farthest 11 = .ok (.aload_n 0, 1) := by decide +kernel
theorem dX11_farthest_12 : decode cX11_farthest 12 = .ok (.getfield 50, 3) := by decide +kernel
theorem dX11_farthest_15 : decode cX11_farthest 15 = .ok (.getfield 174, 3) := by decide +kernel
theorem dX11_farthest_18 : decode cX11_farthest 18 = .ok (.getfield 190, 3) := by decide +kernel
theorem dX11_farthest_21 : decode cX11_farthest 21 = .ok (.if_icmp .ge 30, 3) := by decide +kernel
theorem dX11_farthest_24 : decode cX11_farthest 24 = .ok (.aload_n 0, 1) := by decide +kernel
theorem dX11_farthest_25 : decode cX11_farthest 25 = .ok (.getfield 75, 3) := by decide +kernel
theorem dX11_farthest_28 : decode cX11_farthest 28 = .ok (.iload_n 3, 1) := by decide +kernel
theorem dX11_farthest_29 : decode cX11_farthest 29 = .ok (.invokevirtual 365, 3) := by decide +kernel
theorem dX11_farthest_32 : decode cX11_farthest 32 = .ok (.istore 4, 2) := by decide +kernel
theorem dX11_farthest_34 : decode cX11_farthest 34 = .ok (.iload 4, 2) := by decide +kernel
theorem dX11_farthest_36 : decode cX11_farthest 36 = .ok (.iload_n 2, 1) := by decide +kernel
theorem dX11_farthest_37 : decode cX11_farthest 37 = .ok (.if_icmp .le 8, 3) := by decide +kernel
theorem dX11_farthest_40 : decode cX11_farthest 40 = .ok (.iload 4, 2) := by decide +kernel
theorem dX11_farthest_42 : decode cX11_farthest 42 = .ok (.istore_n 2, 1) := by decide +kernel
theorem dX11_farthest_43 : decode cX11_farthest 43 = .ok (.iload_n 3, 1) := by decide +kernel
theorem dX11_farthest_44 : decode cX11_farthest 44 = .ok (.istore_n 1, 1) := by decide +kernel
theorem dX11_farthest_45 : decode cX11_farthest 45 = .ok (.iinc 3 1, 3) := by decide +kernel
theorem dX11_farthest_48 : decode cX11_farthest 48 = .ok (.goto (-38), 3) := by decide +kernel
theorem dX11_farthest_51 : decode cX11_farthest 51 = .ok (.iload_n 1, 1) := by decide +kernel
theorem dX11_farthest_52 : decode cX11_farthest 52 = .ok (.iconst (-1), 1) := by decide +kernel
theorem dX11_farthest_53 : decode cX11_farthest 53 = .ok (.if_icmp .ne 12, 3) := by decide +kernel
theorem dX11_farthest_56 : decode cX11_farthest 56 = .ok (.aload_n 0, 1) := by decide +kernel
theorem dX11_farthest_57 : decode cX11_farthest 57 = .ok (.bipush 6, 2) := by decide +kernel
theorem dX11_farthest_59 : decode cX11_farthest 59 = .ok (.invokevirtual 130, 3) := by decide +kernel
theorem dX11_farthest_62 : decode cX11_farthest 62 = .ok (.goto 8, 3) := by decide +kernel
theorem dX11_farthest_65 : decode cX11_farthest 65 = .ok (.aload_n 0, 1) := by decide +kernel
theorem dX11_farthest_66 : decode cX11_farthest 66 = .ok (.iload_n 1, 1) := by decide +kernel
theorem dX11_farthest_67 : decode cX11_farthest 67 = .ok (.invokevirtual 193, 3) := by decide +kernel
theorem dX11_farthest_70 : decode cX11_farthest 70 = .ok (.ireturn, 1) := by decide +kernel
theorem dX11_calmed_0 : decode cX11_calmed 0 = .ok (.aload_n 0, 1) := by decide +kernel
theorem dX11_calmed_1 : decode cX11_calmed 1 = .ok (.invokevirtual 330, 3) := by decide +kernel
theorem dX11_calmed_4 : decode cX11_calmed 4 = .ok (.istore_n 1, 1) := by decide +kernel
theorem dX11_calmed_5 : decode cX11_calmed 5 = .ok (.iload_n 1, 1) := by decide +kernel
theorem dX11_calmed_6 : decode cX11_calmed 6 = .ok (.iconst (-1), 1) := by decide +kernel
theorem dX11_calmed_7 : decode cX11_calmed 7 = .ok (.if_icmp .ne 12, 3) := by decide +kernel
theorem dX11_calmed_10 : decode cX11_calmed 10 = .ok (.aload_n 0, 1) := by decide +kernel
theorem dX11_calmed_11 : decode cX11_calmed 11 = .ok (.bipush 6, 2) := by decide +kernel
theorem dX11_calmed_13 : decode cX11_calmed 13 = .ok (.invokevirtual 130, 3) := by decide +kernel
theorem dX11_calmed_16 : decode cX11_calmed 16 = .ok (.goto 8, 3) := by decide +kernel
theorem dX11_calmed_19 : decode cX11_calmed 19 = .ok (.aload_n 0, 1) := by decide +kernel
theorem dX11_calmed_20 : decode cX11_calmed 20 = .ok (.iload_n 1, 1) := by decide +kernel
theorem dX11_calmed_21 : decode cX11_calmed 21 = .ok (.invokevirtual 193, 3) := by decide +kernel
theorem dX11_calmed_24 : decode cX11_calmed 24 = .ok (.ireturn, 1) := by decide +kernel
theorem dX11_teeth_0 : decode cX11_teeth 0 = .ok (.aload_n 0, 1) := by decide +kernel
theorem dX11_teeth_1 : decode cX11_teeth 1 = .ok (.iload_n 1, 1) := by decide +kernel
theorem dX11_teeth_2 : decode cX11_teeth 2 = .ok (.invokevirtual 333, 3) := by decide +kernel
theorem dX11_teeth_5 : decode cX11_teeth 5 = .ok (.ifCond .ne 9, 3) := by decide +kernel
theorem dX11_teeth_8 : decode cX11_teeth 8 = .ok (.aload_n 0, 1) := by decide +kernel
theorem dX11_teeth_9 : decode cX11_teeth 9 = .ok (.iconst 1, 1) := by decide +kernel
theorem dX11_teeth_10 : decode cX11_teeth 10 = .ok (.invokevirtual 130, 3) := by decide +kernel
theorem dX11_teeth_13 : decode cX11_teeth 13 = .ok (.ireturn, 1) := by decide +kernel
theorem dX11_teeth_14 : decode cX11_teeth 14 = .ok (.aload_n 0, 1) := by decide +kernel
theorem dX11_teeth_15 : decode cX11_teeth 15 = .ok (.invokevirtual 323, 3) := by decide +kernel
theorem dX11_teeth_18 : decode cX11_teeth 18 = .ok (.aload_n 0, 1) := by decide +kernel
theorem dX11_teeth_19 : decode cX11_teeth 19 = .ok (.getfield 75, 3) := by decide +kernel
theorem dX11_teeth_22 : decode cX11_teeth 22 = .ok (.iload_n 1, 1) := by decide +kernel
theorem dX11_teeth_23 : decode cX11_teeth 23 = .ok (.invokevirtual 279, 3) := by decide +kernel
theorem dX11_teeth_26 : decode cX11_teeth 26 = .ok (.pop, 1) := by decide +kernel
theorem dX11_teeth_27 : decode cX11_teeth 27 = .ok (.aload_n 0, 1) := by decide +kernel
theorem dX11_teeth_28 : decode cX11_teeth 28 = .ok (.aload_n 0, 1) := by decide +kernel
theorem dX11_teeth_29 : decode cX11_teeth 29 = .ok (.getfield 75, 3) := by decide +kernel
theorem dX11_teeth_32 : decode cX11_teeth 32 = .ok (.getfield 368, 3) := by decide +kernel
theorem dX11_teeth_35 : decode cX11_teeth 35 = .ok (.invokevirtual 193, 3) := by decide +kernel
theorem dX11_teeth_38 : decode cX11_teeth 38 = .ok (.ireturn, 1) := by decide +kernel
theorem dX11_bestWind_0 : decode cX11_bestWind 0 = .ok (.aload_n 0, 1) := by decide +kernel
theorem dX11_bestWind_1 : decode cX11_bestWind 1 = .ok (.iload_n 1, 1) := by decide +kernel
theorem dX11_bestWind_2 : decode cX11_bestWind 2 = .ok (.invokevirtual 371, 3) := by decide +kernel
theorem dX11_bestWind_5 : decode cX11_bestWind 5 = .ok (.ifCond .eq 11, 3) := by decide +kernel
theorem dX11_bestWind_8 : decode cX11_bestWind 8 = .ok (.aload_n 0, 1) := by decide +kernel
theorem dX11_bestWind_9 : decode cX11_bestWind 9 = .ok (.iload_n 2, 1) := by decide +kernel
theorem dX11_bestWind_10 : decode cX11_bestWind 10 = .ok (.invokevirtual 320, 3) := by decide +kernel
theorem dX11_bestWind_13 : decode cX11_bestWind 13 = .ok (.ifCond .ne 9, 3) := by decide +kernel
theorem dX11_bestWind_16 : decode cX11_bestWind 16 = .ok (.aload_n 0, 1) := by decide +kernel
theorem dX11_bestWind_17 : decode cX11_bestWind 17 = .ok (.iconst 1, 1) := by decide +kernel
theorem dX11_bestWind_18 : decode cX11_bestWind 18 = .ok (.invokevirtual 130, 3) := by decide +kernel
theorem dX11_bestWind_21 : decode cX11_bestWind 21 = .ok (.ireturn, 1) := by decide +kernel
theorem dX11_bestWind_22 : decode cX11_bestWind 22 = .ok (.iconst (-1), 1) := by decide +kernel
theorem dX11_bestWind_23 : decode cX11_bestWind 23 = .ok (.istore_n 3, 1) := by decide +kernel
theorem dX11_bestWind_24 : decode cX11_bestWind 24 = .ok (.iconst (-1), 1) := by decide +kernel
theorem dX11_bestWind_25 : decode cX11_bestWind 25 = .ok (.istore 4, 2) := by decide +kernel
theorem dX11_bestWind_27 : decode cX11_bestWind 27 = .ok (.iconst 0, 1) := by decide +kernel
theorem dX11_bestWind_28 : decode cX11_bestWind 28 = .ok (.istore 5, 2) := by decide +kernel
theorem dX11_bestWind_30 : decode cX11_bestWind 30 = .ok (.iload 5, 2) := by decide +kernel
theorem dX11_bestWind_32 : decode cX11_bestWind 32 = .ok (.bipush 16, 2) := by decide +kernel
theorem dX11_bestWind_34 : decode cX11_bestWind 34 = .ok (.if_icmp .ge 44, 3) := by decide +kernel
theorem dX11_bestWind_37 : decode cX11_bestWind 37 = .ok (.aload_n 0, 1) := by decide +kernel
theorem dX11_bestWind_38 : decode cX11_bestWind 38 = .ok (.invokevirtual 323, 3) := by decide +kernel
theorem dX11_bestWind_41 : decode cX11_bestWind 41 = .ok (.aload_n 0, 1) := by decide +kernel
theorem dX11_bestWind_42 : decode cX11_bestWind 42 = .ok (.getfield 75, 3) := by decide +kernel
theorem dX11_bestWind_45 : decode cX11_bestWind 45 = .ok (.iload 5, 2) := by decide +kernel
theorem dX11_bestWind_47 : decode cX11_bestWind 47 = .ok (.iload_n 1, 1) := by decide +kernel
theorem dX11_bestWind_48 : decode cX11_bestWind 48 = .ok (.invokevirtual 374, 3) := by decide +kernel
theorem dX11_bestWind_51 : decode cX11_bestWind 51 = .ok (.aload_n 0, 1) := by decide +kernel
theorem dX11_bestWind_52 : decode cX11_bestWind 52 = .ok (.iload_n 2, 1) := by decide +kernel
theorem dX11_bestWind_53 : decode cX11_bestWind 53 = .ok (.invokevirtual 377, 3) := by decide +kernel
theorem dX11_bestWind_56 : decode cX11_bestWind 56 = .ok (.istore 6, 2) := by decide +kernel
theorem dX11_bestWind_58 : decode cX11_bestWind 58 = .ok (.iload 6, 2) := by decide +kernel
theorem dX11_bestWind_60 : decode cX11_bestWind 60 = .ok (.iload 4, 2) := by decide +kernel
theorem dX11_bestWind_62 : decode cX11_bestWind 62 = .ok (.if_icmp .le 10, 3) := by decide +kernel
theorem dX11_bestWind_65 : decode cX11_bestWind 65 = .ok (.iload 6, 2) := by decide +kernel
theorem dX11_bestWind_67 : decode cX11_bestWind 67 = .ok (.istore 4, 2) := by decide +kernel
theorem dX11_bestWind_69 : decode cX11_bestWind 69 = .ok (.iload 5, 2) := by decide +kernel
theorem dX11_bestWind_71 : decode cX11_bestWind 71 = .ok (.istore_n 3, 1) := by decide +kernel
theorem dX11_bestWind_72 : decode cX11_bestWind 72 = .ok (.iinc 5 1, 3) := by decide +kernel
theorem dX11_bestWind_75 : decode cX11_bestWind 75 = .ok (.goto (-45), 3) := by decide +kernel
theorem dX11_bestWind_78 : decode cX11_bestWind 78 = .ok (.aload_n 0, 1) := by decide +kernel
theorem dX11_bestWind_79 : decode cX11_bestWind 79 = .ok (.iload_n 3, 1) := by decide +kernel
theorem dX11_bestWind_80 : decode cX11_bestWind 80 = .ok (.invokevirtual 193, 3) := by decide +kernel
theorem dX11_bestWind_83 : decode cX11_bestWind 83 = .ok (.ireturn, 1) := by decide +kernel
theorem dX11_parting_0 : decode cX11_parting 0 = .ok (.aload_n 0, 1) := by decide +kernel
theorem dX11_parting_1 : decode cX11_parting 1 = .ok (.aload_n 0, 1) := by decide +kernel
theorem dX11_parting_2 : decode cX11_parting 2 = .ok (.getfield 89, 3) := by decide +kernel
theorem dX11_parting_5 : decode cX11_parting 5 = .ok (.aload_n 0, 1) := by decide +kernel
theorem dX11_parting_6 : decode cX11_parting 6 = .ok (.getfield 50, 3) := by decide +kernel
theorem dX11_parting_9 : decode cX11_parting 9 = .ok (.getfield 174, 3) := by decide +kernel
theorem dX11_parting_12 : decode cX11_parting 12 = .ok (.aload_n 0, 1) := by decide +kernel
theorem dX11_parting_13 : decode cX11_parting 13 = .ok (.getfield 50, 3) := by decide +kernel
theorem dX11_parting_16 : decode cX11_parting 16 = .ok (.getfield 177, 3) := by decide +kernel
theorem dX11_parting_19 : decode cX11_parting 19 = .ok (.getfield 211, 3) := by decide +kernel
theorem dX11_parting_22 : decode cX11_parting 22 = .ok (.invokevirtual 380, 3) := by decide +kernel
theorem dX11_parting_25 : decode cX11_parting 25 = .ok (.invokevirtual 193, 3) := by decide +kernel
theorem dX11_parting_28 : decode cX11_parting 28 = .ok (.ireturn, 1) := by decide +kernel
theorem dX11_mending_0 : decode cX11_mending 0 = .ok (.aload_n 0, 1) := by decide +kernel
theorem dX11_mending_1 : decode cX11_mending 1 = .ok (.iload_n 1, 1) := by decide +kernel
theorem dX11_mending_2 : decode cX11_mending 2 = .ok (.invokevirtual 320, 3) := by decide +kernel
theorem dX11_mending_5 : decode cX11_mending 5 = .ok (.ifCond .ne 9, 3) := by decide +kernel
theorem dX11_mending_8 : decode cX11_mending 8 = .ok (.aload_n 0, 1) := by decide +kernel
theorem dX11_mending_9 : decode cX11_mending 9 = .ok (.iconst 1, 1) := by decide +kernel
theorem dX11_mending_10 : decode cX11_mending 10 = .ok (.invokevirtual 130, 3) := by decide +kernel
theorem dX11_mending_13 : decode cX11_mending 13 = .ok (.ireturn, 1) := by decide +kernel
theorem dX11_mending_14 : decode cX11_mending 14 = .ok (.aload_n 0, 1) := by decide +kernel
theorem dX11_mending_15 : decode cX11_mending 15 = .ok (.invokevirtual 323, 3) := by decide +kernel
theorem dX11_mending_18 : decode cX11_mending 18 = .ok (.aload_n 0, 1) := by decide +kernel
theorem dX11_mending_19 : decode cX11_mending 19 = .ok (.iload_n 1, 1) := by decide +kernel
theorem dX11_mending_20 : decode cX11_mending 20 = .ok (.invokevirtual 377, 3) := by decide +kernel
theorem dX11_mending_23 : decode cX11_mending 23 = .ok (.istore_n 2, 1) := by decide +kernel
theorem dX11_mending_24 : decode cX11_mending 24 = .ok (.iconst (-1), 1) := by decide +kernel
theorem dX11_mending_25 : decode cX11_mending 25 = .ok (.istore_n 3, 1) := by decide +kernel
theorem dX11_mending_26 : decode cX11_mending 26 = .ok (.iconst 0, 1) := by decide +kernel
theorem dX11_mending_27 : decode cX11_mending 27 = .ok (.istore 4, 2) := by decide +kernel
theorem dX11_mending_29 : decode cX11_mending 29 = .ok (.iload 4, 2) := by decide +kernel
theorem dX11_mending_31 : decode cX11_mending 31 = .ok (.aload_n 0, 1) := by decide +kernel
theorem dX11_mending_32 : decode cX11_mending 32 = .ok (.getfield 50, 3) := by decide +kernel
theorem dX11_mending_35 : decode cX11_mending 35 = .ok (.getfield 174, 3) := by decide +kernel
theorem dX11_mending_38 : decode cX11_mending 38 = .ok (.getfield 205, 3) := by decide +kernel
theorem dX11_mending_41 : decode cX11_mending 41 = .ok (.if_icmp .ge 73, 3) := by decide +kernel
theorem dX11_mending_44 : decode cX11_mending 44 = .ok (.aload_n 0, 1) := by decide +kernel
theorem dX11_mending_45 : decode cX11_mending 45 = .ok (.getfield 50, 3) := by decide +kernel
theorem dX11_mending_48 : decode cX11_mending 48 = .ok (.getfield 177, 3) := by decide +kernel
theorem dX11_mending_51 : decode cX11_mending 51 = .ok (.getfield 211, 3) := by decide +kernel
theorem dX11_mending_54 : decode cX11_mending 54 = .ok (.iload 4, 2) := by decide +kernel
theorem dX11_mending_56 : decode cX11_mending 56 = .ok (.invokestatic 298, 3) := by decide +kernel
theorem dX11_mending_59 : decode cX11_mending 59 = .ok (.ifCond .eq 6, 3) := by decide +kernel
theorem dX11_mending_62 : decode cX11_mending 62 = .ok (.goto 46, 3) := by decide +kernel
theorem dX11_mending_65 : decode cX11_mending 65 = .ok (.aload_n 0, 1) := by decide +kernel
theorem dX11_mending_66 : decode cX11_mending 66 = .ok (.invokevirtual 323, 3) := by decide +kernel
theorem dX11_mending_69 : decode cX11_mending 69 = .ok (.aload_n 0, 1) := by decide +kernel
theorem dX11_mending_70 : decode cX11_mending 70 = .ok (.getfield 82, 3) := by decide +kernel
theorem dX11_mending_73 : decode cX11_mending 73 = .ok (.aload_n 0, 1) := by decide +kernel
theorem dX11_mending_74 : decode cX11_mending 74 = .ok (.getfield 82, 3) := by decide +kernel
theorem dX11_mending_77 : decode cX11_mending 77 = .ok (.getfield 211, 3) := by decide +kernel
theorem dX11_mending_80 : decode cX11_mending 80 = .ok (.iload 4, 2) := by decide +kernel
theorem dX11_mending_82 : decode cX11_mending 82 = .ok (.iconst 1, 1) := by decide +kernel
theorem dX11_mending_83 : decode cX11_mending 83 = .ok (.invokestatic 275, 3) := by decide +kernel
theorem dX11_mending_86 : decode cX11_mending 86 = .ok (.putfield 211, 3) := by decide +kernel
theorem dX11_mending_89 : decode cX11_mending 89 = .ok (.aload_n 0, 1) := by decide +kernel
theorem dX11_mending_90 : decode cX11_mending 90 = .ok (.iload_n 1, 1) := by decide +kernel
theorem dX11_mending_91 : decode cX11_mending 91 = .ok (.invokevirtual 377, 3) := by decide +kernel
theorem dX11_mending_94 : decode cX11_mending 94 = .ok (.istore 5, 2) := by decide +kernel
theorem dX11_mending_96 : decode cX11_mending 96 = .ok (.iload 5, 2) := by decide +kernel
theorem dX11_mending_98 : decode cX11_mending 98 = .ok (.iload_n 2, 1) := by decide +kernel
theorem dX11_mending_99 : decode cX11_mending 99 = .ok (.if_icmp .le 9, 3) := by decide +kernel
theorem dX11_mending_102 : decode cX11_mending 102 = .ok (.iload 5, 2) := by decide +kernel
theorem dX11_mending_104 : decode cX11_mending 104 = .ok (.istore_n 2, 1) := by decide +kernel
theorem dX11_mending_105 : decode cX11_mending 105 = .ok (.iload 4, 2) := by decide +kernel
theorem dX11_mending_107 : decode cX11_mending 107 = .ok (.istore_n 3, 1) := by decide +kernel
theorem dX11_mending_108 : decode cX11_mending 108 = .ok (.iinc 4 1, 3) := by decide +kernel
theorem dX11_mending_111 : decode cX11_mending 111 = .ok (.goto (-82), 3) := by decide +kernel
theorem dX11_mending_114 : decode cX11_mending 114 = .ok (.iload_n 3, 1) := by decide +kernel
theorem dX11_mending_115 : decode cX11_mending 115 = .ok (.iconst (-1), 1) := by decide +kernel
theorem dX11_mending_116 : decode cX11_mending 116 = .ok (.if_icmp .ne 12, 3) := by decide +kernel
theorem dX11_mending_119 : decode cX11_mending 119 = .ok (.aload_n 0, 1) := by decide +kernel
theorem dX11_mending_120 : decode cX11_mending 120 = .ok (.bipush 6, 2) := by decide +kernel
theorem dX11_mending_122 : decode cX11_mending 122 = .ok (.invokevirtual 130, 3) := by decide +kernel
theorem dX11_mending_125 : decode cX11_mending 125 = .ok (.goto 8, 3) := by decide +kernel
theorem dX11_mending_128 : decode cX11_mending 128 = .ok (.aload_n 0, 1) := by decide +kernel
theorem dX11_mending_129 : decode cX11_mending 129 = .ok (.iload_n 3, 1) := by decide +kernel
theorem dX11_mending_130 : decode cX11_mending 130 = .ok (.invokevirtual 193, 3) := by decide +kernel
theorem dX11_mending_133 : decode cX11_mending 133 = .ok (.ireturn, 1) := by decide +kernel
theorem dX11_leaving_0 : decode cX11_leaving 0 = .ok (.aload_n 0, 1) := by decide +kernel
theorem dX11_leaving_1 : decode cX11_leaving 1 = .ok (.iload_n 1, 1) := by decide +kernel
theorem dX11_leaving_2 : decode cX11_leaving 2 = .ok (.invokevirtual 371, 3) := by decide +kernel
theorem dX11_leaving_5 : decode cX11_leaving 5 = .ok (.ifCond .ne 9, 3) := by decide +kernel
theorem dX11_leaving_8 : decode cX11_leaving 8 = .ok (.aload_n 0, 1) := by decide +kernel
theorem dX11_leaving_9 : decode cX11_leaving 9 = .ok (.iconst 1, 1) := by decide +kernel
theorem dX11_leaving_10 : decode cX11_leaving 10 = .ok (.invokevirtual 130, 3) := by decide +kernel
theorem dX11_leaving_13 : decode cX11_leaving 13 = .ok (.ireturn, 1) := by decide +kernel
theorem dX11_leaving_14 : decode cX11_leaving 14 = .ok (.aload_n 0, 1) := by decide +kernel
theorem dX11_leaving_15 : decode cX11_leaving 15 = .ok (.invokevirtual 323, 3) := by decide +kernel
theorem dX11_leaving_18 : decode cX11_leaving 18 = .ok (.aload_n 0, 1) := by decide +kernel
theorem dX11_leaving_19 : decode cX11_leaving 19 = .ok (.aload_n 0, 1) := by decide +kernel
theorem dX11_leaving_20 : decode cX11_leaving 20 = .ok (.iload_n 1, 1) := by decide +kernel
theorem dX11_leaving_21 : decode cX11_leaving 21 = .ok (.invokevirtual 383, 3) := by decide +kernel
theorem dX11_leaving_24 : decode cX11_leaving 24 = .ok (.invokevirtual 193, 3) := by decide +kernel
theorem dX11_leaving_27 : decode cX11_leaving 27 = .ok (.ireturn, 1) := by decide +kernel
theorem dX11_knowing_0 : decode cX11_knowing 0 = .ok (.aload_n 0, 1) := by decide +kernel
theorem dX11_knowing_1 : decode cX11_knowing 1 = .ok (.iload_n 1, 1) := by decide +kernel
theorem dX11_knowing_2 : decode cX11_knowing 2 = .ok (.invokevirtual 371, 3) := by decide +kernel
theorem dX11_knowing_5 : decode cX11_knowing 5 = .ok (.ifCond .ne 9, 3) := by decide +kernel
theorem dX11_knowing_8 : decode cX11_knowing 8 = .ok (.aload_n 0, 1) := by decide +kernel
theorem dX11_knowing_9 : decode cX11_knowing 9 = .ok (.iconst 1, 1) := by decide +kernel
theorem dX11_knowing_10 : decode cX11_knowing 10 = .ok (.invokevirtual 130, 3) := by decide +kernel
theorem dX11_knowing_13 : decode cX11_knowing 13 = .ok (.ireturn, 1) := by decide +kernel
theorem dX11_knowing_14 : decode cX11_knowing 14 = .ok (.aload_n 0, 1) := by decide +kernel
theorem dX11_knowing_15 : decode cX11_knowing 15 = .ok (.invokevirtual 323, 3) := by decide +kernel
theorem dX11_knowing_18 : decode cX11_knowing 18 = .ok (.aload_n 0, 1) := by decide +kernel
theorem dX11_knowing_19 : decode cX11_knowing 19 = .ok (.iload_n 1, 1) := by decide +kernel
theorem dX11_knowing_20 : decode cX11_knowing 20 = .ok (.invokevirtual 383, 3) := by decide +kernel
theorem dX11_knowing_23 : decode cX11_knowing 23 = .ok (.invokestatic 386, 3) := by decide +kernel
theorem dX11_knowing_26 : decode cX11_knowing 26 = .ok (.istore_n 2, 1) := by decide +kernel
theorem dX11_knowing_27 : decode cX11_knowing 27 = .ok (.iconst (-1), 1) := by decide +kernel
theorem dX11_knowing_28 : decode cX11_knowing 28 = .ok (.istore_n 3, 1) := by decide +kernel
theorem dX11_knowing_29 : decode cX11_knowing 29 = .ok (.iconst 0, 1) := by decide +kernel
theorem dX11_knowing_30 : decode cX11_knowing 30 = .ok (.istore 4, 2) := by decide +kernel
theorem dX11_knowing_32 : decode cX11_knowing 32 = .ok (.iload 4, 2) := by decide +kernel
theorem dX11_knowing_34 : decode cX11_knowing 34 = .ok (.aload_n 0, 1) := by decide +kernel
theorem dX11_knowing_35 : decode cX11_knowing 35 = .ok (.getfield 50, 3) := by decide +kernel
theorem dX11_knowing_38 : decode cX11_knowing 38 = .ok (.getfield 174, 3) := by decide +kernel
theorem dX11_knowing_41 : decode cX11_knowing 41 = .ok (.getfield 205, 3) := by decide +kernel
theorem dX11_knowing_44 : decode cX11_knowing 44 = .ok (.if_icmp .ge 75, 3) := by decide +kernel
theorem dX11_knowing_47 : decode cX11_knowing 47 = .ok (.aload_n 0, 1) := by decide +kernel
theorem dX11_knowing_48 : decode cX11_knowing 48 = .ok (.getfield 50, 3) := by decide +kernel
theorem dX11_knowing_51 : decode cX11_knowing 51 = .ok (.getfield 177, 3) := by decide +kernel
theorem dX11_knowing_54 : decode cX11_knowing 54 = .ok (.getfield 211, 3) := by decide +kernel
theorem dX11_knowing_57 : decode cX11_knowing 57 = .ok (.iload 4, 2) := by decide +kernel
theorem dX11_knowing_59 : decode cX11_knowing 59 = .ok (.invokestatic 298, 3) := by decide +kernel
theorem dX11_knowing_62 : decode cX11_knowing 62 = .ok (.ifCond .eq 6, 3) := by decide +kernel
theorem dX11_knowing_65 : decode cX11_knowing 65 = .ok (.goto 48, 3) := by decide +kernel
theorem dX11_knowing_68 : decode cX11_knowing 68 = .ok (.aload_n 0, 1) := by decide +kernel
theorem dX11_knowing_69 : decode cX11_knowing 69 = .ok (.getfield 82, 3) := by decide +kernel
theorem dX11_knowing_72 : decode cX11_knowing 72 = .ok (.aload_n 0, 1) := by decide +kernel
theorem dX11_knowing_73 : decode cX11_knowing 73 = .ok (.getfield 50, 3) := by decide +kernel
theorem dX11_knowing_76 : decode cX11_knowing 76 = .ok (.getfield 177, 3) := by decide +kernel
theorem dX11_knowing_79 : decode cX11_knowing 79 = .ok (.getfield 211, 3) := by decide +kernel
theorem dX11_knowing_82 : decode cX11_knowing 82 = .ok (.iload 4, 2) := by decide +kernel
theorem dX11_knowing_84 : decode cX11_knowing 84 = .ok (.iconst 1, 1) := by decide +kernel
theorem dX11_knowing_85 : decode cX11_knowing 85 = .ok (.invokestatic 275, 3) := by decide +kernel
theorem dX11_knowing_88 : decode cX11_knowing 88 = .ok (.putfield 211, 3) := by decide +kernel
theorem dX11_knowing_91 : decode cX11_knowing 91 = .ok (.aload_n 0, 1) := by decide +kernel
theorem dX11_knowing_92 : decode cX11_knowing 92 = .ok (.iload_n 1, 1) := by decide +kernel
theorem dX11_knowing_93 : decode cX11_knowing 93 = .ok (.invokevirtual 383, 3) := by decide +kernel
theorem dX11_knowing_96 : decode cX11_knowing 96 = .ok (.invokestatic 386, 3) := by decide +kernel
theorem dX11_knowing_99 : decode cX11_knowing 99 = .ok (.istore 5, 2) := by decide +kernel
theorem dX11_knowing_101 : decode cX11_knowing 101 = .ok (.iload 5, 2) := by decide +kernel
theorem dX11_knowing_103 : decode cX11_knowing 103 = .ok (.iload_n 2, 1) := by decide +kernel
theorem dX11_knowing_104 : decode cX11_knowing 104 = .ok (.if_icmp .ge 9, 3) := by decide +kernel
theorem dX11_knowing_107 : decode cX11_knowing 107 = .ok (.iload 5, 2) := by decide +kernel
theorem dX11_knowing_109 : decode cX11_knowing 109 = .ok (.istore_n 2, 1) := by decide +kernel
theorem dX11_knowing_110 : decode cX11_knowing 110 = .ok (.iload 4, 2) := by decide +kernel
theorem dX11_knowing_112 : decode cX11_knowing 112 = .ok (.istore_n 3, 1) := by decide +kernel
theorem dX11_knowing_113 : decode cX11_knowing 113 = .ok (.iinc 4 1, 3) := by decide +kernel
theorem dX11_knowing_116 : decode cX11_knowing 116 = .ok (.goto (-84), 3) := by decide +kernel
theorem dX11_knowing_119 : decode cX11_knowing 119 = .ok (.iload_n 3, 1) := by decide +kernel
theorem dX11_knowing_120 : decode cX11_knowing 120 = .ok (.iconst (-1), 1) := by decide +kernel
theorem dX11_knowing_121 : decode cX11_knowing 121 = .ok (.if_icmp .ne 12, 3) := by decide +kernel
theorem dX11_knowing_124 : decode cX11_knowing 124 = .ok (.aload_n 0, 1) := by decide +kernel
theorem dX11_knowing_125 : decode cX11_knowing 125 = .ok (.bipush 6, 2) := by decide +kernel
theorem dX11_knowing_127 : decode cX11_knowing 127 = .ok (.invokevirtual 130, 3) := by decide +kernel
theorem dX11_knowing_130 : decode cX11_knowing 130 = .ok (.goto 8, 3) := by decide +kernel
theorem dX11_knowing_133 : decode cX11_knowing 133 = .ok (.aload_n 0, 1) := by decide +kernel
theorem dX11_knowing_134 : decode cX11_knowing 134 = .ok (.iload_n 3, 1) := by decide +kernel
theorem dX11_knowing_135 : decode cX11_knowing 135 = .ok (.invokevirtual 193, 3) := by decide +kernel
theorem dX11_knowing_138 : decode cX11_knowing 138 = .ok (.ireturn, 1) := by decide +kernel
theorem dX11_whole_0 : decode cX11_whole 0 = .ok (.aload_n 0, 1) := by decide +kernel
theorem dX11_whole_1 : decode cX11_whole 1 = .ok (.iload_n 1, 1) := by decide +kernel
theorem dX11_whole_2 : decode cX11_whole 2 = .ok (.iload_n 2, 1) := by decide +kernel
theorem dX11_whole_3 : decode cX11_whole 3 = .ok (.invokevirtual 391, 3) := by decide +kernel
theorem dX11_whole_6 : decode cX11_whole 6 = .ok (.istore_n 3, 1) := by decide +kernel
theorem dX11_whole_7 : decode cX11_whole 7 = .ok (.iload_n 3, 1) := by decide +kernel
theorem dX11_whole_8 : decode cX11_whole 8 = .ok (.ifCond .eq 9, 3) := by decide +kernel
theorem dX11_whole_11 : decode cX11_whole 11 = .ok (.aload_n 0, 1) := by decide +kernel
theorem dX11_whole_12 : decode cX11_whole 12 = .ok (.iload_n 3, 1) := by decide +kernel
theorem dX11_whole_13 : decode cX11_whole 13 = .ok (.invokevirtual 130, 3) := by decide +kernel
theorem dX11_whole_16 : decode cX11_whole 16 = .ok (.ireturn, 1) := by decide +kernel
theorem dX11_whole_17 : decode cX11_whole 17 = .ok (.aload_n 0, 1) := by decide +kernel
theorem dX11_whole_18 : decode cX11_whole 18 = .ok (.invokevirtual 323, 3) := by decide +kernel
theorem dX11_whole_21 : decode cX11_whole 21 = .ok (.aload_n 0, 1) := by decide +kernel
theorem dX11_whole_22 : decode cX11_whole 22 = .ok (.aload_n 0, 1) := by decide +kernel
theorem dX11_whole_23 : decode cX11_whole 23 = .ok (.aload_n 0, 1) := by decide +kernel
theorem dX11_whole_24 : decode cX11_whole 24 = .ok (.getfield 15, 3) := by decide +kernel
theorem dX11_whole_27 : decode cX11_whole 27 = .ok (.iload_n 1, 1) := by decide +kernel
theorem dX11_whole_28 : decode cX11_whole 28 = .ok (.aaload, 1) := by decide +kernel
theorem dX11_whole_29 : decode cX11_whole 29 = .ok (.iload_n 2, 1) := by decide +kernel
theorem dX11_whole_30 : decode cX11_whole 30 = .ok (.invokevirtual 394, 3) := by decide +kernel
theorem dX11_whole_33 : decode cX11_whole 33 = .ok (.ifCond .eq 7, 3) := by decide +kernel
theorem dX11_whole_36 : decode cX11_whole 36 = .ok (.iconst 1, 1) := by decide +kernel
theorem dX11_whole_37 : decode cX11_whole 37 = .ok (.goto 4, 3) := by decide +kernel
theorem dX11_whole_40 : decode cX11_whole 40 = .ok (.iconst 0, 1) := by decide +kernel
theorem dX11_whole_41 : decode cX11_whole 41 = .ok (.invokevirtual 193, 3) := by decide +kernel
theorem dX11_whole_44 : decode cX11_whole 44 = .ok (.ireturn, 1) := by decide +kernel
theorem dX11_broken_0 : decode cX11_broken 0 = .ok (.aload_n 0, 1) := by decide +kernel
theorem dX11_broken_1 : decode cX11_broken 1 = .ok (.iload_n 1, 1) := by decide +kernel
theorem dX11_broken_2 : decode cX11_broken 2 = .ok (.iload_n 2, 1) := by decide +kernel
theorem dX11_broken_3 : decode cX11_broken 3 = .ok (.invokevirtual 391, 3) := by decide +kernel
theorem dX11_broken_6 : decode cX11_broken 6 = .ok (.istore_n 3, 1) := by decide +kernel
theorem dX11_broken_7 : decode cX11_broken 7 = .ok (.iload_n 3, 1) := by decide +kernel
theorem dX11_broken_8 : decode cX11_broken 8 = .ok (.ifCond .eq 9, 3) := by decide +kernel
theorem dX11_broken_11 : decode cX11_broken 11 = .ok (.aload_n 0, 1) := by decide +kernel
theorem dX11_broken_12 : decode cX11_broken 12 = .ok (.iload_n 3, 1) := by decide +kernel
theorem dX11_broken_13 : decode cX11_broken 13 = .ok (.invokevirtual 130, 3) := by decide +kernel
theorem dX11_broken_16 : decode cX11_broken 16 = .ok (.ireturn, 1) := by decide +kernel
theorem dX11_broken_17 : decode cX11_broken 17 = .ok (.iconst 0, 1) := by decide +kernel
theorem dX11_broken_18 : decode cX11_broken 18 = .ok (.istore 4, 2) := by decide +kernel
theorem dX11_broken_20 : decode cX11_broken 20 = .ok (.iconst 0, 1) := by decide +kernel
theorem dX11_broken_21 : decode cX11_broken 21 = .ok (.istore 5, 2) := by decide +kernel
theorem dX11_broken_23 : decode cX11_broken 23 = .ok (.iload 5, 2) := by decide +kernel
theorem dX11_broken_25 : decode cX11_broken 25 = .ok (.aload_n 0, 1) := by decide +kernel
theorem dX11_broken_26 : decode cX11_broken 26 = .ok (.getfield 50, 3) := by decide +kernel
theorem dX11_broken_29 : decode cX11_broken 29 = .ok (.getfield 174, 3) := by decide +kernel
theorem dX11_broken_32 : decode cX11_broken 32 = .ok (.getfield 205, 3) := by decide +kernel
theorem dX11_broken_35 : decode cX11_broken 35 = .ok (.if_icmp .ge 78, 3) := by decide +kernel
theorem dX11_broken_38 : decode cX11_broken 38 = .ok (.aload_n 0, 1) := by decide +kernel
theorem dX11_broken_39 : decode cX11_broken 39 = .ok (.getfield 50, 3) := by decide +kernel
theorem dX11_broken_42 : decode cX11_broken 42 = .ok (.getfield 177, 3) := by decide +kernel
theorem dX11_broken_45 : decode cX11_broken 45 = .ok (.getfield 211, 3) := by decide +kernel
theorem dX11_broken_48 : decode cX11_broken 48 = .ok (.iload 5, 2) := by decide +kernel
theorem dX11_broken_50 : decode cX11_broken 50 = .ok (.invokestatic 298, 3) := by decide +kernel
theorem dX11_broken_53 : decode cX11_broken 53 = .ok (.ifCond .eq 6, 3) := by decide +kernel
theorem dX11_broken_56 : decode cX11_broken 56 = .ok (.goto 51, 3) := by decide +kernel
theorem dX11_broken_59 : decode cX11_broken 59 = .ok (.aload_n 0, 1) := by decide +kernel
theorem dX11_broken_60 : decode cX11_broken 60 = .ok (.invokevirtual 323, 3) := by decide +kernel
theorem dX11_broken_63 : decode cX11_broken 63 = .ok (.aload_n 0, 1) := by decide +kernel
theorem dX11_broken_64 : decode cX11_broken 64 = .ok (.getfield 82, 3) := by decide +kernel
theorem dX11_broken_67 : decode cX11_broken 67 = .ok (.aload_n 0, 1) := by decide +kernel
theorem dX11_broken_68 : decode cX11_broken 68 = .ok (.getfield 82, 3) := by decide +kernel
theorem dX11_broken_71 : decode cX11_broken 71 = .ok (.getfield 211, 3) := by decide +kernel
theorem dX11_broken_74 : decode cX11_broken 74 = .ok (.iload 5, 2) := by decide +kernel
theorem dX11_broken_76 : decode cX11_broken 76 = .ok (.iconst 1, 1) := by decide +kernel
theorem dX11_broken_77 : decode cX11_broken 77 = .ok (.invokestatic 275, 3) := by decide +kernel
theorem dX11_broken_80 : decode cX11_broken 80 = .ok (.putfield 211, 3) := by decide +kernel
theorem dX11_broken_83 : decode cX11_broken 83 = .ok (.aload_n 0, 1) := by decide +kernel
theorem dX11_broken_84 : decode cX11_broken 84 = .ok (.aload_n 0, 1) := by decide +kernel
theorem dX11_broken_85 : decode cX11_broken 85 = .ok (.getfield 15, 3) := by decide +kernel
theorem dX11_broken_88 : decode cX11_broken 88 = .ok (.iload_n 1, 1) := by decide +kernel
theorem dX11_broken_89 : decode cX11_broken 89 = .ok (.aaload, 1) := by decide +kernel
theorem dX11_broken_90 : decode cX11_broken 90 = .ok (.iload_n 2, 1) := by decide +kernel
theorem dX11_broken_91 : decode cX11_broken 91 = .ok (.invokevirtual 394, 3) := by decide +kernel
theorem dX11_broken_94 : decode cX11_broken 94 = .ok (.ifCond .eq 13, 3) := by decide +kernel
theorem dX11_broken_97 : decode cX11_broken 97 = .ok (.iload 4, 2) := by decide +kernel
theorem dX11_broken_99 : decode cX11_broken 99 = .ok (.iload 5, 2) := by decide +kernel
theorem dX11_broken_101 : decode cX11_broken 101 = .ok (.iconst 1, 1) := by decide +kernel
theorem dX11_broken_102 : decode cX11_broken 102 = .ok (.invokestatic 275, 3) := by decide +kernel
theorem dX11_broken_105 : decode cX11_broken 105 = .ok (.istore 4, 2) := by decide +kernel
theorem dX11_broken_107 : decode cX11_broken 107 = .ok (.iinc 5 1, 3) := by decide +kernel
theorem dX11_broken_110 : decode cX11_broken 110 = .ok (.goto (-87), 3) := by decide +kernel
theorem dX11_broken_113 : decode cX11_broken 113 = .ok (.aload_n 0, 1) := by decide +kernel
theorem dX11_broken_114 : decode cX11_broken 114 = .ok (.iload 4, 2) := by decide +kernel
theorem dX11_broken_116 : decode cX11_broken 116 = .ok (.invokevirtual 193, 3) := by decide +kernel
theorem dX11_broken_119 : decode cX11_broken 119 = .ok (.ireturn, 1) := by decide +kernel
theorem dX11_run_0 : decode cX11_run 0 = .ok (.iload_n 1, 1) := by decide +kernel
theorem dX11_run_1 : decode cX11_run 1 = .ok (.ifCond .lt 10, 3) := by decide +kernel
theorem dX11_run_4 : decode cX11_run 4 = .ok (.iload_n 1, 1) := by decide +kernel
theorem dX11_run_5 : decode cX11_run 5 = .ok (.sipush 9999, 3) := by decide +kernel
theorem dX11_run_8 : decode cX11_run 8 = .ok (.if_icmp .le 9, 3) := by decide +kernel
theorem dX11_run_11 : decode cX11_run 11 = .ok (.aload_n 0, 1) := by decide +kernel
theorem dX11_run_12 : decode cX11_run 12 = .ok (.iconst 1, 1) := by decide +kernel
theorem dX11_run_13 : decode cX11_run 13 = .ok (.invokevirtual 130, 3) := by decide +kernel
theorem dX11_run_16 : decode cX11_run 16 = .ok (.ireturn, 1) := by decide +kernel
theorem dX11_run_17 : decode cX11_run 17 = .ok (.aload_n 0, 1) := by decide +kernel
theorem dX11_run_18 : decode cX11_run 18 = .ok (.getfield 50, 3) := by decide +kernel
theorem dX11_run_21 : decode cX11_run 21 = .ok (.getfield 184, 3) := by decide +kernel
theorem dX11_run_24 : decode cX11_run 24 = .ok (.getfield 398, 3) := by decide +kernel
theorem dX11_run_27 : decode cX11_run 27 = .ok (.ifCond .ne 10, 3) := by decide +kernel
theorem dX11_run_30 : decode cX11_run 30 = .ok (.aload_n 0, 1) := by decide +kernel
theorem dX11_run_31 : decode cX11_run 31 = .ok (.bipush 6, 2) := by decide +kernel
theorem dX11_run_33 : decode cX11_run 33 = .ok (.invokevirtual 130, 3) := by decide +kernel
theorem dX11_run_36 : decode cX11_run 36 = .ok (.ireturn, 1) := by decide +kernel
theorem dX11_run_37 : decode cX11_run 37 = .ok (.aload_n 0, 1) := by decide +kernel
theorem dX11_run_38 : decode cX11_run 38 = .ok (.getfield 96, 3) := by decide +kernel
theorem dX11_run_41 : decode cX11_run 41 = .ok (.aload_n 0, 1) := by decide +kernel
theorem dX11_run_42 : decode cX11_run 42 = .ok (.getfield 50, 3) := by decide +kernel
theorem dX11_run_45 : decode cX11_run 45 = .ok (.iload_n 1, 1) := by decide +kernel
theorem dX11_run_46 : decode cX11_run 46 = .ok (.aload_n 0, 1) := by decide +kernel
theorem dX11_run_47 : decode cX11_run 47 = .ok (.getfield 75, 3) := by decide +kernel
theorem dX11_run_50 : decode cX11_run 50 = .ok (.invokevirtual 402, 3) := by decide +kernel
theorem dX11_run_53 : decode cX11_run 53 = .ok (.aload_n 0, 1) := by decide +kernel
theorem dX11_run_54 : decode cX11_run 54 = .ok (.getfield 96, 3) := by decide +kernel
theorem dX11_run_57 : decode cX11_run 57 = .ok (.aload_n 0, 1) := by decide +kernel
theorem dX11_run_58 : decode cX11_run 58 = .ok (.getfield 75, 3) := by decide +kernel
theorem dX11_run_61 : decode cX11_run 61 = .ok (.invokevirtual 406, 3) := by decide +kernel
theorem dX11_run_64 : decode cX11_run 64 = .ok (.aload_n 0, 1) := by decide +kernel
theorem dX11_run_65 : decode cX11_run 65 = .ok (.aload_n 0, 1) := by decide +kernel
theorem dX11_run_66 : decode cX11_run 66 = .ok (.getfield 96, 3) := by decide +kernel
theorem dX11_run_69 : decode cX11_run 69 = .ok (.getfield 410, 3) := by decide +kernel
theorem dX11_run_72 : decode cX11_run 72 = .ok (.invokevirtual 193, 3) := by decide +kernel
theorem dX11_run_75 : decode cX11_run 75 = .ok (.ireturn, 1) := by decide +kernel
theorem dX11_ran_0 : decode cX11_ran 0 = .ok (.iload_n 1, 1) := by decide +kernel
theorem dX11_ran_1 : decode cX11_ran 1 = .ok (.ifCond .lt 8, 3) := by decide +kernel
theorem dX11_ran_4 : decode cX11_ran 4 = .ok (.iload_n 1, 1) := by decide +kernel
theorem dX11_ran_5 : decode cX11_ran 5 = .ok (.iconst 4, 1) := by decide +kernel
theorem dX11_ran_6 : decode cX11_ran 6 = .ok (.if_icmp .le 9, 3) := by decide +kernel
theorem dX11_ran_9 : decode cX11_ran 9 = .ok (.aload_n 0, 1) := by decide +kernel
theorem dX11_ran_10 : decode cX11_ran 10 = .ok (.iconst 1, 1) := by decide +kernel
theorem dX11_ran_11 : decode cX11_ran 11 = .ok (.invokevirtual 130, 3) := by decide +kernel
theorem dX11_ran_14 : decode cX11_ran 14 = .ok (.ireturn, 1) := by decide +kernel
theorem dX11_ran_15 : decode cX11_ran 15 = .ok (.aload_n 0, 1) := by decide +kernel
theorem dX11_ran_16 : decode cX11_ran 16 = .ok (.getfield 96, 3) := by decide +kernel
theorem dX11_ran_19 : decode cX11_ran 19 = .ok (.getfield 413, 3) := by decide +kernel
theorem dX11_ran_22 : decode cX11_ran 22 = .ok (.ifCond .eq 19, 3) := by decide +kernel
theorem dX11_ran_25 : decode cX11_ran 25 = .ok (.aload_n 0, 1) := by decide +kernel
theorem dX11_ran_26 : decode cX11_ran 26 = .ok (.aload_n 0, 1) := by decide +kernel
theorem dX11_ran_27 : decode cX11_ran 27 = .ok (.getfield 96, 3) := by decide +kernel
theorem dX11_ran_30 : decode cX11_ran 30 = .ok (.getfield 416, 3) := by decide +kernel
theorem dX11_ran_33 : decode cX11_ran 33 = .ok (.iload_n 1, 1) := by decide +kernel
theorem dX11_ran_34 : decode cX11_ran 34 = .ok (.iaload, 1) := by decide +kernel
theorem dX11_ran_35 : decode cX11_ran 35 = .ok (.invokevirtual 193, 3) := by decide +kernel
theorem dX11_ran_38 : decode cX11_ran 38 = .ok (.goto 9, 3) := by decide +kernel
theorem dX11_ran_41 : decode cX11_ran 41 = .ok (.aload_n 0, 1) := by decide +kernel
theorem dX11_ran_42 : decode cX11_ran 42 = .ok (.bipush 6, 2) := by decide +kernel
theorem dX11_ran_44 : decode cX11_ran 44 = .ok (.invokevirtual 130, 3) := by decide +kernel
theorem dX11_ran_47 : decode cX11_ran 47 = .ok (.ireturn, 1) := by decide +kernel
theorem dX11_ranTo_0 : decode cX11_ranTo 0 = .ok (.iload_n 1, 1) := by decide +kernel
theorem dX11_ranTo_1 : decode cX11_ranTo 1 = .ok (.ifCond .lt 9, 3) := by decide +kernel
theorem dX11_ranTo_4 : decode cX11_ranTo 4 = .ok (.iload_n 1, 1) := by decide +kernel
theorem dX11_ranTo_5 : decode cX11_ranTo 5 = .ok (.bipush 8, 2) := by decide +kernel
theorem dX11_ranTo_7 : decode cX11_ranTo 7 = .ok (.if_icmp .lt 9, 3) := by decide +kernel
theorem dX11_ranTo_10 : decode cX11_ranTo 10 = .ok (.aload_n 0, 1) := by decide +kernel
theorem dX11_ranTo_11 : decode cX11_ranTo 11 = .ok (.iconst 1, 1) := by decide +kernel
theorem dX11_ranTo_12 : decode cX11_ranTo 12 = .ok (.invokevirtual 130, 3) := by decide +kernel
theorem dX11_ranTo_15 : decode cX11_ranTo 15 = .ok (.ireturn, 1) := by decide +kernel
theorem dX11_ranTo_16 : decode cX11_ranTo 16 = .ok (.iload_n 1, 1) := by decide +kernel
theorem dX11_ranTo_17 : decode cX11_ranTo 17 = .ok (.aload_n 0, 1) := by decide +kernel
theorem dX11_ranTo_18 : decode cX11_ranTo 18 = .ok (.getfield 96, 3) := by decide +kernel
theorem dX11_ranTo_21 : decode cX11_ranTo 21 = .ok (.getfield 419, 3) := by decide +kernel
theorem dX11_ranTo_24 : decode cX11_ranTo 24 = .ok (.if_icmp .ge 19, 3) := by decide +kernel
theorem dX11_ranTo_27 : decode cX11_ranTo 27 = .ok (.aload_n 0, 1) := by decide +kernel
theorem dX11_ranTo_28 : decode cX11_ranTo 28 = .ok (.aload_n 0, 1) := by decide +kernel
theorem dX11_ranTo_29 : decode cX11_ranTo 29 = .ok (.getfield 96, 3) := by decide +kernel
theorem dX11_ranTo_32 : decode cX11_ranTo 32 = .ok (.getfield 422, 3) := by decide +kernel
theorem dX11_ranTo_35 : decode cX11_ranTo 35 = .ok (.iload_n 1, 1) := by decide +kernel
theorem dX11_ranTo_36 : decode cX11_ranTo 36 = .ok (.iaload, 1) := by decide +kernel
theorem dX11_ranTo_37 : decode cX11_ranTo 37 = .ok (.invokevirtual 193, 3) := by decide +kernel
theorem dX11_ranTo_40 : decode cX11_ranTo 40 = .ok (.goto 9, 3) := by decide +kernel
theorem dX11_ranTo_43 : decode cX11_ranTo 43 = .ok (.aload_n 0, 1) := by decide +kernel
theorem dX11_ranTo_44 : decode cX11_ranTo 44 = .ok (.bipush 6, 2) := by decide +kernel
theorem dX11_ranTo_46 : decode cX11_ranTo 46 = .ok (.invokevirtual 130, 3) := by decide +kernel
theorem dX11_ranTo_49 : decode cX11_ranTo 49 = .ok (.ireturn, 1) := by decide +kernel
theorem dX11_odds_0 : decode cX11_odds 0 = .ok (.aload_n 0, 1) := by decide +kernel
theorem dX11_odds_1 : decode cX11_odds 1 = .ok (.iload_n 1, 1) := by decide +kernel
theorem dX11_odds_2 : decode cX11_odds 2 = .ok (.invokevirtual 217, 3) := by decide +kernel
theorem dX11_odds_5 : decode cX11_odds 5 = .ok (.ifCond .eq 25, 3) := by decide +kernel
theorem dX11_odds_8 : decode cX11_odds 8 = .ok (.iload_n 2, 1) := by decide +kernel
theorem dX11_odds_9 : decode cX11_odds 9 = .ok (.ifCond .lt 21, 3) := by decide +kernel
theorem dX11_odds_12 : decode cX11_odds 12 = .ok (.iload_n 2, 1) := by decide +kernel
theorem dX11_odds_13 : decode cX11_odds 13 = .ok (.sipush 9999, 3) := by decide +kernel
theorem dX11_odds_16 : decode cX11_odds 16 = .ok (.if_icmp .gt 14, 3) := by decide +kernel
theorem dX11_odds_19 : decode cX11_odds 19 = .ok (.iload_n 3, 1) := by decide +kernel
theorem dX11_odds_20 : decode cX11_odds 20 = .ok (.iconst 1, 1) := by decide +kernel
theorem dX11_odds_21 : decode cX11_odds 21 = .ok (.if_icmp .lt 9, 3) := by decide +kernel
theorem dX11_odds_24 : decode cX11_odds 24 = .ok (.iload_n 3, 1) := by decide +kernel
theorem dX11_odds_25 : decode cX11_odds 25 = .ok (.bipush 20, 2) := by decide +kernel
theorem dX11_odds_27 : decode cX11_odds 27 = .ok (.if_icmp .le 9, 3) := by decide +kernel
theorem dX11_odds_30 : decode cX11_odds 30 = .ok (.aload_n 0, 1) := by decide +kernel
theorem dX11_odds_31 : decode cX11_odds 31 = .ok (.iconst 1, 1) := by decide +kernel
theorem dX11_odds_32 : decode cX11_odds 32 = .ok (.invokevirtual 111, 3) := by decide +kernel
theorem dX11_odds_35 : decode cX11_odds 35 = .ok (.ireturn, 1) := by decide +kernel
theorem dX11_odds_36 : decode cX11_odds 36 = .ok (.iload_n 2, 1) := by decide +kernel
theorem dX11_odds_37 : decode cX11_odds 37 = .ok (.iload_n 3, 1) := by decide +kernel
theorem dX11_odds_38 : decode cX11_odds 38 = .ok (.iadd, 1) := by decide +kernel
theorem dX11_odds_39 : decode cX11_odds 39 = .ok (.iconst 1, 1) := by decide +kernel
theorem dX11_odds_40 : decode cX11_odds 40 = .ok (.isub, 1) := by decide +kernel
theorem dX11_odds_41 : decode cX11_odds 41 = .ok (.sipush 9999, 3) := by decide +kernel
theorem dX11_odds_44 : decode cX11_odds 44 = .ok (.if_icmp .le 9, 3) := by decide +kernel
theorem dX11_odds_47 : decode cX11_odds 47 = .ok (.aload_n 0, 1) := by decide +kernel
theorem dX11_odds_48 : decode cX11_odds 48 = .ok (.iconst 1, 1) := by decide +kernel
theorem dX11_odds_49 : decode cX11_odds 49 = .ok (.invokevirtual 111, 3) := by decide +kernel
theorem dX11_odds_52 : decode cX11_odds 52 = .ok (.ireturn, 1) := by decide +kernel
theorem dX11_odds_53 : decode cX11_odds 53 = .ok (.aload_n 0, 1) := by decide +kernel
theorem dX11_odds_54 : decode cX11_odds 54 = .ok (.getfield 50, 3) := by decide +kernel
theorem dX11_odds_57 : decode cX11_odds 57 = .ok (.getfield 184, 3) := by decide +kernel
theorem dX11_odds_60 : decode cX11_odds 60 = .ok (.getfield 398, 3) := by decide +kernel
theorem dX11_odds_63 : decode cX11_odds 63 = .ok (.ifCond .ne 10, 3) := by decide +kernel
theorem dX11_odds_66 : decode cX11_odds 66 = .ok (.aload_n 0, 1) := by decide +kernel
theorem dX11_odds_67 : decode cX11_odds 67 = .ok (.bipush 6, 2) := by decide +kernel
theorem dX11_odds_69 : decode cX11_odds 69 = .ok (.invokevirtual 111, 3) := by decide +kernel
theorem dX11_odds_72 : decode cX11_odds 72 = .ok (.ireturn, 1) := by decide +kernel
theorem dX11_odds_73 : decode cX11_odds 73 = .ok (.iconst 0, 1) := by decide +kernel
theorem dX11_odds_74 : decode cX11_odds 74 = .ok (.istore 4, 2) := by decide +kernel
theorem dX11_odds_76 : decode cX11_odds 76 = .ok (.iconst 0, 1) := by decide +kernel
theorem dX11_odds_77 : decode cX11_odds 77 = .ok (.istore 5, 2) := by decide +kernel
theorem dX11_odds_79 : decode cX11_odds 79 = .ok (.iload 5, 2) := by decide +kernel
theorem dX11_odds_81 : decode cX11_odds 81 = .ok (.iload_n 3, 1) := by decide +kernel
theorem dX11_odds_82 : decode cX11_odds 82 = .ok (.if_icmp .ge 42, 3) := by decide +kernel
theorem dX11_odds_85 : decode cX11_odds 85 = .ok (.aload_n 0, 1) := by decide +kernel
theorem dX11_odds_86 : decode cX11_odds 86 = .ok (.getfield 96, 3) := by decide +kernel
theorem dX11_odds_89 : decode cX11_odds 89 = .ok (.aload_n 0, 1) := by decide +kernel
theorem dX11_odds_90 : decode cX11_odds 90 = .ok (.getfield 50, 3) := by decide +kernel
theorem dX11_odds_93 : decode cX11_odds 93 = .ok (.iload_n 2, 1) := by decide +kernel
theorem dX11_odds_94 : decode cX11_odds 94 = .ok (.iload 5, 2) := by decide +kernel
theorem dX11_odds_96 : decode cX11_odds 96 = .ok (.iadd, 1) := by decide +kernel
theorem dX11_odds_97 : decode cX11_odds 97 = .ok (.aload_n 0, 1) := by decide +kernel
theorem dX11_odds_98 : decode cX11_odds 98 = .ok (.getfield 75, 3) := by decide +kernel
theorem dX11_odds_101 : decode cX11_odds 101 = .ok (.invokevirtual 402, 3) := by decide +kernel
theorem dX11_odds_104 : decode cX11_odds 104 = .ok (.aload_n 0, 1) := by decide +kernel
theorem dX11_odds_105 : decode cX11_odds 105 = .ok (.getfield 75, 3) := by decide +kernel
theorem dX11_odds_108 : decode cX11_odds 108 = .ok (.iload_n 1, 1) := by decide +kernel
theorem dX11_odds_109 : decode cX11_odds 109 = .ok (.invokevirtual 263, 3) := by decide +kernel
theorem dX11_odds_112 : decode cX11_odds 112 = .ok (.ifCond .eq 6, 3) := by decide +kernel
theorem dX11_odds_115 : decode cX11_odds 115 = .ok (.iinc 4 1, 3) := by decide +kernel
theorem dX11_odds_118 : decode cX11_odds 118 = .ok (.iinc 5 1, 3) := by decide +kernel
theorem dX11_odds_121 : decode cX11_odds 121 = .ok (.goto (-42), 3) := by decide +kernel
theorem dX11_odds_124 : decode cX11_odds 124 = .ok (.aload_n 0, 1) := by decide +kernel
theorem dX11_odds_125 : decode cX11_odds 125 = .ok (.iload 4, 2) := by decide +kernel
theorem dX11_odds_127 : decode cX11_odds 127 = .ok (.i2l, 1) := by decide +kernel
theorem dX11_odds_128 : decode cX11_odds 128 = .ok (.iload_n 3, 1) := by decide +kernel
theorem dX11_odds_129 : decode cX11_odds 129 = .ok (.i2l, 1) := by decide +kernel
theorem dX11_odds_130 : decode cX11_odds 130 = .ok (.invokevirtual 304, 3) := by decide +kernel
theorem dX11_odds_133 : decode cX11_odds 133 = .ok (.aload_n 0, 1) := by decide +kernel
theorem dX11_odds_134 : decode cX11_odds 134 = .ok (.invokevirtual 118, 3) := by decide +kernel
theorem dX11_odds_137 : decode cX11_odds 137 = .ok (.ireturn, 1) := by decide +kernel
theorem dX11_mark_0 : decode cX11_mark 0 = .ok (.aload_n 0, 1) := by decide +kernel
theorem dX11_mark_1 : decode cX11_mark 1 = .ok (.getfield 425, 3) := by decide +kernel
theorem dX11_mark_4 : decode cX11_mark 4 = .ok (.iconst 3, 1) := by decide +kernel
theorem dX11_mark_5 : decode cX11_mark 5 = .ok (.if_icmp .lt 9, 3) := by decide +kernel
theorem dX11_mark_8 : decode cX11_mark 8 = .ok (.aload_n 0, 1) := by decide +kernel
theorem dX11_mark_9 : decode cX11_mark 9 = .ok (.iconst 4, 1) := by decide +kernel
theorem dX11_mark_10 : decode cX11_mark 10 = .ok (.invokevirtual 130, 3) := by decide +kernel
theorem dX11_mark_13 : decode cX11_mark 13 = .ok (.ireturn, 1) := by decide +kernel
theorem dX11_mark_14 : decode cX11_mark 14 = .ok (.aload_n 0, 1) := by decide +kernel
theorem dX11_mark_15 : decode cX11_mark 15 = .ok (.getfield 68, 3) := by decide +kernel
theorem dX11_mark_18 : decode cX11_mark 18 = .ok (.aload_n 0, 1) := by decide +kernel
theorem dX11_mark_19 : decode cX11_mark 19 = .ok (.getfield 425, 3) := by decide +kernel
theorem dX11_mark_22 : decode cX11_mark 22 = .ok (.aaload, 1) := by decide +kernel
theorem dX11_mark_23 : decode cX11_mark 23 = .ok (.aload_n 0, 1) := by decide +kernel
theorem dX11_mark_24 : decode cX11_mark 24 = .ok (.getfield 50, 3) := by decide +kernel
theorem dX11_mark_27 : decode cX11_mark 27 = .ok (.invokevirtual 428, 3) := by decide +kernel
theorem dX11_mark_30 : decode cX11_mark 30 = .ok (.aload_n 0, 1) := by decide +kernel
theorem dX11_mark_31 : decode cX11_mark 31 = .ok (.dup, 1) := by decide +kernel
theorem dX11_mark_32 : decode cX11_mark 32 = .ok (.getfield 425, 3) := by decide +kernel
theorem dX11_mark_35 : decode cX11_mark 35 = .ok (.iconst 1, 1) := by decide +kernel
theorem dX11_mark_36 : decode cX11_mark 36 = .ok (.iadd, 1) := by decide +kernel
theorem dX11_mark_37 : decode cX11_mark 37 = .ok (.putfield 425, 3) := by decide +kernel
theorem dX11_mark_40 : decode cX11_mark 40 = .ok (.aload_n 0, 1) := by decide +kernel
theorem dX11_mark_41 : decode cX11_mark 41 = .ok (.aload_n 0, 1) := by decide +kernel
theorem dX11_mark_42 : decode cX11_mark 42 = .ok (.getfield 425, 3) := by decide +kernel
theorem dX11_mark_45 : decode cX11_mark 45 = .ok (.invokevirtual 193, 3) := by decide +kernel
theorem dX11_mark_48 : decode cX11_mark 48 = .ok (.ireturn, 1) := by decide +kernel
theorem dX11_back_0 : decode cX11_back 0 = .ok (.aload_n 0, 1) := by decide +kernel
theorem dX11_back_1 : decode cX11_back 1 = .ok (.getfield 425, 3) := by decide +kernel
theorem dX11_back_4 : decode cX11_back 4 = .ok (.ifCond .gt 10, 3) := by decide +kernel
theorem dX11_back_7 : decode cX11_back 7 = .ok (.aload_n 0, 1) := by decide +kernel
theorem dX11_back_8 : decode cX11_back 8 = .ok (.bipush 6, 2) := by decide +kernel
theorem dX11_back_10 : decode cX11_back 10 = .ok (.invokevirtual 130, 3) := by decide +kernel
theorem dX11_back_13 : decode cX11_back 13 = .ok (.ireturn, 1) := by decide +kernel
theorem dX11_back_14 : decode cX11_back 14 = .ok (.aload_n 0, 1) := by decide +kernel
theorem dX11_back_15 : decode cX11_back 15 = .ok (.dup, 1) := by decide +kernel
theorem dX11_back_16 : decode cX11_back 16 = .ok (.getfield 425, 3) := by decide +kernel
theorem dX11_back_19 : decode cX11_back 19 = .ok (.iconst 1, 1) := by decide +kernel
theorem dX11_back_20 : decode cX11_back 20 = .ok (.isub, 1) := by decide +kernel
theorem dX11_back_21 : decode cX11_back 21 = .ok (.putfield 425, 3) := by decide +kernel
theorem dX11_back_24 : decode cX11_back 24 = .ok (.aload_n 0, 1) := by decide +kernel
theorem dX11_back_25 : decode cX11_back 25 = .ok (.getfield 50, 3) := by decide +kernel
theorem dX11_back_28 : decode cX11_back 28 = .ok (.aload_n 0, 1) := by decide +kernel
theorem dX11_back_29 : decode cX11_back 29 = .ok (.getfield 68, 3) := by decide +kernel
theorem dX11_back_32 : decode cX11_back 32 = .ok (.aload_n 0, 1) := by decide +kernel
theorem dX11_back_33 : decode cX11_back 33 = .ok (.getfield 425, 3) := by decide +kernel
theorem dX11_back_36 : decode cX11_back 36 = .ok (.aaload, 1) := by decide +kernel
theorem dX11_back_37 : decode cX11_back 37 = .ok (.invokevirtual 428, 3) := by decide +kernel
theorem dX11_back_40 : decode cX11_back 40 = .ok (.aload_n 0, 1) := by decide +kernel
theorem dX11_back_41 : decode cX11_back 41 = .ok (.aload_n 0, 1) := by decide +kernel
theorem dX11_back_42 : decode cX11_back 42 = .ok (.getfield 425, 3) := by decide +kernel
theorem dX11_back_45 : decode cX11_back 45 = .ok (.invokevirtual 193, 3) := by decide +kernel
theorem dX11_back_48 : decode cX11_back 48 = .ok (.ireturn, 1) := by decide +kernel
theorem dX11_answer_0 : decode cX11_answer 0 = .ok (.aload_n 0, 1) := by decide +kernel
theorem dX11_answer_1 : decode cX11_answer 1 = .ok (.iconst 0, 1) := by decide +kernel
theorem dX11_answer_2 : decode cX11_answer 2 = .ok (.putfield 101, 3) := by decide +kernel
theorem dX11_answer_5 : decode cX11_answer 5 = .ok (.iload_n 1, 1) := by decide +kernel
theorem dX11_answer_6 : decode cX11_answer 6 = .ok (.ireturn, 1) := by decide +kernel
theorem dX11_agree_0 : decode cX11_agree 0 = .ok (.aload_n 0, 1) := by decide +kernel
theorem dX11_agree_1 : decode cX11_agree 1 = .ok (.iconst 0, 1) := by decide +kernel
theorem dX11_agree_2 : decode cX11_agree 2 = .ok (.putfield 101, 3) := by decide +kernel
theorem dX11_agree_5 : decode cX11_agree 5 = .ok (.iconst 1, 1) := by decide +kernel
theorem dX11_agree_6 : decode cX11_agree 6 = .ok (.ireturn, 1) := by decide +kernel
theorem dX11_none_0 : decode cX11_none 0 = .ok (.aload_n 0, 1) := by decide +kernel
theorem dX11_none_1 : decode cX11_none 1 = .ok (.iload_n 1, 1) := by decide +kernel
theorem dX11_none_2 : decode cX11_none 2 = .ok (.putfield 101, 3) := by decide +kernel
theorem dX11_none_5 : decode cX11_none 5 = .ok (.iconst (-1), 1) := by decide +kernel
theorem dX11_none_6 : decode cX11_none 6 = .ok (.ireturn, 1) := by decide +kernel
theorem dX11_refuse_0 : decode cX11_refuse 0 = .ok (.aload_n 0, 1) := by decide +kernel
theorem dX11_refuse_1 : decode cX11_refuse 1 = .ok (.iload_n 1, 1) := by decide +kernel
theorem dX11_refuse_2 : decode cX11_refuse 2 = .ok (.putfield 101, 3) := by decide +kernel
theorem dX11_refuse_5 : decode cX11_refuse 5 = .ok (.iconst 0, 1) := by decide +kernel
theorem dX11_refuse_6 : decode cX11_refuse 6 = .ok (.ireturn, 1) := by decide +kernel
theorem dX11_tellFraction_0 : decode cX11_tellFraction 0 = .ok (.lload_n 1, 1) := by decide +kernel
theorem dX11_tellFraction_1 : decode cX11_tellFraction 1 = .ok (.invokestatic 432, 3) := by decide +kernel
theorem dX11_tellFraction_4 : decode cX11_tellFraction 4 = .ok (.lload_n 3, 1) := by decide +kernel
theorem dX11_tellFraction_5 : decode cX11_tellFraction 5 = .ok (.invokestatic 436, 3) := by decide +kernel
theorem dX11_tellFraction_8 : decode cX11_tellFraction 8 = .ok (.lstore 5, 2) := by decide +kernel
theorem dX11_tellFraction_10 : decode cX11_tellFraction 10 = .ok (.lload 5, 2) := by decide +kernel
theorem dX11_tellFraction_12 : decode cX11_tellFraction 12 = .ok (.lconst 0, 1) := by decide +kernel
theorem dX11_tellFraction_13 : decode cX11_tellFraction 13 = .ok (.lcmp, 1) := by decide +kernel
theorem dX11_tellFraction_14 : decode cX11_tellFraction 14 = .ok (.ifCond .ne 4, 3) := by decide +kernel
theorem dX11_tellFraction_17 : decode cX11_tellFraction 17 = .ok (.return_, 1) := by decide +kernel
theorem dX11_tellFraction_18 : decode cX11_tellFraction 18 = .ok (.aload_n 0, 1) := by decide +kernel
theorem dX11_tellFraction_19 : decode cX11_tellFraction 19 = .ok (.lload_n 1, 1) := by decide +kernel
theorem dX11_tellFraction_20 : decode cX11_tellFraction 20 = .ok (.lload 5, 2) := by decide +kernel
theorem dX11_tellFraction_22 : decode cX11_tellFraction 22 = .ok (.ldiv, 1) := by decide +kernel
theorem dX11_tellFraction_23 : decode cX11_tellFraction 23 = .ok (.putfield 104, 3) := by decide +kernel
theorem dX11_tellFraction_26 : decode cX11_tellFraction 26 = .ok (.aload_n 0, 1) := by decide +kernel
theorem dX11_tellFraction_27 : decode cX11_tellFraction 27 = .ok (.lload_n 3, 1) := by decide +kernel
theorem dX11_tellFraction_28 : decode cX11_tellFraction 28 = .ok (.lload 5, 2) := by decide +kernel
theorem dX11_tellFraction_30 : decode cX11_tellFraction 30 = .ok (.ldiv, 1) := by decide +kernel
theorem dX11_tellFraction_31 : decode cX11_tellFraction 31 = .ok (.putfield 7, 3) := by decide +kernel
theorem dX11_tellFraction_34 : decode cX11_tellFraction 34 = .ok (.return_, 1) := by decide +kernel
theorem dX11_closeText_0 : decode cX11_closeText 0 = .ok (.aload_n 0, 1) := by decide +kernel
theorem dX11_closeText_1 : decode cX11_closeText 1 = .ok (.getfield 22, 3) := by decide +kernel
theorem dX11_closeText_4 : decode cX11_closeText 4 = .ok (.iconst 0, 1) := by decide +kernel
theorem dX11_closeText_5 : decode cX11_closeText 5 = .ok (.putfield 161, 3) := by decide +kernel
theorem dX11_closeText_8 : decode cX11_closeText 8 = .ok (.aload_n 0, 1) := by decide +kernel
theorem dX11_closeText_9 : decode cX11_closeText 9 = .ok (.aload_n 0, 1) := by decide +kernel
theorem dX11_closeText_10 : decode cX11_closeText 10 = .ok (.getfield 22, 3) := by decide +kernel
theorem dX11_closeText_13 : decode cX11_closeText 13 = .ok (.getfield 439, 3) := by decide +kernel
theorem dX11_closeText_16 : decode cX11_closeText 16 = .ok (.putfield 40, 3) := by decide +kernel
theorem dX11_closeText_19 : decode cX11_closeText 19 = .ok (.aload_n 0, 1) := by decide +kernel
theorem dX11_closeText_20 : decode cX11_closeText 20 = .ok (.aload_n 0, 1) := by decide +kernel
theorem dX11_closeText_21 : decode cX11_closeText 21 = .ok (.getfield 22, 3) := by decide +kernel
theorem dX11_closeText_24 : decode cX11_closeText 24 = .ok (.getfield 442, 3) := by decide +kernel
theorem dX11_closeText_27 : decode cX11_closeText 27 = .ok (.putfield 44, 3) := by decide +kernel
theorem dX11_closeText_30 : decode cX11_closeText 30 = .ok (.return_, 1) := by decide +kernel
theorem dX11_isTray_0 : decode cX11_isTray 0 = .ok (.iload_n 1, 1) := by decide +kernel
theorem dX11_isTray_1 : decode cX11_isTray 1 = .ok (.ifCond .lt 12, 3) := by decide +kernel
theorem dX11_isTray_4 : decode cX11_isTray 4 = .ok (.iload_n 1, 1) := by decide +kernel
theorem dX11_isTray_5 : decode cX11_isTray 5 = .ok (.iconst 4, 1) := by decide +kernel
theorem dX11_isTray_6 : decode cX11_isTray 6 = .ok (.if_icmp .ge 7, 3) := by decide +kernel
theorem dX11_isTray_9 : decode cX11_isTray 9 = .ok (.iconst 1, 1) := by decide +kernel
theorem dX11_isTray_10 : decode cX11_isTray 10 = .ok (.goto 4, 3) := by decide +kernel
theorem dX11_isTray_13 : decode cX11_isTray 13 = .ok (.iconst 0, 1) := by decide +kernel
theorem dX11_isTray_14 : decode cX11_isTray 14 = .ok (.ireturn, 1) := by decide +kernel
theorem dX11_isPlace_0 : decode cX11_isPlace 0 = .ok (.iload_n 1, 1) := by decide +kernel
theorem dX11_isPlace_1 : decode cX11_isPlace 1 = .ok (.ifCond .lt 21, 3) := by decide +kernel
theorem dX11_isPlace_4 : decode cX11_isPlace 4 = .ok (.iload_n 1, 1) := by decide +kernel
theorem dX11_isPlace_5 : decode cX11_isPlace 5 = .ok (.aload_n 0, 1) := by decide +kernel
theorem dX11_isPlace_6 : decode cX11_isPlace 6 = .ok (.getfield 50, 3) := by decide +kernel
theorem dX11_isPlace_9 : decode cX11_isPlace 9 = .ok (.getfield 174, 3) := by decide +kernel
theorem dX11_isPlace_12 : decode cX11_isPlace 12 = .ok (.getfield 202, 3) := by decide +kernel
theorem dX11_isPlace_15 : decode cX11_isPlace 15 = .ok (.if_icmp .ge 7, 3) := by decide +kernel
theorem dX11_isPlace_18 : decode cX11_isPlace 18 = .ok (.iconst 1, 1) := by decide +kernel
theorem dX11_isPlace_19 : decode cX11_isPlace 19 = .ok (.goto 4, 3) := by decide +kernel
theorem dX11_isPlace_22 : decode cX11_isPlace 22 = .ok (.iconst 0, 1) := by decide +kernel
theorem dX11_isPlace_23 : decode cX11_isPlace 23 = .ok (.ireturn, 1) := by decide +kernel
theorem dX11_isVane_0 : decode cX11_isVane 0 = .ok (.iload_n 1, 1) := by decide +kernel
theorem dX11_isVane_1 : decode cX11_isVane 1 = .ok (.ifCond .lt 21, 3) := by decide +kernel
theorem dX11_isVane_4 : decode cX11_isVane 4 = .ok (.iload_n 1, 1) := by decide +kernel
theorem dX11_isVane_5 : decode cX11_isVane 5 = .ok (.aload_n 0, 1) := by decide +kernel
theorem dX11_isVane_6 : decode cX11_isVane 6 = .ok (.getfield 50, 3) := by decide +kernel
theorem dX11_isVane_9 : decode cX11_isVane 9 = .ok (.getfield 174, 3) := by decide +kernel
theorem dX11_isVane_12 : decode cX11_isVane 12 = .ok (.getfield 190, 3) := by decide +kernel
theorem dX11_isVane_15 : decode cX11_isVane 15 = .ok (.if_icmp .ge 7, 3) := by decide +kernel
theorem dX11_isVane_18 : decode cX11_isVane 18 = .ok (.iconst 1, 1) := by decide +kernel
theorem dX11_isVane_19 : decode cX11_isVane 19 = .ok (.goto 4, 3) := by decide +kernel
theorem dX11_isVane_22 : decode cX11_isVane 22 = .ok (.iconst 0, 1) := by decide +kernel
theorem dX11_isVane_23 : decode cX11_isVane 23 = .ok (.ireturn, 1) := by decide +kernel
theorem dX11_isShaft_0 : decode cX11_isShaft 0 = .ok (.iload_n 1, 1) := by decide +kernel
theorem dX11_isShaft_1 : decode cX11_isShaft 1 = .ok (.ifCond .lt 21, 3) := by decide +kernel
theorem dX11_isShaft_4 : decode cX11_isShaft 4 = .ok (.iload_n 1, 1) := by decide +kernel
theorem dX11_isShaft_5 : decode cX11_isShaft 5 = .ok (.aload_n 0, 1) := by decide +kernel
theorem dX11_isShaft_6 : decode cX11_isShaft 6 = .ok (.getfield 50, 3) := by decide +kernel
theorem dX11_isShaft_9 : decode cX11_isShaft 9 = .ok (.getfield 174, 3) := by decide +kernel
theorem dX11_isShaft_12 : decode cX11_isShaft 12 = .ok (.getfield 205, 3) := by decide +kernel
theorem dX11_isShaft_15 : decode cX11_isShaft 15 = .ok (.if_icmp .ge 7, 3) := by decide +kernel
theorem dX11_isShaft_18 : decode cX11_isShaft 18 = .ok (.iconst 1, 1) := by decide +kernel
theorem dX11_isShaft_19 : decode cX11_isShaft 19 = .ok (.goto 4, 3) := by decide +kernel
theorem dX11_isShaft_22 : decode cX11_isShaft 22 = .ok (.iconst 0, 1) := by decide +kernel
theorem dX11_isShaft_23 : decode cX11_isShaft 23 = .ok (.ireturn, 1) := by decide +kernel
theorem dX11_isAhead_0 : decode cX11_isAhead 0 = .ok (.iload_n 1, 1) := by decide +kernel
theorem dX11_isAhead_1 : decode cX11_isAhead 1 = .ok (.ifCond .lt 14, 3) := by decide +kernel
theorem dX11_isAhead_4 : decode cX11_isAhead 4 = .ok (.iload_n 1, 1) := by decide +kernel
theorem dX11_isAhead_5 : decode cX11_isAhead 5 = .ok (.sipush 400, 3) := by decide +kernel
theorem dX11_isAhead_8 : decode cX11_isAhead 8 = .ok (.if_icmp .gt 7, 3) := by decide +kernel
theorem dX11_isAhead_11 : decode cX11_isAhead 11 = .ok (.iconst 1, 1) := by decide +kernel
theorem dX11_isAhead_12 : decode cX11_isAhead 12 = .ok (.goto 4, 3) := by decide +kernel
theorem dX11_isAhead_15 : decode cX11_isAhead 15 = .ok (.iconst 0, 1) := by decide +kernel
theorem dX11_isAhead_16 : decode cX11_isAhead 16 = .ok (.ireturn, 1) := by decide +kernel
theorem dX11_isSpan_0 : decode cX11_isSpan 0 = .ok (.iload_n 1, 1) := by decide +kernel
theorem dX11_isSpan_1 : decode cX11_isSpan 1 = .ok (.iconst 1, 1) := by decide +kernel
theorem dX11_isSpan_2 : decode cX11_isSpan 2 = .ok (.if_icmp .lt 14, 3) := by decide +kernel
theorem dX11_isSpan_5 : decode cX11_isSpan 5 = .ok (.iload_n 1, 1) := by decide +kernel
theorem dX11_isSpan_6 : decode cX11_isSpan 6 = .ok (.sipush 400, 3) := by decide +kernel
theorem dX11_isSpan_9 : decode cX11_isSpan 9 = .ok (.if_icmp .gt 7, 3) := by decide +kernel
theorem dX11_isSpan_12 : decode cX11_isSpan 12 = .ok (.iconst 1, 1) := by decide +kernel
theorem dX11_isSpan_13 : decode cX11_isSpan 13 = .ok (.goto 4, 3) := by decide +kernel
theorem dX11_isSpan_16 : decode cX11_isSpan 16 = .ok (.iconst 0, 1) := by decide +kernel
theorem dX11_isSpan_17 : decode cX11_isSpan 17 = .ok (.ireturn, 1) := by decide +kernel
theorem dX11_isBlowing_0 : decode cX11_isBlowing 0 = .ok (.iload_n 1, 1) := by decide +kernel
theorem dX11_isBlowing_1 : decode cX11_isBlowing 1 = .ok (.iconst 1, 1) := by decide +kernel
theorem dX11_isBlowing_2 : decode cX11_isBlowing 2 = .ok (.if_icmp .lt 13, 3) := by decide +kernel
theorem dX11_isBlowing_5 : decode cX11_isBlowing 5 = .ok (.iload_n 1, 1) := by decide +kernel
theorem dX11_isBlowing_6 : decode cX11_isBlowing 6 = .ok (.bipush 99, 2) := by decide +kernel
theorem dX11_isBlowing_8 : decode cX11_isBlowing 8 = .ok (.if_icmp .gt 7, 3) := by decide +kernel
theorem dX11_isBlowing_11 : decode cX11_isBlowing 11 = .ok (.iconst 1, 1) := by decide +kernel
theorem dX11_isBlowing_12 : decode cX11_isBlowing 12 = .ok (.goto 4, 3) := by decide +kernel
theorem dX11_isBlowing_15 : decode cX11_isBlowing 15 = .ok (.iconst 0, 1) := by decide +kernel
theorem dX11_isBlowing_16 : decode cX11_isBlowing 16 = .ok (.ireturn, 1) := by decide +kernel
theorem dX11_allVanes_0 : decode cX11_allVanes 0 = .ok (.iconst 1, 1) := by decide +kernel
theorem dX11_allVanes_1 : decode cX11_allVanes 1 = .ok (.aload_n 0, 1) := by decide +kernel
theorem dX11_allVanes_2 : decode cX11_allVanes 2 = .ok (.getfield 50, 3) := by decide +kernel
theorem dX11_allVanes_5 : decode cX11_allVanes 5 = .ok (.getfield 174, 3) := by decide +kernel
theorem dX11_allVanes_8 : decode cX11_allVanes 8 = .ok (.getfield 190, 3) := by decide +kernel
theorem dX11_allVanes_11 : decode cX11_allVanes 11 = .ok (.ishl, 1) := by decide +kernel
theorem dX11_allVanes_12 : decode cX11_allVanes 12 = .ok (.iconst 1, 1) := by decide +kernel
theorem dX11_allVanes_13 : decode cX11_allVanes 13 = .ok (.isub, 1) := by decide +kernel
theorem dX11_allVanes_14 : decode cX11_allVanes 14 = .ok (.ireturn, 1) := by decide +kernel
theorem dX11_trayPlaceStatus_0 : decode cX11_trayPlaceStatus 0 = .ok (.aload_n 0, 1) := by decide +kernel
theorem dX11_trayPlaceStatus_1 : decode cX11_trayPlaceStatus 1 = .ok (.iload_n 1, 1) := by decide +kernel
theorem dX11_trayPlaceStatus_2 : decode cX11_trayPlaceStatus 2 = .ok (.invokevirtual 107, 3) := by decide +kernel
theorem dX11_trayPlaceStatus_5 : decode cX11_trayPlaceStatus 5 = .ok (.ifCond .ne 5, 3) := by decide +kernel
theorem dX11_trayPlaceStatus_8 : decode cX11_trayPlaceStatus 8 = .ok (.iconst 1, 1) := by decide +kernel
theorem dX11_trayPlaceStatus_9 : decode cX11_trayPlaceStatus 9 = .ok (.ireturn, 1) := by decide +kernel
theorem dX11_trayPlaceStatus_10 : decode cX11_trayPlaceStatus 10 = .ok (.aload_n 0, 1) := by decide +kernel
theorem dX11_trayPlaceStatus_11 : decode cX11_trayPlaceStatus 11 = .ok (.getfield 15, 3) := by decide +kernel
theorem dX11_trayPlaceStatus_14 : decode cX11_trayPlaceStatus 14 = .ok (.iload_n 1, 1) := by decide +kernel
theorem dX11_trayPlaceStatus_15 : decode cX11_trayPlaceStatus 15 = .ok (.aaload, 1) := by decide +kernel
theorem dX11_trayPlaceStatus_16 : decode cX11_trayPlaceStatus 16 = .ok (.invokevirtual 138, 3) := by decide +kernel
theorem dX11_trayPlaceStatus_19 : decode cX11_trayPlaceStatus 19 = .ok (.ifCond .eq 5, 3) := by decide +kernel
theorem dX11_trayPlaceStatus_22 : decode cX11_trayPlaceStatus 22 = .ok (.iconst 2, 1) := by decide +kernel
theorem dX11_trayPlaceStatus_23 : decode cX11_trayPlaceStatus 23 = .ok (.ireturn, 1) := by decide +kernel
theorem dX11_trayPlaceStatus_24 : decode cX11_trayPlaceStatus 24 = .ok (.iload_n 2, 1) := by decide +kernel
theorem dX11_trayPlaceStatus_25 : decode cX11_trayPlaceStatus 25 = .ok (.ifCond .lt 16, 3) := by decide +kernel
theorem dX11_trayPlaceStatus_28 : decode cX11_trayPlaceStatus 28 = .ok (.iload_n 2, 1) := by decide +kernel
theorem dX11_trayPlaceStatus_29 : decode cX11_trayPlaceStatus 29 = .ok (.aload_n 0, 1) := by decide +kernel
theorem dX11_trayPlaceStatus_30 : decode cX11_trayPlaceStatus 30 = .ok (.getfield 15, 3) := by decide +kernel
theorem dX11_trayPlaceStatus_33 : decode cX11_trayPlaceStatus 33 = .ok (.iload_n 1, 1) := by decide +kernel
theorem dX11_trayPlaceStatus_34 : decode cX11_trayPlaceStatus 34 = .ok (.aaload, 1) := by decide +kernel
theorem dX11_trayPlaceStatus_35 : decode cX11_trayPlaceStatus 35 = .ok (.getfield 443, 3) := by decide +kernel
theorem dX11_trayPlaceStatus_38 : decode cX11_trayPlaceStatus 38 = .ok (.if_icmp .lt 7, 3) := by decide +kernel
theorem dX11_trayPlaceStatus_41 : decode cX11_trayPlaceStatus 41 = .ok (.iconst 3, 1) := by decide +kernel
theorem dX11_trayPlaceStatus_42 : decode cX11_trayPlaceStatus 42 = .ok (.goto 4, 3) := by decide +kernel
theorem dX11_trayPlaceStatus_45 : decode cX11_trayPlaceStatus 45 = .ok (.iconst 0, 1) := by decide +kernel
theorem dX11_trayPlaceStatus_46 : decode cX11_trayPlaceStatus 46 = .ok (.ireturn, 1) := by decide +kernel
theorem dX11_seenStatus_0 : decode cX11_seenStatus 0 = .ok (.aload_n 0, 1) := by decide +kernel
theorem dX11_seenStatus_1 : decode cX11_seenStatus 1 = .ok (.iload_n 1, 1) := by decide +kernel
theorem dX11_seenStatus_2 : decode cX11_seenStatus 2 = .ok (.invokevirtual 107, 3) := by decide +kernel
theorem dX11_seenStatus_5 : decode cX11_seenStatus 5 = .ok (.ifCond .eq 14, 3) := by decide +kernel
theorem dX11_seenStatus_8 : decode cX11_seenStatus 8 = .ok (.iload_n 2, 1) := by decide +kernel
theorem dX11_seenStatus_9 : decode cX11_seenStatus 9 = .ok (.iconst 1, 1) := by decide +kernel
theorem dX11_seenStatus_10 : decode cX11_seenStatus 10 = .ok (.if_icmp .lt 9, 3) := by decide +kernel
theorem dX11_seenStatus_13 : decode cX11_seenStatus 13 = .ok (.iload_n 2, 1) := by decide +kernel
theorem dX11_seenStatus_14 : decode cX11_seenStatus 14 = .ok (.bipush 15, 2) := by decide +kernel
theorem dX11_seenStatus_16 : decode cX11_seenStatus 16 = .ok (.if_icmp .le 5, 3) := by decide +kernel
theorem dX11_seenStatus_19 : decode cX11_seenStatus 19 = .ok (.iconst 1, 1) := by decide +kernel
theorem dX11_seenStatus_20 : decode cX11_seenStatus 20 = .ok (.ireturn, 1) := by decide +kernel
theorem dX11_seenStatus_21 : decode cX11_seenStatus 21 = .ok (.aload_n 0, 1) := by decide +kernel
theorem dX11_seenStatus_22 : decode cX11_seenStatus 22 = .ok (.getfield 15, 3) := by decide +kernel
theorem dX11_seenStatus_25 : decode cX11_seenStatus 25 = .ok (.iload_n 1, 1) := by decide +kernel
theorem dX11_seenStatus_26 : decode cX11_seenStatus 26 = .ok (.aaload, 1) := by decide +kernel
theorem dX11_seenStatus_27 : decode cX11_seenStatus 27 = .ok (.invokevirtual 138, 3) := by decide +kernel
theorem dX11_seenStatus_30 : decode cX11_seenStatus 30 = .ok (.ifCond .eq 5, 3) := by decide +kernel
theorem dX11_seenStatus_33 : decode cX11_seenStatus 33 = .ok (.iconst 2, 1) := by decide +kernel
theorem dX11_seenStatus_34 : decode cX11_seenStatus 34 = .ok (.ireturn, 1) := by decide +kernel
theorem dX11_seenStatus_35 : decode cX11_seenStatus 35 = .ok (.aload_n 0, 1) := by decide +kernel
theorem dX11_seenStatus_36 : decode cX11_seenStatus 36 = .ok (.getfield 15, 3) := by decide +kernel
theorem dX11_seenStatus_39 : decode cX11_seenStatus 39 = .ok (.iload_n 1, 1) := by decide +kernel
theorem dX11_seenStatus_40 : decode cX11_seenStatus 40 = .ok (.aaload, 1) := by decide +kernel
theorem dX11_seenStatus_41 : decode cX11_seenStatus 41 = .ok (.iconst 0, 1) := by decide +kernel
theorem dX11_seenStatus_42 : decode cX11_seenStatus 42 = .ok (.iload_n 2, 1) := by decide +kernel
theorem dX11_seenStatus_43 : decode cX11_seenStatus 43 = .ok (.aload_n 0, 1) := by decide +kernel
theorem dX11_seenStatus_44 : decode cX11_seenStatus 44 = .ok (.getfield 50, 3) := by decide +kernel
theorem dX11_seenStatus_47 : decode cX11_seenStatus 47 = .ok (.getfield 174, 3) := by decide +kernel
theorem dX11_seenStatus_50 : decode cX11_seenStatus 50 = .ok (.getfield 190, 3) := by decide +kernel
theorem dX11_seenStatus_53 : decode cX11_seenStatus 53 = .ok (.imul, 1) := by decide +kernel
theorem dX11_seenStatus_54 : decode cX11_seenStatus 54 = .ok (.invokevirtual 144, 3) := by decide +kernel
theorem dX11_seenStatus_57 : decode cX11_seenStatus 57 = .ok (.ifCond .ne 5, 3) := by decide +kernel
theorem dX11_seenStatus_60 : decode cX11_seenStatus 60 = .ok (.iconst 3, 1) := by decide +kernel
theorem dX11_seenStatus_61 : decode cX11_seenStatus 61 = .ok (.ireturn, 1) := by decide +kernel
theorem dX11_seenStatus_62 : decode cX11_seenStatus 62 = .ok (.aload_n 0, 1) := by decide +kernel
theorem dX11_seenStatus_63 : decode cX11_seenStatus 63 = .ok (.aload_n 0, 1) := by decide +kernel
theorem dX11_seenStatus_64 : decode cX11_seenStatus 64 = .ok (.getfield 15, 3) := by decide +kernel
theorem dX11_seenStatus_67 : decode cX11_seenStatus 67 = .ok (.iload_n 1, 1) := by decide +kernel
theorem dX11_seenStatus_68 : decode cX11_seenStatus 68 = .ok (.aaload, 1) := by decide +kernel
theorem dX11_seenStatus_69 : decode cX11_seenStatus 69 = .ok (.iload_n 2, 1) := by decide +kernel
theorem dX11_seenStatus_70 : decode cX11_seenStatus 70 = .ok (.invokevirtual 444, 3) := by decide +kernel
theorem dX11_seenStatus_73 : decode cX11_seenStatus 73 = .ok (.ifCond .eq 7, 3) := by decide +kernel
theorem dX11_seenStatus_76 : decode cX11_seenStatus 76 = .ok (.iconst 0, 1) := by decide +kernel
theorem dX11_seenStatus_77 : decode cX11_seenStatus 77 = .ok (.goto 4, 3) := by decide +kernel
theorem dX11_seenStatus_80 : decode cX11_seenStatus 80 = .ok (.iconst 5, 1) := by decide +kernel
theorem dX11_seenStatus_81 : decode cX11_seenStatus 81 = .ok (.ireturn, 1) := by decide +kernel
theorem dX11_holdsTeeth_0 : decode cX11_holdsTeeth 0 = .ok (.iconst 0, 1) := by decide +kernel
theorem dX11_holdsTeeth_1 : decode cX11_holdsTeeth 1 = .ok (.istore_n 3, 1) := by decide +kernel
theorem dX11_holdsTeeth_2 : decode cX11_holdsTeeth 2 = .ok (.iload_n 3, 1) := by decide +kernel
theorem dX11_holdsTeeth_3 : decode cX11_holdsTeeth 3 = .ok (.iload_n 2, 1) := by decide +kernel
theorem dX11_holdsTeeth_4 : decode cX11_holdsTeeth 4 = .ok (.if_icmp .ge 84, 3) := by decide +kernel
theorem dX11_holdsTeeth_7 : decode cX11_holdsTeeth 7 = .ok (.iconst 0, 1) := by decide +kernel
theorem dX11_holdsTeeth_8 : decode cX11_holdsTeeth 8 = .ok (.istore 4, 2) := by decide +kernel
theorem dX11_holdsTeeth_10 : decode cX11_holdsTeeth 10 = .ok (.iload 4, 2) := by decide +kernel
theorem dX11_holdsTeeth_12 : decode cX11_holdsTeeth 12 = .ok (.aload_n 0, 1) := by decide +kernel
theorem dX11_holdsTeeth_13 : decode cX11_holdsTeeth 13 = .ok (.getfield 50, 3) := by decide +kernel
theorem dX11_holdsTeeth_16 : decode cX11_holdsTeeth 16 = .ok (.getfield 174, 3) := by decide +kernel
theorem dX11_holdsTeeth_19 : decode cX11_holdsTeeth 19 = .ok (.getfield 190, 3) := by decide +kernel
theorem dX11_holdsTeeth_22 : decode cX11_holdsTeeth 22 = .ok (.if_icmp .ge 60, 3) := by decide +kernel
theorem dX11_holdsTeeth_25 : decode cX11_holdsTeeth 25 = .ok (.aload_n 1, 1) := by decide +kernel
theorem dX11_holdsTeeth_26 : decode cX11_holdsTeeth 26 = .ok (.getfield 134, 3) := by decide +kernel
theorem dX11_holdsTeeth_29 : decode cX11_holdsTeeth 29 = .ok (.iload_n 3, 1) := by decide +kernel
theorem dX11_holdsTeeth_30 : decode cX11_holdsTeeth 30 = .ok (.aload_n 0, 1) := by decide +kernel
theorem dX11_holdsTeeth_31 : decode cX11_holdsTeeth 31 = .ok (.getfield 50, 3) := by decide +kernel
theorem dX11_holdsTeeth_34 : decode cX11_holdsTeeth 34 = .ok (.getfield 174, 3) := by decide +kernel
theorem dX11_holdsTeeth_37 : decode cX11_holdsTeeth 37 = .ok (.getfield 190, 3) := by decide +kernel
theorem dX11_holdsTeeth_40 : decode cX11_holdsTeeth 40 = .ok (.imul, 1) := by decide +kernel
theorem dX11_holdsTeeth_41 : decode cX11_holdsTeeth 41 = .ok (.iload 4, 2) := by decide +kernel
theorem dX11_holdsTeeth_43 : decode cX11_holdsTeeth 43 = .ok (.iadd, 1) := by decide +kernel
theorem dX11_holdsTeeth_44 : decode cX11_holdsTeeth 44 = .ok (.laload, 1) := by decide +kernel
theorem dX11_holdsTeeth_45 : decode cX11_holdsTeeth 45 = .ok (.lstore 5, 2) := by decide +kernel
theorem dX11_holdsTeeth_47 : decode cX11_holdsTeeth 47 = .ok (.lload 5, 2) := by decide +kernel
theorem dX11_holdsTeeth_49 : decode cX11_holdsTeeth 49 = .ok (.lconst 0, 1) := by decide +kernel
theorem dX11_holdsTeeth_50 : decode cX11_holdsTeeth 50 = .ok (.lcmp, 1) := by decide +kernel
theorem dX11_holdsTeeth_51 : decode cX11_holdsTeeth 51 = .ok (.ifCond .lt 23, 3) := by decide +kernel
theorem dX11_holdsTeeth_54 : decode cX11_holdsTeeth 54 = .ok (.lload 5, 2) := by decide +kernel
theorem dX11_holdsTeeth_56 : decode cX11_holdsTeeth 56 = .ok (.aload_n 0, 1) := by decide +kernel
theorem dX11_holdsTeeth_57 : decode cX11_holdsTeeth 57 = .ok (.getfield 50, 3) := by decide +kernel
theorem dX11_holdsTeeth_60 : decode cX11_holdsTeeth 60 = .ok (.getfield 174, 3) := by decide +kernel
theorem dX11_holdsTeeth_63 : decode cX11_holdsTeeth 63 = .ok (.getfield 220, 3) := by decide +kernel
theorem dX11_holdsTeeth_66 : decode cX11_holdsTeeth 66 = .ok (.iload 4, 2) := by decide +kernel
theorem dX11_holdsTeeth_68 : decode cX11_holdsTeeth 68 = .ok (.iaload, 1) := by decide +kernel
theorem dX11_holdsTeeth_69 : decode cX11_holdsTeeth 69 = .ok (.i2l, 1) := by decide +kernel
theorem dX11_holdsTeeth_70 : decode cX11_holdsTeeth 70 = .ok (.lcmp, 1) := by decide +kernel
theorem dX11_holdsTeeth_71 : decode cX11_holdsTeeth 71 = .ok (.ifCond .lt 5, 3) := by decide +kernel
theorem dX11_holdsTeeth_74 : decode cX11_holdsTeeth 74 = .ok (.iconst 0, 1) := by decide +kernel
theorem dX11_holdsTeeth_75 : decode cX11_holdsTeeth 75 = .ok (.ireturn, 1) := by decide +kernel
theorem dX11_holdsTeeth_76 : decode cX11_holdsTeeth 76 = .ok (.iinc 4 1, 3) := by decide +kernel
theorem dX11_holdsTeeth_79 : decode cX11_holdsTeeth 79 = .ok (.goto (-69), 3) := by decide +kernel
theorem dX11_holdsTeeth_82 : decode cX11_holdsTeeth 82 = .ok (.iinc 3 1, 3) := by decide +kernel
theorem dX11_holdsTeeth_85 : decode cX11_holdsTeeth 85 = .ok (.goto (-83), 3) := by decide +kernel
theorem dX11_holdsTeeth_88 : decode cX11_holdsTeeth 88 = .ok (.iconst 1, 1) := by decide +kernel
theorem dX11_holdsTeeth_89 : decode cX11_holdsTeeth 89 = .ok (.ireturn, 1) := by decide +kernel
theorem dX11_workOnNow_0 : decode cX11_workOnNow 0 = .ok (.aload_n 0, 1) := by decide +kernel
theorem dX11_workOnNow_1 : decode cX11_workOnNow 1 = .ok (.getfield 75, 3) := by decide +kernel
theorem dX11_workOnNow_4 : decode cX11_workOnNow 4 = .ok (.aload_n 0, 1) := by decide +kernel
theorem dX11_workOnNow_5 : decode cX11_workOnNow 5 = .ok (.getfield 50, 3) := by decide +kernel
theorem dX11_workOnNow_8 : decode cX11_workOnNow 8 = .ok (.getfield 174, 3) := by decide +kernel
theorem dX11_workOnNow_11 : decode cX11_workOnNow 11 = .ok (.aload_n 0, 1) := by decide +kernel
theorem dX11_workOnNow_12 : decode cX11_workOnNow 12 = .ok (.getfield 50, 3) := by decide +kernel
theorem dX11_workOnNow_15 : decode cX11_workOnNow 15 = .ok (.getfield 177, 3) := by decide +kernel
theorem dX11_workOnNow_18 : decode cX11_workOnNow 18 = .ok (.invokevirtual 447, 3) := by decide +kernel
theorem dX11_workOnNow_21 : decode cX11_workOnNow 21 = .ok (.return_, 1) := by decide +kernel
theorem dX11_look_0 : decode cX11_look 0 = .ok (.aload_n 0, 1) := by decide +kernel
theorem dX11_look_1 : decode cX11_look 1 = .ok (.getfield 82, 3) := by decide +kernel
theorem dX11_look_4 : decode cX11_look 4 = .ok (.aload_n 0, 1) := by decide +kernel
theorem dX11_look_5 : decode cX11_look 5 = .ok (.getfield 50, 3) := by decide +kernel
theorem dX11_look_8 : decode cX11_look 8 = .ok (.getfield 177, 3) := by decide +kernel
theorem dX11_look_11 : decode cX11_look 11 = .ok (.invokevirtual 451, 3) := by decide +kernel
theorem dX11_look_14 : decode cX11_look 14 = .ok (.aload_n 0, 1) := by decide +kernel
theorem dX11_look_15 : decode cX11_look 15 = .ok (.getfield 75, 3) := by decide +kernel
theorem dX11_look_18 : decode cX11_look 18 = .ok (.aload_n 0, 1) := by decide +kernel
theorem dX11_look_19 : decode cX11_look 19 = .ok (.getfield 50, 3) := by decide +kernel
theorem dX11_look_22 : decode cX11_look 22 = .ok (.getfield 174, 3) := by decide +kernel
theorem dX11_look_25 : decode cX11_look 25 = .ok (.aload_n 0, 1) := by decide +kernel
theorem dX11_look_26 : decode cX11_look 26 = .ok (.getfield 82, 3) := by decide +kernel
theorem dX11_look_29 : decode cX11_look 29 = .ok (.invokevirtual 447, 3) := by decide +kernel
theorem dX11_look_32 : decode cX11_look 32 = .ok (.return_, 1) := by decide +kernel
theorem dX11_quartersToCalm_0 : decode cX11_quartersToCalm 0 = .ok (.aload_n 0, 1) := by decide +kernel
theorem dX11_quartersToCalm_1 : decode cX11_quartersToCalm 1 = .ok (.invokevirtual 323, 3) := by decide +kernel
theorem dX11_quartersToCalm_4 : decode cX11_quartersToCalm 4 = .ok (.aload_n 0, 1) := by decide +kernel
theorem dX11_quartersToCalm_5 : decode cX11_quartersToCalm 5 = .ok (.getfield 75, 3) := by decide +kernel
theorem dX11_quartersToCalm_8 : decode cX11_quartersToCalm 8 = .ok (.sipush 400, 3) := by decide +kernel
theorem dX11_quartersToCalm_11 : decode cX11_quartersToCalm 11 = .ok (.invokevirtual 279, 3) := by decide +kernel
theorem dX11_quartersToCalm_14 : decode cX11_quartersToCalm 14 = .ok (.istore_n 1, 1) := by decide +kernel
theorem dX11_quartersToCalm_15 : decode cX11_quartersToCalm 15 = .ok (.iload_n 1, 1) := by decide +kernel
theorem dX11_quartersToCalm_16 : decode cX11_quartersToCalm 16 = .ok (.sipush 400, 3) := by decide +kernel
theorem dX11_quartersToCalm_19 : decode cX11_quartersToCalm 19 = .ok (.if_icmp .ne 7, 3) := by decide +kernel
theorem dX11_quartersToCalm_22 : decode cX11_quartersToCalm 22 = .ok (.iconst (-1), 1) := by decide +kernel
theorem dX11_quartersToCalm_23 : decode cX11_quartersToCalm 23 = .ok (.goto 4, 3) := by decide +kernel
theorem dX11_quartersToCalm_26 : decode cX11_quartersToCalm 26 = .ok (.iload_n 1, 1) := by decide +kernel
theorem dX11_quartersToCalm_27 : decode cX11_quartersToCalm 27 = .ok (.ireturn, 1) := by decide +kernel
theorem dX11_rightsBehind_0 : decode cX11_rightsBehind 0 = .ok (.aload_n 0, 1) := by decide +kernel
theorem dX11_rightsBehind_1 : decode cX11_rightsBehind 1 = .ok (.getfield 75, 3) := by decide +kernel
theorem dX11_rightsBehind_4 : decode cX11_rightsBehind 4 = .ok (.iload_n 1, 1) := by decide +kernel
theorem dX11_rightsBehind_5 : decode cX11_rightsBehind 5 = .ok (.invokevirtual 279, 3) := by decide +kernel
theorem dX11_rightsBehind_8 : decode cX11_rightsBehind 8 = .ok (.pop, 1) := by decide +kernel
theorem dX11_rightsBehind_9 : decode cX11_rightsBehind 9 = .ok (.aload_n 0, 1) := by decide +kernel
theorem dX11_rightsBehind_10 : decode cX11_rightsBehind 10 = .ok (.getfield 75, 3) := by decide +kernel
theorem dX11_rightsBehind_13 : decode cX11_rightsBehind 13 = .ok (.invokevirtual 326, 3) := by decide +kernel
theorem dX11_rightsBehind_16 : decode cX11_rightsBehind 16 = .ok (.invokestatic 386, 3) := by decide +kernel
theorem dX11_rightsBehind_19 : decode cX11_rightsBehind 19 = .ok (.ireturn, 1) := by decide +kernel
theorem dX11_leavingWinds_0 : decode cX11_leavingWinds 0 = .ok (.iconst 0, 1) := by decide +kernel
theorem dX11_leavingWinds_1 : decode cX11_leavingWinds 1 = .ok (.istore_n 2, 1) := by decide +kernel
theorem dX11_leavingWinds_2 : decode cX11_leavingWinds 2 = .ok (.iconst 0, 1) := by decide +kernel
theorem dX11_leavingWinds_3 : decode cX11_leavingWinds 3 = .ok (.istore_n 3, 1) := by decide +kernel
theorem dX11_leavingWinds_4 : decode cX11_leavingWinds 4 = .ok (.iload_n 3, 1) := by decide +kernel
theorem dX11_leavingWinds_5 : decode cX11_leavingWinds 5 = .ok (.bipush 16, 2) := by decide +kernel
theorem dX11_leavingWinds_7 : decode cX11_leavingWinds 7 = .ok (.if_icmp .ge 36, 3) := by decide +kernel
theorem dX11_leavingWinds_10 : decode cX11_leavingWinds 10 = .ok (.aload_n 0, 1) := by decide +kernel
theorem dX11_leavingWinds_11 : decode cX11_leavingWinds 11 = .ok (.getfield 75, 3) := by decide +kernel
theorem dX11_leavingWinds_14 : decode cX11_leavingWinds 14 = .ok (.iload_n 3, 1) := by decide +kernel
theorem dX11_leavingWinds_15 : decode cX11_leavingWinds 15 = .ok (.iload_n 1, 1) := by decide +kernel
theorem dX11_leavingWinds_16 : decode cX11_leavingWinds 16 = .ok (.invokevirtual 374, 3) := by decide +kernel
theorem dX11_leavingWinds_19 : decode cX11_leavingWinds 19 = .ok (.aload_n 0, 1) := by decide +kernel
theorem dX11_leavingWinds_20 : decode cX11_leavingWinds 20 = .ok (.getfield 75, 3) := by decide +kernel
theorem dX11_leavingWinds_23 : decode cX11_leavingWinds 23 = .ok (.invokevirtual 354, 3) := by decide +kernel
theorem dX11_leavingWinds_26 : decode cX11_leavingWinds 26 = .ok (.iconst (-1), 1) := by decide +kernel
theorem dX11_leavingWinds_27 : decode cX11_leavingWinds 27 = .ok (.if_icmp .ne 10, 3) := by decide +kernel
theorem dX11_leavingWinds_30 : decode cX11_leavingWinds 30 = .ok (.iload_n 2, 1) := by decide +kernel
theorem dX11_leavingWinds_31 : decode cX11_leavingWinds 31 = .ok (.iload_n 3, 1) := by decide +kernel
theorem dX11_leavingWinds_32 : decode cX11_leavingWinds 32 = .ok (.iconst 1, 1) := by decide +kernel
theorem dX11_leavingWinds_33 : decode cX11_leavingWinds 33 = .ok (.invokestatic 275, 3) := by decide +kernel
theorem dX11_leavingWinds_36 : decode cX11_leavingWinds 36 = .ok (.istore_n 2, 1) := by decide +kernel
theorem dX11_leavingWinds_37 : decode cX11_leavingWinds 37 = .ok (.iinc 3 1, 3) := by decide +kernel
theorem dX11_leavingWinds_40 : decode cX11_leavingWinds 40 = .ok (.goto (-36), 3) := by decide +kernel
theorem dX11_leavingWinds_43 : decode cX11_leavingWinds 43 = .ok (.iload_n 2, 1) := by decide +kernel
theorem dX11_leavingWinds_44 : decode cX11_leavingWinds 44 = .ok (.ireturn, 1) := by decide +kernel
theorem dX11_comesAsSeen_0 : decode cX11_comesAsSeen 0 = .ok (.iconst 0, 1) := by decide +kernel
theorem dX11_comesAsSeen_1 : decode cX11_comesAsSeen 1 = .ok (.istore_n 3, 1) := by decide +kernel
theorem dX11_comesAsSeen_2 : decode cX11_comesAsSeen 2 = .ok (.iload_n 3, 1) := by decide +kernel
theorem dX11_comesAsSeen_3 : decode cX11_comesAsSeen 3 = .ok (.iload_n 2, 1) := by decide +kernel
theorem dX11_comesAsSeen_4 : decode cX11_comesAsSeen 4 = .ok (.if_icmp .ge 79, 3) := by decide +kernel
theorem dX11_comesAsSeen_7 : decode cX11_comesAsSeen 7 = .ok (.aload_n 0, 1) := by decide +kernel
theorem dX11_comesAsSeen_8 : decode cX11_comesAsSeen 8 = .ok (.getfield 75, 3) := by decide +kernel
theorem dX11_comesAsSeen_11 : decode cX11_comesAsSeen 11 = .ok (.iconst 1, 1) := by decide +kernel
theorem dX11_comesAsSeen_12 : decode cX11_comesAsSeen 12 = .ok (.invokevirtual 279, 3) := by decide +kernel
theorem dX11_comesAsSeen_15 : decode cX11_comesAsSeen 15 = .ok (.pop, 1) := by decide +kernel
theorem dX11_comesAsSeen_16 : decode cX11_comesAsSeen 16 = .ok (.iconst 0, 1) := by decide +kernel
theorem dX11_comesAsSeen_17 : decode cX11_comesAsSeen 17 = .ok (.istore 4, 2) := by decide +kernel
theorem dX11_comesAsSeen_19 : decode cX11_comesAsSeen 19 = .ok (.iload 4, 2) := by decide +kernel
theorem dX11_comesAsSeen_21 : decode cX11_comesAsSeen 21 = .ok (.aload_n 0, 1) := by decide +kernel
theorem dX11_comesAsSeen_22 : decode cX11_comesAsSeen 22 = .ok (.getfield 50, 3) := by decide +kernel
theorem dX11_comesAsSeen_25 : decode cX11_comesAsSeen 25 = .ok (.getfield 174, 3) := by decide +kernel
theorem dX11_comesAsSeen_28 : decode cX11_comesAsSeen 28 = .ok (.getfield 190, 3) := by decide +kernel
theorem dX11_comesAsSeen_31 : decode cX11_comesAsSeen 31 = .ok (.if_icmp .ge 46, 3) := by decide +kernel
theorem dX11_comesAsSeen_34 : decode cX11_comesAsSeen 34 = .ok (.aload_n 1, 1) := by decide +kernel
theorem dX11_comesAsSeen_35 : decode cX11_comesAsSeen 35 = .ok (.getfield 134, 3) := by decide +kernel
theorem dX11_comesAsSeen_38 : decode cX11_comesAsSeen 38 = .ok (.iload_n 3, 1) := by decide +kernel
theorem dX11_comesAsSeen_39 : decode cX11_comesAsSeen 39 = .ok (.aload_n 0, 1) := by decide +kernel
theorem dX11_comesAsSeen_40 : decode cX11_comesAsSeen 40 = .ok (.getfield 50, 3) := by decide +kernel
theorem dX11_comesAsSeen_43 : decode cX11_comesAsSeen 43 = .ok (.getfield 174, 3) := by decide +kernel
theorem dX11_comesAsSeen_46 : decode cX11_comesAsSeen 46 = .ok (.getfield 190, 3) := by decide +kernel
theorem dX11_comesAsSeen_49 : decode cX11_comesAsSeen 49 = .ok (.imul, 1) := by decide +kernel
theorem dX11_comesAsSeen_50 : decode cX11_comesAsSeen 50 = .ok (.iload 4, 2) := by decide +kernel
theorem dX11_comesAsSeen_52 : decode cX11_comesAsSeen 52 = .ok (.iadd, 1) := by decide +kernel
theorem dX11_comesAsSeen_53 : decode cX11_comesAsSeen 53 = .ok (.laload, 1) := by decide +kernel
theorem dX11_comesAsSeen_54 : decode cX11_comesAsSeen 54 = .ok (.aload_n 0, 1) := by decide +kernel
theorem dX11_comesAsSeen_55 : decode cX11_comesAsSeen 55 = .ok (.getfield 82, 3) := by decide +kernel
theorem dX11_comesAsSeen_58 : decode cX11_comesAsSeen 58 = .ok (.getfield 230, 3) := by decide +kernel
theorem dX11_comesAsSeen_61 : decode cX11_comesAsSeen 61 = .ok (.iload 4, 2) := by decide +kernel
theorem dX11_comesAsSeen_63 : decode cX11_comesAsSeen 63 = .ok (.iaload, 1) := by decide +kernel
theorem dX11_comesAsSeen_64 : decode cX11_comesAsSeen 64 = .ok (.i2l, 1) := by decide +kernel
theorem dX11_comesAsSeen_65 : decode cX11_comesAsSeen 65 = .ok (.lcmp, 1) := by decide +kernel
theorem dX11_comesAsSeen_66 : decode cX11_comesAsSeen 66 = .ok (.ifCond .eq 5, 3) := by decide +kernel
theorem dX11_comesAsSeen_69 : decode cX11_comesAsSeen 69 = .ok (.iconst 0, 1) := by decide +kernel
theorem dX11_comesAsSeen_70 : decode cX11_comesAsSeen 70 = .ok (.ireturn, 1) := by decide +kernel
theorem dX11_comesAsSeen_71 : decode cX11_comesAsSeen 71 = .ok (.iinc 4 1, 3) := by decide +kernel
theorem dX11_comesAsSeen_74 : decode cX11_comesAsSeen 74 = .ok (.goto (-55), 3) := by decide +kernel
theorem dX11_comesAsSeen_77 : decode cX11_comesAsSeen 77 = .ok (.iinc 3 1, 3) := by decide +kernel
theorem dX11_comesAsSeen_80 : decode cX11_comesAsSeen 80 = .ok (.goto (-78), 3) := by decide +kernel
theorem dX11_comesAsSeen_83 : decode cX11_comesAsSeen 83 = .ok (.iconst 1, 1) := by decide +kernel
theorem dX11_comesAsSeen_84 : decode cX11_comesAsSeen 84 = .ok (.ireturn, 1) := by decide +kernel
theorem dX11_has_0 : decode cX11_has 0 = .ok (.iload_n 0, 1) := by decide +kernel
theorem dX11_has_1 : decode cX11_has 1 = .ok (.iload_n 1, 1) := by decide +kernel
theorem dX11_has_2 : decode cX11_has 2 = .ok (.ishr, 1) := by decide +kernel
theorem dX11_has_3 : decode cX11_has 3 = .ok (.iconst 1, 1) := by decide +kernel
theorem dX11_has_4 : decode cX11_has 4 = .ok (.iand, 1) := by decide +kernel
theorem dX11_has_5 : decode cX11_has 5 = .ok (.ifCond .eq 7, 3) := by decide +kernel
theorem dX11_has_8 : decode cX11_has 8 = .ok (.iconst 1, 1) := by decide +kernel
theorem dX11_has_9 : decode cX11_has 9 = .ok (.goto 4, 3) := by decide +kernel
theorem dX11_has_12 : decode cX11_has 12 = .ok (.iconst 0, 1) := by decide +kernel
theorem dX11_has_13 : decode cX11_has 13 = .ok (.ireturn, 1) := by decide +kernel
theorem dX11_with_0 : decode cX11_with 0 = .ok (.iload_n 2, 1) := by decide +kernel
theorem dX11_with_1 : decode cX11_with 1 = .ok (.ifCond .eq 11, 3) := by decide +kernel
theorem dX11_with_4 : decode cX11_with 4 = .ok (.iload_n 0, 1) := by decide +kernel
theorem dX11_with_5 : decode cX11_with 5 = .ok (.iconst 1, 1) := by decide +kernel
theorem dX11_with_6 : decode cX11_with 6 = .ok (.iload_n 1, 1) := by decide +kernel
theorem dX11_with_7 : decode cX11_with 7 = .ok (.ishl, 1) := by decide +kernel
theorem dX11_with_8 : decode cX11_with 8 = .ok (.ior, 1) := by decide +kernel
theorem dX11_with_9 : decode cX11_with 9 = .ok (.goto 10, 3) := by decide +kernel
theorem dX11_with_12 : decode cX11_with 12 = .ok (.iload_n 0, 1) := by decide +kernel
theorem dX11_with_13 : decode cX11_with 13 = .ok (.iconst 1, 1) := by decide +kernel
theorem dX11_with_14 : decode cX11_with 14 = .ok (.iload_n 1, 1) := by decide +kernel
theorem dX11_with_15 : decode cX11_with 15 = .ok (.ishl, 1) := by decide +kernel
theorem dX11_with_16 : decode cX11_with 16 = .ok (.iconst (-1), 1) := by decide +kernel
theorem dX11_with_17 : decode cX11_with 17 = .ok (.ixor, 1) := by decide +kernel
theorem dX11_with_18 : decode cX11_with 18 = .ok (.iand, 1) := by decide +kernel
theorem dX11_with_19 : decode cX11_with 19 = .ok (.ireturn, 1) := by decide +kernel
theorem dX11_greatestDivisor_0 : decode cX11_greatestDivisor 0 = .ok (.lload_n 0, 1) := by decide +kernel
theorem dX11_greatestDivisor_1 : decode cX11_greatestDivisor 1 = .ok (.lstore 4, 2) := by decide +kernel
theorem dX11_greatestDivisor_3 : decode cX11_greatestDivisor 3 = .ok (.lload_n 2, 1) := by decide +kernel
theorem dX11_greatestDivisor_4 : decode cX11_greatestDivisor 4 = .ok (.lstore 6, 2) := by decide +kernel
theorem dX11_greatestDivisor_6 : decode cX11_greatestDivisor 6 = .ok (.iconst 0, 1) := by decide +kernel
theorem dX11_greatestDivisor_7 : decode cX11_greatestDivisor 7 = .ok (.istore 8, 2) := by decide +kernel
theorem dX11_greatestDivisor_9 : decode cX11_greatestDivisor 9 = .ok (.iload 8, 2) := by decide +kernel
theorem dX11_greatestDivisor_11 : decode cX11_greatestDivisor 11 = .ok (.sipush 200, 3) := by decide +kernel
theorem dX11_greatestDivisor_14 : decode cX11_greatestDivisor 14 = .ok (.if_icmp .ge 31, 3) := by decide +kernel
theorem dX11_greatestDivisor_17 : decode cX11_greatestDivisor 17 = .ok (.lload 6, 2) := by decide +kernel
theorem dX11_greatestDivisor_19 : decode cX11_greatestDivisor 19 = .ok (.lconst 0, 1) := by decide +kernel
theorem dX11_greatestDivisor_20 : decode cX11_greatestDivisor 20 = .ok (.lcmp, 1) := by decide +kernel
theorem dX11_greatestDivisor_21 : decode cX11_greatestDivisor 21 = .ok (.ifCond .eq 24, 3) := by decide +kernel
theorem dX11_greatestDivisor_24 : decode cX11_greatestDivisor 24 = .ok (.lload 4, 2) := by decide +kernel
theorem dX11_greatestDivisor_26 : decode cX11_greatestDivisor 26 = .ok (.lload 6, 2) := by decide +kernel
theorem dX11_greatestDivisor_28 : decode cX11_greatestDivisor 28 = .ok (.lrem, 1) := by decide +kernel
theorem dX11_greatestDivisor_29 : decode cX11_greatestDivisor 29 = .ok (.lstore 9, 2) := by decide +kernel
theorem dX11_greatestDivisor_31 : decode cX11_greatestDivisor 31 = .ok (.lload 6, 2) := by decide +kernel
theorem dX11_greatestDivisor_33 : decode cX11_greatestDivisor 33 = .ok (.lstore 4, 2) := by decide +kernel
theorem dX11_greatestDivisor_35 : decode cX11_greatestDivisor 35 = .ok (.lload 9, 2) := by decide +kernel
theorem dX11_greatestDivisor_37 : decode cX11_greatestDivisor 37 = .ok (.lstore 6, 2) := by decide +kernel
theorem dX11_greatestDivisor_39 : decode cX11_greatestDivisor 39 = .ok (.iinc 8 1, 3) := by decide +kernel
theorem dX11_greatestDivisor_42 : decode cX11_greatestDivisor 42 = .ok (.goto (-33), 3) := by decide +kernel
theorem dX11_greatestDivisor_45 : decode cX11_greatestDivisor 45 = .ok (.lload 4, 2) := by decide +kernel
theorem dX11_greatestDivisor_47 : decode cX11_greatestDivisor 47 = .ok (.lreturn, 1) := by decide +kernel
theorem dX11_leastMultiple_0 : decode cX11_leastMultiple 0 = .ok (.lload_n 0, 1) := by decide +kernel
theorem dX11_leastMultiple_1 : decode cX11_leastMultiple 1 = .ok (.lload_n 2, 1) := by decide +kernel
theorem dX11_leastMultiple_2 : decode cX11_leastMultiple 2 = .ok (.invokestatic 436, 3) := by decide +kernel
theorem dX11_leastMultiple_5 : decode cX11_leastMultiple 5 = .ok (.lstore 4, 2) := by decide +kernel
theorem dX11_leastMultiple_7 : decode cX11_leastMultiple 7 = .ok (.lload 4, 2) := by decide +kernel
theorem dX11_leastMultiple_9 : decode cX11_leastMultiple 9 = .ok (.lconst 0, 1) := by decide +kernel
theorem dX11_leastMultiple_10 : decode cX11_leastMultiple 10 = .ok (.lcmp, 1) := by decide +kernel
theorem dX11_leastMultiple_11 : decode cX11_leastMultiple 11 = .ok (.ifCond .ne 7, 3) := by decide +kernel
theorem dX11_leastMultiple_14 : decode cX11_leastMultiple 14 = .ok (.lconst 0, 1) := by decide +kernel
theorem dX11_leastMultiple_15 : decode cX11_leastMultiple 15 = .ok (.goto 9, 3) := by decide +kernel
theorem dX11_leastMultiple_18 : decode cX11_leastMultiple 18 = .ok (.lload_n 0, 1) := by decide +kernel
theorem dX11_leastMultiple_19 : decode cX11_leastMultiple 19 = .ok (.lload 4, 2) := by decide +kernel
theorem dX11_leastMultiple_21 : decode cX11_leastMultiple 21 = .ok (.ldiv, 1) := by decide +kernel
theorem dX11_leastMultiple_22 : decode cX11_leastMultiple 22 = .ok (.lload_n 2, 1) := by decide +kernel
theorem dX11_leastMultiple_23 : decode cX11_leastMultiple 23 = .ok (.lmul, 1) := by decide +kernel
theorem dX11_leastMultiple_24 : decode cX11_leastMultiple 24 = .ok (.lreturn, 1) := by decide +kernel
