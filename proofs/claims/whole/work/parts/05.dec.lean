theorem dX6_init_0 : decode cX6_init 0 = .ok (.aload_n 0, 1) := by decide +kernel
theorem dX6_init_1 : decode cX6_init 1 = .ok (.invokespecial 1, 3) := by decide +kernel
theorem dX6_init_4 : decode cX6_init 4 = .ok (.aload_n 0, 1) := by decide +kernel
theorem dX6_init_5 : decode cX6_init 5 = .ok (.bipush 103, 2) := by decide +kernel
theorem dX6_init_7 : decode cX6_init 7 = .ok (.newarray .int, 2) := by decide +kernel
theorem dX6_init_9 : decode cX6_init 9 = .ok (.putfield 7, 3) := by decide +kernel
theorem dX6_init_12 : decode cX6_init 12 = .ok (.aload_n 0, 1) := by decide +kernel
theorem dX6_init_13 : decode cX6_init 13 = .ok (.sipush 412, 3) := by decide +kernel
theorem dX6_init_16 : decode cX6_init 16 = .ok (.newarray .int, 2) := by decide +kernel
theorem dX6_init_18 : decode cX6_init 18 = .ok (.putfield 13, 3) := by decide +kernel
theorem dX6_init_21 : decode cX6_init 21 = .ok (.aload_n 0, 1) := by decide +kernel
theorem dX6_init_22 : decode cX6_init 22 = .ok (.bipush 103, 2) := by decide +kernel
theorem dX6_init_24 : decode cX6_init 24 = .ok (.newarray .int, 2) := by decide +kernel
theorem dX6_init_26 : decode cX6_init 26 = .ok (.putfield 16, 3) := by decide +kernel
theorem dX6_init_29 : decode cX6_init 29 = .ok (.aload_n 0, 1) := by decide +kernel
theorem dX6_init_30 : decode cX6_init 30 = .ok (.bipush 60, 2) := by decide +kernel
theorem dX6_init_32 : decode cX6_init 32 = .ok (.newarray .int, 2) := by decide +kernel
theorem dX6_init_34 : decode cX6_init 34 = .ok (.putfield 19, 3) := by decide +kernel
theorem dX6_init_37 : decode cX6_init 37 = .ok (.aload_n 0, 1) := by decide +kernel
theorem dX6_init_38 : decode cX6_init 38 = .ok (.bipush 10, 2) := by decide +kernel
theorem dX6_init_40 : decode cX6_init 40 = .ok (.newarray .int, 2) := by decide +kernel
theorem dX6_init_42 : decode cX6_init 42 = .ok (.putfield 22, 3) := by decide +kernel
theorem dX6_init_45 : decode cX6_init 45 = .ok (.aload_n 0, 1) := by decide +kernel
theorem dX6_init_46 : decode cX6_init 46 = .ok (.bipush 10, 2) := by decide +kernel
theorem dX6_init_48 : decode cX6_init 48 = .ok (.newarray .int, 2) := by decide +kernel
theorem dX6_init_50 : decode cX6_init 50 = .ok (.putfield 25, 3) := by decide +kernel
theorem dX6_init_53 : decode cX6_init 53 = .ok (.aload_n 0, 1) := by decide +kernel
theorem dX6_init_54 : decode cX6_init 54 = .ok (.bipush 10, 2) := by decide +kernel
theorem dX6_init_56 : decode cX6_init 56 = .ok (.newarray .int, 2) := by decide +kernel
theorem dX6_init_58 : decode cX6_init 58 = .ok (.putfield 28, 3) := by decide +kernel
theorem dX6_init_61 : decode cX6_init 61 = .ok (.aload_n 0, 1) := by decide +kernel
theorem dX6_init_62 : decode cX6_init 62 = .ok (.bipush 96, 2) := by decide +kernel
theorem dX6_init_64 : decode cX6_init 64 = .ok (.newarray .int, 2) := by decide +kernel
theorem dX6_init_66 : decode cX6_init 66 = .ok (.putfield 31, 3) := by decide +kernel
theorem dX6_init_69 : decode cX6_init 69 = .ok (.aload_n 0, 1) := by decide +kernel
theorem dX6_init_70 : decode cX6_init 70 = .ok (.iconst 0, 1) := by decide +kernel
theorem dX6_init_71 : decode cX6_init 71 = .ok (.putfield 34, 3) := by decide +kernel
theorem dX6_init_74 : decode cX6_init 74 = .ok (.aload_n 0, 1) := by decide +kernel
theorem dX6_init_75 : decode cX6_init 75 = .ok (.getfield 7, 3) := by decide +kernel
theorem dX6_init_78 : decode cX6_init 78 = .ok (.iconst 0, 1) := by decide +kernel
theorem dX6_init_79 : decode cX6_init 79 = .ok (.iconst 4, 1) := by decide +kernel
theorem dX6_init_80 : decode cX6_init 80 = .ok (.iastore, 1) := by decide +kernel
theorem dX6_init_81 : decode cX6_init 81 = .ok (.aload_n 0, 1) := by decide +kernel
theorem dX6_init_82 : decode cX6_init 82 = .ok (.getfield 7, 3) := by decide +kernel
theorem dX6_init_85 : decode cX6_init 85 = .ok (.iconst 2, 1) := by decide +kernel
theorem dX6_init_86 : decode cX6_init 86 = .ok (.iconst 1, 1) := by decide +kernel
theorem dX6_init_87 : decode cX6_init 87 = .ok (.iastore, 1) := by decide +kernel
theorem dX6_init_88 : decode cX6_init 88 = .ok (.return_, 1) := by decide +kernel
theorem dX6_in_0 : decode cX6_in 0 = .ok (.iload_n 0, 1) := by decide +kernel
theorem dX6_in_1 : decode cX6_in 1 = .ok (.iload_n 1, 1) := by decide +kernel
theorem dX6_in_2 : decode cX6_in 2 = .ok (.if_icmp .lt 12, 3) := by decide +kernel
theorem dX6_in_5 : decode cX6_in 5 = .ok (.iload_n 0, 1) := by decide +kernel
theorem dX6_in_6 : decode cX6_in 6 = .ok (.iload_n 2, 1) := by decide +kernel
theorem dX6_in_7 : decode cX6_in 7 = .ok (.if_icmp .gt 7, 3) := by decide +kernel
theorem dX6_in_10 : decode cX6_in 10 = .ok (.iconst 1, 1) := by decide +kernel
theorem dX6_in_11 : decode cX6_in 11 = .ok (.goto 4, 3) := by decide +kernel
theorem dX6_in_14 : decode cX6_in 14 = .ok (.iconst 0, 1) := by decide +kernel
theorem dX6_in_15 : decode cX6_in 15 = .ok (.ireturn, 1) := by decide +kernel
theorem dX6_isPlace_0 : decode cX6_isPlace 0 = .ok (.iload_n 1, 1) := by decide +kernel
theorem dX6_isPlace_1 : decode cX6_isPlace 1 = .ok (.iconst 0, 1) := by decide +kernel
theorem dX6_isPlace_2 : decode cX6_isPlace 2 = .ok (.aload_n 0, 1) := by decide +kernel
theorem dX6_isPlace_3 : decode cX6_isPlace 3 = .ok (.getfield 7, 3) := by decide +kernel
theorem dX6_isPlace_6 : decode cX6_isPlace 6 = .ok (.iconst 0, 1) := by decide +kernel
theorem dX6_isPlace_7 : decode cX6_isPlace 7 = .ok (.iaload, 1) := by decide +kernel
theorem dX6_isPlace_8 : decode cX6_isPlace 8 = .ok (.iconst 1, 1) := by decide +kernel
theorem dX6_isPlace_9 : decode cX6_isPlace 9 = .ok (.isub, 1) := by decide +kernel
theorem dX6_isPlace_10 : decode cX6_isPlace 10 = .ok (.invokestatic 38, 3) := by decide +kernel
theorem dX6_isPlace_13 : decode cX6_isPlace 13 = .ok (.ireturn, 1) := by decide +kernel
theorem dX6_tied_0 : decode cX6_tied 0 = .ok (.aload_n 0, 1) := by decide +kernel
theorem dX6_tied_1 : decode cX6_tied 1 = .ok (.getfield 7, 3) := by decide +kernel
theorem dX6_tied_4 : decode cX6_tied 4 = .ok (.iconst 3, 1) := by decide +kernel
theorem dX6_tied_5 : decode cX6_tied 5 = .ok (.bipush 10, 2) := by decide +kernel
theorem dX6_tied_7 : decode cX6_tied 7 = .ok (.iload_n 1, 1) := by decide +kernel
theorem dX6_tied_8 : decode cX6_tied 8 = .ok (.imul, 1) := by decide +kernel
theorem dX6_tied_9 : decode cX6_tied 9 = .ok (.iadd, 1) := by decide +kernel
theorem dX6_tied_10 : decode cX6_tied 10 = .ok (.iload_n 2, 1) := by decide +kernel
theorem dX6_tied_11 : decode cX6_tied 11 = .ok (.iadd, 1) := by decide +kernel
theorem dX6_tied_12 : decode cX6_tied 12 = .ok (.iaload, 1) := by decide +kernel
theorem dX6_tied_13 : decode cX6_tied 13 = .ok (.ireturn, 1) := by decide +kernel
theorem dX6_ties_0 : decode cX6_ties 0 = .ok (.aload_n 0, 1) := by decide +kernel
theorem dX6_ties_1 : decode cX6_ties 1 = .ok (.getfield 7, 3) := by decide +kernel
theorem dX6_ties_4 : decode cX6_ties 4 = .ok (.iconst 3, 1) := by decide +kernel
theorem dX6_ties_5 : decode cX6_ties 5 = .ok (.bipush 10, 2) := by decide +kernel
theorem dX6_ties_7 : decode cX6_ties 7 = .ok (.iload_n 1, 1) := by decide +kernel
theorem dX6_ties_8 : decode cX6_ties 8 = .ok (.imul, 1) := by decide +kernel
theorem dX6_ties_9 : decode cX6_ties 9 = .ok (.iadd, 1) := by decide +kernel
theorem dX6_ties_10 : decode cX6_ties 10 = .ok (.iload_n 2, 1) := by decide +kernel
theorem dX6_ties_11 : decode cX6_ties 11 = .ok (.iadd, 1) := by decide +kernel
theorem dX6_ties_12 : decode cX6_ties 12 = .ok (.iload_n 3, 1) := by decide +kernel
theorem dX6_ties_13 : decode cX6_ties 13 = .ok (.iastore, 1) := by decide +kernel
theorem dX6_ties_14 : decode cX6_ties 14 = .ok (.aload_n 0, 1) := by decide +kernel
theorem dX6_ties_15 : decode cX6_ties 15 = .ok (.getfield 7, 3) := by decide +kernel
theorem dX6_ties_18 : decode cX6_ties 18 = .ok (.iconst 3, 1) := by decide +kernel
theorem dX6_ties_19 : decode cX6_ties 19 = .ok (.bipush 10, 2) := by decide +kernel
theorem dX6_ties_21 : decode cX6_ties 21 = .ok (.iload_n 2, 1) := by decide +kernel
theorem dX6_ties_22 : decode cX6_ties 22 = .ok (.imul, 1) := by decide +kernel
theorem dX6_ties_23 : decode cX6_ties 23 = .ok (.iadd, 1) := by decide +kernel
theorem dX6_ties_24 : decode cX6_ties 24 = .ok (.iload_n 1, 1) := by decide +kernel
theorem dX6_ties_25 : decode cX6_ties 25 = .ok (.iadd, 1) := by decide +kernel
theorem dX6_ties_26 : decode cX6_ties 26 = .ok (.iload_n 3, 1) := by decide +kernel
theorem dX6_ties_27 : decode cX6_ties 27 = .ok (.iastore, 1) := by decide +kernel
theorem dX6_ties_28 : decode cX6_ties 28 = .ok (.return_, 1) := by decide +kernel
theorem dX6_all_0 : decode cX6_all 0 = .ok (.iconst 1, 1) := by decide +kernel
theorem dX6_all_1 : decode cX6_all 1 = .ok (.aload_n 0, 1) := by decide +kernel
theorem dX6_all_2 : decode cX6_all 2 = .ok (.getfield 7, 3) := by decide +kernel
theorem dX6_all_5 : decode cX6_all 5 = .ok (.iconst 0, 1) := by decide +kernel
theorem dX6_all_6 : decode cX6_all 6 = .ok (.iaload, 1) := by decide +kernel
theorem dX6_all_7 : decode cX6_all 7 = .ok (.ishl, 1) := by decide +kernel
theorem dX6_all_8 : decode cX6_all 8 = .ok (.iconst 1, 1) := by decide +kernel
theorem dX6_all_9 : decode cX6_all 9 = .ok (.isub, 1) := by decide +kernel
theorem dX6_all_10 : decode cX6_all 10 = .ok (.ireturn, 1) := by decide +kernel
theorem dX6_records_0 : decode cX6_records 0 = .ok (.aload_n 0, 1) := by decide +kernel
theorem dX6_records_1 : decode cX6_records 1 = .ok (.getfield 42, 3) := by decide +kernel
theorem dX6_records_4 : decode cX6_records 4 = .ok (.iconst 4, 1) := by decide +kernel
theorem dX6_records_5 : decode cX6_records 5 = .ok (.if_icmp .ne 43, 3) := by decide +kernel
theorem dX6_records_8 : decode cX6_records 8 = .ok (.iconst 0, 1) := by decide +kernel
theorem dX6_records_9 : decode cX6_records 9 = .ok (.istore_n 1, 1) := by decide +kernel
theorem dX6_records_10 : decode cX6_records 10 = .ok (.iload_n 1, 1) := by decide +kernel
theorem dX6_records_11 : decode cX6_records 11 = .ok (.sipush 309, 3) := by decide +kernel
theorem dX6_records_14 : decode cX6_records 14 = .ok (.if_icmp .ge 24, 3) := by decide +kernel
theorem dX6_records_17 : decode cX6_records 17 = .ok (.aload_n 0, 1) := by decide +kernel
theorem dX6_records_18 : decode cX6_records 18 = .ok (.getfield 13, 3) := by decide +kernel
theorem dX6_records_21 : decode cX6_records 21 = .ok (.iload_n 1, 1) := by decide +kernel
theorem dX6_records_22 : decode cX6_records 22 = .ok (.aload_n 0, 1) := by decide +kernel
theorem dX6_records_23 : decode cX6_records 23 = .ok (.getfield 13, 3) := by decide +kernel
theorem dX6_records_26 : decode cX6_records 26 = .ok (.iload_n 1, 1) := by decide +kernel
theorem dX6_records_27 : decode cX6_records 27 = .ok (.bipush 103, 2) := by decide +kernel
theorem dX6_records_29 : decode cX6_records 29 = .ok (.iadd, 1) := by decide +kernel
theorem dX6_records_30 : decode cX6_records 30 = .ok (.iaload, 1) := by decide +kernel
theorem dX6_records_31 : decode cX6_records 31 = .ok (.iastore, 1) := by decide +kernel
theorem dX6_records_32 : decode cX6_records 32 = .ok (.iinc 1 1, 3) := by decide +kernel
theorem dX6_records_35 : decode cX6_records 35 = .ok (.goto (-25), 3) := by decide +kernel
theorem dX6_records_38 : decode cX6_records 38 = .ok (.aload_n 0, 1) := by decide +kernel
theorem dX6_records_39 : decode cX6_records 39 = .ok (.dup, 1) := by decide +kernel
theorem dX6_records_40 : decode cX6_records 40 = .ok (.getfield 42, 3) := by decide +kernel
theorem dX6_records_43 : decode cX6_records 43 = .ok (.iconst 1, 1) := by decide +kernel
theorem dX6_records_44 : decode cX6_records 44 = .ok (.isub, 1) := by decide +kernel
theorem dX6_records_45 : decode cX6_records 45 = .ok (.putfield 42, 3) := by decide +kernel
theorem dX6_records_48 : decode cX6_records 48 = .ok (.iconst 0, 1) := by decide +kernel
theorem dX6_records_49 : decode cX6_records 49 = .ok (.istore_n 1, 1) := by decide +kernel
theorem dX6_records_50 : decode cX6_records 50 = .ok (.iload_n 1, 1) := by decide +kernel
theorem dX6_records_51 : decode cX6_records 51 = .ok (.bipush 103, 2) := by decide +kernel
theorem dX6_records_53 : decode cX6_records 53 = .ok (.if_icmp .ge 29, 3) := by decide +kernel
theorem dX6_records_56 : decode cX6_records 56 = .ok (.aload_n 0, 1) := by decide +kernel
theorem dX6_records_57 : decode cX6_records 57 = .ok (.getfield 13, 3) := by decide +kernel
theorem dX6_records_60 : decode cX6_records 60 = .ok (.bipush 103, 2) := by decide +kernel
theorem dX6_records_62 : decode cX6_records 62 = .ok (.aload_n 0, 1) := by decide +kernel
theorem dX6_records_63 : decode cX6_records 63 = .ok (.getfield 42, 3) := by decide +kernel
theorem dX6_records_66 : decode cX6_records 66 = .ok (.imul, 1) := by decide +kernel
theorem dX6_records_67 : decode cX6_records 67 = .ok (.iload_n 1, 1) := by decide +kernel
theorem dX6_records_68 : decode cX6_records 68 = .ok (.iadd, 1) := by decide +kernel
theorem dX6_records_69 : decode cX6_records 69 = .ok (.aload_n 0, 1) := by decide +kernel
theorem dX6_records_70 : decode cX6_records 70 = .ok (.getfield 7, 3) := by decide +kernel
theorem dX6_records_73 : decode cX6_records 73 = .ok (.iload_n 1, 1) := by decide +kernel
theorem dX6_records_74 : decode cX6_records 74 = .ok (.iaload, 1) := by decide +kernel
theorem dX6_records_75 : decode cX6_records 75 = .ok (.iastore, 1) := by decide +kernel
theorem dX6_records_76 : decode cX6_records 76 = .ok (.iinc 1 1, 3) := by decide +kernel
theorem dX6_records_79 : decode cX6_records 79 = .ok (.goto (-29), 3) := by decide +kernel
theorem dX6_records_82 : decode cX6_records 82 = .ok (.aload_n 0, 1) := by decide +kernel
theorem dX6_records_83 : decode cX6_records 83 = .ok (.dup, 1) := by decide +kernel
theorem dX6_records_84 : decode cX6_records 84 = .ok (.getfield 42, 3) := by decide +kernel
theorem dX6_records_87 : decode cX6_records 87 = .ok (.iconst 1, 1) := by decide +kernel
theorem dX6_records_88 : decode cX6_records 88 = .ok (.iadd, 1) := by decide +kernel
theorem dX6_records_89 : decode cX6_records 89 = .ok (.putfield 42, 3) := by decide +kernel
theorem dX6_records_92 : decode cX6_records 92 = .ok (.return_, 1) := by decide +kernel
theorem dX6_weightBetween_0 : decode cX6_weightBetween 0 = .ok (.iconst 0, 1) := by decide +kernel
theorem dX6_weightBetween_1 : decode cX6_weightBetween 1 = .ok (.istore_n 3, 1) := by decide +kernel
theorem dX6_weightBetween_2 : decode cX6_weightBetween 2 = .ok (.iconst 0, 1) := by decide +kernel
theorem dX6_weightBetween_3 : decode cX6_weightBetween 3 = .ok (.istore 4, 2) := by decide +kernel
theorem dX6_weightBetween_5 : decode cX6_weightBetween 5 = .ok (.iload 4, 2) := by decide +kernel
theorem dX6_weightBetween_7 : decode cX6_weightBetween 7 = .ok (.aload_n 0, 1) := by decide +kernel
theorem dX6_weightBetween_8 : decode cX6_weightBetween 8 = .ok (.getfield 7, 3) := by decide +kernel
theorem dX6_weightBetween_11 : decode cX6_weightBetween 11 = .ok (.iconst 0, 1) := by decide +kernel
theorem dX6_weightBetween_12 : decode cX6_weightBetween 12 = .ok (.iaload, 1) := by decide +kernel
theorem dX6_weightBetween_13 : decode cX6_weightBetween 13 = .ok (.if_icmp .ge 64, 3) := by decide +kernel
theorem dX6_weightBetween_16 : decode cX6_weightBetween 16 = .ok (.iconst 0, 1) := by decide +kernel
theorem dX6_weightBetween_17 : decode cX6_weightBetween 17 = .ok (.istore 5, 2) := by decide +kernel
theorem dX6_weightBetween_19 : decode cX6_weightBetween 19 = .ok (.iload 5, 2) := by decide +kernel
theorem dX6_weightBetween_21 : decode cX6_weightBetween 21 = .ok (.aload_n 0, 1) := by decide +kernel
theorem dX6_weightBetween_22 : decode cX6_weightBetween 22 = .ok (.getfield 7, 3) := by decide +kernel
theorem dX6_weightBetween_25 : decode cX6_weightBetween 25 = .ok (.iconst 0, 1) := by decide +kernel
theorem dX6_weightBetween_26 : decode cX6_weightBetween 26 = .ok (.iaload, 1) := by decide +kernel
theorem dX6_weightBetween_27 : decode cX6_weightBetween 27 = .ok (.if_icmp .ge 44, 3) := by decide +kernel
theorem dX6_weightBetween_30 : decode cX6_weightBetween 30 = .ok (.iload_n 1, 1) := by decide +kernel
theorem dX6_weightBetween_31 : decode cX6_weightBetween 31 = .ok (.iload 4, 2) := by decide +kernel
theorem dX6_weightBetween_33 : decode cX6_weightBetween 33 = .ok (.ishr, 1) := by decide +kernel
theorem dX6_weightBetween_34 : decode cX6_weightBetween 34 = .ok (.iconst 1, 1) := by decide +kernel
theorem dX6_weightBetween_35 : decode cX6_weightBetween 35 = .ok (.iand, 1) := by decide +kernel
theorem dX6_weightBetween_36 : decode cX6_weightBetween 36 = .ok (.iconst 1, 1) := by decide +kernel
theorem dX6_weightBetween_37 : decode cX6_weightBetween 37 = .ok (.if_icmp .ne 34, 3) := by decide +kernel
theorem dX6_weightBetween_40 : decode cX6_weightBetween 40 = .ok (.iload_n 3, 1) := by decide +kernel
theorem dX6_weightBetween_41 : decode cX6_weightBetween 41 = .ok (.iload_n 2, 1) := by decide +kernel
theorem dX6_weightBetween_42 : decode cX6_weightBetween 42 = .ok (.iload 5, 2) := by decide +kernel
theorem dX6_weightBetween_44 : decode cX6_weightBetween 44 = .ok (.ishr, 1) := by decide +kernel
theorem dX6_weightBetween_45 : decode cX6_weightBetween 45 = .ok (.iconst 1, 1) := by decide +kernel
theorem dX6_weightBetween_46 : decode cX6_weightBetween 46 = .ok (.iand, 1) := by decide +kernel
theorem dX6_weightBetween_47 : decode cX6_weightBetween 47 = .ok (.iconst 1, 1) := by decide +kernel
theorem dX6_weightBetween_48 : decode cX6_weightBetween 48 = .ok (.if_icmp .ne 14, 3) := by decide +kernel
theorem dX6_weightBetween_51 : decode cX6_weightBetween 51 = .ok (.aload_n 0, 1) := by decide +kernel
theorem dX6_weightBetween_52 : decode cX6_weightBetween 52 = .ok (.iload 4, 2) := by decide +kernel
theorem dX6_weightBetween_54 : decode cX6_weightBetween 54 = .ok (.iload 5, 2) := by decide +kernel
theorem dX6_weightBetween_56 : decode cX6_weightBetween 56 = .ok (.invokevirtual 45, 3) := by decide +kernel
theorem dX6_weightBetween_59 : decode cX6_weightBetween 59 = .ok (.goto 4, 3) := by decide +kernel
theorem dX6_weightBetween_62 : decode cX6_weightBetween 62 = .ok (.iconst 0, 1) := by decide +kernel
theorem dX6_weightBetween_63 : decode cX6_weightBetween 63 = .ok (.iadd, 1) := by decide +kernel
theorem dX6_weightBetween_64 : decode cX6_weightBetween 64 = .ok (.istore_n 3, 1) := by decide +kernel
theorem dX6_weightBetween_65 : decode cX6_weightBetween 65 = .ok (.iinc 5 1, 3) := by decide +kernel
theorem dX6_weightBetween_68 : decode cX6_weightBetween 68 = .ok (.goto (-49), 3) := by decide +kernel
theorem dX6_weightBetween_71 : decode cX6_weightBetween 71 = .ok (.iinc 4 1, 3) := by decide +kernel
theorem dX6_weightBetween_74 : decode cX6_weightBetween 74 = .ok (.goto (-69), 3) := by decide +kernel
theorem dX6_weightBetween_77 : decode cX6_weightBetween 77 = .ok (.iload_n 3, 1) := by decide +kernel
theorem dX6_weightBetween_78 : decode cX6_weightBetween 78 = .ok (.ireturn, 1) := by decide +kernel
theorem dX6_weightOf_0 : decode cX6_weightOf 0 = .ok (.aload_n 0, 1) := by decide +kernel
theorem dX6_weightOf_1 : decode cX6_weightOf 1 = .ok (.iload_n 1, 1) := by decide +kernel
theorem dX6_weightOf_2 : decode cX6_weightOf 2 = .ok (.aload_n 0, 1) := by decide +kernel
theorem dX6_weightOf_3 : decode cX6_weightOf 3 = .ok (.invokevirtual 49, 3) := by decide +kernel
theorem dX6_weightOf_6 : decode cX6_weightOf 6 = .ok (.iload_n 1, 1) := by decide +kernel
theorem dX6_weightOf_7 : decode cX6_weightOf 7 = .ok (.iconst (-1), 1) := by decide +kernel
theorem dX6_weightOf_8 : decode cX6_weightOf 8 = .ok (.ixor, 1) := by decide +kernel
theorem dX6_weightOf_9 : decode cX6_weightOf 9 = .ok (.iand, 1) := by decide +kernel
theorem dX6_weightOf_10 : decode cX6_weightOf 10 = .ok (.invokevirtual 53, 3) := by decide +kernel
theorem dX6_weightOf_13 : decode cX6_weightOf 13 = .ok (.ireturn, 1) := by decide +kernel
theorem dX6_isParting_0 : decode cX6_isParting 0 = .ok (.iload_n 1, 1) := by decide +kernel
theorem dX6_isParting_1 : decode cX6_isParting 1 = .ok (.iconst 2, 1) := by decide +kernel
theorem dX6_isParting_2 : decode cX6_isParting 2 = .ok (.aload_n 0, 1) := by decide +kernel
theorem dX6_isParting_3 : decode cX6_isParting 3 = .ok (.invokevirtual 49, 3) := by decide +kernel
theorem dX6_isParting_6 : decode cX6_isParting 6 = .ok (.iconst 1, 1) := by decide +kernel
theorem dX6_isParting_7 : decode cX6_isParting 7 = .ok (.isub, 1) := by decide +kernel
theorem dX6_isParting_8 : decode cX6_isParting 8 = .ok (.invokestatic 38, 3) := by decide +kernel
theorem dX6_isParting_11 : decode cX6_isParting 11 = .ok (.ifCond .eq 13, 3) := by decide +kernel
theorem dX6_isParting_14 : decode cX6_isParting 14 = .ok (.iload_n 1, 1) := by decide +kernel
theorem dX6_isParting_15 : decode cX6_isParting 15 = .ok (.iconst 1, 1) := by decide +kernel
theorem dX6_isParting_16 : decode cX6_isParting 16 = .ok (.iand, 1) := by decide +kernel
theorem dX6_isParting_17 : decode cX6_isParting 17 = .ok (.ifCond .ne 7, 3) := by decide +kernel
theorem dX6_isParting_20 : decode cX6_isParting 20 = .ok (.iconst 1, 1) := by decide +kernel
theorem dX6_isParting_21 : decode cX6_isParting 21 = .ok (.goto 4, 3) := by decide +kernel
theorem dX6_isParting_24 : decode cX6_isParting 24 = .ok (.iconst 0, 1) := by decide +kernel
theorem dX6_isParting_25 : decode cX6_isParting 25 = .ok (.ireturn, 1) := by decide +kernel
theorem dX6_ones_0 : decode cX6_ones 0 = .ok (.iconst 0, 1) := by decide +kernel
theorem dX6_ones_1 : decode cX6_ones 1 = .ok (.istore_n 1, 1) := by decide +kernel
theorem dX6_ones_2 : decode cX6_ones 2 = .ok (.iconst 0, 1) := by decide +kernel
theorem dX6_ones_3 : decode cX6_ones 3 = .ok (.istore_n 2, 1) := by decide +kernel
theorem dX6_ones_4 : decode cX6_ones 4 = .ok (.iload_n 2, 1) := by decide +kernel
theorem dX6_ones_5 : decode cX6_ones 5 = .ok (.bipush 10, 2) := by decide +kernel
theorem dX6_ones_7 : decode cX6_ones 7 = .ok (.if_icmp .ge 17, 3) := by decide +kernel
theorem dX6_ones_10 : decode cX6_ones 10 = .ok (.iload_n 1, 1) := by decide +kernel
theorem dX6_ones_11 : decode cX6_ones 11 = .ok (.iload_n 0, 1) := by decide +kernel
theorem dX6_ones_12 : decode cX6_ones 12 = .ok (.iload_n 2, 1) := by decide +kernel
theorem dX6_ones_13 : decode cX6_ones 13 = .ok (.ishr, 1) := by decide +kernel
theorem dX6_ones_14 : decode cX6_ones 14 = .ok (.iconst 1, 1) := by decide +kernel
theorem dX6_ones_15 : decode cX6_ones 15 = .ok (.iand, 1) := by decide +kernel
theorem dX6_ones_16 : decode cX6_ones 16 = .ok (.iadd, 1) := by decide +kernel
theorem dX6_ones_17 : decode cX6_ones 17 = .ok (.istore_n 1, 1) := by decide +kernel
theorem dX6_ones_18 : decode cX6_ones 18 = .ok (.iinc 2 1, 3) := by decide +kernel
theorem dX6_ones_21 : decode cX6_ones 21 = .ok (.goto (-17), 3) := by decide +kernel
theorem dX6_ones_24 : decode cX6_ones 24 = .ok (.iload_n 1, 1) := by decide +kernel
theorem dX6_ones_25 : decode cX6_ones 25 = .ok (.ireturn, 1) := by decide +kernel
theorem dX6_isFair_0 : decode cX6_isFair 0 = .ok (.iload_n 1, 1) := by decide +kernel
theorem dX6_isFair_1 : decode cX6_isFair 1 = .ok (.invokestatic 56, 3) := by decide +kernel
theorem dX6_isFair_4 : decode cX6_isFair 4 = .ok (.istore_n 2, 1) := by decide +kernel
theorem dX6_isFair_5 : decode cX6_isFair 5 = .ok (.iload_n 2, 1) := by decide +kernel
theorem dX6_isFair_6 : decode cX6_isFair 6 = .ok (.aload_n 0, 1) := by decide +kernel
theorem dX6_isFair_7 : decode cX6_isFair 7 = .ok (.getfield 7, 3) := by decide +kernel
theorem dX6_isFair_10 : decode cX6_isFair 10 = .ok (.iconst 2, 1) := by decide +kernel
theorem dX6_isFair_11 : decode cX6_isFair 11 = .ok (.iaload, 1) := by decide +kernel
theorem dX6_isFair_12 : decode cX6_isFair 12 = .ok (.if_icmp .lt 24, 3) := by decide +kernel
theorem dX6_isFair_15 : decode cX6_isFair 15 = .ok (.aload_n 0, 1) := by decide +kernel
theorem dX6_isFair_16 : decode cX6_isFair 16 = .ok (.getfield 7, 3) := by decide +kernel
theorem dX6_isFair_19 : decode cX6_isFair 19 = .ok (.iconst 0, 1) := by decide +kernel
theorem dX6_isFair_20 : decode cX6_isFair 20 = .ok (.iaload, 1) := by decide +kernel
theorem dX6_isFair_21 : decode cX6_isFair 21 = .ok (.iload_n 2, 1) := by decide +kernel
theorem dX6_isFair_22 : decode cX6_isFair 22 = .ok (.isub, 1) := by decide +kernel
theorem dX6_isFair_23 : decode cX6_isFair 23 = .ok (.aload_n 0, 1) := by decide +kernel
theorem dX6_isFair_24 : decode cX6_isFair 24 = .ok (.getfield 7, 3) := by decide +kernel
theorem dX6_isFair_27 : decode cX6_isFair 27 = .ok (.iconst 2, 1) := by decide +kernel
theorem dX6_isFair_28 : decode cX6_isFair 28 = .ok (.iaload, 1) := by decide +kernel
theorem dX6_isFair_29 : decode cX6_isFair 29 = .ok (.if_icmp .lt 7, 3) := by decide +kernel
theorem dX6_isFair_32 : decode cX6_isFair 32 = .ok (.iconst 1, 1) := by decide +kernel
theorem dX6_isFair_33 : decode cX6_isFair 33 = .ok (.goto 4, 3) := by decide +kernel
theorem dX6_isFair_36 : decode cX6_isFair 36 = .ok (.iconst 0, 1) := by decide +kernel
theorem dX6_isFair_37 : decode cX6_isFair 37 = .ok (.ireturn, 1) := by decide +kernel
theorem dX6_firstLeast_0 : decode cX6_firstLeast 0 = .ok (.iconst 2, 1) := by decide +kernel
theorem dX6_firstLeast_1 : decode cX6_firstLeast 1 = .ok (.istore_n 1, 1) := by decide +kernel
theorem dX6_firstLeast_2 : decode cX6_firstLeast 2 = .ok (.aload_n 0, 1) := by decide +kernel
theorem dX6_firstLeast_3 : decode cX6_firstLeast 3 = .ok (.iconst 2, 1) := by decide +kernel
theorem dX6_firstLeast_4 : decode cX6_firstLeast 4 = .ok (.invokevirtual 60, 3) := by decide +kernel
theorem dX6_firstLeast_7 : decode cX6_firstLeast 7 = .ok (.istore_n 2, 1) := by decide +kernel
theorem dX6_firstLeast_8 : decode cX6_firstLeast 8 = .ok (.iconst 4, 1) := by decide +kernel
theorem dX6_firstLeast_9 : decode cX6_firstLeast 9 = .ok (.istore_n 3, 1) := by decide +kernel
theorem dX6_firstLeast_10 : decode cX6_firstLeast 10 = .ok (.iload_n 3, 1) := by decide +kernel
theorem dX6_firstLeast_11 : decode cX6_firstLeast 11 = .ok (.aload_n 0, 1) := by decide +kernel
theorem dX6_firstLeast_12 : decode cX6_firstLeast 12 = .ok (.invokevirtual 49, 3) := by decide +kernel
theorem dX6_firstLeast_15 : decode cX6_firstLeast 15 = .ok (.if_icmp .ge 41, 3) := by decide +kernel
theorem dX6_firstLeast_18 : decode cX6_firstLeast 18 = .ok (.aload_n 0, 1) := by decide +kernel
theorem dX6_firstLeast_19 : decode cX6_firstLeast 19 = .ok (.iload_n 3, 1) := by decide +kernel
theorem dX6_firstLeast_20 : decode cX6_firstLeast 20 = .ok (.invokevirtual 60, 3) := by decide +kernel
theorem dX6_firstLeast_23 : decode cX6_firstLeast 23 = .ok (.istore 4, 2) := by decide +kernel
theorem dX6_firstLeast_25 : decode cX6_firstLeast 25 = .ok (.iload 4, 2) := by decide +kernel
theorem dX6_firstLeast_27 : decode cX6_firstLeast 27 = .ok (.iload_n 2, 1) := by decide +kernel
theorem dX6_firstLeast_28 : decode cX6_firstLeast 28 = .ok (.if_icmp .ge 7, 3) := by decide +kernel
theorem dX6_firstLeast_31 : decode cX6_firstLeast 31 = .ok (.iload_n 3, 1) := by decide +kernel
theorem dX6_firstLeast_32 : decode cX6_firstLeast 32 = .ok (.goto 4, 3) := by decide +kernel
theorem dX6_firstLeast_35 : decode cX6_firstLeast 35 = .ok (.iload_n 1, 1) := by decide +kernel
theorem dX6_firstLeast_36 : decode cX6_firstLeast 36 = .ok (.istore_n 1, 1) := by decide +kernel
theorem dX6_firstLeast_37 : decode cX6_firstLeast 37 = .ok (.iload 4, 2) := by decide +kernel
theorem dX6_firstLeast_39 : decode cX6_firstLeast 39 = .ok (.iload_n 2, 1) := by decide +kernel
theorem dX6_firstLeast_40 : decode cX6_firstLeast 40 = .ok (.if_icmp .ge 8, 3) := by decide +kernel
theorem dX6_firstLeast_43 : decode cX6_firstLeast 43 = .ok (.iload 4, 2) := by decide +kernel
theorem dX6_firstLeast_45 : decode cX6_firstLeast 45 = .ok (.goto 4, 3) := by decide +kernel
theorem dX6_firstLeast_48 : decode cX6_firstLeast 48 = .ok (.iload_n 2, 1) := by decide +kernel
theorem dX6_firstLeast_49 : decode cX6_firstLeast 49 = .ok (.istore_n 2, 1) := by decide +kernel
theorem dX6_firstLeast_50 : decode cX6_firstLeast 50 = .ok (.iinc 3 2, 3) := by decide +kernel
theorem dX6_firstLeast_53 : decode cX6_firstLeast 53 = .ok (.goto (-43), 3) := by decide +kernel
theorem dX6_firstLeast_56 : decode cX6_firstLeast 56 = .ok (.iload_n 1, 1) := by decide +kernel
theorem dX6_firstLeast_57 : decode cX6_firstLeast 57 = .ok (.ireturn, 1) := by decide +kernel
theorem dX6_leastWeight_0 : decode cX6_leastWeight 0 = .ok (.aload_n 0, 1) := by decide +kernel
theorem dX6_leastWeight_1 : decode cX6_leastWeight 1 = .ok (.aload_n 0, 1) := by decide +kernel
theorem dX6_leastWeight_2 : decode cX6_leastWeight 2 = .ok (.invokevirtual 63, 3) := by decide +kernel
theorem dX6_leastWeight_5 : decode cX6_leastWeight 5 = .ok (.invokevirtual 60, 3) := by decide +kernel
theorem dX6_leastWeight_8 : decode cX6_leastWeight 8 = .ok (.ireturn, 1) := by decide +kernel
theorem dX6_leastAt_0 : decode cX6_leastAt 0 = .ok (.aload_n 0, 1) := by decide +kernel
theorem dX6_leastAt_1 : decode cX6_leastAt 1 = .ok (.invokevirtual 66, 3) := by decide +kernel
theorem dX6_leastAt_4 : decode cX6_leastAt 4 = .ok (.istore_n 2, 1) := by decide +kernel
theorem dX6_leastAt_5 : decode cX6_leastAt 5 = .ok (.iload_n 1, 1) := by decide +kernel
theorem dX6_leastAt_6 : decode cX6_leastAt 6 = .ok (.istore_n 3, 1) := by decide +kernel
theorem dX6_leastAt_7 : decode cX6_leastAt 7 = .ok (.iconst 2, 1) := by decide +kernel
theorem dX6_leastAt_8 : decode cX6_leastAt 8 = .ok (.istore 4, 2) := by decide +kernel
theorem dX6_leastAt_10 : decode cX6_leastAt 10 = .ok (.iload 4, 2) := by decide +kernel
theorem dX6_leastAt_12 : decode cX6_leastAt 12 = .ok (.aload_n 0, 1) := by decide +kernel
theorem dX6_leastAt_13 : decode cX6_leastAt 13 = .ok (.invokevirtual 49, 3) := by decide +kernel
theorem dX6_leastAt_16 : decode cX6_leastAt 16 = .ok (.if_icmp .ge 34, 3) := by decide +kernel
theorem dX6_leastAt_19 : decode cX6_leastAt 19 = .ok (.iload_n 3, 1) := by decide +kernel
theorem dX6_leastAt_20 : decode cX6_leastAt 20 = .ok (.aload_n 0, 1) := by decide +kernel
theorem dX6_leastAt_21 : decode cX6_leastAt 21 = .ok (.iload 4, 2) := by decide +kernel
theorem dX6_leastAt_23 : decode cX6_leastAt 23 = .ok (.invokevirtual 60, 3) := by decide +kernel
theorem dX6_leastAt_26 : decode cX6_leastAt 26 = .ok (.iload_n 2, 1) := by decide +kernel
theorem dX6_leastAt_27 : decode cX6_leastAt 27 = .ok (.if_icmp .ne 7, 3) := by decide +kernel
theorem dX6_leastAt_30 : decode cX6_leastAt 30 = .ok (.iconst 1, 1) := by decide +kernel
theorem dX6_leastAt_31 : decode cX6_leastAt 31 = .ok (.goto 4, 3) := by decide +kernel
theorem dX6_leastAt_34 : decode cX6_leastAt 34 = .ok (.iconst 0, 1) := by decide +kernel
theorem dX6_leastAt_35 : decode cX6_leastAt 35 = .ok (.isub, 1) := by decide +kernel
theorem dX6_leastAt_36 : decode cX6_leastAt 36 = .ok (.istore_n 3, 1) := by decide +kernel
theorem dX6_leastAt_37 : decode cX6_leastAt 37 = .ok (.iload_n 3, 1) := by decide +kernel
theorem dX6_leastAt_38 : decode cX6_leastAt 38 = .ok (.ifCond .ge 6, 3) := by decide +kernel
theorem dX6_leastAt_41 : decode cX6_leastAt 41 = .ok (.iload 4, 2) := by decide +kernel
theorem dX6_leastAt_43 : decode cX6_leastAt 43 = .ok (.ireturn, 1) := by decide +kernel
theorem dX6_leastAt_44 : decode cX6_leastAt 44 = .ok (.iinc 4 2, 3) := by decide +kernel
theorem dX6_leastAt_47 : decode cX6_leastAt 47 = .ok (.goto (-37), 3) := by decide +kernel
theorem dX6_leastAt_50 : decode cX6_leastAt 50 = .ok (.bipush (-5), 2) := by decide +kernel
theorem dX6_leastAt_52 : decode cX6_leastAt 52 = .ok (.ireturn, 1) := by decide +kernel
theorem dX6_leastMany_0 : decode cX6_leastMany 0 = .ok (.aload_n 0, 1) := by decide +kernel
theorem dX6_leastMany_1 : decode cX6_leastMany 1 = .ok (.invokevirtual 66, 3) := by decide +kernel
theorem dX6_leastMany_4 : decode cX6_leastMany 4 = .ok (.istore_n 1, 1) := by decide +kernel
theorem dX6_leastMany_5 : decode cX6_leastMany 5 = .ok (.iconst 0, 1) := by decide +kernel
theorem dX6_leastMany_6 : decode cX6_leastMany 6 = .ok (.istore_n 2, 1) := by decide +kernel
theorem dX6_leastMany_7 : decode cX6_leastMany 7 = .ok (.iconst 2, 1) := by decide +kernel
theorem dX6_leastMany_8 : decode cX6_leastMany 8 = .ok (.istore_n 3, 1) := by decide +kernel
theorem dX6_leastMany_9 : decode cX6_leastMany 9 = .ok (.iload_n 3, 1) := by decide +kernel
theorem dX6_leastMany_10 : decode cX6_leastMany 10 = .ok (.aload_n 0, 1) := by decide +kernel
theorem dX6_leastMany_11 : decode cX6_leastMany 11 = .ok (.invokevirtual 49, 3) := by decide +kernel
theorem dX6_leastMany_14 : decode cX6_leastMany 14 = .ok (.if_icmp .ge 26, 3) := by decide +kernel
theorem dX6_leastMany_17 : decode cX6_leastMany 17 = .ok (.iload_n 2, 1) := by decide +kernel
theorem dX6_leastMany_18 : decode cX6_leastMany 18 = .ok (.aload_n 0, 1) := by decide +kernel
theorem dX6_leastMany_19 : decode cX6_leastMany 19 = .ok (.iload_n 3, 1) := by decide +kernel
theorem dX6_leastMany_20 : decode cX6_leastMany 20 = .ok (.invokevirtual 60, 3) := by decide +kernel
theorem dX6_leastMany_23 : decode cX6_leastMany 23 = .ok (.iload_n 1, 1) := by decide +kernel
theorem dX6_leastMany_24 : decode cX6_leastMany 24 = .ok (.if_icmp .ne 7, 3) := by decide +kernel
theorem dX6_leastMany_27 : decode cX6_leastMany 27 = .ok (.iconst 1, 1) := by decide +kernel
theorem dX6_leastMany_28 : decode cX6_leastMany 28 = .ok (.goto 4, 3) := by decide +kernel
theorem dX6_leastMany_31 : decode cX6_leastMany 31 = .ok (.iconst 0, 1) := by decide +kernel
theorem dX6_leastMany_32 : decode cX6_leastMany 32 = .ok (.iadd, 1) := by decide +kernel
theorem dX6_leastMany_33 : decode cX6_leastMany 33 = .ok (.istore_n 2, 1) := by decide +kernel
theorem dX6_leastMany_34 : decode cX6_leastMany 34 = .ok (.iinc 3 2, 3) := by decide +kernel
theorem dX6_leastMany_37 : decode cX6_leastMany 37 = .ok (.goto (-28), 3) := by decide +kernel
theorem dX6_leastMany_40 : decode cX6_leastMany 40 = .ok (.iload_n 2, 1) := by decide +kernel
theorem dX6_leastMany_41 : decode cX6_leastMany 41 = .ok (.ireturn, 1) := by decide +kernel
theorem dX6_leastFair_0 : decode cX6_leastFair 0 = .ok (.bipush (-5), 2) := by decide +kernel
theorem dX6_leastFair_2 : decode cX6_leastFair 2 = .ok (.istore_n 1, 1) := by decide +kernel
theorem dX6_leastFair_3 : decode cX6_leastFair 3 = .ok (.iconst 0, 1) := by decide +kernel
theorem dX6_leastFair_4 : decode cX6_leastFair 4 = .ok (.istore_n 2, 1) := by decide +kernel
theorem dX6_leastFair_5 : decode cX6_leastFair 5 = .ok (.iconst 2, 1) := by decide +kernel
theorem dX6_leastFair_6 : decode cX6_leastFair 6 = .ok (.istore_n 3, 1) := by decide +kernel
theorem dX6_leastFair_7 : decode cX6_leastFair 7 = .ok (.iload_n 3, 1) := by decide +kernel
theorem dX6_leastFair_8 : decode cX6_leastFair 8 = .ok (.aload_n 0, 1) := by decide +kernel
theorem dX6_leastFair_9 : decode cX6_leastFair 9 = .ok (.invokevirtual 49, 3) := by decide +kernel
theorem dX6_leastFair_12 : decode cX6_leastFair 12 = .ok (.if_icmp .ge 40, 3) := by decide +kernel
theorem dX6_leastFair_15 : decode cX6_leastFair 15 = .ok (.aload_n 0, 1) := by decide +kernel
theorem dX6_leastFair_16 : decode cX6_leastFair 16 = .ok (.iload_n 3, 1) := by decide +kernel
theorem dX6_leastFair_17 : decode cX6_leastFair 17 = .ok (.invokevirtual 69, 3) := by decide +kernel
theorem dX6_leastFair_20 : decode cX6_leastFair 20 = .ok (.ifCond .eq 26, 3) := by decide +kernel
theorem dX6_leastFair_23 : decode cX6_leastFair 23 = .ok (.iload_n 1, 1) := by decide +kernel
theorem dX6_leastFair_24 : decode cX6_leastFair 24 = .ok (.bipush (-5), 2) := by decide +kernel
theorem dX6_leastFair_26 : decode cX6_leastFair 26 = .ok (.if_icmp .eq 12, 3) := by decide +kernel
theorem dX6_leastFair_29 : decode cX6_leastFair 29 = .ok (.aload_n 0, 1) := by decide +kernel
theorem dX6_leastFair_30 : decode cX6_leastFair 30 = .ok (.iload_n 3, 1) := by decide +kernel
theorem dX6_leastFair_31 : decode cX6_leastFair 31 = .ok (.invokevirtual 60, 3) := by decide +kernel
theorem dX6_leastFair_34 : decode cX6_leastFair 34 = .ok (.iload_n 2, 1) := by decide +kernel
theorem dX6_leastFair_35 : decode cX6_leastFair 35 = .ok (.if_icmp .ge 11, 3) := by decide +kernel
theorem dX6_leastFair_38 : decode cX6_leastFair 38 = .ok (.iload_n 3, 1) := by decide +kernel
theorem dX6_leastFair_39 : decode cX6_leastFair 39 = .ok (.istore_n 1, 1) := by decide +kernel
theorem dX6_leastFair_40 : decode cX6_leastFair 40 = .ok (.aload_n 0, 1) := by decide +kernel
theorem dX6_leastFair_41 : decode cX6_leastFair 41 = .ok (.iload_n 3, 1) := by decide +kernel
theorem dX6_leastFair_42 : decode cX6_leastFair 42 = .ok (.invokevirtual 60, 3) := by decide +kernel
theorem dX6_leastFair_45 : decode cX6_leastFair 45 = .ok (.istore_n 2, 1) := by decide +kernel
theorem dX6_leastFair_46 : decode cX6_leastFair 46 = .ok (.iinc 3 2, 3) := by decide +kernel
theorem dX6_leastFair_49 : decode cX6_leastFair 49 = .ok (.goto (-42), 3) := by decide +kernel
theorem dX6_leastFair_52 : decode cX6_leastFair 52 = .ok (.iload_n 1, 1) := by decide +kernel
theorem dX6_leastFair_53 : decode cX6_leastFair 53 = .ok (.ireturn, 1) := by decide +kernel
theorem dX6_fairMany_0 : decode cX6_fairMany 0 = .ok (.iconst 0, 1) := by decide +kernel
theorem dX6_fairMany_1 : decode cX6_fairMany 1 = .ok (.istore_n 1, 1) := by decide +kernel
theorem dX6_fairMany_2 : decode cX6_fairMany 2 = .ok (.iconst 2, 1) := by decide +kernel
theorem dX6_fairMany_3 : decode cX6_fairMany 3 = .ok (.istore_n 2, 1) := by decide +kernel
theorem dX6_fairMany_4 : decode cX6_fairMany 4 = .ok (.iload_n 2, 1) := by decide +kernel
theorem dX6_fairMany_5 : decode cX6_fairMany 5 = .ok (.aload_n 0, 1) := by decide +kernel
theorem dX6_fairMany_6 : decode cX6_fairMany 6 = .ok (.invokevirtual 49, 3) := by decide +kernel
theorem dX6_fairMany_9 : decode cX6_fairMany 9 = .ok (.if_icmp .ge 25, 3) := by decide +kernel
theorem dX6_fairMany_12 : decode cX6_fairMany 12 = .ok (.iload_n 1, 1) := by decide +kernel
theorem dX6_fairMany_13 : decode cX6_fairMany 13 = .ok (.aload_n 0, 1) := by decide +kernel
theorem dX6_fairMany_14 : decode cX6_fairMany 14 = .ok (.iload_n 2, 1) := by decide +kernel
theorem dX6_fairMany_15 : decode cX6_fairMany 15 = .ok (.invokevirtual 69, 3) := by decide +kernel
theorem dX6_fairMany_18 : decode cX6_fairMany 18 = .ok (.ifCond .eq 7, 3) := by decide +kernel
theorem dX6_fairMany_21 : decode cX6_fairMany 21 = .ok (.iconst 1, 1) := by decide +kernel
theorem dX6_fairMany_22 : decode cX6_fairMany 22 = .ok (.goto 4, 3) := by decide +kernel
theorem dX6_fairMany_25 : decode cX6_fairMany 25 = .ok (.iconst 0, 1) := by decide +kernel
theorem dX6_fairMany_26 : decode cX6_fairMany 26 = .ok (.iadd, 1) := by decide +kernel
theorem dX6_fairMany_27 : decode cX6_fairMany 27 = .ok (.istore_n 1, 1) := by decide +kernel
theorem dX6_fairMany_28 : decode cX6_fairMany 28 = .ok (.iinc 2 2, 3) := by decide +kernel
theorem dX6_fairMany_31 : decode cX6_fairMany 31 = .ok (.goto (-27), 3) := by decide +kernel
theorem dX6_fairMany_34 : decode cX6_fairMany 34 = .ok (.iload_n 1, 1) := by decide +kernel
theorem dX6_fairMany_35 : decode cX6_fairMany 35 = .ok (.ireturn, 1) := by decide +kernel
theorem dX6_leastBetween_0 : decode cX6_leastBetween 0 = .ok (.bipush (-5), 2) := by decide +kernel
theorem dX6_leastBetween_2 : decode cX6_leastBetween 2 = .ok (.istore_n 3, 1) := by decide +kernel
theorem dX6_leastBetween_3 : decode cX6_leastBetween 3 = .ok (.iconst 0, 1) := by decide +kernel
theorem dX6_leastBetween_4 : decode cX6_leastBetween 4 = .ok (.istore 4, 2) := by decide +kernel
theorem dX6_leastBetween_6 : decode cX6_leastBetween 6 = .ok (.iconst 2, 1) := by decide +kernel
theorem dX6_leastBetween_7 : decode cX6_leastBetween 7 = .ok (.istore 5, 2) := by decide +kernel
theorem dX6_leastBetween_9 : decode cX6_leastBetween 9 = .ok (.iload 5, 2) := by decide +kernel
theorem dX6_leastBetween_11 : decode cX6_leastBetween 11 = .ok (.aload_n 0, 1) := by decide +kernel
theorem dX6_leastBetween_12 : decode cX6_leastBetween 12 = .ok (.invokevirtual 49, 3) := by decide +kernel
theorem dX6_leastBetween_15 : decode cX6_leastBetween 15 = .ok (.if_icmp .ge 64, 3) := by decide +kernel
theorem dX6_leastBetween_18 : decode cX6_leastBetween 18 = .ok (.iload 5, 2) := by decide +kernel
theorem dX6_leastBetween_20 : decode cX6_leastBetween 20 = .ok (.iload_n 1, 1) := by decide +kernel
theorem dX6_leastBetween_21 : decode cX6_leastBetween 21 = .ok (.ishr, 1) := by decide +kernel
theorem dX6_leastBetween_22 : decode cX6_leastBetween 22 = .ok (.iconst 1, 1) := by decide +kernel
theorem dX6_leastBetween_23 : decode cX6_leastBetween 23 = .ok (.iand, 1) := by decide +kernel
theorem dX6_leastBetween_24 : decode cX6_leastBetween 24 = .ok (.iload 5, 2) := by decide +kernel
theorem dX6_leastBetween_26 : decode cX6_leastBetween 26 = .ok (.iload_n 2, 1) := by decide +kernel
theorem dX6_leastBetween_27 : decode cX6_leastBetween 27 = .ok (.ishr, 1) := by decide +kernel
theorem dX6_leastBetween_28 : decode cX6_leastBetween 28 = .ok (.iconst 1, 1) := by decide +kernel
theorem dX6_leastBetween_29 : decode cX6_leastBetween 29 = .ok (.iand, 1) := by decide +kernel
theorem dX6_leastBetween_30 : decode cX6_leastBetween 30 = .ok (.if_icmp .eq 7, 3) := by decide +kernel
theorem dX6_leastBetween_33 : decode cX6_leastBetween 33 = .ok (.iconst 1, 1) := by decide +kernel
theorem dX6_leastBetween_34 : decode cX6_leastBetween 34 = .ok (.goto 4, 3) := by decide +kernel
theorem dX6_leastBetween_37 : decode cX6_leastBetween 37 = .ok (.iconst 0, 1) := by decide +kernel
theorem dX6_leastBetween_38 : decode cX6_leastBetween 38 = .ok (.istore 6, 2) := by decide +kernel
theorem dX6_leastBetween_40 : decode cX6_leastBetween 40 = .ok (.iload 6, 2) := by decide +kernel
theorem dX6_leastBetween_42 : decode cX6_leastBetween 42 = .ok (.ifCond .eq 31, 3) := by decide +kernel
theorem dX6_leastBetween_45 : decode cX6_leastBetween 45 = .ok (.iload_n 3, 1) := by decide +kernel
theorem dX6_leastBetween_46 : decode cX6_leastBetween 46 = .ok (.bipush (-5), 2) := by decide +kernel
theorem dX6_leastBetween_48 : decode cX6_leastBetween 48 = .ok (.if_icmp .eq 14, 3) := by decide +kernel
theorem dX6_leastBetween_51 : decode cX6_leastBetween 51 = .ok (.aload_n 0, 1) := by decide +kernel
theorem dX6_leastBetween_52 : decode cX6_leastBetween 52 = .ok (.iload 5, 2) := by decide +kernel
theorem dX6_leastBetween_54 : decode cX6_leastBetween 54 = .ok (.invokevirtual 60, 3) := by decide +kernel
theorem dX6_leastBetween_57 : decode cX6_leastBetween 57 = .ok (.iload 4, 2) := by decide +kernel
theorem dX6_leastBetween_59 : decode cX6_leastBetween 59 = .ok (.if_icmp .ge 14, 3) := by decide +kernel
theorem dX6_leastBetween_62 : decode cX6_leastBetween 62 = .ok (.iload 5, 2) := by decide +kernel
theorem dX6_leastBetween_64 : decode cX6_leastBetween 64 = .ok (.istore_n 3, 1) := by decide +kernel
theorem dX6_leastBetween_65 : decode cX6_leastBetween 65 = .ok (.aload_n 0, 1) := by decide +kernel
theorem dX6_leastBetween_66 : decode cX6_leastBetween 66 = .ok (.iload 5, 2) := by decide +kernel
theorem dX6_leastBetween_68 : decode cX6_leastBetween 68 = .ok (.invokevirtual 60, 3) := by decide +kernel
theorem dX6_leastBetween_71 : decode cX6_leastBetween 71 = .ok (.istore 4, 2) := by decide +kernel
theorem dX6_leastBetween_73 : decode cX6_leastBetween 73 = .ok (.iinc 5 2, 3) := by decide +kernel
theorem dX6_leastBetween_76 : decode cX6_leastBetween 76 = .ok (.goto (-67), 3) := by decide +kernel
theorem dX6_leastBetween_79 : decode cX6_leastBetween 79 = .ok (.iload_n 3, 1) := by decide +kernel
theorem dX6_leastBetween_80 : decode cX6_leastBetween 80 = .ok (.ireturn, 1) := by decide +kernel
theorem dX6_isTight_0 : decode cX6_isTight 0 = .ok (.aload_n 0, 1) := by decide +kernel
theorem dX6_isTight_1 : decode cX6_isTight 1 = .ok (.iload_n 1, 1) := by decide +kernel
theorem dX6_isTight_2 : decode cX6_isTight 2 = .ok (.iload_n 2, 1) := by decide +kernel
theorem dX6_isTight_3 : decode cX6_isTight 3 = .ok (.invokevirtual 45, 3) := by decide +kernel
theorem dX6_isTight_6 : decode cX6_isTight 6 = .ok (.ifCond .le 7, 3) := by decide +kernel
theorem dX6_isTight_9 : decode cX6_isTight 9 = .ok (.iconst 1, 1) := by decide +kernel
theorem dX6_isTight_10 : decode cX6_isTight 10 = .ok (.goto 4, 3) := by decide +kernel
theorem dX6_isTight_13 : decode cX6_isTight 13 = .ok (.iconst 0, 1) := by decide +kernel
theorem dX6_isTight_14 : decode cX6_isTight 14 = .ok (.istore_n 3, 1) := by decide +kernel
theorem dX6_isTight_15 : decode cX6_isTight 15 = .ok (.iload_n 3, 1) := by decide +kernel
theorem dX6_isTight_16 : decode cX6_isTight 16 = .ok (.ifCond .eq 10, 3) := by decide +kernel
theorem dX6_isTight_19 : decode cX6_isTight 19 = .ok (.aload_n 0, 1) := by decide +kernel
theorem dX6_isTight_20 : decode cX6_isTight 20 = .ok (.invokevirtual 66, 3) := by decide +kernel
theorem dX6_isTight_23 : decode cX6_isTight 23 = .ok (.goto 4, 3) := by decide +kernel
theorem dX6_isTight_26 : decode cX6_isTight 26 = .ok (.iconst 0, 1) := by decide +kernel
theorem dX6_isTight_27 : decode cX6_isTight 27 = .ok (.istore 4, 2) := by decide +kernel
theorem dX6_isTight_29 : decode cX6_isTight 29 = .ok (.iconst 2, 1) := by decide +kernel
theorem dX6_isTight_30 : decode cX6_isTight 30 = .ok (.istore 5, 2) := by decide +kernel
theorem dX6_isTight_32 : decode cX6_isTight 32 = .ok (.iload 5, 2) := by decide +kernel
theorem dX6_isTight_34 : decode cX6_isTight 34 = .ok (.aload_n 0, 1) := by decide +kernel
theorem dX6_isTight_35 : decode cX6_isTight 35 = .ok (.invokevirtual 49, 3) := by decide +kernel
theorem dX6_isTight_38 : decode cX6_isTight 38 = .ok (.if_icmp .ge 45, 3) := by decide +kernel
theorem dX6_isTight_41 : decode cX6_isTight 41 = .ok (.iload_n 3, 1) := by decide +kernel
theorem dX6_isTight_42 : decode cX6_isTight 42 = .ok (.ifCond .eq 41, 3) := by decide +kernel
theorem dX6_isTight_45 : decode cX6_isTight 45 = .ok (.aload_n 0, 1) := by decide +kernel
theorem dX6_isTight_46 : decode cX6_isTight 46 = .ok (.iload 5, 2) := by decide +kernel
theorem dX6_isTight_48 : decode cX6_isTight 48 = .ok (.invokevirtual 60, 3) := by decide +kernel
theorem dX6_isTight_51 : decode cX6_isTight 51 = .ok (.iload 4, 2) := by decide +kernel
theorem dX6_isTight_53 : decode cX6_isTight 53 = .ok (.if_icmp .ne 18, 3) := by decide +kernel
theorem dX6_isTight_56 : decode cX6_isTight 56 = .ok (.iload 5, 2) := by decide +kernel
theorem dX6_isTight_58 : decode cX6_isTight 58 = .ok (.iload_n 1, 1) := by decide +kernel
theorem dX6_isTight_59 : decode cX6_isTight 59 = .ok (.ishr, 1) := by decide +kernel
theorem dX6_isTight_60 : decode cX6_isTight 60 = .ok (.iconst 1, 1) := by decide +kernel
theorem dX6_isTight_61 : decode cX6_isTight 61 = .ok (.iand, 1) := by decide +kernel
theorem dX6_isTight_62 : decode cX6_isTight 62 = .ok (.iload 5, 2) := by decide +kernel
theorem dX6_isTight_64 : decode cX6_isTight 64 = .ok (.iload_n 2, 1) := by decide +kernel
theorem dX6_isTight_65 : decode cX6_isTight 65 = .ok (.ishr, 1) := by decide +kernel
theorem dX6_isTight_66 : decode cX6_isTight 66 = .ok (.iconst 1, 1) := by decide +kernel
theorem dX6_isTight_67 : decode cX6_isTight 67 = .ok (.iand, 1) := by decide +kernel
theorem dX6_isTight_68 : decode cX6_isTight 68 = .ok (.if_icmp .eq 7, 3) := by decide +kernel
theorem dX6_isTight_71 : decode cX6_isTight 71 = .ok (.iconst 1, 1) := by decide +kernel
theorem dX6_isTight_72 : decode cX6_isTight 72 = .ok (.goto 4, 3) := by decide +kernel
theorem dX6_isTight_75 : decode cX6_isTight 75 = .ok (.iconst 0, 1) := by decide +kernel
theorem dX6_isTight_76 : decode cX6_isTight 76 = .ok (.istore_n 3, 1) := by decide +kernel
theorem dX6_isTight_77 : decode cX6_isTight 77 = .ok (.iinc 5 2, 3) := by decide +kernel
theorem dX6_isTight_80 : decode cX6_isTight 80 = .ok (.goto (-48), 3) := by decide +kernel
theorem dX6_isTight_83 : decode cX6_isTight 83 = .ok (.iload_n 3, 1) := by decide +kernel
theorem dX6_isTight_84 : decode cX6_isTight 84 = .ok (.ireturn, 1) := by decide +kernel
theorem dX6_tightAt_0 : decode cX6_tightAt 0 = .ok (.iload_n 1, 1) := by decide +kernel
theorem dX6_tightAt_1 : decode cX6_tightAt 1 = .ok (.istore_n 2, 1) := by decide +kernel
theorem dX6_tightAt_2 : decode cX6_tightAt 2 = .ok (.iconst 0, 1) := by decide +kernel
theorem dX6_tightAt_3 : decode cX6_tightAt 3 = .ok (.istore_n 3, 1) := by decide +kernel
theorem dX6_tightAt_4 : decode cX6_tightAt 4 = .ok (.iload_n 3, 1) := by decide +kernel
theorem dX6_tightAt_5 : decode cX6_tightAt 5 = .ok (.aload_n 0, 1) := by decide +kernel
theorem dX6_tightAt_6 : decode cX6_tightAt 6 = .ok (.getfield 7, 3) := by decide +kernel
theorem dX6_tightAt_9 : decode cX6_tightAt 9 = .ok (.iconst 0, 1) := by decide +kernel
theorem dX6_tightAt_10 : decode cX6_tightAt 10 = .ok (.iaload, 1) := by decide +kernel
theorem dX6_tightAt_11 : decode cX6_tightAt 11 = .ok (.if_icmp .ge 61, 3) := by decide +kernel
theorem dX6_tightAt_14 : decode cX6_tightAt 14 = .ok (.iload_n 3, 1) := by decide +kernel
theorem dX6_tightAt_15 : decode cX6_tightAt 15 = .ok (.iconst 1, 1) := by decide +kernel
theorem dX6_tightAt_16 : decode cX6_tightAt 16 = .ok (.iadd, 1) := by decide +kernel
theorem dX6_tightAt_17 : decode cX6_tightAt 17 = .ok (.istore 4, 2) := by decide +kernel
theorem dX6_tightAt_19 : decode cX6_tightAt 19 = .ok (.iload 4, 2) := by decide +kernel
theorem dX6_tightAt_21 : decode cX6_tightAt 21 = .ok (.aload_n 0, 1) := by decide +kernel
theorem dX6_tightAt_22 : decode cX6_tightAt 22 = .ok (.getfield 7, 3) := by decide +kernel
theorem dX6_tightAt_25 : decode cX6_tightAt 25 = .ok (.iconst 0, 1) := by decide +kernel
theorem dX6_tightAt_26 : decode cX6_tightAt 26 = .ok (.iaload, 1) := by decide +kernel
theorem dX6_tightAt_27 : decode cX6_tightAt 27 = .ok (.if_icmp .ge 39, 3) := by decide +kernel
theorem dX6_tightAt_30 : decode cX6_tightAt 30 = .ok (.iload_n 2, 1) := by decide +kernel
theorem dX6_tightAt_31 : decode cX6_tightAt 31 = .ok (.aload_n 0, 1) := by decide +kernel
theorem dX6_tightAt_32 : decode cX6_tightAt 32 = .ok (.iload_n 3, 1) := by decide +kernel
theorem dX6_tightAt_33 : decode cX6_tightAt 33 = .ok (.iload 4, 2) := by decide +kernel
theorem dX6_tightAt_35 : decode cX6_tightAt 35 = .ok (.invokevirtual 73, 3) := by decide +kernel
theorem dX6_tightAt_38 : decode cX6_tightAt 38 = .ok (.ifCond .eq 7, 3) := by decide +kernel
theorem dX6_tightAt_41 : decode cX6_tightAt 41 = .ok (.iconst 1, 1) := by decide +kernel
theorem dX6_tightAt_42 : decode cX6_tightAt 42 = .ok (.goto 4, 3) := by decide +kernel
theorem dX6_tightAt_45 : decode cX6_tightAt 45 = .ok (.iconst 0, 1) := by decide +kernel
theorem dX6_tightAt_46 : decode cX6_tightAt 46 = .ok (.isub, 1) := by decide +kernel
theorem dX6_tightAt_47 : decode cX6_tightAt 47 = .ok (.istore_n 2, 1) := by decide +kernel
theorem dX6_tightAt_48 : decode cX6_tightAt 48 = .ok (.iload_n 2, 1) := by decide +kernel
theorem dX6_tightAt_49 : decode cX6_tightAt 49 = .ok (.ifCond .ge 11, 3) := by decide +kernel
theorem dX6_tightAt_52 : decode cX6_tightAt 52 = .ok (.bipush 10, 2) := by decide +kernel
theorem dX6_tightAt_54 : decode cX6_tightAt 54 = .ok (.iload_n 3, 1) := by decide +kernel
theorem dX6_tightAt_55 : decode cX6_tightAt 55 = .ok (.imul, 1) := by decide +kernel
theorem dX6_tightAt_56 : decode cX6_tightAt 56 = .ok (.iload 4, 2) := by decide +kernel
theorem dX6_tightAt_58 : decode cX6_tightAt 58 = .ok (.iadd, 1) := by decide +kernel
theorem dX6_tightAt_59 : decode cX6_tightAt 59 = .ok (.ireturn, 1) := by decide +kernel
theorem dX6_tightAt_60 : decode cX6_tightAt 60 = .ok (.iinc 4 1, 3) := by decide +kernel
theorem dX6_tightAt_63 : decode cX6_tightAt 63 = .ok (.goto (-44), 3) := by decide +kernel
theorem dX6_tightAt_66 : decode cX6_tightAt 66 = .ok (.iinc 3 1, 3) := by decide +kernel
theorem dX6_tightAt_69 : decode cX6_tightAt 69 = .ok (.goto (-65), 3) := by decide +kernel
theorem dX6_tightAt_72 : decode cX6_tightAt 72 = .ok (.bipush (-5), 2) := by decide +kernel
theorem dX6_tightAt_74 : decode cX6_tightAt 74 = .ok (.ireturn, 1) := by decide +kernel
theorem dX6_tightMany_0 : decode cX6_tightMany 0 = .ok (.iconst 0, 1) := by decide +kernel
theorem dX6_tightMany_1 : decode cX6_tightMany 1 = .ok (.istore_n 2, 1) := by decide +kernel
theorem dX6_tightMany_2 : decode cX6_tightMany 2 = .ok (.iconst 0, 1) := by decide +kernel
theorem dX6_tightMany_3 : decode cX6_tightMany 3 = .ok (.istore_n 3, 1) := by decide +kernel
theorem dX6_tightMany_4 : decode cX6_tightMany 4 = .ok (.iload_n 3, 1) := by decide +kernel
theorem dX6_tightMany_5 : decode cX6_tightMany 5 = .ok (.aload_n 0, 1) := by decide +kernel
theorem dX6_tightMany_6 : decode cX6_tightMany 6 = .ok (.getfield 7, 3) := by decide +kernel
theorem dX6_tightMany_9 : decode cX6_tightMany 9 = .ok (.iconst 0, 1) := by decide +kernel
theorem dX6_tightMany_10 : decode cX6_tightMany 10 = .ok (.iaload, 1) := by decide +kernel
theorem dX6_tightMany_11 : decode cX6_tightMany 11 = .ok (.if_icmp .ge 66, 3) := by decide +kernel
theorem dX6_tightMany_14 : decode cX6_tightMany 14 = .ok (.iload_n 3, 1) := by decide +kernel
theorem dX6_tightMany_15 : decode cX6_tightMany 15 = .ok (.iconst 1, 1) := by decide +kernel
theorem dX6_tightMany_16 : decode cX6_tightMany 16 = .ok (.iadd, 1) := by decide +kernel
theorem dX6_tightMany_17 : decode cX6_tightMany 17 = .ok (.istore 4, 2) := by decide +kernel
theorem dX6_tightMany_19 : decode cX6_tightMany 19 = .ok (.iload 4, 2) := by decide +kernel
theorem dX6_tightMany_21 : decode cX6_tightMany 21 = .ok (.aload_n 0, 1) := by decide +kernel
theorem dX6_tightMany_22 : decode cX6_tightMany 22 = .ok (.getfield 7, 3) := by decide +kernel
theorem dX6_tightMany_25 : decode cX6_tightMany 25 = .ok (.iconst 0, 1) := by decide +kernel
theorem dX6_tightMany_26 : decode cX6_tightMany 26 = .ok (.iaload, 1) := by decide +kernel
theorem dX6_tightMany_27 : decode cX6_tightMany 27 = .ok (.if_icmp .ge 44, 3) := by decide +kernel
theorem dX6_tightMany_30 : decode cX6_tightMany 30 = .ok (.iload_n 2, 1) := by decide +kernel
theorem dX6_tightMany_31 : decode cX6_tightMany 31 = .ok (.iload_n 1, 1) := by decide +kernel
theorem dX6_tightMany_32 : decode cX6_tightMany 32 = .ok (.bipush (-5), 2) := by decide +kernel
theorem dX6_tightMany_34 : decode cX6_tightMany 34 = .ok (.if_icmp .eq 14, 3) := by decide +kernel
theorem dX6_tightMany_37 : decode cX6_tightMany 37 = .ok (.iload_n 3, 1) := by decide +kernel
theorem dX6_tightMany_38 : decode cX6_tightMany 38 = .ok (.iload_n 1, 1) := by decide +kernel
theorem dX6_tightMany_39 : decode cX6_tightMany 39 = .ok (.if_icmp .eq 9, 3) := by decide +kernel
theorem dX6_tightMany_42 : decode cX6_tightMany 42 = .ok (.iload 4, 2) := by decide +kernel
theorem dX6_tightMany_44 : decode cX6_tightMany 44 = .ok (.iload_n 1, 1) := by decide +kernel
theorem dX6_tightMany_45 : decode cX6_tightMany 45 = .ok (.if_icmp .ne 17, 3) := by decide +kernel
theorem dX6_tightMany_48 : decode cX6_tightMany 48 = .ok (.aload_n 0, 1) := by decide +kernel
theorem dX6_tightMany_49 : decode cX6_tightMany 49 = .ok (.iload_n 3, 1) := by decide +kernel
theorem dX6_tightMany_50 : decode cX6_tightMany 50 = .ok (.iload 4, 2) := by decide +kernel
theorem dX6_tightMany_52 : decode cX6_tightMany 52 = .ok (.invokevirtual 73, 3) := by decide +kernel
theorem dX6_tightMany_55 : decode cX6_tightMany 55 = .ok (.ifCond .eq 7, 3) := by decide +kernel
theorem dX6_tightMany_58 : decode cX6_tightMany 58 = .ok (.iconst 1, 1) := by decide +kernel
theorem dX6_tightMany_59 : decode cX6_tightMany 59 = .ok (.goto 4, 3) := by decide +kernel
theorem dX6_tightMany_62 : decode cX6_tightMany 62 = .ok (.iconst 0, 1) := by decide +kernel
theorem dX6_tightMany_63 : decode cX6_tightMany 63 = .ok (.iadd, 1) := by decide +kernel
theorem dX6_tightMany_64 : decode cX6_tightMany 64 = .ok (.istore_n 2, 1) := by decide +kernel
theorem dX6_tightMany_65 : decode cX6_tightMany 65 = .ok (.iinc 4 1, 3) := by decide +kernel
theorem dX6_tightMany_68 : decode cX6_tightMany 68 = .ok (.goto (-49), 3) := by decide +kernel
theorem dX6_tightMany_71 : decode cX6_tightMany 71 = .ok (.iinc 3 1, 3) := by decide +kernel
theorem dX6_tightMany_74 : decode cX6_tightMany 74 = .ok (.goto (-70), 3) := by decide +kernel
theorem dX6_tightMany_77 : decode cX6_tightMany 77 = .ok (.iload_n 2, 1) := by decide +kernel
theorem dX6_tightMany_78 : decode cX6_tightMany 78 = .ok (.ireturn, 1) := by decide +kernel
theorem dX6_nameOf_0 : decode cX6_nameOf 0 = .ok (.iconst 0, 1) := by decide +kernel
theorem dX6_nameOf_1 : decode cX6_nameOf 1 = .ok (.istore_n 1, 1) := by decide +kernel
theorem dX6_nameOf_2 : decode cX6_nameOf 2 = .ok (.iload_n 0, 1) := by decide +kernel
theorem dX6_nameOf_3 : decode cX6_nameOf 3 = .ok (.iload_n 1, 1) := by decide +kernel
theorem dX6_nameOf_4 : decode cX6_nameOf 4 = .ok (.ishr, 1) := by decide +kernel
theorem dX6_nameOf_5 : decode cX6_nameOf 5 = .ok (.iconst 1, 1) := by decide +kernel
theorem dX6_nameOf_6 : decode cX6_nameOf 6 = .ok (.iand, 1) := by decide +kernel
theorem dX6_nameOf_7 : decode cX6_nameOf 7 = .ok (.ifCond .ne 9, 3) := by decide +kernel
theorem dX6_nameOf_10 : decode cX6_nameOf 10 = .ok (.iinc 1 1, 3) := by decide +kernel
theorem dX6_nameOf_13 : decode cX6_nameOf 13 = .ok (.goto (-11), 3) := by decide +kernel
theorem dX6_nameOf_16 : decode cX6_nameOf 16 = .ok (.iload_n 1, 1) := by decide +kernel
theorem dX6_nameOf_17 : decode cX6_nameOf 17 = .ok (.ireturn, 1) := by decide +kernel
theorem dX6_nearest_0 : decode cX6_nearest 0 = .ok (.bipush (-5), 2) := by decide +kernel
theorem dX6_nearest_2 : decode cX6_nearest 2 = .ok (.istore_n 2, 1) := by decide +kernel
theorem dX6_nearest_3 : decode cX6_nearest 3 = .ok (.iconst 0, 1) := by decide +kernel
theorem dX6_nearest_4 : decode cX6_nearest 4 = .ok (.istore_n 3, 1) := by decide +kernel
theorem dX6_nearest_5 : decode cX6_nearest 5 = .ok (.iconst 0, 1) := by decide +kernel
theorem dX6_nearest_6 : decode cX6_nearest 6 = .ok (.istore 4, 2) := by decide +kernel
theorem dX6_nearest_8 : decode cX6_nearest 8 = .ok (.iload 4, 2) := by decide +kernel
theorem dX6_nearest_10 : decode cX6_nearest 10 = .ok (.aload_n 0, 1) := by decide +kernel
theorem dX6_nearest_11 : decode cX6_nearest 11 = .ok (.getfield 77, 3) := by decide +kernel
theorem dX6_nearest_14 : decode cX6_nearest 14 = .ok (.if_icmp .ge 106, 3) := by decide +kernel
theorem dX6_nearest_17 : decode cX6_nearest 17 = .ok (.aload_n 0, 1) := by decide +kernel
theorem dX6_nearest_18 : decode cX6_nearest 18 = .ok (.getfield 22, 3) := by decide +kernel
theorem dX6_nearest_21 : decode cX6_nearest 21 = .ok (.iload 4, 2) := by decide +kernel
theorem dX6_nearest_23 : decode cX6_nearest 23 = .ok (.iaload, 1) := by decide +kernel
theorem dX6_nearest_24 : decode cX6_nearest 24 = .ok (.iload_n 1, 1) := by decide +kernel
theorem dX6_nearest_25 : decode cX6_nearest 25 = .ok (.iand, 1) := by decide +kernel
theorem dX6_nearest_26 : decode cX6_nearest 26 = .ok (.ifCond .ne 88, 3) := by decide +kernel
theorem dX6_nearest_29 : decode cX6_nearest 29 = .ok (.aload_n 0, 1) := by decide +kernel
theorem dX6_nearest_30 : decode cX6_nearest 30 = .ok (.aload_n 0, 1) := by decide +kernel
theorem dX6_nearest_31 : decode cX6_nearest 31 = .ok (.getfield 22, 3) := by decide +kernel
theorem dX6_nearest_34 : decode cX6_nearest 34 = .ok (.iload 4, 2) := by decide +kernel
theorem dX6_nearest_36 : decode cX6_nearest 36 = .ok (.iaload, 1) := by decide +kernel
theorem dX6_nearest_37 : decode cX6_nearest 37 = .ok (.iload_n 1, 1) := by decide +kernel
theorem dX6_nearest_38 : decode cX6_nearest 38 = .ok (.invokevirtual 53, 3) := by decide +kernel
theorem dX6_nearest_41 : decode cX6_nearest 41 = .ok (.istore 5, 2) := by decide +kernel
theorem dX6_nearest_43 : decode cX6_nearest 43 = .ok (.iload_n 2, 1) := by decide +kernel
theorem dX6_nearest_44 : decode cX6_nearest 44 = .ok (.bipush (-5), 2) := by decide +kernel
theorem dX6_nearest_46 : decode cX6_nearest 46 = .ok (.if_icmp .eq 37, 3) := by decide +kernel
theorem dX6_nearest_49 : decode cX6_nearest 49 = .ok (.iload 5, 2) := by decide +kernel
theorem dX6_nearest_51 : decode cX6_nearest 51 = .ok (.iload_n 3, 1) := by decide +kernel
theorem dX6_nearest_52 : decode cX6_nearest 52 = .ok (.if_icmp .gt 31, 3) := by decide +kernel
theorem dX6_nearest_55 : decode cX6_nearest 55 = .ok (.iload 5, 2) := by decide +kernel
theorem dX6_nearest_57 : decode cX6_nearest 57 = .ok (.iload_n 3, 1) := by decide +kernel
theorem dX6_nearest_58 : decode cX6_nearest 58 = .ok (.if_icmp .ne 29, 3) := by decide +kernel
theorem dX6_nearest_61 : decode cX6_nearest 61 = .ok (.aload_n 0, 1) := by decide +kernel
theorem dX6_nearest_62 : decode cX6_nearest 62 = .ok (.getfield 22, 3) := by decide +kernel
theorem dX6_nearest_65 : decode cX6_nearest 65 = .ok (.iload 4, 2) := by decide +kernel
theorem dX6_nearest_67 : decode cX6_nearest 67 = .ok (.iaload, 1) := by decide +kernel
theorem dX6_nearest_68 : decode cX6_nearest 68 = .ok (.invokestatic 80, 3) := by decide +kernel
theorem dX6_nearest_71 : decode cX6_nearest 71 = .ok (.aload_n 0, 1) := by decide +kernel
theorem dX6_nearest_72 : decode cX6_nearest 72 = .ok (.getfield 22, 3) := by decide +kernel
theorem dX6_nearest_75 : decode cX6_nearest 75 = .ok (.iload_n 2, 1) := by decide +kernel
theorem dX6_nearest_76 : decode cX6_nearest 76 = .ok (.iaload, 1) := by decide +kernel
theorem dX6_nearest_77 : decode cX6_nearest 77 = .ok (.invokestatic 80, 3) := by decide +kernel
theorem dX6_nearest_80 : decode cX6_nearest 80 = .ok (.if_icmp .ge 7, 3) := by decide +kernel
theorem dX6_nearest_83 : decode cX6_nearest 83 = .ok (.iconst 1, 1) := by decide +kernel
theorem dX6_nearest_84 : decode cX6_nearest 84 = .ok (.goto 4, 3) := by decide +kernel
theorem dX6_nearest_87 : decode cX6_nearest 87 = .ok (.iconst 0, 1) := by decide +kernel
theorem dX6_nearest_88 : decode cX6_nearest 88 = .ok (.istore 6, 2) := by decide +kernel
theorem dX6_nearest_90 : decode cX6_nearest 90 = .ok (.iload 6, 2) := by decide +kernel
theorem dX6_nearest_92 : decode cX6_nearest 92 = .ok (.ifCond .eq 8, 3) := by decide +kernel
theorem dX6_nearest_95 : decode cX6_nearest 95 = .ok (.iload 4, 2) := by decide +kernel
theorem dX6_nearest_97 : decode cX6_nearest 97 = .ok (.goto 4, 3) := by decide +kernel
theorem dX6_nearest_100 : decode cX6_nearest 100 = .ok (.iload_n 2, 1) := by decide +kernel
theorem dX6_nearest_101 : decode cX6_nearest 101 = .ok (.istore_n 2, 1) := by decide +kernel
theorem dX6_nearest_102 : decode cX6_nearest 102 = .ok (.iload 6, 2) := by decide +kernel
theorem dX6_nearest_104 : decode cX6_nearest 104 = .ok (.ifCond .eq 8, 3) := by decide +kernel
theorem dX6_nearest_107 : decode cX6_nearest 107 = .ok (.iload 5, 2) := by decide +kernel
theorem dX6_nearest_109 : decode cX6_nearest 109 = .ok (.goto 4, 3) := by decide +kernel
theorem dX6_nearest_112 : decode cX6_nearest 112 = .ok (.iload_n 3, 1) := by decide +kernel
theorem dX6_nearest_113 : decode cX6_nearest 113 = .ok (.istore_n 3, 1) := by decide +kernel
theorem dX6_nearest_114 : decode cX6_nearest 114 = .ok (.iinc 4 1, 3) := by decide +kernel
theorem dX6_nearest_117 : decode cX6_nearest 117 = .ok (.goto (-109), 3) := by decide +kernel
theorem dX6_nearest_120 : decode cX6_nearest 120 = .ok (.iload_n 2, 1) := by decide +kernel
theorem dX6_nearest_121 : decode cX6_nearest 121 = .ok (.ireturn, 1) := by decide +kernel
theorem dX6_swallows_0 : decode cX6_swallows 0 = .ok (.iconst 0, 1) := by decide +kernel
theorem dX6_swallows_1 : decode cX6_swallows 1 = .ok (.istore_n 1, 1) := by decide +kernel
theorem dX6_swallows_2 : decode cX6_swallows 2 = .ok (.iconst 0, 1) := by decide +kernel
theorem dX6_swallows_3 : decode cX6_swallows 3 = .ok (.istore_n 2, 1) := by decide +kernel
theorem dX6_swallows_4 : decode cX6_swallows 4 = .ok (.iload_n 2, 1) := by decide +kernel
theorem dX6_swallows_5 : decode cX6_swallows 5 = .ok (.aload_n 0, 1) := by decide +kernel
theorem dX6_swallows_6 : decode cX6_swallows 6 = .ok (.getfield 77, 3) := by decide +kernel
theorem dX6_swallows_9 : decode cX6_swallows 9 = .ok (.if_icmp .ge 41, 3) := by decide +kernel
theorem dX6_swallows_12 : decode cX6_swallows 12 = .ok (.iload_n 1, 1) := by decide +kernel
theorem dX6_swallows_13 : decode cX6_swallows 13 = .ok (.aload_n 0, 1) := by decide +kernel
theorem dX6_swallows_14 : decode cX6_swallows 14 = .ok (.getfield 22, 3) := by decide +kernel
theorem dX6_swallows_17 : decode cX6_swallows 17 = .ok (.iload_n 2, 1) := by decide +kernel
theorem dX6_swallows_18 : decode cX6_swallows 18 = .ok (.iaload, 1) := by decide +kernel
theorem dX6_swallows_19 : decode cX6_swallows 19 = .ok (.aload_n 0, 1) := by decide +kernel
theorem dX6_swallows_20 : decode cX6_swallows 20 = .ok (.getfield 7, 3) := by decide +kernel
theorem dX6_swallows_23 : decode cX6_swallows 23 = .ok (.iconst 1, 1) := by decide +kernel
theorem dX6_swallows_24 : decode cX6_swallows 24 = .ok (.iaload, 1) := by decide +kernel
theorem dX6_swallows_25 : decode cX6_swallows 25 = .ok (.ishr, 1) := by decide +kernel
theorem dX6_swallows_26 : decode cX6_swallows 26 = .ok (.iconst 1, 1) := by decide +kernel
theorem dX6_swallows_27 : decode cX6_swallows 27 = .ok (.iand, 1) := by decide +kernel
theorem dX6_swallows_28 : decode cX6_swallows 28 = .ok (.iconst 1, 1) := by decide +kernel
theorem dX6_swallows_29 : decode cX6_swallows 29 = .ok (.if_icmp .ne 12, 3) := by decide +kernel
theorem dX6_swallows_32 : decode cX6_swallows 32 = .ok (.aload_n 0, 1) := by decide +kernel
theorem dX6_swallows_33 : decode cX6_swallows 33 = .ok (.getfield 22, 3) := by decide +kernel
theorem dX6_swallows_36 : decode cX6_swallows 36 = .ok (.iload_n 2, 1) := by decide +kernel
theorem dX6_swallows_37 : decode cX6_swallows 37 = .ok (.iaload, 1) := by decide +kernel
theorem dX6_swallows_38 : decode cX6_swallows 38 = .ok (.goto 4, 3) := by decide +kernel
theorem dX6_swallows_41 : decode cX6_swallows 41 = .ok (.iconst 0, 1) := by decide +kernel
theorem dX6_swallows_42 : decode cX6_swallows 42 = .ok (.ior, 1) := by decide +kernel
theorem dX6_swallows_43 : decode cX6_swallows 43 = .ok (.istore_n 1, 1) := by decide +kernel
theorem dX6_swallows_44 : decode cX6_swallows 44 = .ok (.iinc 2 1, 3) := by decide +kernel
theorem dX6_swallows_47 : decode cX6_swallows 47 = .ok (.goto (-43), 3) := by decide +kernel
theorem dX6_swallows_50 : decode cX6_swallows 50 = .ok (.aload_n 0, 1) := by decide +kernel
theorem dX6_swallows_51 : decode cX6_swallows 51 = .ok (.getfield 25, 3) := by decide +kernel
theorem dX6_swallows_54 : decode cX6_swallows 54 = .ok (.iconst 0, 1) := by decide +kernel
theorem dX6_swallows_55 : decode cX6_swallows 55 = .ok (.iload_n 1, 1) := by decide +kernel
theorem dX6_swallows_56 : decode cX6_swallows 56 = .ok (.iastore, 1) := by decide +kernel
theorem dX6_swallows_57 : decode cX6_swallows 57 = .ok (.aload_n 0, 1) := by decide +kernel
theorem dX6_swallows_58 : decode cX6_swallows 58 = .ok (.getfield 28, 3) := by decide +kernel
theorem dX6_swallows_61 : decode cX6_swallows 61 = .ok (.iconst 0, 1) := by decide +kernel
theorem dX6_swallows_62 : decode cX6_swallows 62 = .ok (.iconst 0, 1) := by decide +kernel
theorem dX6_swallows_63 : decode cX6_swallows 63 = .ok (.iastore, 1) := by decide +kernel
theorem dX6_swallows_64 : decode cX6_swallows 64 = .ok (.iconst 1, 1) := by decide +kernel
theorem dX6_swallows_65 : decode cX6_swallows 65 = .ok (.istore_n 2, 1) := by decide +kernel
theorem dX6_swallows_66 : decode cX6_swallows 66 = .ok (.iload_n 2, 1) := by decide +kernel
theorem dX6_swallows_67 : decode cX6_swallows 67 = .ok (.aload_n 0, 1) := by decide +kernel
theorem dX6_swallows_68 : decode cX6_swallows 68 = .ok (.getfield 77, 3) := by decide +kernel
theorem dX6_swallows_71 : decode cX6_swallows 71 = .ok (.if_icmp .ge 53, 3) := by decide +kernel
theorem dX6_swallows_74 : decode cX6_swallows 74 = .ok (.aload_n 0, 1) := by decide +kernel
theorem dX6_swallows_75 : decode cX6_swallows 75 = .ok (.iload_n 1, 1) := by decide +kernel
theorem dX6_swallows_76 : decode cX6_swallows 76 = .ok (.invokevirtual 83, 3) := by decide +kernel
theorem dX6_swallows_79 : decode cX6_swallows 79 = .ok (.istore_n 3, 1) := by decide +kernel
theorem dX6_swallows_80 : decode cX6_swallows 80 = .ok (.aload_n 0, 1) := by decide +kernel
theorem dX6_swallows_81 : decode cX6_swallows 81 = .ok (.getfield 25, 3) := by decide +kernel
theorem dX6_swallows_84 : decode cX6_swallows 84 = .ok (.iload_n 2, 1) := by decide +kernel
theorem dX6_swallows_85 : decode cX6_swallows 85 = .ok (.aload_n 0, 1) := by decide +kernel
theorem dX6_swallows_86 : decode cX6_swallows 86 = .ok (.getfield 22, 3) := by decide +kernel
theorem dX6_swallows_89 : decode cX6_swallows 89 = .ok (.iload_n 3, 1) := by decide +kernel
theorem dX6_swallows_90 : decode cX6_swallows 90 = .ok (.iaload, 1) := by decide +kernel
theorem dX6_swallows_91 : decode cX6_swallows 91 = .ok (.iastore, 1) := by decide +kernel
theorem dX6_swallows_92 : decode cX6_swallows 92 = .ok (.aload_n 0, 1) := by decide +kernel
theorem dX6_swallows_93 : decode cX6_swallows 93 = .ok (.getfield 28, 3) := by decide +kernel
theorem dX6_swallows_96 : decode cX6_swallows 96 = .ok (.iload_n 2, 1) := by decide +kernel
theorem dX6_swallows_97 : decode cX6_swallows 97 = .ok (.aload_n 0, 1) := by decide +kernel
theorem dX6_swallows_98 : decode cX6_swallows 98 = .ok (.aload_n 0, 1) := by decide +kernel
theorem dX6_swallows_99 : decode cX6_swallows 99 = .ok (.getfield 22, 3) := by decide +kernel
theorem dX6_swallows_102 : decode cX6_swallows 102 = .ok (.iload_n 3, 1) := by decide +kernel
theorem dX6_swallows_103 : decode cX6_swallows 103 = .ok (.iaload, 1) := by decide +kernel
theorem dX6_swallows_104 : decode cX6_swallows 104 = .ok (.iload_n 1, 1) := by decide +kernel
theorem dX6_swallows_105 : decode cX6_swallows 105 = .ok (.invokevirtual 53, 3) := by decide +kernel
theorem dX6_swallows_108 : decode cX6_swallows 108 = .ok (.iastore, 1) := by decide +kernel
theorem dX6_swallows_109 : decode cX6_swallows 109 = .ok (.iload_n 1, 1) := by decide +kernel
theorem dX6_swallows_110 : decode cX6_swallows 110 = .ok (.aload_n 0, 1) := by decide +kernel
theorem dX6_swallows_111 : decode cX6_swallows 111 = .ok (.getfield 22, 3) := by decide +kernel
theorem dX6_swallows_114 : decode cX6_swallows 114 = .ok (.iload_n 3, 1) := by decide +kernel
theorem dX6_swallows_115 : decode cX6_swallows 115 = .ok (.iaload, 1) := by decide +kernel
theorem dX6_swallows_116 : decode cX6_swallows 116 = .ok (.ior, 1) := by decide +kernel
theorem dX6_swallows_117 : decode cX6_swallows 117 = .ok (.istore_n 1, 1) := by decide +kernel
theorem dX6_swallows_118 : decode cX6_swallows 118 = .ok (.iinc 2 1, 3) := by decide +kernel
theorem dX6_swallows_121 : decode cX6_swallows 121 = .ok (.goto (-55), 3) := by decide +kernel
theorem dX6_swallows_124 : decode cX6_swallows 124 = .ok (.aload_n 0, 1) := by decide +kernel
theorem dX6_swallows_125 : decode cX6_swallows 125 = .ok (.getfield 25, 3) := by decide +kernel
theorem dX6_swallows_128 : decode cX6_swallows 128 = .ok (.aload_n 0, 1) := by decide +kernel
theorem dX6_swallows_129 : decode cX6_swallows 129 = .ok (.getfield 77, 3) := by decide +kernel
theorem dX6_swallows_132 : decode cX6_swallows 132 = .ok (.iconst 1, 1) := by decide +kernel
theorem dX6_swallows_133 : decode cX6_swallows 133 = .ok (.isub, 1) := by decide +kernel
theorem dX6_swallows_134 : decode cX6_swallows 134 = .ok (.iaload, 1) := by decide +kernel
theorem dX6_swallows_135 : decode cX6_swallows 135 = .ok (.istore_n 2, 1) := by decide +kernel
theorem dX6_swallows_136 : decode cX6_swallows 136 = .ok (.aload_n 0, 1) := by decide +kernel
theorem dX6_swallows_137 : decode cX6_swallows 137 = .ok (.iload_n 2, 1) := by decide +kernel
theorem dX6_swallows_138 : decode cX6_swallows 138 = .ok (.iconst 1, 1) := by decide +kernel
theorem dX6_swallows_139 : decode cX6_swallows 139 = .ok (.iand, 1) := by decide +kernel
theorem dX6_swallows_140 : decode cX6_swallows 140 = .ok (.iconst 1, 1) := by decide +kernel
theorem dX6_swallows_141 : decode cX6_swallows 141 = .ok (.if_icmp .ne 14, 3) := by decide +kernel
theorem dX6_swallows_144 : decode cX6_swallows 144 = .ok (.aload_n 0, 1) := by decide +kernel
theorem dX6_swallows_145 : decode cX6_swallows 145 = .ok (.invokevirtual 49, 3) := by decide +kernel
theorem dX6_swallows_148 : decode cX6_swallows 148 = .ok (.iload_n 2, 1) := by decide +kernel
theorem dX6_swallows_149 : decode cX6_swallows 149 = .ok (.iconst (-1), 1) := by decide +kernel
theorem dX6_swallows_150 : decode cX6_swallows 150 = .ok (.ixor, 1) := by decide +kernel
theorem dX6_swallows_151 : decode cX6_swallows 151 = .ok (.iand, 1) := by decide +kernel
theorem dX6_swallows_152 : decode cX6_swallows 152 = .ok (.goto 4, 3) := by decide +kernel
theorem dX6_swallows_155 : decode cX6_swallows 155 = .ok (.iload_n 2, 1) := by decide +kernel
theorem dX6_swallows_156 : decode cX6_swallows 156 = .ok (.putfield 86, 3) := by decide +kernel
theorem dX6_swallows_159 : decode cX6_swallows 159 = .ok (.aload_n 0, 1) := by decide +kernel
theorem dX6_swallows_160 : decode cX6_swallows 160 = .ok (.aload_n 0, 1) := by decide +kernel
theorem dX6_swallows_161 : decode cX6_swallows 161 = .ok (.getfield 28, 3) := by decide +kernel
theorem dX6_swallows_164 : decode cX6_swallows 164 = .ok (.aload_n 0, 1) := by decide +kernel
theorem dX6_swallows_165 : decode cX6_swallows 165 = .ok (.getfield 77, 3) := by decide +kernel
theorem dX6_swallows_168 : decode cX6_swallows 168 = .ok (.iconst 1, 1) := by decide +kernel
theorem dX6_swallows_169 : decode cX6_swallows 169 = .ok (.isub, 1) := by decide +kernel
theorem dX6_swallows_170 : decode cX6_swallows 170 = .ok (.iaload, 1) := by decide +kernel
theorem dX6_swallows_171 : decode cX6_swallows 171 = .ok (.putfield 89, 3) := by decide +kernel
theorem dX6_swallows_174 : decode cX6_swallows 174 = .ok (.return_, 1) := by decide +kernel
theorem dX6_joinsLast_0 : decode cX6_joinsLast 0 = .ok (.aload_n 0, 1) := by decide +kernel
theorem dX6_joinsLast_1 : decode cX6_joinsLast 1 = .ok (.getfield 25, 3) := by decide +kernel
theorem dX6_joinsLast_4 : decode cX6_joinsLast 4 = .ok (.aload_n 0, 1) := by decide +kernel
theorem dX6_joinsLast_5 : decode cX6_joinsLast 5 = .ok (.getfield 77, 3) := by decide +kernel
theorem dX6_joinsLast_8 : decode cX6_joinsLast 8 = .ok (.iconst 1, 1) := by decide +kernel
theorem dX6_joinsLast_9 : decode cX6_joinsLast 9 = .ok (.isub, 1) := by decide +kernel
theorem dX6_joinsLast_10 : decode cX6_joinsLast 10 = .ok (.iaload, 1) := by decide +kernel
theorem dX6_joinsLast_11 : decode cX6_joinsLast 11 = .ok (.istore_n 1, 1) := by decide +kernel
theorem dX6_joinsLast_12 : decode cX6_joinsLast 12 = .ok (.aload_n 0, 1) := by decide +kernel
theorem dX6_joinsLast_13 : decode cX6_joinsLast 13 = .ok (.getfield 25, 3) := by decide +kernel
theorem dX6_joinsLast_16 : decode cX6_joinsLast 16 = .ok (.aload_n 0, 1) := by decide +kernel
theorem dX6_joinsLast_17 : decode cX6_joinsLast 17 = .ok (.getfield 77, 3) := by decide +kernel
theorem dX6_joinsLast_20 : decode cX6_joinsLast 20 = .ok (.iconst 2, 1) := by decide +kernel
theorem dX6_joinsLast_21 : decode cX6_joinsLast 21 = .ok (.isub, 1) := by decide +kernel
theorem dX6_joinsLast_22 : decode cX6_joinsLast 22 = .ok (.iaload, 1) := by decide +kernel
theorem dX6_joinsLast_23 : decode cX6_joinsLast 23 = .ok (.istore_n 2, 1) := by decide +kernel
theorem dX6_joinsLast_24 : decode cX6_joinsLast 24 = .ok (.iconst 0, 1) := by decide +kernel
theorem dX6_joinsLast_25 : decode cX6_joinsLast 25 = .ok (.istore_n 3, 1) := by decide +kernel
theorem dX6_joinsLast_26 : decode cX6_joinsLast 26 = .ok (.iconst 0, 1) := by decide +kernel
theorem dX6_joinsLast_27 : decode cX6_joinsLast 27 = .ok (.istore 4, 2) := by decide +kernel
theorem dX6_joinsLast_29 : decode cX6_joinsLast 29 = .ok (.iload 4, 2) := by decide +kernel
theorem dX6_joinsLast_31 : decode cX6_joinsLast 31 = .ok (.aload_n 0, 1) := by decide +kernel
theorem dX6_joinsLast_32 : decode cX6_joinsLast 32 = .ok (.getfield 77, 3) := by decide +kernel
theorem dX6_joinsLast_35 : decode cX6_joinsLast 35 = .ok (.if_icmp .ge 53, 3) := by decide +kernel
theorem dX6_joinsLast_38 : decode cX6_joinsLast 38 = .ok (.aload_n 0, 1) := by decide +kernel
theorem dX6_joinsLast_39 : decode cX6_joinsLast 39 = .ok (.getfield 22, 3) := by decide +kernel
theorem dX6_joinsLast_42 : decode cX6_joinsLast 42 = .ok (.iload 4, 2) := by decide +kernel
theorem dX6_joinsLast_44 : decode cX6_joinsLast 44 = .ok (.iaload, 1) := by decide +kernel
theorem dX6_joinsLast_45 : decode cX6_joinsLast 45 = .ok (.iload_n 1, 1) := by decide +kernel
theorem dX6_joinsLast_46 : decode cX6_joinsLast 46 = .ok (.if_icmp .eq 36, 3) := by decide +kernel
theorem dX6_joinsLast_49 : decode cX6_joinsLast 49 = .ok (.aload_n 0, 1) := by decide +kernel
theorem dX6_joinsLast_50 : decode cX6_joinsLast 50 = .ok (.getfield 22, 3) := by decide +kernel
theorem dX6_joinsLast_53 : decode cX6_joinsLast 53 = .ok (.iload_n 3, 1) := by decide +kernel
theorem dX6_joinsLast_54 : decode cX6_joinsLast 54 = .ok (.aload_n 0, 1) := by decide +kernel
theorem dX6_joinsLast_55 : decode cX6_joinsLast 55 = .ok (.getfield 22, 3) := by decide +kernel
theorem dX6_joinsLast_58 : decode cX6_joinsLast 58 = .ok (.iload 4, 2) := by decide +kernel
theorem dX6_joinsLast_60 : decode cX6_joinsLast 60 = .ok (.iaload, 1) := by decide +kernel
theorem dX6_joinsLast_61 : decode cX6_joinsLast 61 = .ok (.iload_n 2, 1) := by decide +kernel
theorem dX6_joinsLast_62 : decode cX6_joinsLast 62 = .ok (.if_icmp .ne 9, 3) := by decide +kernel
theorem dX6_joinsLast_65 : decode cX6_joinsLast 65 = .ok (.iload_n 2, 1) := by decide +kernel
theorem dX6_joinsLast_66 : decode cX6_joinsLast 66 = .ok (.iload_n 1, 1) := by decide +kernel
theorem dX6_joinsLast_67 : decode cX6_joinsLast 67 = .ok (.ior, 1) := by decide +kernel
theorem dX6_joinsLast_68 : decode cX6_joinsLast 68 = .ok (.goto 10, 3) := by decide +kernel
theorem dX6_joinsLast_71 : decode cX6_joinsLast 71 = .ok (.aload_n 0, 1) := by decide +kernel
theorem dX6_joinsLast_72 : decode cX6_joinsLast 72 = .ok (.getfield 22, 3) := by decide +kernel
theorem dX6_joinsLast_75 : decode cX6_joinsLast 75 = .ok (.iload 4, 2) := by decide +kernel
theorem dX6_joinsLast_77 : decode cX6_joinsLast 77 = .ok (.iaload, 1) := by decide +kernel
theorem dX6_joinsLast_78 : decode cX6_joinsLast 78 = .ok (.iastore, 1) := by decide +kernel
theorem dX6_joinsLast_79 : decode cX6_joinsLast 79 = .ok (.iinc 3 1, 3) := by decide +kernel
theorem dX6_joinsLast_82 : decode cX6_joinsLast 82 = .ok (.iinc 4 1, 3) := by decide +kernel
theorem dX6_joinsLast_85 : decode cX6_joinsLast 85 = .ok (.goto (-56), 3) := by decide +kernel
theorem dX6_joinsLast_88 : decode cX6_joinsLast 88 = .ok (.aload_n 0, 1) := by decide +kernel
theorem dX6_joinsLast_89 : decode cX6_joinsLast 89 = .ok (.iload_n 3, 1) := by decide +kernel
theorem dX6_joinsLast_90 : decode cX6_joinsLast 90 = .ok (.putfield 77, 3) := by decide +kernel
theorem dX6_joinsLast_93 : decode cX6_joinsLast 93 = .ok (.return_, 1) := by decide +kernel
theorem dX6_laysPhase_0 : decode cX6_laysPhase 0 = .ok (.aload_n 0, 1) := by decide +kernel
theorem dX6_laysPhase_1 : decode cX6_laysPhase 1 = .ok (.aload_n 0, 1) := by decide +kernel
theorem dX6_laysPhase_2 : decode cX6_laysPhase 2 = .ok (.getfield 7, 3) := by decide +kernel
theorem dX6_laysPhase_5 : decode cX6_laysPhase 5 = .ok (.iconst 0, 1) := by decide +kernel
theorem dX6_laysPhase_6 : decode cX6_laysPhase 6 = .ok (.iaload, 1) := by decide +kernel
theorem dX6_laysPhase_7 : decode cX6_laysPhase 7 = .ok (.putfield 77, 3) := by decide +kernel
theorem dX6_laysPhase_10 : decode cX6_laysPhase 10 = .ok (.iconst 0, 1) := by decide +kernel
theorem dX6_laysPhase_11 : decode cX6_laysPhase 11 = .ok (.istore_n 2, 1) := by decide +kernel
theorem dX6_laysPhase_12 : decode cX6_laysPhase 12 = .ok (.iload_n 2, 1) := by decide +kernel
theorem dX6_laysPhase_13 : decode cX6_laysPhase 13 = .ok (.aload_n 0, 1) := by decide +kernel
theorem dX6_laysPhase_14 : decode cX6_laysPhase 14 = .ok (.getfield 77, 3) := by decide +kernel
theorem dX6_laysPhase_17 : decode cX6_laysPhase 17 = .ok (.if_icmp .ge 18, 3) := by decide +kernel
theorem dX6_laysPhase_20 : decode cX6_laysPhase 20 = .ok (.aload_n 0, 1) := by decide +kernel
theorem dX6_laysPhase_21 : decode cX6_laysPhase 21 = .ok (.getfield 22, 3) := by decide +kernel
theorem dX6_laysPhase_24 : decode cX6_laysPhase 24 = .ok (.iload_n 2, 1) := by decide +kernel
theorem dX6_laysPhase_25 : decode cX6_laysPhase 25 = .ok (.iconst 1, 1) := by decide +kernel
theorem dX6_laysPhase_26 : decode cX6_laysPhase 26 = .ok (.iload_n 2, 1) := by decide +kernel
theorem dX6_laysPhase_27 : decode cX6_laysPhase 27 = .ok (.ishl, 1) := by decide +kernel
theorem dX6_laysPhase_28 : decode cX6_laysPhase 28 = .ok (.iastore, 1) := by decide +kernel
theorem dX6_laysPhase_29 : decode cX6_laysPhase 29 = .ok (.iinc 2 1, 3) := by decide +kernel
theorem dX6_laysPhase_32 : decode cX6_laysPhase 32 = .ok (.goto (-20), 3) := by decide +kernel
theorem dX6_laysPhase_35 : decode cX6_laysPhase 35 = .ok (.aload_n 0, 1) := by decide +kernel
theorem dX6_laysPhase_36 : decode cX6_laysPhase 36 = .ok (.invokevirtual 92, 3) := by decide +kernel
theorem dX6_laysPhase_39 : decode cX6_laysPhase 39 = .ok (.iconst 0, 1) := by decide +kernel
theorem dX6_laysPhase_40 : decode cX6_laysPhase 40 = .ok (.istore_n 2, 1) := by decide +kernel
theorem dX6_laysPhase_41 : decode cX6_laysPhase 41 = .ok (.iload_n 2, 1) := by decide +kernel
theorem dX6_laysPhase_42 : decode cX6_laysPhase 42 = .ok (.iload_n 1, 1) := by decide +kernel
theorem dX6_laysPhase_43 : decode cX6_laysPhase 43 = .ok (.if_icmp .ge 17, 3) := by decide +kernel
theorem dX6_laysPhase_46 : decode cX6_laysPhase 46 = .ok (.aload_n 0, 1) := by decide +kernel
theorem dX6_laysPhase_47 : decode cX6_laysPhase 47 = .ok (.invokevirtual 95, 3) := by decide +kernel
theorem dX6_laysPhase_50 : decode cX6_laysPhase 50 = .ok (.aload_n 0, 1) := by decide +kernel
theorem dX6_laysPhase_51 : decode cX6_laysPhase 51 = .ok (.invokevirtual 92, 3) := by decide +kernel
theorem dX6_laysPhase_54 : decode cX6_laysPhase 54 = .ok (.iinc 2 1, 3) := by decide +kernel
theorem dX6_laysPhase_57 : decode cX6_laysPhase 57 = .ok (.goto (-16), 3) := by decide +kernel
theorem dX6_laysPhase_60 : decode cX6_laysPhase 60 = .ok (.return_, 1) := by decide +kernel
theorem dX6_leastPhase_0 : decode cX6_leastPhase 0 = .ok (.aload_n 0, 1) := by decide +kernel
theorem dX6_leastPhase_1 : decode cX6_leastPhase 1 = .ok (.iconst 0, 1) := by decide +kernel
theorem dX6_leastPhase_2 : decode cX6_leastPhase 2 = .ok (.invokevirtual 98, 3) := by decide +kernel
theorem dX6_leastPhase_5 : decode cX6_leastPhase 5 = .ok (.iconst 0, 1) := by decide +kernel
theorem dX6_leastPhase_6 : decode cX6_leastPhase 6 = .ok (.istore_n 1, 1) := by decide +kernel
theorem dX6_leastPhase_7 : decode cX6_leastPhase 7 = .ok (.aload_n 0, 1) := by decide +kernel
theorem dX6_leastPhase_8 : decode cX6_leastPhase 8 = .ok (.getfield 89, 3) := by decide +kernel
theorem dX6_leastPhase_11 : decode cX6_leastPhase 11 = .ok (.istore_n 2, 1) := by decide +kernel
theorem dX6_leastPhase_12 : decode cX6_leastPhase 12 = .ok (.iconst 1, 1) := by decide +kernel
theorem dX6_leastPhase_13 : decode cX6_leastPhase 13 = .ok (.istore_n 3, 1) := by decide +kernel
theorem dX6_leastPhase_14 : decode cX6_leastPhase 14 = .ok (.iload_n 3, 1) := by decide +kernel
theorem dX6_leastPhase_15 : decode cX6_leastPhase 15 = .ok (.aload_n 0, 1) := by decide +kernel
theorem dX6_leastPhase_16 : decode cX6_leastPhase 16 = .ok (.getfield 7, 3) := by decide +kernel
theorem dX6_leastPhase_19 : decode cX6_leastPhase 19 = .ok (.iconst 0, 1) := by decide +kernel
theorem dX6_leastPhase_20 : decode cX6_leastPhase 20 = .ok (.iaload, 1) := by decide +kernel
theorem dX6_leastPhase_21 : decode cX6_leastPhase 21 = .ok (.iconst 1, 1) := by decide +kernel
theorem dX6_leastPhase_22 : decode cX6_leastPhase 22 = .ok (.isub, 1) := by decide +kernel
theorem dX6_leastPhase_23 : decode cX6_leastPhase 23 = .ok (.if_icmp .ge 48, 3) := by decide +kernel
theorem dX6_leastPhase_26 : decode cX6_leastPhase 26 = .ok (.aload_n 0, 1) := by decide +kernel
theorem dX6_leastPhase_27 : decode cX6_leastPhase 27 = .ok (.invokevirtual 95, 3) := by decide +kernel
theorem dX6_leastPhase_30 : decode cX6_leastPhase 30 = .ok (.aload_n 0, 1) := by decide +kernel
theorem dX6_leastPhase_31 : decode cX6_leastPhase 31 = .ok (.invokevirtual 92, 3) := by decide +kernel
theorem dX6_leastPhase_34 : decode cX6_leastPhase 34 = .ok (.aload_n 0, 1) := by decide +kernel
theorem dX6_leastPhase_35 : decode cX6_leastPhase 35 = .ok (.getfield 89, 3) := by decide +kernel
theorem dX6_leastPhase_38 : decode cX6_leastPhase 38 = .ok (.iload_n 2, 1) := by decide +kernel
theorem dX6_leastPhase_39 : decode cX6_leastPhase 39 = .ok (.if_icmp .ge 7, 3) := by decide +kernel
theorem dX6_leastPhase_42 : decode cX6_leastPhase 42 = .ok (.iload_n 3, 1) := by decide +kernel
theorem dX6_leastPhase_43 : decode cX6_leastPhase 43 = .ok (.goto 4, 3) := by decide +kernel
theorem dX6_leastPhase_46 : decode cX6_leastPhase 46 = .ok (.iload_n 1, 1) := by decide +kernel
theorem dX6_leastPhase_47 : decode cX6_leastPhase 47 = .ok (.istore_n 1, 1) := by decide +kernel
theorem dX6_leastPhase_48 : decode cX6_leastPhase 48 = .ok (.aload_n 0, 1) := by decide +kernel
theorem dX6_leastPhase_49 : decode cX6_leastPhase 49 = .ok (.getfield 89, 3) := by decide +kernel
theorem dX6_leastPhase_52 : decode cX6_leastPhase 52 = .ok (.iload_n 2, 1) := by decide +kernel
theorem dX6_leastPhase_53 : decode cX6_leastPhase 53 = .ok (.if_icmp .ge 10, 3) := by decide +kernel
theorem dX6_leastPhase_56 : decode cX6_leastPhase 56 = .ok (.aload_n 0, 1) := by decide +kernel
theorem dX6_leastPhase_57 : decode cX6_leastPhase 57 = .ok (.getfield 89, 3) := by decide +kernel
theorem dX6_leastPhase_60 : decode cX6_leastPhase 60 = .ok (.goto 4, 3) := by decide +kernel
theorem dX6_leastPhase_63 : decode cX6_leastPhase 63 = .ok (.iload_n 2, 1) := by decide +kernel
theorem dX6_leastPhase_64 : decode cX6_leastPhase 64 = .ok (.istore_n 2, 1) := by decide +kernel
theorem dX6_leastPhase_65 : decode cX6_leastPhase 65 = .ok (.iinc 3 1, 3) := by decide +kernel
theorem dX6_leastPhase_68 : decode cX6_leastPhase 68 = .ok (.goto (-54), 3) := by decide +kernel
theorem dX6_leastPhase_71 : decode cX6_leastPhase 71 = .ok (.iload_n 1, 1) := by decide +kernel
theorem dX6_leastPhase_72 : decode cX6_leastPhase 72 = .ok (.ireturn, 1) := by decide +kernel
theorem dX6_leastByPhases_0 : decode cX6_leastByPhases 0 = .ok (.aload_n 0, 1) := by decide +kernel
theorem dX6_leastByPhases_1 : decode cX6_leastByPhases 1 = .ok (.aload_n 0, 1) := by decide +kernel
theorem dX6_leastByPhases_2 : decode cX6_leastByPhases 2 = .ok (.invokevirtual 102, 3) := by decide +kernel
theorem dX6_leastByPhases_5 : decode cX6_leastByPhases 5 = .ok (.invokevirtual 98, 3) := by decide +kernel
theorem dX6_leastByPhases_8 : decode cX6_leastByPhases 8 = .ok (.aload_n 0, 1) := by decide +kernel
theorem dX6_leastByPhases_9 : decode cX6_leastByPhases 9 = .ok (.getfield 86, 3) := by decide +kernel
theorem dX6_leastByPhases_12 : decode cX6_leastByPhases 12 = .ok (.ireturn, 1) := by decide +kernel
theorem dX6_grow_0 : decode cX6_grow 0 = .ok (.aload_n 0, 1) := by decide +kernel
theorem dX6_grow_1 : decode cX6_grow 1 = .ok (.iconst 0, 1) := by decide +kernel
theorem dX6_grow_2 : decode cX6_grow 2 = .ok (.putfield 34, 3) := by decide +kernel
theorem dX6_grow_5 : decode cX6_grow 5 = .ok (.aload_n 0, 1) := by decide +kernel
theorem dX6_grow_6 : decode cX6_grow 6 = .ok (.getfield 7, 3) := by decide +kernel
theorem dX6_grow_9 : decode cX6_grow 9 = .ok (.iconst 0, 1) := by decide +kernel
theorem dX6_grow_10 : decode cX6_grow 10 = .ok (.iaload, 1) := by decide +kernel
theorem dX6_grow_11 : decode cX6_grow 11 = .ok (.bipush 10, 2) := by decide +kernel
theorem dX6_grow_13 : decode cX6_grow 13 = .ok (.if_icmp .ne 6, 3) := by decide +kernel
theorem dX6_grow_16 : decode cX6_grow 16 = .ok (.bipush (-3), 2) := by decide +kernel
theorem dX6_grow_18 : decode cX6_grow 18 = .ok (.ireturn, 1) := by decide +kernel
theorem dX6_grow_19 : decode cX6_grow 19 = .ok (.aload_n 0, 1) := by decide +kernel
theorem dX6_grow_20 : decode cX6_grow 20 = .ok (.invokevirtual 105, 3) := by decide +kernel
theorem dX6_grow_23 : decode cX6_grow 23 = .ok (.aload_n 0, 1) := by decide +kernel
theorem dX6_grow_24 : decode cX6_grow 24 = .ok (.getfield 7, 3) := by decide +kernel
theorem dX6_grow_27 : decode cX6_grow 27 = .ok (.iconst 0, 1) := by decide +kernel
theorem dX6_grow_28 : decode cX6_grow 28 = .ok (.dup2, 1) := by decide +kernel
theorem dX6_grow_29 : decode cX6_grow 29 = .ok (.iaload, 1) := by decide +kernel
theorem dX6_grow_30 : decode cX6_grow 30 = .ok (.iconst 1, 1) := by decide +kernel
theorem dX6_grow_31 : decode cX6_grow 31 = .ok (.iadd, 1) := by decide +kernel
theorem dX6_grow_32 : decode cX6_grow 32 = .ok (.iastore, 1) := by decide +kernel
theorem dX6_grow_33 : decode cX6_grow 33 = .ok (.aload_n 0, 1) := by decide +kernel
theorem dX6_grow_34 : decode cX6_grow 34 = .ok (.getfield 7, 3) := by decide +kernel
theorem dX6_grow_37 : decode cX6_grow 37 = .ok (.iconst 0, 1) := by decide +kernel
theorem dX6_grow_38 : decode cX6_grow 38 = .ok (.iaload, 1) := by decide +kernel
theorem dX6_grow_39 : decode cX6_grow 39 = .ok (.iconst 1, 1) := by decide +kernel
theorem dX6_grow_40 : decode cX6_grow 40 = .ok (.isub, 1) := by decide +kernel
theorem dX6_grow_41 : decode cX6_grow 41 = .ok (.ireturn, 1) := by decide +kernel
theorem dX6_drops_0 : decode cX6_drops 0 = .ok (.aload_n 0, 1) := by decide +kernel
theorem dX6_drops_1 : decode cX6_drops 1 = .ok (.getfield 7, 3) := by decide +kernel
theorem dX6_drops_4 : decode cX6_drops 4 = .ok (.iconst 0, 1) := by decide +kernel
theorem dX6_drops_5 : decode cX6_drops 5 = .ok (.iaload, 1) := by decide +kernel
theorem dX6_drops_6 : decode cX6_drops 6 = .ok (.iconst 1, 1) := by decide +kernel
theorem dX6_drops_7 : decode cX6_drops 7 = .ok (.isub, 1) := by decide +kernel
theorem dX6_drops_8 : decode cX6_drops 8 = .ok (.istore_n 2, 1) := by decide +kernel
theorem dX6_drops_9 : decode cX6_drops 9 = .ok (.iconst 0, 1) := by decide +kernel
theorem dX6_drops_10 : decode cX6_drops 10 = .ok (.istore_n 3, 1) := by decide +kernel
theorem dX6_drops_11 : decode cX6_drops 11 = .ok (.iload_n 3, 1) := by decide +kernel
theorem dX6_drops_12 : decode cX6_drops 12 = .ok (.iload_n 2, 1) := by decide +kernel
theorem dX6_drops_13 : decode cX6_drops 13 = .ok (.if_icmp .gt 61, 3) := by decide +kernel
theorem dX6_drops_16 : decode cX6_drops 16 = .ok (.iload_n 1, 1) := by decide +kernel
theorem dX6_drops_17 : decode cX6_drops 17 = .ok (.istore 4, 2) := by decide +kernel
theorem dX6_drops_19 : decode cX6_drops 19 = .ok (.iload 4, 2) := by decide +kernel
theorem dX6_drops_21 : decode cX6_drops 21 = .ok (.iload_n 2, 1) := by decide +kernel
theorem dX6_drops_22 : decode cX6_drops 22 = .ok (.if_icmp .ge 32, 3) := by decide +kernel
theorem dX6_drops_25 : decode cX6_drops 25 = .ok (.aload_n 0, 1) := by decide +kernel
theorem dX6_drops_26 : decode cX6_drops 26 = .ok (.getfield 7, 3) := by decide +kernel
theorem dX6_drops_29 : decode cX6_drops 29 = .ok (.iconst 3, 1) := by decide +kernel
theorem dX6_drops_30 : decode cX6_drops 30 = .ok (.bipush 10, 2) := by decide +kernel
theorem dX6_drops_32 : decode cX6_drops 32 = .ok (.iload_n 3, 1) := by decide +kernel
theorem dX6_drops_33 : decode cX6_drops 33 = .ok (.imul, 1) := by decide +kernel
theorem dX6_drops_34 : decode cX6_drops 34 = .ok (.iadd, 1) := by decide +kernel
theorem dX6_drops_35 : decode cX6_drops 35 = .ok (.iload 4, 2) := by decide +kernel
theorem dX6_drops_37 : decode cX6_drops 37 = .ok (.iadd, 1) := by decide +kernel
theorem dX6_drops_38 : decode cX6_drops 38 = .ok (.aload_n 0, 1) := by decide +kernel
theorem dX6_drops_39 : decode cX6_drops 39 = .ok (.iload_n 3, 1) := by decide +kernel
theorem dX6_drops_40 : decode cX6_drops 40 = .ok (.iload 4, 2) := by decide +kernel
theorem dX6_drops_42 : decode cX6_drops 42 = .ok (.iconst 1, 1) := by decide +kernel
theorem dX6_drops_43 : decode cX6_drops 43 = .ok (.iadd, 1) := by decide +kernel
theorem dX6_drops_44 : decode cX6_drops 44 = .ok (.invokevirtual 45, 3) := by decide +kernel
theorem dX6_drops_47 : decode cX6_drops 47 = .ok (.iastore, 1) := by decide +kernel
theorem dX6_drops_48 : decode cX6_drops 48 = .ok (.iinc 4 1, 3) := by decide +kernel
theorem dX6_drops_51 : decode cX6_drops 51 = .ok (.goto (-32), 3) := by decide +kernel
theorem dX6_drops_54 : decode cX6_drops 54 = .ok (.aload_n 0, 1) := by decide +kernel
theorem dX6_drops_55 : decode cX6_drops 55 = .ok (.getfield 7, 3) := by decide +kernel
theorem dX6_drops_58 : decode cX6_drops 58 = .ok (.iconst 3, 1) := by decide +kernel
theorem dX6_drops_59 : decode cX6_drops 59 = .ok (.bipush 10, 2) := by decide +kernel
theorem dX6_drops_61 : decode cX6_drops 61 = .ok (.iload_n 3, 1) := by decide +kernel
theorem dX6_drops_62 : decode cX6_drops 62 = .ok (.imul, 1) := by decide +kernel
theorem dX6_drops_63 : decode cX6_drops 63 = .ok (.iadd, 1) := by decide +kernel
theorem dX6_drops_64 : decode cX6_drops 64 = .ok (.iload_n 2, 1) := by decide +kernel
theorem dX6_drops_65 : decode cX6_drops 65 = .ok (.iadd, 1) := by decide +kernel
theorem dX6_drops_66 : decode cX6_drops 66 = .ok (.iconst 0, 1) := by decide +kernel
theorem dX6_drops_67 : decode cX6_drops 67 = .ok (.iastore, 1) := by decide +kernel
theorem dX6_drops_68 : decode cX6_drops 68 = .ok (.iinc 3 1, 3) := by decide +kernel
theorem dX6_drops_71 : decode cX6_drops 71 = .ok (.goto (-60), 3) := by decide +kernel
theorem dX6_drops_74 : decode cX6_drops 74 = .ok (.iload_n 1, 1) := by decide +kernel
theorem dX6_drops_75 : decode cX6_drops 75 = .ok (.istore_n 3, 1) := by decide +kernel
theorem dX6_drops_76 : decode cX6_drops 76 = .ok (.iload_n 3, 1) := by decide +kernel
theorem dX6_drops_77 : decode cX6_drops 77 = .ok (.iload_n 2, 1) := by decide +kernel
theorem dX6_drops_78 : decode cX6_drops 78 = .ok (.if_icmp .ge 47, 3) := by decide +kernel
theorem dX6_drops_81 : decode cX6_drops 81 = .ok (.iconst 0, 1) := by decide +kernel
theorem dX6_drops_82 : decode cX6_drops 82 = .ok (.istore 4, 2) := by decide +kernel
theorem dX6_drops_84 : decode cX6_drops 84 = .ok (.iload 4, 2) := by decide +kernel
theorem dX6_drops_86 : decode cX6_drops 86 = .ok (.iload_n 2, 1) := by decide +kernel
theorem dX6_drops_87 : decode cX6_drops 87 = .ok (.if_icmp .ge 32, 3) := by decide +kernel
theorem dX6_drops_90 : decode cX6_drops 90 = .ok (.aload_n 0, 1) := by decide +kernel
theorem dX6_drops_91 : decode cX6_drops 91 = .ok (.getfield 7, 3) := by decide +kernel
theorem dX6_drops_94 : decode cX6_drops 94 = .ok (.iconst 3, 1) := by decide +kernel
theorem dX6_drops_95 : decode cX6_drops 95 = .ok (.bipush 10, 2) := by decide +kernel
theorem dX6_drops_97 : decode cX6_drops 97 = .ok (.iload_n 3, 1) := by decide +kernel
theorem dX6_drops_98 : decode cX6_drops 98 = .ok (.imul, 1) := by decide +kernel
theorem dX6_drops_99 : decode cX6_drops 99 = .ok (.iadd, 1) := by decide +kernel
theorem dX6_drops_100 : decode cX6_drops 100 = .ok (.iload 4, 2) := by decide +kernel
theorem dX6_drops_102 : decode cX6_drops 102 = .ok (.iadd, 1) := by decide +kernel
theorem dX6_drops_103 : decode cX6_drops 103 = .ok (.aload_n 0, 1) := by decide +kernel
theorem dX6_drops_104 : decode cX6_drops 104 = .ok (.iload_n 3, 1) := by decide +kernel
theorem dX6_drops_105 : decode cX6_drops 105 = .ok (.iconst 1, 1) := by decide +kernel
theorem dX6_drops_106 : decode cX6_drops 106 = .ok (.iadd, 1) := by decide +kernel
theorem dX6_drops_107 : decode cX6_drops 107 = .ok (.iload 4, 2) := by decide +kernel
theorem dX6_drops_109 : decode cX6_drops 109 = .ok (.invokevirtual 45, 3) := by decide +kernel
theorem dX6_drops_112 : decode cX6_drops 112 = .ok (.iastore, 1) := by decide +kernel
theorem dX6_drops_113 : decode cX6_drops 113 = .ok (.iinc 4 1, 3) := by decide +kernel
theorem dX6_drops_116 : decode cX6_drops 116 = .ok (.goto (-32), 3) := by decide +kernel
theorem dX6_drops_119 : decode cX6_drops 119 = .ok (.iinc 3 1, 3) := by decide +kernel
theorem dX6_drops_122 : decode cX6_drops 122 = .ok (.goto (-46), 3) := by decide +kernel
theorem dX6_drops_125 : decode cX6_drops 125 = .ok (.iconst 0, 1) := by decide +kernel
theorem dX6_drops_126 : decode cX6_drops 126 = .ok (.istore_n 3, 1) := by decide +kernel
theorem dX6_drops_127 : decode cX6_drops 127 = .ok (.iload_n 3, 1) := by decide +kernel
theorem dX6_drops_128 : decode cX6_drops 128 = .ok (.bipush 10, 2) := by decide +kernel
theorem dX6_drops_130 : decode cX6_drops 130 = .ok (.if_icmp .ge 23, 3) := by decide +kernel
theorem dX6_drops_133 : decode cX6_drops 133 = .ok (.aload_n 0, 1) := by decide +kernel
theorem dX6_drops_134 : decode cX6_drops 134 = .ok (.getfield 7, 3) := by decide +kernel
theorem dX6_drops_137 : decode cX6_drops 137 = .ok (.iconst 3, 1) := by decide +kernel
theorem dX6_drops_138 : decode cX6_drops 138 = .ok (.bipush 10, 2) := by decide +kernel
theorem dX6_drops_140 : decode cX6_drops 140 = .ok (.iload_n 2, 1) := by decide +kernel
theorem dX6_drops_141 : decode cX6_drops 141 = .ok (.imul, 1) := by decide +kernel
theorem dX6_drops_142 : decode cX6_drops 142 = .ok (.iadd, 1) := by decide +kernel
theorem dX6_drops_143 : decode cX6_drops 143 = .ok (.iload_n 3, 1) := by decide +kernel
theorem dX6_drops_144 : decode cX6_drops 144 = .ok (.iadd, 1) := by decide +kernel
theorem dX6_drops_145 : decode cX6_drops 145 = .ok (.iconst 0, 1) := by decide +kernel
theorem dX6_drops_146 : decode cX6_drops 146 = .ok (.iastore, 1) := by decide +kernel
theorem dX6_drops_147 : decode cX6_drops 147 = .ok (.iinc 3 1, 3) := by decide +kernel
theorem dX6_drops_150 : decode cX6_drops 150 = .ok (.goto (-23), 3) := by decide +kernel
theorem dX6_drops_153 : decode cX6_drops 153 = .ok (.aload_n 0, 1) := by decide +kernel
theorem dX6_drops_154 : decode cX6_drops 154 = .ok (.getfield 7, 3) := by decide +kernel
theorem dX6_drops_157 : decode cX6_drops 157 = .ok (.iconst 0, 1) := by decide +kernel
theorem dX6_drops_158 : decode cX6_drops 158 = .ok (.dup2, 1) := by decide +kernel
theorem dX6_drops_159 : decode cX6_drops 159 = .ok (.iaload, 1) := by decide +kernel
theorem dX6_drops_160 : decode cX6_drops 160 = .ok (.iconst 1, 1) := by decide +kernel
theorem dX6_drops_161 : decode cX6_drops 161 = .ok (.isub, 1) := by decide +kernel
theorem dX6_drops_162 : decode cX6_drops 162 = .ok (.iastore, 1) := by decide +kernel
theorem dX6_drops_163 : decode cX6_drops 163 = .ok (.return_, 1) := by decide +kernel
theorem dX6_remove_0 : decode cX6_remove 0 = .ok (.aload_n 0, 1) := by decide +kernel
theorem dX6_remove_1 : decode cX6_remove 1 = .ok (.iconst 0, 1) := by decide +kernel
theorem dX6_remove_2 : decode cX6_remove 2 = .ok (.putfield 34, 3) := by decide +kernel
theorem dX6_remove_5 : decode cX6_remove 5 = .ok (.aload_n 0, 1) := by decide +kernel
theorem dX6_remove_6 : decode cX6_remove 6 = .ok (.iload_n 1, 1) := by decide +kernel
theorem dX6_remove_7 : decode cX6_remove 7 = .ok (.invokevirtual 108, 3) := by decide +kernel
theorem dX6_remove_10 : decode cX6_remove 10 = .ok (.ifCond .ne 5, 3) := by decide +kernel
theorem dX6_remove_13 : decode cX6_remove 13 = .ok (.iconst (-1), 1) := by decide +kernel
theorem dX6_remove_14 : decode cX6_remove 14 = .ok (.ireturn, 1) := by decide +kernel
theorem dX6_remove_15 : decode cX6_remove 15 = .ok (.aload_n 0, 1) := by decide +kernel
theorem dX6_remove_16 : decode cX6_remove 16 = .ok (.getfield 7, 3) := by decide +kernel
theorem dX6_remove_19 : decode cX6_remove 19 = .ok (.iconst 0, 1) := by decide +kernel
theorem dX6_remove_20 : decode cX6_remove 20 = .ok (.iaload, 1) := by decide +kernel
theorem dX6_remove_21 : decode cX6_remove 21 = .ok (.iconst 2, 1) := by decide +kernel
theorem dX6_remove_22 : decode cX6_remove 22 = .ok (.if_icmp .ne 6, 3) := by decide +kernel
theorem dX6_remove_25 : decode cX6_remove 25 = .ok (.bipush (-4), 2) := by decide +kernel
theorem dX6_remove_27 : decode cX6_remove 27 = .ok (.ireturn, 1) := by decide +kernel
theorem dX6_remove_28 : decode cX6_remove 28 = .ok (.aload_n 0, 1) := by decide +kernel
theorem dX6_remove_29 : decode cX6_remove 29 = .ok (.invokevirtual 105, 3) := by decide +kernel
theorem dX6_remove_32 : decode cX6_remove 32 = .ok (.aload_n 0, 1) := by decide +kernel
theorem dX6_remove_33 : decode cX6_remove 33 = .ok (.iload_n 1, 1) := by decide +kernel
theorem dX6_remove_34 : decode cX6_remove 34 = .ok (.invokevirtual 111, 3) := by decide +kernel
theorem dX6_remove_37 : decode cX6_remove 37 = .ok (.aload_n 0, 1) := by decide +kernel
theorem dX6_remove_38 : decode cX6_remove 38 = .ok (.getfield 7, 3) := by decide +kernel
theorem dX6_remove_41 : decode cX6_remove 41 = .ok (.iconst 1, 1) := by decide +kernel
theorem dX6_remove_42 : decode cX6_remove 42 = .ok (.aload_n 0, 1) := by decide +kernel
theorem dX6_remove_43 : decode cX6_remove 43 = .ok (.getfield 7, 3) := by decide +kernel
theorem dX6_remove_46 : decode cX6_remove 46 = .ok (.iconst 1, 1) := by decide +kernel
theorem dX6_remove_47 : decode cX6_remove 47 = .ok (.iaload, 1) := by decide +kernel
theorem dX6_remove_48 : decode cX6_remove 48 = .ok (.iload_n 1, 1) := by decide +kernel
theorem dX6_remove_49 : decode cX6_remove 49 = .ok (.if_icmp .ne 7, 3) := by decide +kernel
theorem dX6_remove_52 : decode cX6_remove 52 = .ok (.iconst 0, 1) := by decide +kernel
theorem dX6_remove_53 : decode cX6_remove 53 = .ok (.goto 30, 3) := by decide +kernel
theorem dX6_remove_56 : decode cX6_remove 56 = .ok (.aload_n 0, 1) := by decide +kernel
theorem dX6_remove_57 : decode cX6_remove 57 = .ok (.getfield 7, 3) := by decide +kernel
theorem dX6_remove_60 : decode cX6_remove 60 = .ok (.iconst 1, 1) := by decide +kernel
theorem dX6_remove_61 : decode cX6_remove 61 = .ok (.iaload, 1) := by decide +kernel
theorem dX6_remove_62 : decode cX6_remove 62 = .ok (.iload_n 1, 1) := by decide +kernel
theorem dX6_remove_63 : decode cX6_remove 63 = .ok (.if_icmp .le 14, 3) := by decide +kernel
theorem dX6_remove_66 : decode cX6_remove 66 = .ok (.aload_n 0, 1) := by decide +kernel
theorem dX6_remove_67 : decode cX6_remove 67 = .ok (.getfield 7, 3) := by decide +kernel
theorem dX6_remove_70 : decode cX6_remove 70 = .ok (.iconst 1, 1) := by decide +kernel
theorem dX6_remove_71 : decode cX6_remove 71 = .ok (.iaload, 1) := by decide +kernel
theorem dX6_remove_72 : decode cX6_remove 72 = .ok (.iconst 1, 1) := by decide +kernel
theorem dX6_remove_73 : decode cX6_remove 73 = .ok (.isub, 1) := by decide +kernel
theorem dX6_remove_74 : decode cX6_remove 74 = .ok (.goto 9, 3) := by decide +kernel
theorem dX6_remove_77 : decode cX6_remove 77 = .ok (.aload_n 0, 1) := by decide +kernel
theorem dX6_remove_78 : decode cX6_remove 78 = .ok (.getfield 7, 3) := by decide +kernel
theorem dX6_remove_81 : decode cX6_remove 81 = .ok (.iconst 1, 1) := by decide +kernel
theorem dX6_remove_82 : decode cX6_remove 82 = .ok (.iaload, 1) := by decide +kernel
theorem dX6_remove_83 : decode cX6_remove 83 = .ok (.iastore, 1) := by decide +kernel
theorem dX6_remove_84 : decode cX6_remove 84 = .ok (.aload_n 0, 1) := by decide +kernel
theorem dX6_remove_85 : decode cX6_remove 85 = .ok (.getfield 7, 3) := by decide +kernel
theorem dX6_remove_88 : decode cX6_remove 88 = .ok (.iconst 0, 1) := by decide +kernel
theorem dX6_remove_89 : decode cX6_remove 89 = .ok (.iaload, 1) := by decide +kernel
theorem dX6_remove_90 : decode cX6_remove 90 = .ok (.ireturn, 1) := by decide +kernel
theorem dX6_join_0 : decode cX6_join 0 = .ok (.aload_n 0, 1) := by decide +kernel
theorem dX6_join_1 : decode cX6_join 1 = .ok (.iconst 0, 1) := by decide +kernel
theorem dX6_join_2 : decode cX6_join 2 = .ok (.putfield 34, 3) := by decide +kernel
theorem dX6_join_5 : decode cX6_join 5 = .ok (.aload_n 0, 1) := by decide +kernel
theorem dX6_join_6 : decode cX6_join 6 = .ok (.iload_n 1, 1) := by decide +kernel
theorem dX6_join_7 : decode cX6_join 7 = .ok (.invokevirtual 108, 3) := by decide +kernel
theorem dX6_join_10 : decode cX6_join 10 = .ok (.ifCond .eq 11, 3) := by decide +kernel
theorem dX6_join_13 : decode cX6_join 13 = .ok (.aload_n 0, 1) := by decide +kernel
theorem dX6_join_14 : decode cX6_join 14 = .ok (.iload_n 2, 1) := by decide +kernel
theorem dX6_join_15 : decode cX6_join 15 = .ok (.invokevirtual 108, 3) := by decide +kernel
theorem dX6_join_18 : decode cX6_join 18 = .ok (.ifCond .ne 5, 3) := by decide +kernel
theorem dX6_join_21 : decode cX6_join 21 = .ok (.iconst (-1), 1) := by decide +kernel
theorem dX6_join_22 : decode cX6_join 22 = .ok (.ireturn, 1) := by decide +kernel
theorem dX6_join_23 : decode cX6_join 23 = .ok (.iload_n 1, 1) := by decide +kernel
theorem dX6_join_24 : decode cX6_join 24 = .ok (.iload_n 2, 1) := by decide +kernel
theorem dX6_join_25 : decode cX6_join 25 = .ok (.if_icmp .ne 6, 3) := by decide +kernel
theorem dX6_join_28 : decode cX6_join 28 = .ok (.bipush (-2), 2) := by decide +kernel
theorem dX6_join_30 : decode cX6_join 30 = .ok (.ireturn, 1) := by decide +kernel
theorem dX6_join_31 : decode cX6_join 31 = .ok (.aload_n 0, 1) := by decide +kernel
theorem dX6_join_32 : decode cX6_join 32 = .ok (.getfield 7, 3) := by decide +kernel
theorem dX6_join_35 : decode cX6_join 35 = .ok (.iconst 0, 1) := by decide +kernel
theorem dX6_join_36 : decode cX6_join 36 = .ok (.iaload, 1) := by decide +kernel
theorem dX6_join_37 : decode cX6_join 37 = .ok (.iconst 2, 1) := by decide +kernel
theorem dX6_join_38 : decode cX6_join 38 = .ok (.if_icmp .ne 6, 3) := by decide +kernel
theorem dX6_join_41 : decode cX6_join 41 = .ok (.bipush (-4), 2) := by decide +kernel
theorem dX6_join_43 : decode cX6_join 43 = .ok (.ireturn, 1) := by decide +kernel
theorem dX6_join_44 : decode cX6_join 44 = .ok (.aload_n 0, 1) := by decide +kernel
theorem dX6_join_45 : decode cX6_join 45 = .ok (.invokevirtual 105, 3) := by decide +kernel
theorem dX6_join_48 : decode cX6_join 48 = .ok (.iload_n 1, 1) := by decide +kernel
theorem dX6_join_49 : decode cX6_join 49 = .ok (.iload_n 2, 1) := by decide +kernel
theorem dX6_join_50 : decode cX6_join 50 = .ok (.if_icmp .ge 7, 3) := by decide +kernel
theorem dX6_join_53 : decode cX6_join 53 = .ok (.iload_n 1, 1) := by decide +kernel
theorem dX6_join_54 : decode cX6_join 54 = .ok (.goto 4, 3) := by decide +kernel
theorem dX6_join_57 : decode cX6_join 57 = .ok (.iload_n 2, 1) := by decide +kernel
theorem dX6_join_58 : decode cX6_join 58 = .ok (.istore_n 3, 1) := by decide +kernel
theorem dX6_join_59 : decode cX6_join 59 = .ok (.iload_n 1, 1) := by decide +kernel
theorem dX6_join_60 : decode cX6_join 60 = .ok (.iload_n 2, 1) := by decide +kernel
theorem dX6_join_61 : decode cX6_join 61 = .ok (.iadd, 1) := by decide +kernel
theorem dX6_join_62 : decode cX6_join 62 = .ok (.iload_n 3, 1) := by decide +kernel
theorem dX6_join_63 : decode cX6_join 63 = .ok (.isub, 1) := by decide +kernel
theorem dX6_join_64 : decode cX6_join 64 = .ok (.istore 4, 2) := by decide +kernel
theorem dX6_join_66 : decode cX6_join 66 = .ok (.iconst 0, 1) := by decide +kernel
theorem dX6_join_67 : decode cX6_join 67 = .ok (.istore 5, 2) := by decide +kernel
theorem dX6_join_69 : decode cX6_join 69 = .ok (.iload 5, 2) := by decide +kernel
theorem dX6_join_71 : decode cX6_join 71 = .ok (.aload_n 0, 1) := by decide +kernel
theorem dX6_join_72 : decode cX6_join 72 = .ok (.getfield 7, 3) := by decide +kernel
theorem dX6_join_75 : decode cX6_join 75 = .ok (.iconst 0, 1) := by decide +kernel
theorem dX6_join_76 : decode cX6_join 76 = .ok (.iaload, 1) := by decide +kernel
theorem dX6_join_77 : decode cX6_join 77 = .ok (.if_icmp .ge 61, 3) := by decide +kernel
theorem dX6_join_80 : decode cX6_join 80 = .ok (.iload 5, 2) := by decide +kernel
theorem dX6_join_82 : decode cX6_join 82 = .ok (.iload_n 3, 1) := by decide +kernel
theorem dX6_join_83 : decode cX6_join 83 = .ok (.if_icmp .eq 49, 3) := by decide +kernel
theorem dX6_join_86 : decode cX6_join 86 = .ok (.iload 5, 2) := by decide +kernel
theorem dX6_join_88 : decode cX6_join 88 = .ok (.iload 4, 2) := by decide +kernel
theorem dX6_join_90 : decode cX6_join 90 = .ok (.if_icmp .eq 42, 3) := by decide +kernel
theorem dX6_join_93 : decode cX6_join 93 = .ok (.aload_n 0, 1) := by decide +kernel
theorem dX6_join_94 : decode cX6_join 94 = .ok (.iload_n 3, 1) := by decide +kernel
theorem dX6_join_95 : decode cX6_join 95 = .ok (.iload 5, 2) := by decide +kernel
theorem dX6_join_97 : decode cX6_join 97 = .ok (.invokevirtual 45, 3) := by decide +kernel
theorem dX6_join_100 : decode cX6_join 100 = .ok (.aload_n 0, 1) := by decide +kernel
theorem dX6_join_101 : decode cX6_join 101 = .ok (.iload 4, 2) := by decide +kernel
theorem dX6_join_103 : decode cX6_join 103 = .ok (.iload 5, 2) := by decide +kernel
theorem dX6_join_105 : decode cX6_join 105 = .ok (.invokevirtual 45, 3) := by decide +kernel
theorem dX6_join_108 : decode cX6_join 108 = .ok (.iadd, 1) := by decide +kernel
theorem dX6_join_109 : decode cX6_join 109 = .ok (.istore 6, 2) := by decide +kernel
theorem dX6_join_111 : decode cX6_join 111 = .ok (.aload_n 0, 1) := by decide +kernel
theorem dX6_join_112 : decode cX6_join 112 = .ok (.iload_n 3, 1) := by decide +kernel
theorem dX6_join_113 : decode cX6_join 113 = .ok (.iload 5, 2) := by decide +kernel
theorem dX6_join_115 : decode cX6_join 115 = .ok (.iload 6, 2) := by decide +kernel
theorem dX6_join_117 : decode cX6_join 117 = .ok (.bipush 99, 2) := by decide +kernel
theorem dX6_join_119 : decode cX6_join 119 = .ok (.if_icmp .le 8, 3) := by decide +kernel
theorem dX6_join_122 : decode cX6_join 122 = .ok (.bipush 99, 2) := by decide +kernel
theorem dX6_join_124 : decode cX6_join 124 = .ok (.goto 5, 3) := by decide +kernel
theorem dX6_join_127 : decode cX6_join 127 = .ok (.iload 6, 2) := by decide +kernel
theorem dX6_join_129 : decode cX6_join 129 = .ok (.invokevirtual 114, 3) := by decide +kernel
theorem dX6_join_132 : decode cX6_join 132 = .ok (.iinc 5 1, 3) := by decide +kernel
theorem dX6_join_135 : decode cX6_join 135 = .ok (.goto (-66), 3) := by decide +kernel
theorem dX6_join_138 : decode cX6_join 138 = .ok (.aload_n 0, 1) := by decide +kernel
theorem dX6_join_139 : decode cX6_join 139 = .ok (.iload 4, 2) := by decide +kernel
theorem dX6_join_141 : decode cX6_join 141 = .ok (.invokevirtual 111, 3) := by decide +kernel
theorem dX6_join_144 : decode cX6_join 144 = .ok (.aload_n 0, 1) := by decide +kernel
theorem dX6_join_145 : decode cX6_join 145 = .ok (.getfield 7, 3) := by decide +kernel
theorem dX6_join_148 : decode cX6_join 148 = .ok (.iconst 1, 1) := by decide +kernel
theorem dX6_join_149 : decode cX6_join 149 = .ok (.aload_n 0, 1) := by decide +kernel
theorem dX6_join_150 : decode cX6_join 150 = .ok (.getfield 7, 3) := by decide +kernel
theorem dX6_join_153 : decode cX6_join 153 = .ok (.iconst 1, 1) := by decide +kernel
theorem dX6_join_154 : decode cX6_join 154 = .ok (.iaload, 1) := by decide +kernel
theorem dX6_join_155 : decode cX6_join 155 = .ok (.iload 4, 2) := by decide +kernel
theorem dX6_join_157 : decode cX6_join 157 = .ok (.if_icmp .ne 7, 3) := by decide +kernel
theorem dX6_join_160 : decode cX6_join 160 = .ok (.iload_n 3, 1) := by decide +kernel
theorem dX6_join_161 : decode cX6_join 161 = .ok (.goto 31, 3) := by decide +kernel
theorem dX6_join_164 : decode cX6_join 164 = .ok (.aload_n 0, 1) := by decide +kernel
theorem dX6_join_165 : decode cX6_join 165 = .ok (.getfield 7, 3) := by decide +kernel
theorem dX6_join_168 : decode cX6_join 168 = .ok (.iconst 1, 1) := by decide +kernel
theorem dX6_join_169 : decode cX6_join 169 = .ok (.iaload, 1) := by decide +kernel
theorem dX6_join_170 : decode cX6_join 170 = .ok (.iload 4, 2) := by decide +kernel
theorem dX6_join_172 : decode cX6_join 172 = .ok (.if_icmp .le 14, 3) := by decide +kernel
theorem dX6_join_175 : decode cX6_join 175 = .ok (.aload_n 0, 1) := by decide +kernel
theorem dX6_join_176 : decode cX6_join 176 = .ok (.getfield 7, 3) := by decide +kernel
theorem dX6_join_179 : decode cX6_join 179 = .ok (.iconst 1, 1) := by decide +kernel
theorem dX6_join_180 : decode cX6_join 180 = .ok (.iaload, 1) := by decide +kernel
theorem dX6_join_181 : decode cX6_join 181 = .ok (.iconst 1, 1) := by decide +kernel
theorem dX6_join_182 : decode cX6_join 182 = .ok (.isub, 1) := by decide +kernel
theorem dX6_join_183 : decode cX6_join 183 = .ok (.goto 9, 3) := by decide +kernel
theorem dX6_join_186 : decode cX6_join 186 = .ok (.aload_n 0, 1) := by decide +kernel
theorem dX6_join_187 : decode cX6_join 187 = .ok (.getfield 7, 3) := by decide +kernel
theorem dX6_join_190 : decode cX6_join 190 = .ok (.iconst 1, 1) := by decide +kernel
theorem dX6_join_191 : decode cX6_join 191 = .ok (.iaload, 1) := by decide +kernel
theorem dX6_join_192 : decode cX6_join 192 = .ok (.iastore, 1) := by decide +kernel
theorem dX6_join_193 : decode cX6_join 193 = .ok (.aload_n 0, 1) := by decide +kernel
theorem dX6_join_194 : decode cX6_join 194 = .ok (.getfield 7, 3) := by decide +kernel
theorem dX6_join_197 : decode cX6_join 197 = .ok (.iconst 0, 1) := by decide +kernel
theorem dX6_join_198 : decode cX6_join 198 = .ok (.iaload, 1) := by decide +kernel
theorem dX6_join_199 : decode cX6_join 199 = .ok (.ireturn, 1) := by decide +kernel
theorem dX6_refusesPair_0 : decode cX6_refusesPair 0 = .ok (.aload_n 0, 1) := by decide +kernel
theorem dX6_refusesPair_1 : decode cX6_refusesPair 1 = .ok (.iload_n 1, 1) := by decide +kernel
theorem dX6_refusesPair_2 : decode cX6_refusesPair 2 = .ok (.invokevirtual 108, 3) := by decide +kernel
theorem dX6_refusesPair_5 : decode cX6_refusesPair 5 = .ok (.ifCond .eq 11, 3) := by decide +kernel
theorem dX6_refusesPair_8 : decode cX6_refusesPair 8 = .ok (.aload_n 0, 1) := by decide +kernel
theorem dX6_refusesPair_9 : decode cX6_refusesPair 9 = .ok (.iload_n 2, 1) := by decide +kernel
theorem dX6_refusesPair_10 : decode cX6_refusesPair 10 = .ok (.invokevirtual 108, 3) := by decide +kernel
theorem dX6_refusesPair_13 : decode cX6_refusesPair 13 = .ok (.ifCond .ne 5, 3) := by decide +kernel
theorem dX6_refusesPair_16 : decode cX6_refusesPair 16 = .ok (.iconst (-1), 1) := by decide +kernel
theorem dX6_refusesPair_17 : decode cX6_refusesPair 17 = .ok (.ireturn, 1) := by decide +kernel
theorem dX6_refusesPair_18 : decode cX6_refusesPair 18 = .ok (.iload_n 1, 1) := by decide +kernel
theorem dX6_refusesPair_19 : decode cX6_refusesPair 19 = .ok (.iload_n 2, 1) := by decide +kernel
theorem dX6_refusesPair_20 : decode cX6_refusesPair 20 = .ok (.if_icmp .eq 17, 3) := by decide +kernel
theorem dX6_refusesPair_23 : decode cX6_refusesPair 23 = .ok (.iload_n 3, 1) := by decide +kernel
theorem dX6_refusesPair_24 : decode cX6_refusesPair 24 = .ok (.iconst 0, 1) := by decide +kernel
theorem dX6_refusesPair_25 : decode cX6_refusesPair 25 = .ok (.bipush 99, 2) := by decide +kernel
theorem dX6_refusesPair_27 : decode cX6_refusesPair 27 = .ok (.invokestatic 38, 3) := by decide +kernel
theorem dX6_refusesPair_30 : decode cX6_refusesPair 30 = .ok (.ifCond .eq 7, 3) := by decide +kernel
theorem dX6_refusesPair_33 : decode cX6_refusesPair 33 = .ok (.iconst 0, 1) := by decide +kernel
theorem dX6_refusesPair_34 : decode cX6_refusesPair 34 = .ok (.goto 5, 3) := by decide +kernel
theorem dX6_refusesPair_37 : decode cX6_refusesPair 37 = .ok (.bipush (-2), 2) := by decide +kernel
theorem dX6_refusesPair_39 : decode cX6_refusesPair 39 = .ok (.ireturn, 1) := by decide +kernel
theorem dX6_tie_0 : decode cX6_tie 0 = .ok (.aload_n 0, 1) := by decide +kernel
theorem dX6_tie_1 : decode cX6_tie 1 = .ok (.iconst 0, 1) := by decide +kernel
theorem dX6_tie_2 : decode cX6_tie 2 = .ok (.putfield 34, 3) := by decide +kernel
theorem dX6_tie_5 : decode cX6_tie 5 = .ok (.aload_n 0, 1) := by decide +kernel
theorem dX6_tie_6 : decode cX6_tie 6 = .ok (.iload_n 1, 1) := by decide +kernel
theorem dX6_tie_7 : decode cX6_tie 7 = .ok (.iload_n 2, 1) := by decide +kernel
theorem dX6_tie_8 : decode cX6_tie 8 = .ok (.iload_n 3, 1) := by decide +kernel
theorem dX6_tie_9 : decode cX6_tie 9 = .ok (.invokevirtual 118, 3) := by decide +kernel
theorem dX6_tie_12 : decode cX6_tie 12 = .ok (.istore 4, 2) := by decide +kernel
theorem dX6_tie_14 : decode cX6_tie 14 = .ok (.iload 4, 2) := by decide +kernel
theorem dX6_tie_16 : decode cX6_tie 16 = .ok (.ifCond .eq 6, 3) := by decide +kernel
theorem dX6_tie_19 : decode cX6_tie 19 = .ok (.iload 4, 2) := by decide +kernel
theorem dX6_tie_21 : decode cX6_tie 21 = .ok (.ireturn, 1) := by decide +kernel
theorem dX6_tie_22 : decode cX6_tie 22 = .ok (.aload_n 0, 1) := by decide +kernel
theorem dX6_tie_23 : decode cX6_tie 23 = .ok (.iload_n 1, 1) := by decide +kernel
theorem dX6_tie_24 : decode cX6_tie 24 = .ok (.iload_n 2, 1) := by decide +kernel
theorem dX6_tie_25 : decode cX6_tie 25 = .ok (.invokevirtual 45, 3) := by decide +kernel
theorem dX6_tie_28 : decode cX6_tie 28 = .ok (.istore 5, 2) := by decide +kernel
theorem dX6_tie_30 : decode cX6_tie 30 = .ok (.iload 5, 2) := by decide +kernel
theorem dX6_tie_32 : decode cX6_tie 32 = .ok (.iload_n 3, 1) := by decide +kernel
theorem dX6_tie_33 : decode cX6_tie 33 = .ok (.if_icmp .ne 6, 3) := by decide +kernel
theorem dX6_tie_36 : decode cX6_tie 36 = .ok (.bipush (-5), 2) := by decide +kernel
theorem dX6_tie_38 : decode cX6_tie 38 = .ok (.ireturn, 1) := by decide +kernel
theorem dX6_tie_39 : decode cX6_tie 39 = .ok (.aload_n 0, 1) := by decide +kernel
theorem dX6_tie_40 : decode cX6_tie 40 = .ok (.invokevirtual 105, 3) := by decide +kernel
theorem dX6_tie_43 : decode cX6_tie 43 = .ok (.aload_n 0, 1) := by decide +kernel
theorem dX6_tie_44 : decode cX6_tie 44 = .ok (.iload_n 1, 1) := by decide +kernel
theorem dX6_tie_45 : decode cX6_tie 45 = .ok (.iload_n 2, 1) := by decide +kernel
theorem dX6_tie_46 : decode cX6_tie 46 = .ok (.iload_n 3, 1) := by decide +kernel
theorem dX6_tie_47 : decode cX6_tie 47 = .ok (.invokevirtual 114, 3) := by decide +kernel
theorem dX6_tie_50 : decode cX6_tie 50 = .ok (.iload 5, 2) := by decide +kernel
theorem dX6_tie_52 : decode cX6_tie 52 = .ok (.ireturn, 1) := by decide +kernel
theorem dX6_set_0 : decode cX6_set 0 = .ok (.aload_n 0, 1) := by decide +kernel
theorem dX6_set_1 : decode cX6_set 1 = .ok (.iconst 0, 1) := by decide +kernel
theorem dX6_set_2 : decode cX6_set 2 = .ok (.putfield 34, 3) := by decide +kernel
theorem dX6_set_5 : decode cX6_set 5 = .ok (.iload_n 1, 1) := by decide +kernel
theorem dX6_set_6 : decode cX6_set 6 = .ok (.ifCond .ne 11, 3) := by decide +kernel
theorem dX6_set_9 : decode cX6_set 9 = .ok (.aload_n 0, 1) := by decide +kernel
theorem dX6_set_10 : decode cX6_set 10 = .ok (.iload_n 2, 1) := by decide +kernel
theorem dX6_set_11 : decode cX6_set 11 = .ok (.invokevirtual 108, 3) := by decide +kernel
theorem dX6_set_14 : decode cX6_set 14 = .ok (.goto 22, 3) := by decide +kernel
theorem dX6_set_17 : decode cX6_set 17 = .ok (.iload_n 1, 1) := by decide +kernel
theorem dX6_set_18 : decode cX6_set 18 = .ok (.iconst 1, 1) := by decide +kernel
theorem dX6_set_19 : decode cX6_set 19 = .ok (.if_icmp .ne 16, 3) := by decide +kernel
theorem dX6_set_22 : decode cX6_set 22 = .ok (.iload_n 2, 1) := by decide +kernel
theorem dX6_set_23 : decode cX6_set 23 = .ok (.iconst 1, 1) := by decide +kernel
theorem dX6_set_24 : decode cX6_set 24 = .ok (.iconst 5, 1) := by decide +kernel
theorem dX6_set_25 : decode cX6_set 25 = .ok (.invokestatic 38, 3) := by decide +kernel
theorem dX6_set_28 : decode cX6_set 28 = .ok (.ifCond .eq 7, 3) := by decide +kernel
theorem dX6_set_31 : decode cX6_set 31 = .ok (.iconst 1, 1) := by decide +kernel
theorem dX6_set_32 : decode cX6_set 32 = .ok (.goto 4, 3) := by decide +kernel
theorem dX6_set_35 : decode cX6_set 35 = .ok (.iconst 0, 1) := by decide +kernel
theorem dX6_set_36 : decode cX6_set 36 = .ok (.istore_n 3, 1) := by decide +kernel
theorem dX6_set_37 : decode cX6_set 37 = .ok (.iload_n 3, 1) := by decide +kernel
theorem dX6_set_38 : decode cX6_set 38 = .ok (.ifCond .ne 6, 3) := by decide +kernel
theorem dX6_set_41 : decode cX6_set 41 = .ok (.bipush (-2), 2) := by decide +kernel
theorem dX6_set_43 : decode cX6_set 43 = .ok (.ireturn, 1) := by decide +kernel
theorem dX6_set_44 : decode cX6_set 44 = .ok (.aload_n 0, 1) := by decide +kernel
theorem dX6_set_45 : decode cX6_set 45 = .ok (.getfield 7, 3) := by decide +kernel
theorem dX6_set_48 : decode cX6_set 48 = .ok (.iconst 1, 1) := by decide +kernel
theorem dX6_set_49 : decode cX6_set 49 = .ok (.iload_n 1, 1) := by decide +kernel
theorem dX6_set_50 : decode cX6_set 50 = .ok (.iadd, 1) := by decide +kernel
theorem dX6_set_51 : decode cX6_set 51 = .ok (.iaload, 1) := by decide +kernel
theorem dX6_set_52 : decode cX6_set 52 = .ok (.istore 4, 2) := by decide +kernel
theorem dX6_set_54 : decode cX6_set 54 = .ok (.iload 4, 2) := by decide +kernel
theorem dX6_set_56 : decode cX6_set 56 = .ok (.iload_n 2, 1) := by decide +kernel
theorem dX6_set_57 : decode cX6_set 57 = .ok (.if_icmp .ne 6, 3) := by decide +kernel
theorem dX6_set_60 : decode cX6_set 60 = .ok (.bipush (-5), 2) := by decide +kernel
theorem dX6_set_62 : decode cX6_set 62 = .ok (.ireturn, 1) := by decide +kernel
theorem dX6_set_63 : decode cX6_set 63 = .ok (.aload_n 0, 1) := by decide +kernel
theorem dX6_set_64 : decode cX6_set 64 = .ok (.invokevirtual 105, 3) := by decide +kernel
theorem dX6_set_67 : decode cX6_set 67 = .ok (.aload_n 0, 1) := by decide +kernel
theorem dX6_set_68 : decode cX6_set 68 = .ok (.getfield 7, 3) := by decide +kernel
theorem dX6_set_71 : decode cX6_set 71 = .ok (.iconst 1, 1) := by decide +kernel
theorem dX6_set_72 : decode cX6_set 72 = .ok (.iload_n 1, 1) := by decide +kernel
theorem dX6_set_73 : decode cX6_set 73 = .ok (.iadd, 1) := by decide +kernel
theorem dX6_set_74 : decode cX6_set 74 = .ok (.iload_n 2, 1) := by decide +kernel
theorem dX6_set_75 : decode cX6_set 75 = .ok (.iastore, 1) := by decide +kernel
theorem dX6_set_76 : decode cX6_set 76 = .ok (.iload 4, 2) := by decide +kernel
theorem dX6_set_78 : decode cX6_set 78 = .ok (.ireturn, 1) := by decide +kernel
theorem dX6_strengthen_0 : decode cX6_strengthen 0 = .ok (.aload_n 0, 1) := by decide +kernel
theorem dX6_strengthen_1 : decode cX6_strengthen 1 = .ok (.iconst 0, 1) := by decide +kernel
theorem dX6_strengthen_2 : decode cX6_strengthen 2 = .ok (.putfield 34, 3) := by decide +kernel
theorem dX6_strengthen_5 : decode cX6_strengthen 5 = .ok (.aload_n 0, 1) := by decide +kernel
theorem dX6_strengthen_6 : decode cX6_strengthen 6 = .ok (.invokevirtual 122, 3) := by decide +kernel
theorem dX6_strengthen_9 : decode cX6_strengthen 9 = .ok (.istore_n 1, 1) := by decide +kernel
theorem dX6_strengthen_10 : decode cX6_strengthen 10 = .ok (.iconst 0, 1) := by decide +kernel
theorem dX6_strengthen_11 : decode cX6_strengthen 11 = .ok (.istore_n 2, 1) := by decide +kernel
theorem dX6_strengthen_12 : decode cX6_strengthen 12 = .ok (.iload_n 2, 1) := by decide +kernel
theorem dX6_strengthen_13 : decode cX6_strengthen 13 = .ok (.aload_n 0, 1) := by decide +kernel
theorem dX6_strengthen_14 : decode cX6_strengthen 14 = .ok (.getfield 7, 3) := by decide +kernel
theorem dX6_strengthen_17 : decode cX6_strengthen 17 = .ok (.iconst 0, 1) := by decide +kernel
theorem dX6_strengthen_18 : decode cX6_strengthen 18 = .ok (.iaload, 1) := by decide +kernel
theorem dX6_strengthen_19 : decode cX6_strengthen 19 = .ok (.if_icmp .ge 94, 3) := by decide +kernel
theorem dX6_strengthen_22 : decode cX6_strengthen 22 = .ok (.iload_n 2, 1) := by decide +kernel
theorem dX6_strengthen_23 : decode cX6_strengthen 23 = .ok (.iconst 1, 1) := by decide +kernel
theorem dX6_strengthen_24 : decode cX6_strengthen 24 = .ok (.iadd, 1) := by decide +kernel
theorem dX6_strengthen_25 : decode cX6_strengthen 25 = .ok (.istore_n 3, 1) := by decide +kernel
theorem dX6_strengthen_26 : decode cX6_strengthen 26 = .ok (.iload_n 3, 1) := by decide +kernel
theorem dX6_strengthen_27 : decode cX6_strengthen 27 = .ok (.aload_n 0, 1) := by decide +kernel
theorem dX6_strengthen_28 : decode cX6_strengthen 28 = .ok (.getfield 7, 3) := by decide +kernel
theorem dX6_strengthen_31 : decode cX6_strengthen 31 = .ok (.iconst 0, 1) := by decide +kernel
theorem dX6_strengthen_32 : decode cX6_strengthen 32 = .ok (.iaload, 1) := by decide +kernel
theorem dX6_strengthen_33 : decode cX6_strengthen 33 = .ok (.if_icmp .ge 74, 3) := by decide +kernel
theorem dX6_strengthen_36 : decode cX6_strengthen 36 = .ok (.iload_n 1, 1) := by decide +kernel
theorem dX6_strengthen_37 : decode cX6_strengthen 37 = .ok (.iload_n 2, 1) := by decide +kernel
theorem dX6_strengthen_38 : decode cX6_strengthen 38 = .ok (.ishr, 1) := by decide +kernel
theorem dX6_strengthen_39 : decode cX6_strengthen 39 = .ok (.iconst 1, 1) := by decide +kernel
theorem dX6_strengthen_40 : decode cX6_strengthen 40 = .ok (.iand, 1) := by decide +kernel
theorem dX6_strengthen_41 : decode cX6_strengthen 41 = .ok (.iload_n 1, 1) := by decide +kernel
theorem dX6_strengthen_42 : decode cX6_strengthen 42 = .ok (.iload_n 3, 1) := by decide +kernel
theorem dX6_strengthen_43 : decode cX6_strengthen 43 = .ok (.ishr, 1) := by decide +kernel
theorem dX6_strengthen_44 : decode cX6_strengthen 44 = .ok (.iconst 1, 1) := by decide +kernel
theorem dX6_strengthen_45 : decode cX6_strengthen 45 = .ok (.iand, 1) := by decide +kernel
theorem dX6_strengthen_46 : decode cX6_strengthen 46 = .ok (.if_icmp .eq 7, 3) := by decide +kernel
theorem dX6_strengthen_49 : decode cX6_strengthen 49 = .ok (.iconst 1, 1) := by decide +kernel
theorem dX6_strengthen_50 : decode cX6_strengthen 50 = .ok (.goto 4, 3) := by decide +kernel
theorem dX6_strengthen_53 : decode cX6_strengthen 53 = .ok (.iconst 0, 1) := by decide +kernel
theorem dX6_strengthen_54 : decode cX6_strengthen 54 = .ok (.istore 4, 2) := by decide +kernel
theorem dX6_strengthen_56 : decode cX6_strengthen 56 = .ok (.iload 4, 2) := by decide +kernel
theorem dX6_strengthen_58 : decode cX6_strengthen 58 = .ok (.ifCond .eq 43, 3) := by decide +kernel
theorem dX6_strengthen_61 : decode cX6_strengthen 61 = .ok (.aload_n 0, 1) := by decide +kernel
theorem dX6_strengthen_62 : decode cX6_strengthen 62 = .ok (.iload_n 2, 1) := by decide +kernel
theorem dX6_strengthen_63 : decode cX6_strengthen 63 = .ok (.iload_n 3, 1) := by decide +kernel
theorem dX6_strengthen_64 : decode cX6_strengthen 64 = .ok (.invokevirtual 45, 3) := by decide +kernel
theorem dX6_strengthen_67 : decode cX6_strengthen 67 = .ok (.iconst 1, 1) := by decide +kernel
theorem dX6_strengthen_68 : decode cX6_strengthen 68 = .ok (.bipush 98, 2) := by decide +kernel
theorem dX6_strengthen_70 : decode cX6_strengthen 70 = .ok (.invokestatic 38, 3) := by decide +kernel
theorem dX6_strengthen_73 : decode cX6_strengthen 73 = .ok (.ifCond .eq 28, 3) := by decide +kernel
theorem dX6_strengthen_76 : decode cX6_strengthen 76 = .ok (.aload_n 0, 1) := by decide +kernel
theorem dX6_strengthen_77 : decode cX6_strengthen 77 = .ok (.invokevirtual 105, 3) := by decide +kernel
theorem dX6_strengthen_80 : decode cX6_strengthen 80 = .ok (.aload_n 0, 1) := by decide +kernel
theorem dX6_strengthen_81 : decode cX6_strengthen 81 = .ok (.iload_n 2, 1) := by decide +kernel
theorem dX6_strengthen_82 : decode cX6_strengthen 82 = .ok (.iload_n 3, 1) := by decide +kernel
theorem dX6_strengthen_83 : decode cX6_strengthen 83 = .ok (.aload_n 0, 1) := by decide +kernel
theorem dX6_strengthen_84 : decode cX6_strengthen 84 = .ok (.iload_n 2, 1) := by decide +kernel
theorem dX6_strengthen_85 : decode cX6_strengthen 85 = .ok (.iload_n 3, 1) := by decide +kernel
theorem dX6_strengthen_86 : decode cX6_strengthen 86 = .ok (.invokevirtual 45, 3) := by decide +kernel
theorem dX6_strengthen_89 : decode cX6_strengthen 89 = .ok (.iconst 1, 1) := by decide +kernel
theorem dX6_strengthen_90 : decode cX6_strengthen 90 = .ok (.iadd, 1) := by decide +kernel
theorem dX6_strengthen_91 : decode cX6_strengthen 91 = .ok (.invokevirtual 114, 3) := by decide +kernel
theorem dX6_strengthen_94 : decode cX6_strengthen 94 = .ok (.bipush 10, 2) := by decide +kernel
theorem dX6_strengthen_96 : decode cX6_strengthen 96 = .ok (.iload_n 2, 1) := by decide +kernel
theorem dX6_strengthen_97 : decode cX6_strengthen 97 = .ok (.imul, 1) := by decide +kernel
theorem dX6_strengthen_98 : decode cX6_strengthen 98 = .ok (.iload_n 3, 1) := by decide +kernel
theorem dX6_strengthen_99 : decode cX6_strengthen 99 = .ok (.iadd, 1) := by decide +kernel
theorem dX6_strengthen_100 : decode cX6_strengthen 100 = .ok (.ireturn, 1) := by decide +kernel
theorem dX6_strengthen_101 : decode cX6_strengthen 101 = .ok (.iinc 3 1, 3) := by decide +kernel
theorem dX6_strengthen_104 : decode cX6_strengthen 104 = .ok (.goto (-78), 3) := by decide +kernel
theorem dX6_strengthen_107 : decode cX6_strengthen 107 = .ok (.iinc 2 1, 3) := by decide +kernel
theorem dX6_strengthen_110 : decode cX6_strengthen 110 = .ok (.goto (-98), 3) := by decide +kernel
theorem dX6_strengthen_113 : decode cX6_strengthen 113 = .ok (.bipush (-4), 2) := by decide +kernel
theorem dX6_strengthen_115 : decode cX6_strengthen 115 = .ok (.ireturn, 1) := by decide +kernel
theorem dX6_letter_0 : decode cX6_letter 0 = .ok (.aload_n 0, 1) := by decide +kernel
theorem dX6_letter_1 : decode cX6_letter 1 = .ok (.getfield 125, 3) := by decide +kernel
theorem dX6_letter_4 : decode cX6_letter 4 = .ok (.aload_n 0, 1) := by decide +kernel
theorem dX6_letter_5 : decode cX6_letter 5 = .ok (.getfield 128, 3) := by decide +kernel
theorem dX6_letter_8 : decode cX6_letter 8 = .ok (.if_icmp .ge 15, 3) := by decide +kernel
theorem dX6_letter_11 : decode cX6_letter 11 = .ok (.aload_n 0, 1) := by decide +kernel
theorem dX6_letter_12 : decode cX6_letter 12 = .ok (.getfield 19, 3) := by decide +kernel
theorem dX6_letter_15 : decode cX6_letter 15 = .ok (.aload_n 0, 1) := by decide +kernel
theorem dX6_letter_16 : decode cX6_letter 16 = .ok (.getfield 125, 3) := by decide +kernel
theorem dX6_letter_19 : decode cX6_letter 19 = .ok (.iaload, 1) := by decide +kernel
theorem dX6_letter_20 : decode cX6_letter 20 = .ok (.goto 4, 3) := by decide +kernel
theorem dX6_letter_23 : decode cX6_letter 23 = .ok (.iconst 0, 1) := by decide +kernel
theorem dX6_letter_24 : decode cX6_letter 24 = .ok (.ireturn, 1) := by decide +kernel
theorem dX6_wants_0 : decode cX6_wants 0 = .ok (.aload_n 0, 1) := by decide +kernel
theorem dX6_wants_1 : decode cX6_wants 1 = .ok (.aload_n 0, 1) := by decide +kernel
theorem dX6_wants_2 : decode cX6_wants 2 = .ok (.getfield 131, 3) := by decide +kernel
theorem dX6_wants_5 : decode cX6_wants 5 = .ok (.ifCond .eq 19, 3) := by decide +kernel
theorem dX6_wants_8 : decode cX6_wants 8 = .ok (.aload_n 0, 1) := by decide +kernel
theorem dX6_wants_9 : decode cX6_wants 9 = .ok (.invokevirtual 135, 3) := by decide +kernel
theorem dX6_wants_12 : decode cX6_wants 12 = .ok (.iload_n 1, 1) := by decide +kernel
theorem dX6_wants_13 : decode cX6_wants 13 = .ok (.iload_n 2, 1) := by decide +kernel
theorem dX6_wants_14 : decode cX6_wants 14 = .ok (.invokestatic 38, 3) := by decide +kernel
theorem dX6_wants_17 : decode cX6_wants 17 = .ok (.ifCond .eq 7, 3) := by decide +kernel
theorem dX6_wants_20 : decode cX6_wants 20 = .ok (.iconst 1, 1) := by decide +kernel
theorem dX6_wants_21 : decode cX6_wants 21 = .ok (.goto 4, 3) := by decide +kernel
theorem dX6_wants_24 : decode cX6_wants 24 = .ok (.iconst 0, 1) := by decide +kernel
theorem dX6_wants_25 : decode cX6_wants 25 = .ok (.putfield 131, 3) := by decide +kernel
theorem dX6_wants_28 : decode cX6_wants 28 = .ok (.aload_n 0, 1) := by decide +kernel
theorem dX6_wants_29 : decode cX6_wants 29 = .ok (.invokevirtual 135, 3) := by decide +kernel
theorem dX6_wants_32 : decode cX6_wants 32 = .ok (.iload_n 1, 1) := by decide +kernel
theorem dX6_wants_33 : decode cX6_wants 33 = .ok (.isub, 1) := by decide +kernel
theorem dX6_wants_34 : decode cX6_wants 34 = .ok (.istore_n 3, 1) := by decide +kernel
theorem dX6_wants_35 : decode cX6_wants 35 = .ok (.aload_n 0, 1) := by decide +kernel
theorem dX6_wants_36 : decode cX6_wants 36 = .ok (.dup, 1) := by decide +kernel
theorem dX6_wants_37 : decode cX6_wants 37 = .ok (.getfield 125, 3) := by decide +kernel
theorem dX6_wants_40 : decode cX6_wants 40 = .ok (.aload_n 0, 1) := by decide +kernel
theorem dX6_wants_41 : decode cX6_wants 41 = .ok (.getfield 131, 3) := by decide +kernel
theorem dX6_wants_44 : decode cX6_wants 44 = .ok (.ifCond .eq 7, 3) := by decide +kernel
theorem dX6_wants_47 : decode cX6_wants 47 = .ok (.iconst 1, 1) := by decide +kernel
theorem dX6_wants_48 : decode cX6_wants 48 = .ok (.goto 4, 3) := by decide +kernel
theorem dX6_wants_51 : decode cX6_wants 51 = .ok (.iconst 0, 1) := by decide +kernel
theorem dX6_wants_52 : decode cX6_wants 52 = .ok (.iadd, 1) := by decide +kernel
theorem dX6_wants_53 : decode cX6_wants 53 = .ok (.putfield 125, 3) := by decide +kernel
theorem dX6_wants_56 : decode cX6_wants 56 = .ok (.iload_n 3, 1) := by decide +kernel
theorem dX6_wants_57 : decode cX6_wants 57 = .ok (.ireturn, 1) := by decide +kernel
theorem dX6_readsTie_0 : decode cX6_readsTie 0 = .ok (.aload_n 0, 1) := by decide +kernel
theorem dX6_readsTie_1 : decode cX6_readsTie 1 = .ok (.bipush 97, 2) := by decide +kernel
theorem dX6_readsTie_3 : decode cX6_readsTie 3 = .ok (.bipush 105, 2) := by decide +kernel
theorem dX6_readsTie_5 : decode cX6_readsTie 5 = .ok (.invokevirtual 138, 3) := by decide +kernel
theorem dX6_readsTie_8 : decode cX6_readsTie 8 = .ok (.istore_n 1, 1) := by decide +kernel
theorem dX6_readsTie_9 : decode cX6_readsTie 9 = .ok (.aload_n 0, 1) := by decide +kernel
theorem dX6_readsTie_10 : decode cX6_readsTie 10 = .ok (.bipush 97, 2) := by decide +kernel
theorem dX6_readsTie_12 : decode cX6_readsTie 12 = .ok (.iload_n 1, 1) := by decide +kernel
theorem dX6_readsTie_13 : decode cX6_readsTie 13 = .ok (.iadd, 1) := by decide +kernel
theorem dX6_readsTie_14 : decode cX6_readsTie 14 = .ok (.iconst 1, 1) := by decide +kernel
theorem dX6_readsTie_15 : decode cX6_readsTie 15 = .ok (.iadd, 1) := by decide +kernel
theorem dX6_readsTie_16 : decode cX6_readsTie 16 = .ok (.bipush 106, 2) := by decide +kernel
theorem dX6_readsTie_18 : decode cX6_readsTie 18 = .ok (.invokevirtual 138, 3) := by decide +kernel
theorem dX6_readsTie_21 : decode cX6_readsTie 21 = .ok (.iload_n 1, 1) := by decide +kernel
theorem dX6_readsTie_22 : decode cX6_readsTie 22 = .ok (.iadd, 1) := by decide +kernel
theorem dX6_readsTie_23 : decode cX6_readsTie 23 = .ok (.iconst 1, 1) := by decide +kernel
theorem dX6_readsTie_24 : decode cX6_readsTie 24 = .ok (.iadd, 1) := by decide +kernel
theorem dX6_readsTie_25 : decode cX6_readsTie 25 = .ok (.istore_n 2, 1) := by decide +kernel
theorem dX6_readsTie_26 : decode cX6_readsTie 26 = .ok (.aload_n 0, 1) := by decide +kernel
theorem dX6_readsTie_27 : decode cX6_readsTie 27 = .ok (.bipush 48, 2) := by decide +kernel
theorem dX6_readsTie_29 : decode cX6_readsTie 29 = .ok (.bipush 57, 2) := by decide +kernel
theorem dX6_readsTie_31 : decode cX6_readsTie 31 = .ok (.invokevirtual 138, 3) := by decide +kernel
theorem dX6_readsTie_34 : decode cX6_readsTie 34 = .ok (.istore_n 3, 1) := by decide +kernel
theorem dX6_readsTie_35 : decode cX6_readsTie 35 = .ok (.aload_n 0, 1) := by decide +kernel
theorem dX6_readsTie_36 : decode cX6_readsTie 36 = .ok (.getfield 131, 3) := by decide +kernel
theorem dX6_readsTie_39 : decode cX6_readsTie 39 = .ok (.ifCond .eq 44, 3) := by decide +kernel
theorem dX6_readsTie_42 : decode cX6_readsTie 42 = .ok (.iload_n 3, 1) := by decide +kernel
theorem dX6_readsTie_43 : decode cX6_readsTie 43 = .ok (.ifCond .le 40, 3) := by decide +kernel
theorem dX6_readsTie_46 : decode cX6_readsTie 46 = .ok (.aload_n 0, 1) := by decide +kernel
theorem dX6_readsTie_47 : decode cX6_readsTie 47 = .ok (.invokevirtual 135, 3) := by decide +kernel
theorem dX6_readsTie_50 : decode cX6_readsTie 50 = .ok (.bipush 48, 2) := by decide +kernel
theorem dX6_readsTie_52 : decode cX6_readsTie 52 = .ok (.bipush 57, 2) := by decide +kernel
theorem dX6_readsTie_54 : decode cX6_readsTie 54 = .ok (.invokestatic 38, 3) := by decide +kernel
theorem dX6_readsTie_57 : decode cX6_readsTie 57 = .ok (.ifCond .eq 26, 3) := by decide +kernel
theorem dX6_readsTie_60 : decode cX6_readsTie 60 = .ok (.bipush 10, 2) := by decide +kernel
theorem dX6_readsTie_62 : decode cX6_readsTie 62 = .ok (.iload_n 3, 1) := by decide +kernel
theorem dX6_readsTie_63 : decode cX6_readsTie 63 = .ok (.imul, 1) := by decide +kernel
theorem dX6_readsTie_64 : decode cX6_readsTie 64 = .ok (.aload_n 0, 1) := by decide +kernel
theorem dX6_readsTie_65 : decode cX6_readsTie 65 = .ok (.invokevirtual 135, 3) := by decide +kernel
theorem dX6_readsTie_68 : decode cX6_readsTie 68 = .ok (.iadd, 1) := by decide +kernel
theorem dX6_readsTie_69 : decode cX6_readsTie 69 = .ok (.bipush 48, 2) := by decide +kernel
theorem dX6_readsTie_71 : decode cX6_readsTie 71 = .ok (.isub, 1) := by decide +kernel
theorem dX6_readsTie_72 : decode cX6_readsTie 72 = .ok (.istore_n 3, 1) := by decide +kernel
theorem dX6_readsTie_73 : decode cX6_readsTie 73 = .ok (.aload_n 0, 1) := by decide +kernel
theorem dX6_readsTie_74 : decode cX6_readsTie 74 = .ok (.dup, 1) := by decide +kernel
theorem dX6_readsTie_75 : decode cX6_readsTie 75 = .ok (.getfield 125, 3) := by decide +kernel
theorem dX6_readsTie_78 : decode cX6_readsTie 78 = .ok (.iconst 1, 1) := by decide +kernel
theorem dX6_readsTie_79 : decode cX6_readsTie 79 = .ok (.iadd, 1) := by decide +kernel
theorem dX6_readsTie_80 : decode cX6_readsTie 80 = .ok (.putfield 125, 3) := by decide +kernel
theorem dX6_readsTie_83 : decode cX6_readsTie 83 = .ok (.aload_n 0, 1) := by decide +kernel
theorem dX6_readsTie_84 : decode cX6_readsTie 84 = .ok (.getfield 131, 3) := by decide +kernel
theorem dX6_readsTie_87 : decode cX6_readsTie 87 = .ok (.ifCond .eq 53, 3) := by decide +kernel
theorem dX6_readsTie_90 : decode cX6_readsTie 90 = .ok (.aload_n 0, 1) := by decide +kernel
theorem dX6_readsTie_91 : decode cX6_readsTie 91 = .ok (.getfield 31, 3) := by decide +kernel
theorem dX6_readsTie_94 : decode cX6_readsTie 94 = .ok (.iconst 3, 1) := by decide +kernel
theorem dX6_readsTie_95 : decode cX6_readsTie 95 = .ok (.aload_n 0, 1) := by decide +kernel
theorem dX6_readsTie_96 : decode cX6_readsTie 96 = .ok (.getfield 141, 3) := by decide +kernel
theorem dX6_readsTie_99 : decode cX6_readsTie 99 = .ok (.imul, 1) := by decide +kernel
theorem dX6_readsTie_100 : decode cX6_readsTie 100 = .ok (.iload_n 1, 1) := by decide +kernel
theorem dX6_readsTie_101 : decode cX6_readsTie 101 = .ok (.iastore, 1) := by decide +kernel
theorem dX6_readsTie_102 : decode cX6_readsTie 102 = .ok (.aload_n 0, 1) := by decide +kernel
theorem dX6_readsTie_103 : decode cX6_readsTie 103 = .ok (.getfield 31, 3) := by decide +kernel
theorem dX6_readsTie_106 : decode cX6_readsTie 106 = .ok (.iconst 3, 1) := by decide +kernel
theorem dX6_readsTie_107 : decode cX6_readsTie 107 = .ok (.aload_n 0, 1) := by decide +kernel
theorem dX6_readsTie_108 : decode cX6_readsTie 108 = .ok (.getfield 141, 3) := by decide +kernel
theorem dX6_readsTie_111 : decode cX6_readsTie 111 = .ok (.imul, 1) := by decide +kernel
theorem dX6_readsTie_112 : decode cX6_readsTie 112 = .ok (.iconst 1, 1) := by decide +kernel
theorem dX6_readsTie_113 : decode cX6_readsTie 113 = .ok (.iadd, 1) := by decide +kernel
theorem dX6_readsTie_114 : decode cX6_readsTie 114 = .ok (.iload_n 2, 1) := by decide +kernel
theorem dX6_readsTie_115 : decode cX6_readsTie 115 = .ok (.iastore, 1) := by decide +kernel
theorem dX6_readsTie_116 : decode cX6_readsTie 116 = .ok (.aload_n 0, 1) := by decide +kernel
theorem dX6_readsTie_117 : decode cX6_readsTie 117 = .ok (.getfield 31, 3) := by decide +kernel
theorem dX6_readsTie_120 : decode cX6_readsTie 120 = .ok (.iconst 3, 1) := by decide +kernel
theorem dX6_readsTie_121 : decode cX6_readsTie 121 = .ok (.aload_n 0, 1) := by decide +kernel
theorem dX6_readsTie_122 : decode cX6_readsTie 122 = .ok (.getfield 141, 3) := by decide +kernel
theorem dX6_readsTie_125 : decode cX6_readsTie 125 = .ok (.imul, 1) := by decide +kernel
theorem dX6_readsTie_126 : decode cX6_readsTie 126 = .ok (.iconst 2, 1) := by decide +kernel
theorem dX6_readsTie_127 : decode cX6_readsTie 127 = .ok (.iadd, 1) := by decide +kernel
theorem dX6_readsTie_128 : decode cX6_readsTie 128 = .ok (.iload_n 3, 1) := by decide +kernel
theorem dX6_readsTie_129 : decode cX6_readsTie 129 = .ok (.iastore, 1) := by decide +kernel
theorem dX6_readsTie_130 : decode cX6_readsTie 130 = .ok (.aload_n 0, 1) := by decide +kernel
theorem dX6_readsTie_131 : decode cX6_readsTie 131 = .ok (.dup, 1) := by decide +kernel
theorem dX6_readsTie_132 : decode cX6_readsTie 132 = .ok (.getfield 141, 3) := by decide +kernel
theorem dX6_readsTie_135 : decode cX6_readsTie 135 = .ok (.iconst 1, 1) := by decide +kernel
theorem dX6_readsTie_136 : decode cX6_readsTie 136 = .ok (.iadd, 1) := by decide +kernel
theorem dX6_readsTie_137 : decode cX6_readsTie 137 = .ok (.putfield 141, 3) := by decide +kernel
theorem dX6_readsTie_140 : decode cX6_readsTie 140 = .ok (.return_, 1) := by decide +kernel
theorem dX6_reads_0 : decode cX6_reads 0 = .ok (.aload_n 0, 1) := by decide +kernel
theorem dX6_reads_1 : decode cX6_reads 1 = .ok (.iconst 0, 1) := by decide +kernel
theorem dX6_reads_2 : decode cX6_reads 2 = .ok (.putfield 125, 3) := by decide +kernel
theorem dX6_reads_5 : decode cX6_reads 5 = .ok (.aload_n 0, 1) := by decide +kernel
theorem dX6_reads_6 : decode cX6_reads 6 = .ok (.iconst 1, 1) := by decide +kernel
theorem dX6_reads_7 : decode cX6_reads 7 = .ok (.putfield 131, 3) := by decide +kernel
theorem dX6_reads_10 : decode cX6_reads 10 = .ok (.aload_n 0, 1) := by decide +kernel
theorem dX6_reads_11 : decode cX6_reads 11 = .ok (.iconst 0, 1) := by decide +kernel
theorem dX6_reads_12 : decode cX6_reads 12 = .ok (.putfield 141, 3) := by decide +kernel
theorem dX6_reads_15 : decode cX6_reads 15 = .ok (.aload_n 0, 1) := by decide +kernel
theorem dX6_reads_16 : decode cX6_reads 16 = .ok (.invokevirtual 144, 3) := by decide +kernel
theorem dX6_reads_19 : decode cX6_reads 19 = .ok (.aload_n 0, 1) := by decide +kernel
theorem dX6_reads_20 : decode cX6_reads 20 = .ok (.getfield 131, 3) := by decide +kernel
theorem dX6_reads_23 : decode cX6_reads 23 = .ok (.ifCond .eq 37, 3) := by decide +kernel
theorem dX6_reads_26 : decode cX6_reads 26 = .ok (.aload_n 0, 1) := by decide +kernel
theorem dX6_reads_27 : decode cX6_reads 27 = .ok (.getfield 125, 3) := by decide +kernel
theorem dX6_reads_30 : decode cX6_reads 30 = .ok (.aload_n 0, 1) := by decide +kernel
theorem dX6_reads_31 : decode cX6_reads 31 = .ok (.getfield 128, 3) := by decide +kernel
theorem dX6_reads_34 : decode cX6_reads 34 = .ok (.if_icmp .ge 26, 3) := by decide +kernel
theorem dX6_reads_37 : decode cX6_reads 37 = .ok (.aload_n 0, 1) := by decide +kernel
theorem dX6_reads_38 : decode cX6_reads 38 = .ok (.bipush 44, 2) := by decide +kernel
theorem dX6_reads_40 : decode cX6_reads 40 = .ok (.bipush 44, 2) := by decide +kernel
theorem dX6_reads_42 : decode cX6_reads 42 = .ok (.invokevirtual 138, 3) := by decide +kernel
theorem dX6_reads_45 : decode cX6_reads 45 = .ok (.pop, 1) := by decide +kernel
theorem dX6_reads_46 : decode cX6_reads 46 = .ok (.aload_n 0, 1) := by decide +kernel
theorem dX6_reads_47 : decode cX6_reads 47 = .ok (.getfield 131, 3) := by decide +kernel
theorem dX6_reads_50 : decode cX6_reads 50 = .ok (.ifCond .eq (-31), 3) := by decide +kernel
theorem dX6_reads_53 : decode cX6_reads 53 = .ok (.aload_n 0, 1) := by decide +kernel
theorem dX6_reads_54 : decode cX6_reads 54 = .ok (.invokevirtual 144, 3) := by decide +kernel
theorem dX6_reads_57 : decode cX6_reads 57 = .ok (.goto (-38), 3) := by decide +kernel
theorem dX6_reads_60 : decode cX6_reads 60 = .ok (.aload_n 0, 1) := by decide +kernel
theorem dX6_reads_61 : decode cX6_reads 61 = .ok (.getfield 131, 3) := by decide +kernel
theorem dX6_reads_64 : decode cX6_reads 64 = .ok (.ifCond .eq 8, 3) := by decide +kernel
theorem dX6_reads_67 : decode cX6_reads 67 = .ok (.bipush (-5), 2) := by decide +kernel
theorem dX6_reads_69 : decode cX6_reads 69 = .ok (.goto 7, 3) := by decide +kernel
theorem dX6_reads_72 : decode cX6_reads 72 = .ok (.aload_n 0, 1) := by decide +kernel
theorem dX6_reads_73 : decode cX6_reads 73 = .ok (.getfield 125, 3) := by decide +kernel
theorem dX6_reads_76 : decode cX6_reads 76 = .ok (.ireturn, 1) := by decide +kernel
theorem dX6_tieAll_0 : decode cX6_tieAll 0 = .ok (.aload_n 0, 1) := by decide +kernel
theorem dX6_tieAll_1 : decode cX6_tieAll 1 = .ok (.iconst 0, 1) := by decide +kernel
theorem dX6_tieAll_2 : decode cX6_tieAll 2 = .ok (.putfield 34, 3) := by decide +kernel
theorem dX6_tieAll_5 : decode cX6_tieAll 5 = .ok (.aload_n 0, 1) := by decide +kernel
theorem dX6_tieAll_6 : decode cX6_tieAll 6 = .ok (.invokevirtual 147, 3) := by decide +kernel
theorem dX6_tieAll_9 : decode cX6_tieAll 9 = .ok (.istore_n 1, 1) := by decide +kernel
theorem dX6_tieAll_10 : decode cX6_tieAll 10 = .ok (.iload_n 1, 1) := by decide +kernel
theorem dX6_tieAll_11 : decode cX6_tieAll 11 = .ok (.bipush (-5), 2) := by decide +kernel
theorem dX6_tieAll_13 : decode cX6_tieAll 13 = .ok (.if_icmp .eq 8, 3) := by decide +kernel
theorem dX6_tieAll_16 : decode cX6_tieAll 16 = .ok (.bipush (-100), 2) := by decide +kernel
theorem dX6_tieAll_18 : decode cX6_tieAll 18 = .ok (.iload_n 1, 1) := by decide +kernel
theorem dX6_tieAll_19 : decode cX6_tieAll 19 = .ok (.isub, 1) := by decide +kernel
theorem dX6_tieAll_20 : decode cX6_tieAll 20 = .ok (.ireturn, 1) := by decide +kernel
theorem dX6_tieAll_21 : decode cX6_tieAll 21 = .ok (.iconst 0, 1) := by decide +kernel
theorem dX6_tieAll_22 : decode cX6_tieAll 22 = .ok (.istore_n 2, 1) := by decide +kernel
theorem dX6_tieAll_23 : decode cX6_tieAll 23 = .ok (.iload_n 2, 1) := by decide +kernel
theorem dX6_tieAll_24 : decode cX6_tieAll 24 = .ok (.aload_n 0, 1) := by decide +kernel
theorem dX6_tieAll_25 : decode cX6_tieAll 25 = .ok (.getfield 141, 3) := by decide +kernel
theorem dX6_tieAll_28 : decode cX6_tieAll 28 = .ok (.if_icmp .ge 28, 3) := by decide +kernel
theorem dX6_tieAll_31 : decode cX6_tieAll 31 = .ok (.aload_n 0, 1) := by decide +kernel
theorem dX6_tieAll_32 : decode cX6_tieAll 32 = .ok (.aload_n 0, 1) := by decide +kernel
theorem dX6_tieAll_33 : decode cX6_tieAll 33 = .ok (.getfield 31, 3) := by decide +kernel
theorem dX6_tieAll_36 : decode cX6_tieAll 36 = .ok (.iconst 3, 1) := by decide +kernel
theorem dX6_tieAll_37 : decode cX6_tieAll 37 = .ok (.iload_n 2, 1) := by decide +kernel
theorem dX6_tieAll_38 : decode cX6_tieAll 38 = .ok (.imul, 1) := by decide +kernel
theorem dX6_tieAll_39 : decode cX6_tieAll 39 = .ok (.iconst 1, 1) := by decide +kernel
theorem dX6_tieAll_40 : decode cX6_tieAll 40 = .ok (.iadd, 1) := by decide +kernel
theorem dX6_tieAll_41 : decode cX6_tieAll 41 = .ok (.iaload, 1) := by decide +kernel
theorem dX6_tieAll_42 : decode cX6_tieAll 42 = .ok (.invokevirtual 108, 3) := by decide +kernel
theorem dX6_tieAll_45 : decode cX6_tieAll 45 = .ok (.ifCond .ne 5, 3) := by decide +kernel
theorem dX6_tieAll_48 : decode cX6_tieAll 48 = .ok (.iconst (-1), 1) := by decide +kernel
theorem dX6_tieAll_49 : decode cX6_tieAll 49 = .ok (.ireturn, 1) := by decide +kernel
theorem dX6_tieAll_50 : decode cX6_tieAll 50 = .ok (.iinc 2 1, 3) := by decide +kernel
theorem dX6_tieAll_53 : decode cX6_tieAll 53 = .ok (.goto (-30), 3) := by decide +kernel
theorem dX6_tieAll_56 : decode cX6_tieAll 56 = .ok (.aload_n 0, 1) := by decide +kernel
theorem dX6_tieAll_57 : decode cX6_tieAll 57 = .ok (.invokevirtual 105, 3) := by decide +kernel
theorem dX6_tieAll_60 : decode cX6_tieAll 60 = .ok (.iconst 0, 1) := by decide +kernel
theorem dX6_tieAll_61 : decode cX6_tieAll 61 = .ok (.istore_n 2, 1) := by decide +kernel
theorem dX6_tieAll_62 : decode cX6_tieAll 62 = .ok (.iload_n 2, 1) := by decide +kernel
theorem dX6_tieAll_63 : decode cX6_tieAll 63 = .ok (.aload_n 0, 1) := by decide +kernel
theorem dX6_tieAll_64 : decode cX6_tieAll 64 = .ok (.getfield 141, 3) := by decide +kernel
theorem dX6_tieAll_67 : decode cX6_tieAll 67 = .ok (.if_icmp .ge 41, 3) := by decide +kernel
theorem dX6_tieAll_70 : decode cX6_tieAll 70 = .ok (.aload_n 0, 1) := by decide +kernel
theorem dX6_tieAll_71 : decode cX6_tieAll 71 = .ok (.aload_n 0, 1) := by decide +kernel
theorem dX6_tieAll_72 : decode cX6_tieAll 72 = .ok (.getfield 31, 3) := by decide +kernel
theorem dX6_tieAll_75 : decode cX6_tieAll 75 = .ok (.iconst 3, 1) := by decide +kernel
theorem dX6_tieAll_76 : decode cX6_tieAll 76 = .ok (.iload_n 2, 1) := by decide +kernel
theorem dX6_tieAll_77 : decode cX6_tieAll 77 = .ok (.imul, 1) := by decide +kernel
theorem dX6_tieAll_78 : decode cX6_tieAll 78 = .ok (.iaload, 1) := by decide +kernel
theorem dX6_tieAll_79 : decode cX6_tieAll 79 = .ok (.aload_n 0, 1) := by decide +kernel
theorem dX6_tieAll_80 : decode cX6_tieAll 80 = .ok (.getfield 31, 3) := by decide +kernel
theorem dX6_tieAll_83 : decode cX6_tieAll 83 = .ok (.iconst 3, 1) := by decide +kernel
theorem dX6_tieAll_84 : decode cX6_tieAll 84 = .ok (.iload_n 2, 1) := by decide +kernel
theorem dX6_tieAll_85 : decode cX6_tieAll 85 = .ok (.imul, 1) := by decide +kernel
theorem dX6_tieAll_86 : decode cX6_tieAll 86 = .ok (.iconst 1, 1) := by decide +kernel
theorem dX6_tieAll_87 : decode cX6_tieAll 87 = .ok (.iadd, 1) := by decide +kernel
theorem dX6_tieAll_88 : decode cX6_tieAll 88 = .ok (.iaload, 1) := by decide +kernel
theorem dX6_tieAll_89 : decode cX6_tieAll 89 = .ok (.aload_n 0, 1) := by decide +kernel
theorem dX6_tieAll_90 : decode cX6_tieAll 90 = .ok (.getfield 31, 3) := by decide +kernel
theorem dX6_tieAll_93 : decode cX6_tieAll 93 = .ok (.iconst 3, 1) := by decide +kernel
theorem dX6_tieAll_94 : decode cX6_tieAll 94 = .ok (.iload_n 2, 1) := by decide +kernel
theorem dX6_tieAll_95 : decode cX6_tieAll 95 = .ok (.imul, 1) := by decide +kernel
theorem dX6_tieAll_96 : decode cX6_tieAll 96 = .ok (.iconst 2, 1) := by decide +kernel
theorem dX6_tieAll_97 : decode cX6_tieAll 97 = .ok (.iadd, 1) := by decide +kernel
theorem dX6_tieAll_98 : decode cX6_tieAll 98 = .ok (.iaload, 1) := by decide +kernel
theorem dX6_tieAll_99 : decode cX6_tieAll 99 = .ok (.invokevirtual 114, 3) := by decide +kernel
theorem dX6_tieAll_102 : decode cX6_tieAll 102 = .ok (.iinc 2 1, 3) := by decide +kernel
theorem dX6_tieAll_105 : decode cX6_tieAll 105 = .ok (.goto (-43), 3) := by decide +kernel
theorem dX6_tieAll_108 : decode cX6_tieAll 108 = .ok (.aload_n 0, 1) := by decide +kernel
theorem dX6_tieAll_109 : decode cX6_tieAll 109 = .ok (.getfield 141, 3) := by decide +kernel
theorem dX6_tieAll_112 : decode cX6_tieAll 112 = .ok (.ireturn, 1) := by decide +kernel
theorem dX6_type_0 : decode cX6_type 0 = .ok (.aload_n 0, 1) := by decide +kernel
theorem dX6_type_1 : decode cX6_type 1 = .ok (.iconst 0, 1) := by decide +kernel
theorem dX6_type_2 : decode cX6_type 2 = .ok (.putfield 34, 3) := by decide +kernel
theorem dX6_type_5 : decode cX6_type 5 = .ok (.aload_n 0, 1) := by decide +kernel
theorem dX6_type_6 : decode cX6_type 6 = .ok (.getfield 128, 3) := by decide +kernel
theorem dX6_type_9 : decode cX6_type 9 = .ok (.bipush 60, 2) := by decide +kernel
theorem dX6_type_11 : decode cX6_type 11 = .ok (.if_icmp .ne 6, 3) := by decide +kernel
theorem dX6_type_14 : decode cX6_type 14 = .ok (.bipush (-3), 2) := by decide +kernel
theorem dX6_type_16 : decode cX6_type 16 = .ok (.ireturn, 1) := by decide +kernel
theorem dX6_type_17 : decode cX6_type 17 = .ok (.aload_n 0, 1) := by decide +kernel
theorem dX6_type_18 : decode cX6_type 18 = .ok (.getfield 19, 3) := by decide +kernel
theorem dX6_type_21 : decode cX6_type 21 = .ok (.aload_n 0, 1) := by decide +kernel
theorem dX6_type_22 : decode cX6_type 22 = .ok (.getfield 128, 3) := by decide +kernel
theorem dX6_type_25 : decode cX6_type 25 = .ok (.iload_n 1, 1) := by decide +kernel
theorem dX6_type_26 : decode cX6_type 26 = .ok (.iastore, 1) := by decide +kernel
theorem dX6_type_27 : decode cX6_type 27 = .ok (.aload_n 0, 1) := by decide +kernel
theorem dX6_type_28 : decode cX6_type 28 = .ok (.dup, 1) := by decide +kernel
theorem dX6_type_29 : decode cX6_type 29 = .ok (.getfield 128, 3) := by decide +kernel
theorem dX6_type_32 : decode cX6_type 32 = .ok (.iconst 1, 1) := by decide +kernel
theorem dX6_type_33 : decode cX6_type 33 = .ok (.iadd, 1) := by decide +kernel
theorem dX6_type_34 : decode cX6_type 34 = .ok (.putfield 128, 3) := by decide +kernel
theorem dX6_type_37 : decode cX6_type 37 = .ok (.aload_n 0, 1) := by decide +kernel
theorem dX6_type_38 : decode cX6_type 38 = .ok (.getfield 128, 3) := by decide +kernel
theorem dX6_type_41 : decode cX6_type 41 = .ok (.ireturn, 1) := by decide +kernel
theorem dX6_clearText_0 : decode cX6_clearText 0 = .ok (.aload_n 0, 1) := by decide +kernel
theorem dX6_clearText_1 : decode cX6_clearText 1 = .ok (.iconst 0, 1) := by decide +kernel
theorem dX6_clearText_2 : decode cX6_clearText 2 = .ok (.putfield 34, 3) := by decide +kernel
theorem dX6_clearText_5 : decode cX6_clearText 5 = .ok (.aload_n 0, 1) := by decide +kernel
theorem dX6_clearText_6 : decode cX6_clearText 6 = .ok (.getfield 128, 3) := by decide +kernel
theorem dX6_clearText_9 : decode cX6_clearText 9 = .ok (.istore_n 1, 1) := by decide +kernel
theorem dX6_clearText_10 : decode cX6_clearText 10 = .ok (.aload_n 0, 1) := by decide +kernel
theorem dX6_clearText_11 : decode cX6_clearText 11 = .ok (.iconst 0, 1) := by decide +kernel
theorem dX6_clearText_12 : decode cX6_clearText 12 = .ok (.putfield 128, 3) := by decide +kernel
theorem dX6_clearText_15 : decode cX6_clearText 15 = .ok (.iload_n 1, 1) := by decide +kernel
theorem dX6_clearText_16 : decode cX6_clearText 16 = .ok (.ireturn, 1) := by decide +kernel
theorem dX6_undo_0 : decode cX6_undo 0 = .ok (.aload_n 0, 1) := by decide +kernel
theorem dX6_undo_1 : decode cX6_undo 1 = .ok (.iconst 0, 1) := by decide +kernel
theorem dX6_undo_2 : decode cX6_undo 2 = .ok (.putfield 34, 3) := by decide +kernel
theorem dX6_undo_5 : decode cX6_undo 5 = .ok (.aload_n 0, 1) := by decide +kernel
theorem dX6_undo_6 : decode cX6_undo 6 = .ok (.getfield 42, 3) := by decide +kernel
theorem dX6_undo_9 : decode cX6_undo 9 = .ok (.ifCond .ne 6, 3) := by decide +kernel
theorem dX6_undo_12 : decode cX6_undo 12 = .ok (.bipush (-5), 2) := by decide +kernel
theorem dX6_undo_14 : decode cX6_undo 14 = .ok (.ireturn, 1) := by decide +kernel
theorem dX6_undo_15 : decode cX6_undo 15 = .ok (.aload_n 0, 1) := by decide +kernel
theorem dX6_undo_16 : decode cX6_undo 16 = .ok (.dup, 1) := by decide +kernel
theorem dX6_undo_17 : decode cX6_undo 17 = .ok (.getfield 42, 3) := by decide +kernel
theorem dX6_undo_20 : decode cX6_undo 20 = .ok (.iconst 1, 1) := by decide +kernel
theorem dX6_undo_21 : decode cX6_undo 21 = .ok (.isub, 1) := by decide +kernel
theorem dX6_undo_22 : decode cX6_undo 22 = .ok (.putfield 42, 3) := by decide +kernel
theorem dX6_undo_25 : decode cX6_undo 25 = .ok (.iconst 0, 1) := by decide +kernel
theorem dX6_undo_26 : decode cX6_undo 26 = .ok (.istore_n 1, 1) := by decide +kernel
theorem dX6_undo_27 : decode cX6_undo 27 = .ok (.iload_n 1, 1) := by decide +kernel
theorem dX6_undo_28 : decode cX6_undo 28 = .ok (.bipush 103, 2) := by decide +kernel
theorem dX6_undo_30 : decode cX6_undo 30 = .ok (.if_icmp .ge 29, 3) := by decide +kernel
theorem dX6_undo_33 : decode cX6_undo 33 = .ok (.aload_n 0, 1) := by decide +kernel
theorem dX6_undo_34 : decode cX6_undo 34 = .ok (.getfield 7, 3) := by decide +kernel
theorem dX6_undo_37 : decode cX6_undo 37 = .ok (.iload_n 1, 1) := by decide +kernel
theorem dX6_undo_38 : decode cX6_undo 38 = .ok (.aload_n 0, 1) := by decide +kernel
theorem dX6_undo_39 : decode cX6_undo 39 = .ok (.getfield 13, 3) := by decide +kernel
theorem dX6_undo_42 : decode cX6_undo 42 = .ok (.bipush 103, 2) := by decide +kernel
theorem dX6_undo_44 : decode cX6_undo 44 = .ok (.aload_n 0, 1) := by decide +kernel
theorem dX6_undo_45 : decode cX6_undo 45 = .ok (.getfield 42, 3) := by decide +kernel
theorem dX6_undo_48 : decode cX6_undo 48 = .ok (.imul, 1) := by decide +kernel
theorem dX6_undo_49 : decode cX6_undo 49 = .ok (.iload_n 1, 1) := by decide +kernel
theorem dX6_undo_50 : decode cX6_undo 50 = .ok (.iadd, 1) := by decide +kernel
theorem dX6_undo_51 : decode cX6_undo 51 = .ok (.iaload, 1) := by decide +kernel
theorem dX6_undo_52 : decode cX6_undo 52 = .ok (.iastore, 1) := by decide +kernel
theorem dX6_undo_53 : decode cX6_undo 53 = .ok (.iinc 1 1, 3) := by decide +kernel
theorem dX6_undo_56 : decode cX6_undo 56 = .ok (.goto (-29), 3) := by decide +kernel
theorem dX6_undo_59 : decode cX6_undo 59 = .ok (.aload_n 0, 1) := by decide +kernel
theorem dX6_undo_60 : decode cX6_undo 60 = .ok (.getfield 42, 3) := by decide +kernel
theorem dX6_undo_63 : decode cX6_undo 63 = .ok (.ireturn, 1) := by decide +kernel
theorem dX6_keep_0 : decode cX6_keep 0 = .ok (.aload_n 0, 1) := by decide +kernel
theorem dX6_keep_1 : decode cX6_keep 1 = .ok (.iconst 0, 1) := by decide +kernel
theorem dX6_keep_2 : decode cX6_keep 2 = .ok (.putfield 34, 3) := by decide +kernel
theorem dX6_keep_5 : decode cX6_keep 5 = .ok (.iconst 0, 1) := by decide +kernel
theorem dX6_keep_6 : decode cX6_keep 6 = .ok (.istore_n 1, 1) := by decide +kernel
theorem dX6_keep_7 : decode cX6_keep 7 = .ok (.iload_n 1, 1) := by decide +kernel
theorem dX6_keep_8 : decode cX6_keep 8 = .ok (.bipush 103, 2) := by decide +kernel
theorem dX6_keep_10 : decode cX6_keep 10 = .ok (.if_icmp .ge 21, 3) := by decide +kernel
theorem dX6_keep_13 : decode cX6_keep 13 = .ok (.aload_n 0, 1) := by decide +kernel
theorem dX6_keep_14 : decode cX6_keep 14 = .ok (.getfield 16, 3) := by decide +kernel
theorem dX6_keep_17 : decode cX6_keep 17 = .ok (.iload_n 1, 1) := by decide +kernel
theorem dX6_keep_18 : decode cX6_keep 18 = .ok (.aload_n 0, 1) := by decide +kernel
theorem dX6_keep_19 : decode cX6_keep 19 = .ok (.getfield 7, 3) := by decide +kernel
theorem dX6_keep_22 : decode cX6_keep 22 = .ok (.iload_n 1, 1) := by decide +kernel
theorem dX6_keep_23 : decode cX6_keep 23 = .ok (.iaload, 1) := by decide +kernel
theorem dX6_keep_24 : decode cX6_keep 24 = .ok (.iastore, 1) := by decide +kernel
theorem dX6_keep_25 : decode cX6_keep 25 = .ok (.iinc 1 1, 3) := by decide +kernel
theorem dX6_keep_28 : decode cX6_keep 28 = .ok (.goto (-21), 3) := by decide +kernel
theorem dX6_keep_31 : decode cX6_keep 31 = .ok (.aload_n 0, 1) := by decide +kernel
theorem dX6_keep_32 : decode cX6_keep 32 = .ok (.iconst 1, 1) := by decide +kernel
theorem dX6_keep_33 : decode cX6_keep 33 = .ok (.putfield 150, 3) := by decide +kernel
theorem dX6_keep_36 : decode cX6_keep 36 = .ok (.aload_n 0, 1) := by decide +kernel
theorem dX6_keep_37 : decode cX6_keep 37 = .ok (.getfield 7, 3) := by decide +kernel
theorem dX6_keep_40 : decode cX6_keep 40 = .ok (.iconst 0, 1) := by decide +kernel
theorem dX6_keep_41 : decode cX6_keep 41 = .ok (.iaload, 1) := by decide +kernel
theorem dX6_keep_42 : decode cX6_keep 42 = .ok (.ireturn, 1) := by decide +kernel
theorem dX6_restore_0 : decode cX6_restore 0 = .ok (.aload_n 0, 1) := by decide +kernel
theorem dX6_restore_1 : decode cX6_restore 1 = .ok (.iconst 0, 1) := by decide +kernel
theorem dX6_restore_2 : decode cX6_restore 2 = .ok (.putfield 34, 3) := by decide +kernel
theorem dX6_restore_5 : decode cX6_restore 5 = .ok (.aload_n 0, 1) := by decide +kernel
theorem dX6_restore_6 : decode cX6_restore 6 = .ok (.getfield 150, 3) := by decide +kernel
theorem dX6_restore_9 : decode cX6_restore 9 = .ok (.ifCond .ne 6, 3) := by decide +kernel
theorem dX6_restore_12 : decode cX6_restore 12 = .ok (.bipush (-5), 2) := by decide +kernel
theorem dX6_restore_14 : decode cX6_restore 14 = .ok (.ireturn, 1) := by decide +kernel
theorem dX6_restore_15 : decode cX6_restore 15 = .ok (.aload_n 0, 1) := by decide +kernel
theorem dX6_restore_16 : decode cX6_restore 16 = .ok (.invokevirtual 105, 3) := by decide +kernel
theorem dX6_restore_19 : decode cX6_restore 19 = .ok (.iconst 0, 1) := by decide +kernel
theorem dX6_restore_20 : decode cX6_restore 20 = .ok (.istore_n 1, 1) := by decide +kernel
theorem dX6_restore_21 : decode cX6_restore 21 = .ok (.iload_n 1, 1) := by decide +kernel
theorem dX6_restore_22 : decode cX6_restore 22 = .ok (.bipush 103, 2) := by decide +kernel
theorem dX6_restore_24 : decode cX6_restore 24 = .ok (.if_icmp .ge 21, 3) := by decide +kernel
theorem dX6_restore_27 : decode cX6_restore 27 = .ok (.aload_n 0, 1) := by decide +kernel
theorem dX6_restore_28 : decode cX6_restore 28 = .ok (.getfield 7, 3) := by decide +kernel
theorem dX6_restore_31 : decode cX6_restore 31 = .ok (.iload_n 1, 1) := by decide +kernel
theorem dX6_restore_32 : decode cX6_restore 32 = .ok (.aload_n 0, 1) := by decide +kernel
theorem dX6_restore_33 : decode cX6_restore 33 = .ok (.getfield 16, 3) := by decide +kernel
theorem dX6_restore_36 : decode cX6_restore 36 = .ok (.iload_n 1, 1) := by decide +kernel
theorem dX6_restore_37 : decode cX6_restore 37 = .ok (.iaload, 1) := by decide +kernel
theorem dX6_restore_38 : decode cX6_restore 38 = .ok (.iastore, 1) := by decide +kernel
theorem dX6_restore_39 : decode cX6_restore 39 = .ok (.iinc 1 1, 3) := by decide +kernel
theorem dX6_restore_42 : decode cX6_restore 42 = .ok (.goto (-21), 3) := by decide +kernel
theorem dX6_restore_45 : decode cX6_restore 45 = .ok (.aload_n 0, 1) := by decide +kernel
theorem dX6_restore_46 : decode cX6_restore 46 = .ok (.getfield 7, 3) := by decide +kernel
theorem dX6_restore_49 : decode cX6_restore 49 = .ok (.iconst 0, 1) := by decide +kernel
theorem dX6_restore_50 : decode cX6_restore 50 = .ok (.iaload, 1) := by decide +kernel
theorem dX6_restore_51 : decode cX6_restore 51 = .ok (.ireturn, 1) := by decide +kernel
theorem dX6_weight_0 : decode cX6_weight 0 = .ok (.aload_n 0, 1) := by decide +kernel
theorem dX6_weight_1 : decode cX6_weight 1 = .ok (.iconst 0, 1) := by decide +kernel
theorem dX6_weight_2 : decode cX6_weight 2 = .ok (.putfield 34, 3) := by decide +kernel
theorem dX6_weight_5 : decode cX6_weight 5 = .ok (.aload_n 0, 1) := by decide +kernel
theorem dX6_weight_6 : decode cX6_weight 6 = .ok (.iload_n 1, 1) := by decide +kernel
theorem dX6_weight_7 : decode cX6_weight 7 = .ok (.iload_n 2, 1) := by decide +kernel
theorem dX6_weight_8 : decode cX6_weight 8 = .ok (.iconst 0, 1) := by decide +kernel
theorem dX6_weight_9 : decode cX6_weight 9 = .ok (.invokevirtual 118, 3) := by decide +kernel
theorem dX6_weight_12 : decode cX6_weight 12 = .ok (.istore_n 3, 1) := by decide +kernel
theorem dX6_weight_13 : decode cX6_weight 13 = .ok (.iload_n 3, 1) := by decide +kernel
theorem dX6_weight_14 : decode cX6_weight 14 = .ok (.ifCond .eq 7, 3) := by decide +kernel
theorem dX6_weight_17 : decode cX6_weight 17 = .ok (.iload_n 3, 1) := by decide +kernel
theorem dX6_weight_18 : decode cX6_weight 18 = .ok (.goto 9, 3) := by decide +kernel
theorem dX6_weight_21 : decode cX6_weight 21 = .ok (.aload_n 0, 1) := by decide +kernel
theorem dX6_weight_22 : decode cX6_weight 22 = .ok (.iload_n 1, 1) := by decide +kernel
theorem dX6_weight_23 : decode cX6_weight 23 = .ok (.iload_n 2, 1) := by decide +kernel
theorem dX6_weight_24 : decode cX6_weight 24 = .ok (.invokevirtual 45, 3) := by decide +kernel
theorem dX6_weight_27 : decode cX6_weight 27 = .ok (.ireturn, 1) := by decide +kernel
theorem dX6_tiedTo_0 : decode cX6_tiedTo 0 = .ok (.iconst 0, 1) := by decide +kernel
theorem dX6_tiedTo_1 : decode cX6_tiedTo 1 = .ok (.istore_n 2, 1) := by decide +kernel
theorem dX6_tiedTo_2 : decode cX6_tiedTo 2 = .ok (.iconst 0, 1) := by decide +kernel
theorem dX6_tiedTo_3 : decode cX6_tiedTo 3 = .ok (.istore_n 3, 1) := by decide +kernel
theorem dX6_tiedTo_4 : decode cX6_tiedTo 4 = .ok (.iload_n 3, 1) := by decide +kernel
theorem dX6_tiedTo_5 : decode cX6_tiedTo 5 = .ok (.aload_n 0, 1) := by decide +kernel
theorem dX6_tiedTo_6 : decode cX6_tiedTo 6 = .ok (.getfield 7, 3) := by decide +kernel
theorem dX6_tiedTo_9 : decode cX6_tiedTo 9 = .ok (.iconst 0, 1) := by decide +kernel
theorem dX6_tiedTo_10 : decode cX6_tiedTo 10 = .ok (.iaload, 1) := by decide +kernel
theorem dX6_tiedTo_11 : decode cX6_tiedTo 11 = .ok (.if_icmp .ge 28, 3) := by decide +kernel
theorem dX6_tiedTo_14 : decode cX6_tiedTo 14 = .ok (.iload_n 2, 1) := by decide +kernel
theorem dX6_tiedTo_15 : decode cX6_tiedTo 15 = .ok (.aload_n 0, 1) := by decide +kernel
theorem dX6_tiedTo_16 : decode cX6_tiedTo 16 = .ok (.iload_n 1, 1) := by decide +kernel
theorem dX6_tiedTo_17 : decode cX6_tiedTo 17 = .ok (.iload_n 3, 1) := by decide +kernel
theorem dX6_tiedTo_18 : decode cX6_tiedTo 18 = .ok (.invokevirtual 45, 3) := by decide +kernel
theorem dX6_tiedTo_21 : decode cX6_tiedTo 21 = .ok (.ifCond .le 9, 3) := by decide +kernel
theorem dX6_tiedTo_24 : decode cX6_tiedTo 24 = .ok (.iconst 1, 1) := by decide +kernel
theorem dX6_tiedTo_25 : decode cX6_tiedTo 25 = .ok (.iload_n 3, 1) := by decide +kernel
theorem dX6_tiedTo_26 : decode cX6_tiedTo 26 = .ok (.ishl, 1) := by decide +kernel
theorem dX6_tiedTo_27 : decode cX6_tiedTo 27 = .ok (.goto 4, 3) := by decide +kernel
theorem dX6_tiedTo_30 : decode cX6_tiedTo 30 = .ok (.iconst 0, 1) := by decide +kernel
theorem dX6_tiedTo_31 : decode cX6_tiedTo 31 = .ok (.ior, 1) := by decide +kernel
theorem dX6_tiedTo_32 : decode cX6_tiedTo 32 = .ok (.istore_n 2, 1) := by decide +kernel
theorem dX6_tiedTo_33 : decode cX6_tiedTo 33 = .ok (.iinc 3 1, 3) := by decide +kernel
theorem dX6_tiedTo_36 : decode cX6_tiedTo 36 = .ok (.goto (-32), 3) := by decide +kernel
theorem dX6_tiedTo_39 : decode cX6_tiedTo 39 = .ok (.iload_n 2, 1) := by decide +kernel
theorem dX6_tiedTo_40 : decode cX6_tiedTo 40 = .ok (.ireturn, 1) := by decide +kernel
theorem dX6_reached_0 : decode cX6_reached 0 = .ok (.iconst 1, 1) := by decide +kernel
theorem dX6_reached_1 : decode cX6_reached 1 = .ok (.iload_n 1, 1) := by decide +kernel
theorem dX6_reached_2 : decode cX6_reached 2 = .ok (.ishl, 1) := by decide +kernel
theorem dX6_reached_3 : decode cX6_reached 3 = .ok (.istore_n 2, 1) := by decide +kernel
theorem dX6_reached_4 : decode cX6_reached 4 = .ok (.iconst 0, 1) := by decide +kernel
theorem dX6_reached_5 : decode cX6_reached 5 = .ok (.istore_n 3, 1) := by decide +kernel
theorem dX6_reached_6 : decode cX6_reached 6 = .ok (.iload_n 3, 1) := by decide +kernel
theorem dX6_reached_7 : decode cX6_reached 7 = .ok (.aload_n 0, 1) := by decide +kernel
theorem dX6_reached_8 : decode cX6_reached 8 = .ok (.getfield 7, 3) := by decide +kernel
theorem dX6_reached_11 : decode cX6_reached 11 = .ok (.iconst 0, 1) := by decide +kernel
theorem dX6_reached_12 : decode cX6_reached 12 = .ok (.iaload, 1) := by decide +kernel
theorem dX6_reached_13 : decode cX6_reached 13 = .ok (.if_icmp .ge 52, 3) := by decide +kernel
theorem dX6_reached_16 : decode cX6_reached 16 = .ok (.iconst 0, 1) := by decide +kernel
theorem dX6_reached_17 : decode cX6_reached 17 = .ok (.istore 4, 2) := by decide +kernel
theorem dX6_reached_19 : decode cX6_reached 19 = .ok (.iload 4, 2) := by decide +kernel
theorem dX6_reached_21 : decode cX6_reached 21 = .ok (.aload_n 0, 1) := by decide +kernel
theorem dX6_reached_22 : decode cX6_reached 22 = .ok (.getfield 7, 3) := by decide +kernel
theorem dX6_reached_25 : decode cX6_reached 25 = .ok (.iconst 0, 1) := by decide +kernel
theorem dX6_reached_26 : decode cX6_reached 26 = .ok (.iaload, 1) := by decide +kernel
theorem dX6_reached_27 : decode cX6_reached 27 = .ok (.if_icmp .ge 32, 3) := by decide +kernel
theorem dX6_reached_30 : decode cX6_reached 30 = .ok (.iload_n 2, 1) := by decide +kernel
theorem dX6_reached_31 : decode cX6_reached 31 = .ok (.iload_n 2, 1) := by decide +kernel
theorem dX6_reached_32 : decode cX6_reached 32 = .ok (.iload 4, 2) := by decide +kernel
theorem dX6_reached_34 : decode cX6_reached 34 = .ok (.ishr, 1) := by decide +kernel
theorem dX6_reached_35 : decode cX6_reached 35 = .ok (.iconst 1, 1) := by decide +kernel
theorem dX6_reached_36 : decode cX6_reached 36 = .ok (.iand, 1) := by decide +kernel
theorem dX6_reached_37 : decode cX6_reached 37 = .ok (.iconst 1, 1) := by decide +kernel
theorem dX6_reached_38 : decode cX6_reached 38 = .ok (.if_icmp .ne 12, 3) := by decide +kernel
theorem dX6_reached_41 : decode cX6_reached 41 = .ok (.aload_n 0, 1) := by decide +kernel
theorem dX6_reached_42 : decode cX6_reached 42 = .ok (.iload 4, 2) := by decide +kernel
theorem dX6_reached_44 : decode cX6_reached 44 = .ok (.invokevirtual 153, 3) := by decide +kernel
theorem dX6_reached_47 : decode cX6_reached 47 = .ok (.goto 4, 3) := by decide +kernel
theorem dX6_reached_50 : decode cX6_reached 50 = .ok (.iconst 0, 1) := by decide +kernel
theorem dX6_reached_51 : decode cX6_reached 51 = .ok (.ior, 1) := by decide +kernel
theorem dX6_reached_52 : decode cX6_reached 52 = .ok (.istore_n 2, 1) := by decide +kernel
theorem dX6_reached_53 : decode cX6_reached 53 = .ok (.iinc 4 1, 3) := by decide +kernel
theorem dX6_reached_56 : decode cX6_reached 56 = .ok (.goto (-37), 3) := by decide +kernel
theorem dX6_reached_59 : decode cX6_reached 59 = .ok (.iinc 3 1, 3) := by decide +kernel
theorem dX6_reached_62 : decode cX6_reached 62 = .ok (.goto (-56), 3) := by decide +kernel
theorem dX6_reached_65 : decode cX6_reached 65 = .ok (.iload_n 2, 1) := by decide +kernel
theorem dX6_reached_66 : decode cX6_reached 66 = .ok (.ireturn, 1) := by decide +kernel
theorem dX6_rankOf_0 : decode cX6_rankOf 0 = .ok (.aload_n 0, 1) := by decide +kernel
theorem dX6_rankOf_1 : decode cX6_rankOf 1 = .ok (.iconst 0, 1) := by decide +kernel
theorem dX6_rankOf_2 : decode cX6_rankOf 2 = .ok (.invokevirtual 98, 3) := by decide +kernel
theorem dX6_rankOf_5 : decode cX6_rankOf 5 = .ok (.iconst 0, 1) := by decide +kernel
theorem dX6_rankOf_6 : decode cX6_rankOf 6 = .ok (.istore_n 2, 1) := by decide +kernel
theorem dX6_rankOf_7 : decode cX6_rankOf 7 = .ok (.aload_n 0, 1) := by decide +kernel
theorem dX6_rankOf_8 : decode cX6_rankOf 8 = .ok (.getfield 25, 3) := by decide +kernel
theorem dX6_rankOf_11 : decode cX6_rankOf 11 = .ok (.iload_n 2, 1) := by decide +kernel
theorem dX6_rankOf_12 : decode cX6_rankOf 12 = .ok (.iaload, 1) := by decide +kernel
theorem dX6_rankOf_13 : decode cX6_rankOf 13 = .ok (.iconst 1, 1) := by decide +kernel
theorem dX6_rankOf_14 : decode cX6_rankOf 14 = .ok (.iload_n 1, 1) := by decide +kernel
theorem dX6_rankOf_15 : decode cX6_rankOf 15 = .ok (.ishl, 1) := by decide +kernel
theorem dX6_rankOf_16 : decode cX6_rankOf 16 = .ok (.if_icmp .eq 9, 3) := by decide +kernel
theorem dX6_rankOf_19 : decode cX6_rankOf 19 = .ok (.iinc 2 1, 3) := by decide +kernel
theorem dX6_rankOf_22 : decode cX6_rankOf 22 = .ok (.goto (-15), 3) := by decide +kernel
theorem dX6_rankOf_25 : decode cX6_rankOf 25 = .ok (.iload_n 2, 1) := by decide +kernel
theorem dX6_rankOf_26 : decode cX6_rankOf 26 = .ok (.ireturn, 1) := by decide +kernel
theorem dX6_place_0 : decode cX6_place 0 = .ok (.aload_n 0, 1) := by decide +kernel
theorem dX6_place_1 : decode cX6_place 1 = .ok (.iconst 0, 1) := by decide +kernel
theorem dX6_place_2 : decode cX6_place 2 = .ok (.putfield 34, 3) := by decide +kernel
theorem dX6_place_5 : decode cX6_place 5 = .ok (.aload_n 0, 1) := by decide +kernel
theorem dX6_place_6 : decode cX6_place 6 = .ok (.iload_n 1, 1) := by decide +kernel
theorem dX6_place_7 : decode cX6_place 7 = .ok (.invokevirtual 108, 3) := by decide +kernel
theorem dX6_place_10 : decode cX6_place 10 = .ok (.ifCond .ne 5, 3) := by decide +kernel
theorem dX6_place_13 : decode cX6_place 13 = .ok (.iconst (-1), 1) := by decide +kernel
theorem dX6_place_14 : decode cX6_place 14 = .ok (.ireturn, 1) := by decide +kernel
theorem dX6_place_15 : decode cX6_place 15 = .ok (.iload_n 2, 1) := by decide +kernel
theorem dX6_place_16 : decode cX6_place 16 = .ok (.tableswitch 83 0 5 #[40, 48, 54, 60, 66, 72], 40) := by decide +kernel
theorem dX6_place_56 : decode cX6_place 56 = .ok (.aload_n 0, 1) := by decide +kernel
theorem dX6_place_57 : decode cX6_place 57 = .ok (.iconst 1, 1) := by decide +kernel
theorem dX6_place_58 : decode cX6_place 58 = .ok (.iload_n 1, 1) := by decide +kernel
theorem dX6_place_59 : decode cX6_place 59 = .ok (.ishl, 1) := by decide +kernel
theorem dX6_place_60 : decode cX6_place 60 = .ok (.invokevirtual 60, 3) := by decide +kernel
theorem dX6_place_63 : decode cX6_place 63 = .ok (.ireturn, 1) := by decide +kernel
theorem dX6_place_64 : decode cX6_place 64 = .ok (.aload_n 0, 1) := by decide +kernel
theorem dX6_place_65 : decode cX6_place 65 = .ok (.iload_n 1, 1) := by decide +kernel
theorem dX6_place_66 : decode cX6_place 66 = .ok (.invokevirtual 153, 3) := by decide +kernel
theorem dX6_place_69 : decode cX6_place 69 = .ok (.ireturn, 1) := by decide +kernel
theorem dX6_place_70 : decode cX6_place 70 = .ok (.aload_n 0, 1) := by decide +kernel
theorem dX6_place_71 : decode cX6_place 71 = .ok (.iload_n 1, 1) := by decide +kernel
theorem dX6_place_72 : decode cX6_place 72 = .ok (.invokevirtual 156, 3) := by decide +kernel
theorem dX6_place_75 : decode cX6_place 75 = .ok (.ireturn, 1) := by decide +kernel
theorem dX6_place_76 : decode cX6_place 76 = .ok (.aload_n 0, 1) := by decide +kernel
theorem dX6_place_77 : decode cX6_place 77 = .ok (.iload_n 1, 1) := by decide +kernel
theorem dX6_place_78 : decode cX6_place 78 = .ok (.invokevirtual 159, 3) := by decide +kernel
theorem dX6_place_81 : decode cX6_place 81 = .ok (.ireturn, 1) := by decide +kernel
theorem dX6_place_82 : decode cX6_place 82 = .ok (.aload_n 0, 1) := by decide +kernel
theorem dX6_place_83 : decode cX6_place 83 = .ok (.iload_n 1, 1) := by decide +kernel
theorem dX6_place_84 : decode cX6_place 84 = .ok (.invokevirtual 162, 3) := by decide +kernel
theorem dX6_place_87 : decode cX6_place 87 = .ok (.ireturn, 1) := by decide +kernel
theorem dX6_place_88 : decode cX6_place 88 = .ok (.aload_n 0, 1) := by decide +kernel
theorem dX6_place_89 : decode cX6_place 89 = .ok (.getfield 28, 3) := by decide +kernel
theorem dX6_place_92 : decode cX6_place 92 = .ok (.aload_n 0, 1) := by decide +kernel
theorem dX6_place_93 : decode cX6_place 93 = .ok (.iload_n 1, 1) := by decide +kernel
theorem dX6_place_94 : decode cX6_place 94 = .ok (.invokevirtual 162, 3) := by decide +kernel
theorem dX6_place_97 : decode cX6_place 97 = .ok (.iaload, 1) := by decide +kernel
theorem dX6_place_98 : decode cX6_place 98 = .ok (.ireturn, 1) := by decide +kernel
theorem dX6_place_99 : decode cX6_place 99 = .ok (.bipush (-2), 2) := by decide +kernel
theorem dX6_place_101 : decode cX6_place 101 = .ok (.ireturn, 1) := by decide +kernel
theorem dX6_isPhase_0 : decode cX6_isPhase 0 = .ok (.iload_n 1, 1) := by decide +kernel
theorem dX6_isPhase_1 : decode cX6_isPhase 1 = .ok (.iconst 0, 1) := by decide +kernel
theorem dX6_isPhase_2 : decode cX6_isPhase 2 = .ok (.aload_n 0, 1) := by decide +kernel
theorem dX6_isPhase_3 : decode cX6_isPhase 3 = .ok (.getfield 7, 3) := by decide +kernel
theorem dX6_isPhase_6 : decode cX6_isPhase 6 = .ok (.iconst 0, 1) := by decide +kernel
theorem dX6_isPhase_7 : decode cX6_isPhase 7 = .ok (.iaload, 1) := by decide +kernel
theorem dX6_isPhase_8 : decode cX6_isPhase 8 = .ok (.iconst 2, 1) := by decide +kernel
theorem dX6_isPhase_9 : decode cX6_isPhase 9 = .ok (.isub, 1) := by decide +kernel
theorem dX6_isPhase_10 : decode cX6_isPhase 10 = .ok (.invokestatic 38, 3) := by decide +kernel
theorem dX6_isPhase_13 : decode cX6_isPhase 13 = .ok (.ireturn, 1) := by decide +kernel
theorem dX6_phase_0 : decode cX6_phase 0 = .ok (.aload_n 0, 1) := by decide +kernel
theorem dX6_phase_1 : decode cX6_phase 1 = .ok (.iconst 0, 1) := by decide +kernel
theorem dX6_phase_2 : decode cX6_phase 2 = .ok (.putfield 34, 3) := by decide +kernel
theorem dX6_phase_5 : decode cX6_phase 5 = .ok (.aload_n 0, 1) := by decide +kernel
theorem dX6_phase_6 : decode cX6_phase 6 = .ok (.iload_n 1, 1) := by decide +kernel
theorem dX6_phase_7 : decode cX6_phase 7 = .ok (.invokevirtual 165, 3) := by decide +kernel
theorem dX6_phase_10 : decode cX6_phase 10 = .ok (.ifCond .ne 5, 3) := by decide +kernel
theorem dX6_phase_13 : decode cX6_phase 13 = .ok (.iconst (-1), 1) := by decide +kernel
theorem dX6_phase_14 : decode cX6_phase 14 = .ok (.ireturn, 1) := by decide +kernel
theorem dX6_phase_15 : decode cX6_phase 15 = .ok (.aload_n 0, 1) := by decide +kernel
theorem dX6_phase_16 : decode cX6_phase 16 = .ok (.iload_n 1, 1) := by decide +kernel
theorem dX6_phase_17 : decode cX6_phase 17 = .ok (.invokevirtual 98, 3) := by decide +kernel
theorem dX6_phase_20 : decode cX6_phase 20 = .ok (.aload_n 0, 1) := by decide +kernel
theorem dX6_phase_21 : decode cX6_phase 21 = .ok (.getfield 25, 3) := by decide +kernel
theorem dX6_phase_24 : decode cX6_phase 24 = .ok (.aload_n 0, 1) := by decide +kernel
theorem dX6_phase_25 : decode cX6_phase 25 = .ok (.getfield 77, 3) := by decide +kernel
theorem dX6_phase_28 : decode cX6_phase 28 = .ok (.iconst 1, 1) := by decide +kernel
theorem dX6_phase_29 : decode cX6_phase 29 = .ok (.isub, 1) := by decide +kernel
theorem dX6_phase_30 : decode cX6_phase 30 = .ok (.iaload, 1) := by decide +kernel
theorem dX6_phase_31 : decode cX6_phase 31 = .ok (.istore_n 3, 1) := by decide +kernel
theorem dX6_phase_32 : decode cX6_phase 32 = .ok (.aload_n 0, 1) := by decide +kernel
theorem dX6_phase_33 : decode cX6_phase 33 = .ok (.getfield 25, 3) := by decide +kernel
theorem dX6_phase_36 : decode cX6_phase 36 = .ok (.aload_n 0, 1) := by decide +kernel
theorem dX6_phase_37 : decode cX6_phase 37 = .ok (.getfield 77, 3) := by decide +kernel
theorem dX6_phase_40 : decode cX6_phase 40 = .ok (.iconst 2, 1) := by decide +kernel
theorem dX6_phase_41 : decode cX6_phase 41 = .ok (.isub, 1) := by decide +kernel
theorem dX6_phase_42 : decode cX6_phase 42 = .ok (.iaload, 1) := by decide +kernel
theorem dX6_phase_43 : decode cX6_phase 43 = .ok (.istore 4, 2) := by decide +kernel
theorem dX6_phase_45 : decode cX6_phase 45 = .ok (.iload_n 2, 1) := by decide +kernel
theorem dX6_phase_46 : decode cX6_phase 46 = .ok (.tableswitch 69 0 5 #[38, 43, 48, 53, 59, 64], 38) := by decide +kernel
theorem dX6_phase_84 : decode cX6_phase 84 = .ok (.aload_n 0, 1) := by decide +kernel
theorem dX6_phase_85 : decode cX6_phase 85 = .ok (.getfield 86, 3) := by decide +kernel
theorem dX6_phase_88 : decode cX6_phase 88 = .ok (.ireturn, 1) := by decide +kernel
theorem dX6_phase_89 : decode cX6_phase 89 = .ok (.aload_n 0, 1) := by decide +kernel
theorem dX6_phase_90 : decode cX6_phase 90 = .ok (.getfield 89, 3) := by decide +kernel
theorem dX6_phase_93 : decode cX6_phase 93 = .ok (.ireturn, 1) := by decide +kernel
theorem dX6_phase_94 : decode cX6_phase 94 = .ok (.iload_n 3, 1) := by decide +kernel
theorem dX6_phase_95 : decode cX6_phase 95 = .ok (.invokestatic 80, 3) := by decide +kernel
theorem dX6_phase_98 : decode cX6_phase 98 = .ok (.ireturn, 1) := by decide +kernel
theorem dX6_phase_99 : decode cX6_phase 99 = .ok (.iload 4, 2) := by decide +kernel
theorem dX6_phase_101 : decode cX6_phase 101 = .ok (.invokestatic 80, 3) := by decide +kernel
theorem dX6_phase_104 : decode cX6_phase 104 = .ok (.ireturn, 1) := by decide +kernel
theorem dX6_phase_105 : decode cX6_phase 105 = .ok (.iload_n 3, 1) := by decide +kernel
theorem dX6_phase_106 : decode cX6_phase 106 = .ok (.iload 4, 2) := by decide +kernel
theorem dX6_phase_108 : decode cX6_phase 108 = .ok (.ior, 1) := by decide +kernel
theorem dX6_phase_109 : decode cX6_phase 109 = .ok (.ireturn, 1) := by decide +kernel
theorem dX6_phase_110 : decode cX6_phase 110 = .ok (.aload_n 0, 1) := by decide +kernel
theorem dX6_phase_111 : decode cX6_phase 111 = .ok (.getfield 77, 3) := by decide +kernel
theorem dX6_phase_114 : decode cX6_phase 114 = .ok (.ireturn, 1) := by decide +kernel
theorem dX6_phase_115 : decode cX6_phase 115 = .ok (.bipush (-2), 2) := by decide +kernel
theorem dX6_phase_117 : decode cX6_phase 117 = .ok (.ireturn, 1) := by decide +kernel
theorem dX6_swallowed_0 : decode cX6_swallowed 0 = .ok (.aload_n 0, 1) := by decide +kernel
theorem dX6_swallowed_1 : decode cX6_swallowed 1 = .ok (.iconst 0, 1) := by decide +kernel
theorem dX6_swallowed_2 : decode cX6_swallowed 2 = .ok (.putfield 34, 3) := by decide +kernel
theorem dX6_swallowed_5 : decode cX6_swallowed 5 = .ok (.aload_n 0, 1) := by decide +kernel
theorem dX6_swallowed_6 : decode cX6_swallowed 6 = .ok (.iload_n 1, 1) := by decide +kernel
theorem dX6_swallowed_7 : decode cX6_swallowed 7 = .ok (.invokevirtual 165, 3) := by decide +kernel
theorem dX6_swallowed_10 : decode cX6_swallowed 10 = .ok (.ifCond .ne 5, 3) := by decide +kernel
theorem dX6_swallowed_13 : decode cX6_swallowed 13 = .ok (.iconst (-1), 1) := by decide +kernel
theorem dX6_swallowed_14 : decode cX6_swallowed 14 = .ok (.ireturn, 1) := by decide +kernel
theorem dX6_swallowed_15 : decode cX6_swallowed 15 = .ok (.iload_n 2, 1) := by decide +kernel
theorem dX6_swallowed_16 : decode cX6_swallowed 16 = .ok (.ifCond .ge 6, 3) := by decide +kernel
theorem dX6_swallowed_19 : decode cX6_swallowed 19 = .ok (.bipush (-2), 2) := by decide +kernel
theorem dX6_swallowed_21 : decode cX6_swallowed 21 = .ok (.ireturn, 1) := by decide +kernel
theorem dX6_swallowed_22 : decode cX6_swallowed 22 = .ok (.aload_n 0, 1) := by decide +kernel
theorem dX6_swallowed_23 : decode cX6_swallowed 23 = .ok (.iload_n 1, 1) := by decide +kernel
theorem dX6_swallowed_24 : decode cX6_swallowed 24 = .ok (.invokevirtual 98, 3) := by decide +kernel
theorem dX6_swallowed_27 : decode cX6_swallowed 27 = .ok (.iload_n 2, 1) := by decide +kernel
theorem dX6_swallowed_28 : decode cX6_swallowed 28 = .ok (.aload_n 0, 1) := by decide +kernel
theorem dX6_swallowed_29 : decode cX6_swallowed 29 = .ok (.getfield 77, 3) := by decide +kernel
theorem dX6_swallowed_32 : decode cX6_swallowed 32 = .ok (.if_icmp .lt 8, 3) := by decide +kernel
theorem dX6_swallowed_35 : decode cX6_swallowed 35 = .ok (.bipush (-5), 2) := by decide +kernel
theorem dX6_swallowed_37 : decode cX6_swallowed 37 = .ok (.goto 25, 3) := by decide +kernel
theorem dX6_swallowed_40 : decode cX6_swallowed 40 = .ok (.iload_n 3, 1) := by decide +kernel
theorem dX6_swallowed_41 : decode cX6_swallowed 41 = .ok (.ifCond .eq 12, 3) := by decide +kernel
theorem dX6_swallowed_44 : decode cX6_swallowed 44 = .ok (.aload_n 0, 1) := by decide +kernel
theorem dX6_swallowed_45 : decode cX6_swallowed 45 = .ok (.getfield 28, 3) := by decide +kernel
theorem dX6_swallowed_48 : decode cX6_swallowed 48 = .ok (.iload_n 2, 1) := by decide +kernel
theorem dX6_swallowed_49 : decode cX6_swallowed 49 = .ok (.iaload, 1) := by decide +kernel
theorem dX6_swallowed_50 : decode cX6_swallowed 50 = .ok (.goto 12, 3) := by decide +kernel
theorem dX6_swallowed_53 : decode cX6_swallowed 53 = .ok (.aload_n 0, 1) := by decide +kernel
theorem dX6_swallowed_54 : decode cX6_swallowed 54 = .ok (.getfield 25, 3) := by decide +kernel
theorem dX6_swallowed_57 : decode cX6_swallowed 57 = .ok (.iload_n 2, 1) := by decide +kernel
theorem dX6_swallowed_58 : decode cX6_swallowed 58 = .ok (.iaload, 1) := by decide +kernel
theorem dX6_swallowed_59 : decode cX6_swallowed 59 = .ok (.invokestatic 80, 3) := by decide +kernel
theorem dX6_swallowed_62 : decode cX6_swallowed 62 = .ok (.ireturn, 1) := by decide +kernel
theorem dX6_least_0 : decode cX6_least 0 = .ok (.aload_n 0, 1) := by decide +kernel
theorem dX6_least_1 : decode cX6_least 1 = .ok (.iconst 0, 1) := by decide +kernel
theorem dX6_least_2 : decode cX6_least 2 = .ok (.putfield 34, 3) := by decide +kernel
theorem dX6_least_5 : decode cX6_least 5 = .ok (.iload_n 1, 1) := by decide +kernel
theorem dX6_least_6 : decode cX6_least 6 = .ok (.tableswitch 81 0 4 #[34, 39, 48, 53, 58], 34) := by decide +kernel
theorem dX6_least_40 : decode cX6_least 40 = .ok (.aload_n 0, 1) := by decide +kernel
theorem dX6_least_41 : decode cX6_least 41 = .ok (.invokevirtual 122, 3) := by decide +kernel
theorem dX6_least_44 : decode cX6_least 44 = .ok (.ireturn, 1) := by decide +kernel
theorem dX6_least_45 : decode cX6_least 45 = .ok (.aload_n 0, 1) := by decide +kernel
theorem dX6_least_46 : decode cX6_least 46 = .ok (.aload_n 0, 1) := by decide +kernel
theorem dX6_least_47 : decode cX6_least 47 = .ok (.invokevirtual 122, 3) := by decide +kernel
theorem dX6_least_50 : decode cX6_least 50 = .ok (.invokevirtual 60, 3) := by decide +kernel
theorem dX6_least_53 : decode cX6_least 53 = .ok (.ireturn, 1) := by decide +kernel
theorem dX6_least_54 : decode cX6_least 54 = .ok (.aload_n 0, 1) := by decide +kernel
theorem dX6_least_55 : decode cX6_least 55 = .ok (.invokevirtual 102, 3) := by decide +kernel
theorem dX6_least_58 : decode cX6_least 58 = .ok (.ireturn, 1) := by decide +kernel
theorem dX6_least_59 : decode cX6_least 59 = .ok (.aload_n 0, 1) := by decide +kernel
theorem dX6_least_60 : decode cX6_least 60 = .ok (.invokevirtual 168, 3) := by decide +kernel
theorem dX6_least_63 : decode cX6_least 63 = .ok (.ireturn, 1) := by decide +kernel
theorem dX6_least_64 : decode cX6_least 64 = .ok (.aload_n 0, 1) := by decide +kernel
theorem dX6_least_65 : decode cX6_least 65 = .ok (.invokevirtual 168, 3) := by decide +kernel
theorem dX6_least_68 : decode cX6_least 68 = .ok (.bipush (-5), 2) := by decide +kernel
theorem dX6_least_70 : decode cX6_least 70 = .ok (.if_icmp .ne 8, 3) := by decide +kernel
theorem dX6_least_73 : decode cX6_least 73 = .ok (.bipush (-5), 2) := by decide +kernel
theorem dX6_least_75 : decode cX6_least 75 = .ok (.goto 11, 3) := by decide +kernel
theorem dX6_least_78 : decode cX6_least 78 = .ok (.aload_n 0, 1) := by decide +kernel
theorem dX6_least_79 : decode cX6_least 79 = .ok (.aload_n 0, 1) := by decide +kernel
theorem dX6_least_80 : decode cX6_least 80 = .ok (.invokevirtual 168, 3) := by decide +kernel
theorem dX6_least_83 : decode cX6_least 83 = .ok (.invokevirtual 60, 3) := by decide +kernel
theorem dX6_least_86 : decode cX6_least 86 = .ok (.ireturn, 1) := by decide +kernel
theorem dX6_least_87 : decode cX6_least 87 = .ok (.bipush (-2), 2) := by decide +kernel
theorem dX6_least_89 : decode cX6_least 89 = .ok (.ireturn, 1) := by decide +kernel
theorem dX6_leastOf_0 : decode cX6_leastOf 0 = .ok (.aload_n 0, 1) := by decide +kernel
theorem dX6_leastOf_1 : decode cX6_leastOf 1 = .ok (.iconst 0, 1) := by decide +kernel
theorem dX6_leastOf_2 : decode cX6_leastOf 2 = .ok (.putfield 34, 3) := by decide +kernel
theorem dX6_leastOf_5 : decode cX6_leastOf 5 = .ok (.iload_n 1, 1) := by decide +kernel
theorem dX6_leastOf_6 : decode cX6_leastOf 6 = .ok (.ifCond .ge 8, 3) := by decide +kernel
theorem dX6_leastOf_9 : decode cX6_leastOf 9 = .ok (.bipush (-2), 2) := by decide +kernel
theorem dX6_leastOf_11 : decode cX6_leastOf 11 = .ok (.goto 8, 3) := by decide +kernel
theorem dX6_leastOf_14 : decode cX6_leastOf 14 = .ok (.aload_n 0, 1) := by decide +kernel
theorem dX6_leastOf_15 : decode cX6_leastOf 15 = .ok (.iload_n 1, 1) := by decide +kernel
theorem dX6_leastOf_16 : decode cX6_leastOf 16 = .ok (.invokevirtual 171, 3) := by decide +kernel
theorem dX6_leastOf_19 : decode cX6_leastOf 19 = .ok (.ireturn, 1) := by decide +kernel
theorem dX6_between_0 : decode cX6_between 0 = .ok (.aload_n 0, 1) := by decide +kernel
theorem dX6_between_1 : decode cX6_between 1 = .ok (.iconst 0, 1) := by decide +kernel
theorem dX6_between_2 : decode cX6_between 2 = .ok (.putfield 34, 3) := by decide +kernel
theorem dX6_between_5 : decode cX6_between 5 = .ok (.aload_n 0, 1) := by decide +kernel
theorem dX6_between_6 : decode cX6_between 6 = .ok (.iload_n 1, 1) := by decide +kernel
theorem dX6_between_7 : decode cX6_between 7 = .ok (.iload_n 2, 1) := by decide +kernel
theorem dX6_between_8 : decode cX6_between 8 = .ok (.iconst 0, 1) := by decide +kernel
theorem dX6_between_9 : decode cX6_between 9 = .ok (.invokevirtual 118, 3) := by decide +kernel
theorem dX6_between_12 : decode cX6_between 12 = .ok (.istore 4, 2) := by decide +kernel
theorem dX6_between_14 : decode cX6_between 14 = .ok (.iload 4, 2) := by decide +kernel
theorem dX6_between_16 : decode cX6_between 16 = .ok (.ifCond .eq 6, 3) := by decide +kernel
theorem dX6_between_19 : decode cX6_between 19 = .ok (.iload 4, 2) := by decide +kernel
theorem dX6_between_21 : decode cX6_between 21 = .ok (.ireturn, 1) := by decide +kernel
theorem dX6_between_22 : decode cX6_between 22 = .ok (.iload_n 3, 1) := by decide +kernel
theorem dX6_between_23 : decode cX6_between 23 = .ok (.iconst 0, 1) := by decide +kernel
theorem dX6_between_24 : decode cX6_between 24 = .ok (.iconst 1, 1) := by decide +kernel
theorem dX6_between_25 : decode cX6_between 25 = .ok (.invokestatic 38, 3) := by decide +kernel
theorem dX6_between_28 : decode cX6_between 28 = .ok (.ifCond .ne 6, 3) := by decide +kernel
theorem dX6_between_31 : decode cX6_between 31 = .ok (.bipush (-2), 2) := by decide +kernel
theorem dX6_between_33 : decode cX6_between 33 = .ok (.ireturn, 1) := by decide +kernel
theorem dX6_between_34 : decode cX6_between 34 = .ok (.aload_n 0, 1) := by decide +kernel
theorem dX6_between_35 : decode cX6_between 35 = .ok (.iload_n 1, 1) := by decide +kernel
theorem dX6_between_36 : decode cX6_between 36 = .ok (.iload_n 2, 1) := by decide +kernel
theorem dX6_between_37 : decode cX6_between 37 = .ok (.invokevirtual 174, 3) := by decide +kernel
theorem dX6_between_40 : decode cX6_between 40 = .ok (.istore 5, 2) := by decide +kernel
theorem dX6_between_42 : decode cX6_between 42 = .ok (.iload_n 3, 1) := by decide +kernel
theorem dX6_between_43 : decode cX6_between 43 = .ok (.ifCond .ne 8, 3) := by decide +kernel
theorem dX6_between_46 : decode cX6_between 46 = .ok (.iload 5, 2) := by decide +kernel
theorem dX6_between_48 : decode cX6_between 48 = .ok (.goto 9, 3) := by decide +kernel
theorem dX6_between_51 : decode cX6_between 51 = .ok (.aload_n 0, 1) := by decide +kernel
theorem dX6_between_52 : decode cX6_between 52 = .ok (.iload 5, 2) := by decide +kernel
theorem dX6_between_54 : decode cX6_between 54 = .ok (.invokevirtual 60, 3) := by decide +kernel
theorem dX6_between_57 : decode cX6_between 57 = .ok (.ireturn, 1) := by decide +kernel
theorem dX6_parting_0 : decode cX6_parting 0 = .ok (.aload_n 0, 1) := by decide +kernel
theorem dX6_parting_1 : decode cX6_parting 1 = .ok (.iconst 0, 1) := by decide +kernel
theorem dX6_parting_2 : decode cX6_parting 2 = .ok (.putfield 34, 3) := by decide +kernel
theorem dX6_parting_5 : decode cX6_parting 5 = .ok (.aload_n 0, 1) := by decide +kernel
theorem dX6_parting_6 : decode cX6_parting 6 = .ok (.iload_n 1, 1) := by decide +kernel
theorem dX6_parting_7 : decode cX6_parting 7 = .ok (.invokevirtual 177, 3) := by decide +kernel
theorem dX6_parting_10 : decode cX6_parting 10 = .ok (.ifCond .eq 11, 3) := by decide +kernel
theorem dX6_parting_13 : decode cX6_parting 13 = .ok (.aload_n 0, 1) := by decide +kernel
theorem dX6_parting_14 : decode cX6_parting 14 = .ok (.iload_n 1, 1) := by decide +kernel
theorem dX6_parting_15 : decode cX6_parting 15 = .ok (.invokevirtual 60, 3) := by decide +kernel
theorem dX6_parting_18 : decode cX6_parting 18 = .ok (.goto 5, 3) := by decide +kernel
theorem dX6_parting_21 : decode cX6_parting 21 = .ok (.bipush (-2), 2) := by decide +kernel
theorem dX6_parting_23 : decode cX6_parting 23 = .ok (.ireturn, 1) := by decide +kernel
theorem dX6_wouldBe_0 : decode cX6_wouldBe 0 = .ok (.aload_n 0, 1) := by decide +kernel
theorem dX6_wouldBe_1 : decode cX6_wouldBe 1 = .ok (.iconst 0, 1) := by decide +kernel
theorem dX6_wouldBe_2 : decode cX6_wouldBe 2 = .ok (.putfield 34, 3) := by decide +kernel
theorem dX6_wouldBe_5 : decode cX6_wouldBe 5 = .ok (.aload_n 0, 1) := by decide +kernel
theorem dX6_wouldBe_6 : decode cX6_wouldBe 6 = .ok (.iload_n 1, 1) := by decide +kernel
theorem dX6_wouldBe_7 : decode cX6_wouldBe 7 = .ok (.iload_n 2, 1) := by decide +kernel
theorem dX6_wouldBe_8 : decode cX6_wouldBe 8 = .ok (.iload_n 3, 1) := by decide +kernel
theorem dX6_wouldBe_9 : decode cX6_wouldBe 9 = .ok (.invokevirtual 118, 3) := by decide +kernel
theorem dX6_wouldBe_12 : decode cX6_wouldBe 12 = .ok (.istore 4, 2) := by decide +kernel
theorem dX6_wouldBe_14 : decode cX6_wouldBe 14 = .ok (.iload 4, 2) := by decide +kernel
theorem dX6_wouldBe_16 : decode cX6_wouldBe 16 = .ok (.ifCond .eq 6, 3) := by decide +kernel
theorem dX6_wouldBe_19 : decode cX6_wouldBe 19 = .ok (.iload 4, 2) := by decide +kernel
theorem dX6_wouldBe_21 : decode cX6_wouldBe 21 = .ok (.ireturn, 1) := by decide +kernel
theorem dX6_wouldBe_22 : decode cX6_wouldBe 22 = .ok (.aload_n 0, 1) := by decide +kernel
theorem dX6_wouldBe_23 : decode cX6_wouldBe 23 = .ok (.iload_n 1, 1) := by decide +kernel
theorem dX6_wouldBe_24 : decode cX6_wouldBe 24 = .ok (.iload_n 2, 1) := by decide +kernel
theorem dX6_wouldBe_25 : decode cX6_wouldBe 25 = .ok (.invokevirtual 45, 3) := by decide +kernel
theorem dX6_wouldBe_28 : decode cX6_wouldBe 28 = .ok (.istore 5, 2) := by decide +kernel
theorem dX6_wouldBe_30 : decode cX6_wouldBe 30 = .ok (.aload_n 0, 1) := by decide +kernel
theorem dX6_wouldBe_31 : decode cX6_wouldBe 31 = .ok (.iload_n 1, 1) := by decide +kernel
theorem dX6_wouldBe_32 : decode cX6_wouldBe 32 = .ok (.iload_n 2, 1) := by decide +kernel
theorem dX6_wouldBe_33 : decode cX6_wouldBe 33 = .ok (.iload_n 3, 1) := by decide +kernel
theorem dX6_wouldBe_34 : decode cX6_wouldBe 34 = .ok (.invokevirtual 114, 3) := by decide +kernel
theorem dX6_wouldBe_37 : decode cX6_wouldBe 37 = .ok (.aload_n 0, 1) := by decide +kernel
theorem dX6_wouldBe_38 : decode cX6_wouldBe 38 = .ok (.invokevirtual 66, 3) := by decide +kernel
theorem dX6_wouldBe_41 : decode cX6_wouldBe 41 = .ok (.istore 6, 2) := by decide +kernel
theorem dX6_wouldBe_43 : decode cX6_wouldBe 43 = .ok (.aload_n 0, 1) := by decide +kernel
theorem dX6_wouldBe_44 : decode cX6_wouldBe 44 = .ok (.iload_n 1, 1) := by decide +kernel
theorem dX6_wouldBe_45 : decode cX6_wouldBe 45 = .ok (.iload_n 2, 1) := by decide +kernel
theorem dX6_wouldBe_46 : decode cX6_wouldBe 46 = .ok (.iload 5, 2) := by decide +kernel
theorem dX6_wouldBe_48 : decode cX6_wouldBe 48 = .ok (.invokevirtual 114, 3) := by decide +kernel
theorem dX6_wouldBe_51 : decode cX6_wouldBe 51 = .ok (.iload 6, 2) := by decide +kernel
theorem dX6_wouldBe_53 : decode cX6_wouldBe 53 = .ok (.ireturn, 1) := by decide +kernel
theorem dX6_tight_0 : decode cX6_tight 0 = .ok (.aload_n 0, 1) := by decide +kernel
theorem dX6_tight_1 : decode cX6_tight 1 = .ok (.iconst 0, 1) := by decide +kernel
theorem dX6_tight_2 : decode cX6_tight 2 = .ok (.putfield 34, 3) := by decide +kernel
theorem dX6_tight_5 : decode cX6_tight 5 = .ok (.iload_n 1, 1) := by decide +kernel
theorem dX6_tight_6 : decode cX6_tight 6 = .ok (.ifCond .ge 8, 3) := by decide +kernel
theorem dX6_tight_9 : decode cX6_tight 9 = .ok (.bipush (-2), 2) := by decide +kernel
theorem dX6_tight_11 : decode cX6_tight 11 = .ok (.goto 8, 3) := by decide +kernel
theorem dX6_tight_14 : decode cX6_tight 14 = .ok (.aload_n 0, 1) := by decide +kernel
theorem dX6_tight_15 : decode cX6_tight 15 = .ok (.iload_n 1, 1) := by decide +kernel
theorem dX6_tight_16 : decode cX6_tight 16 = .ok (.invokevirtual 180, 3) := by decide +kernel
theorem dX6_tight_19 : decode cX6_tight 19 = .ok (.ireturn, 1) := by decide +kernel
theorem dX6_overPairs_0 : decode cX6_overPairs 0 = .ok (.iconst 0, 1) := by decide +kernel
theorem dX6_overPairs_1 : decode cX6_overPairs 1 = .ok (.istore_n 2, 1) := by decide +kernel
theorem dX6_overPairs_2 : decode cX6_overPairs 2 = .ok (.iconst 0, 1) := by decide +kernel
theorem dX6_overPairs_3 : decode cX6_overPairs 3 = .ok (.istore_n 3, 1) := by decide +kernel
theorem dX6_overPairs_4 : decode cX6_overPairs 4 = .ok (.iload_n 3, 1) := by decide +kernel
theorem dX6_overPairs_5 : decode cX6_overPairs 5 = .ok (.aload_n 0, 1) := by decide +kernel
theorem dX6_overPairs_6 : decode cX6_overPairs 6 = .ok (.getfield 7, 3) := by decide +kernel
theorem dX6_overPairs_9 : decode cX6_overPairs 9 = .ok (.iconst 0, 1) := by decide +kernel
theorem dX6_overPairs_10 : decode cX6_overPairs 10 = .ok (.iaload, 1) := by decide +kernel
theorem dX6_overPairs_11 : decode cX6_overPairs 11 = .ok (.if_icmp .ge 63, 3) := by decide +kernel
theorem dX6_overPairs_14 : decode cX6_overPairs 14 = .ok (.iload_n 3, 1) := by decide +kernel
theorem dX6_overPairs_15 : decode cX6_overPairs 15 = .ok (.iconst 1, 1) := by decide +kernel
theorem dX6_overPairs_16 : decode cX6_overPairs 16 = .ok (.iadd, 1) := by decide +kernel
theorem dX6_overPairs_17 : decode cX6_overPairs 17 = .ok (.istore 4, 2) := by decide +kernel
theorem dX6_overPairs_19 : decode cX6_overPairs 19 = .ok (.iload 4, 2) := by decide +kernel
theorem dX6_overPairs_21 : decode cX6_overPairs 21 = .ok (.aload_n 0, 1) := by decide +kernel
theorem dX6_overPairs_22 : decode cX6_overPairs 22 = .ok (.getfield 7, 3) := by decide +kernel
theorem dX6_overPairs_25 : decode cX6_overPairs 25 = .ok (.iconst 0, 1) := by decide +kernel
theorem dX6_overPairs_26 : decode cX6_overPairs 26 = .ok (.iaload, 1) := by decide +kernel
theorem dX6_overPairs_27 : decode cX6_overPairs 27 = .ok (.if_icmp .ge 41, 3) := by decide +kernel
theorem dX6_overPairs_30 : decode cX6_overPairs 30 = .ok (.iload_n 2, 1) := by decide +kernel
theorem dX6_overPairs_31 : decode cX6_overPairs 31 = .ok (.iload_n 1, 1) := by decide +kernel
theorem dX6_overPairs_32 : decode cX6_overPairs 32 = .ok (.ifCond .eq 13, 3) := by decide +kernel
theorem dX6_overPairs_35 : decode cX6_overPairs 35 = .ok (.aload_n 0, 1) := by decide +kernel
theorem dX6_overPairs_36 : decode cX6_overPairs 36 = .ok (.iload_n 3, 1) := by decide +kernel
theorem dX6_overPairs_37 : decode cX6_overPairs 37 = .ok (.iload 4, 2) := by decide +kernel
theorem dX6_overPairs_39 : decode cX6_overPairs 39 = .ok (.invokevirtual 45, 3) := by decide +kernel
theorem dX6_overPairs_42 : decode cX6_overPairs 42 = .ok (.goto 18, 3) := by decide +kernel
theorem dX6_overPairs_45 : decode cX6_overPairs 45 = .ok (.aload_n 0, 1) := by decide +kernel
theorem dX6_overPairs_46 : decode cX6_overPairs 46 = .ok (.iload_n 3, 1) := by decide +kernel
theorem dX6_overPairs_47 : decode cX6_overPairs 47 = .ok (.iload 4, 2) := by decide +kernel
theorem dX6_overPairs_49 : decode cX6_overPairs 49 = .ok (.invokevirtual 45, 3) := by decide +kernel
theorem dX6_overPairs_52 : decode cX6_overPairs 52 = .ok (.ifCond .le 7, 3) := by decide +kernel
theorem dX6_overPairs_55 : decode cX6_overPairs 55 = .ok (.iconst 1, 1) := by decide +kernel
theorem dX6_overPairs_56 : decode cX6_overPairs 56 = .ok (.goto 4, 3) := by decide +kernel
theorem dX6_overPairs_59 : decode cX6_overPairs 59 = .ok (.iconst 0, 1) := by decide +kernel
theorem dX6_overPairs_60 : decode cX6_overPairs 60 = .ok (.iadd, 1) := by decide +kernel
theorem dX6_overPairs_61 : decode cX6_overPairs 61 = .ok (.istore_n 2, 1) := by decide +kernel
theorem dX6_overPairs_62 : decode cX6_overPairs 62 = .ok (.iinc 4 1, 3) := by decide +kernel
theorem dX6_overPairs_65 : decode cX6_overPairs 65 = .ok (.goto (-46), 3) := by decide +kernel
theorem dX6_overPairs_68 : decode cX6_overPairs 68 = .ok (.iinc 3 1, 3) := by decide +kernel
theorem dX6_overPairs_71 : decode cX6_overPairs 71 = .ok (.goto (-67), 3) := by decide +kernel
theorem dX6_overPairs_74 : decode cX6_overPairs 74 = .ok (.iload_n 2, 1) := by decide +kernel
theorem dX6_overPairs_75 : decode cX6_overPairs 75 = .ok (.ireturn, 1) := by decide +kernel
theorem dX6_parts_0 : decode cX6_parts 0 = .ok (.iconst 0, 1) := by decide +kernel
theorem dX6_parts_1 : decode cX6_parts 1 = .ok (.istore_n 1, 1) := by decide +kernel
theorem dX6_parts_2 : decode cX6_parts 2 = .ok (.iconst 0, 1) := by decide +kernel
theorem dX6_parts_3 : decode cX6_parts 3 = .ok (.istore_n 2, 1) := by decide +kernel
theorem dX6_parts_4 : decode cX6_parts 4 = .ok (.iload_n 2, 1) := by decide +kernel
theorem dX6_parts_5 : decode cX6_parts 5 = .ok (.aload_n 0, 1) := by decide +kernel
theorem dX6_parts_6 : decode cX6_parts 6 = .ok (.getfield 7, 3) := by decide +kernel
theorem dX6_parts_9 : decode cX6_parts 9 = .ok (.iconst 0, 1) := by decide +kernel
theorem dX6_parts_10 : decode cX6_parts 10 = .ok (.iaload, 1) := by decide +kernel
theorem dX6_parts_11 : decode cX6_parts 11 = .ok (.if_icmp .ge 29, 3) := by decide +kernel
theorem dX6_parts_14 : decode cX6_parts 14 = .ok (.iload_n 1, 1) := by decide +kernel
theorem dX6_parts_15 : decode cX6_parts 15 = .ok (.aload_n 0, 1) := by decide +kernel
theorem dX6_parts_16 : decode cX6_parts 16 = .ok (.iload_n 2, 1) := by decide +kernel
theorem dX6_parts_17 : decode cX6_parts 17 = .ok (.invokevirtual 156, 3) := by decide +kernel
theorem dX6_parts_20 : decode cX6_parts 20 = .ok (.invokestatic 80, 3) := by decide +kernel
theorem dX6_parts_23 : decode cX6_parts 23 = .ok (.iload_n 2, 1) := by decide +kernel
theorem dX6_parts_24 : decode cX6_parts 24 = .ok (.if_icmp .ne 7, 3) := by decide +kernel
theorem dX6_parts_27 : decode cX6_parts 27 = .ok (.iconst 1, 1) := by decide +kernel
theorem dX6_parts_28 : decode cX6_parts 28 = .ok (.goto 4, 3) := by decide +kernel
theorem dX6_parts_31 : decode cX6_parts 31 = .ok (.iconst 0, 1) := by decide +kernel
theorem dX6_parts_32 : decode cX6_parts 32 = .ok (.iadd, 1) := by decide +kernel
theorem dX6_parts_33 : decode cX6_parts 33 = .ok (.istore_n 1, 1) := by decide +kernel
theorem dX6_parts_34 : decode cX6_parts 34 = .ok (.iinc 2 1, 3) := by decide +kernel
theorem dX6_parts_37 : decode cX6_parts 37 = .ok (.goto (-33), 3) := by decide +kernel
theorem dX6_parts_40 : decode cX6_parts 40 = .ok (.iload_n 1, 1) := by decide +kernel
theorem dX6_parts_41 : decode cX6_parts 41 = .ok (.ireturn, 1) := by decide +kernel
theorem dX6_count_0 : decode cX6_count 0 = .ok (.aload_n 0, 1) := by decide +kernel
theorem dX6_count_1 : decode cX6_count 1 = .ok (.iconst 0, 1) := by decide +kernel
theorem dX6_count_2 : decode cX6_count 2 = .ok (.putfield 34, 3) := by decide +kernel
theorem dX6_count_5 : decode cX6_count 5 = .ok (.iload_n 1, 1) := by decide +kernel
theorem dX6_count_6 : decode cX6_count 6 = .ok (.tableswitch 123 0 10 #[58, 65, 71, 77, 82, 89, 94, 101, 108, 113, 118], 58) := by decide +kernel
theorem dX6_count_64 : decode cX6_count 64 = .ok (.aload_n 0, 1) := by decide +kernel
theorem dX6_count_65 : decode cX6_count 65 = .ok (.getfield 7, 3) := by decide +kernel
theorem dX6_count_68 : decode cX6_count 68 = .ok (.iconst 0, 1) := by decide +kernel
theorem dX6_count_69 : decode cX6_count 69 = .ok (.iaload, 1) := by decide +kernel
theorem dX6_count_70 : decode cX6_count 70 = .ok (.ireturn, 1) := by decide +kernel
theorem dX6_count_71 : decode cX6_count 71 = .ok (.aload_n 0, 1) := by decide +kernel
theorem dX6_count_72 : decode cX6_count 72 = .ok (.iconst 0, 1) := by decide +kernel
theorem dX6_count_73 : decode cX6_count 73 = .ok (.invokevirtual 183, 3) := by decide +kernel
theorem dX6_count_76 : decode cX6_count 76 = .ok (.ireturn, 1) := by decide +kernel
theorem dX6_count_77 : decode cX6_count 77 = .ok (.aload_n 0, 1) := by decide +kernel
theorem dX6_count_78 : decode cX6_count 78 = .ok (.iconst 1, 1) := by decide +kernel
theorem dX6_count_79 : decode cX6_count 79 = .ok (.invokevirtual 183, 3) := by decide +kernel
theorem dX6_count_82 : decode cX6_count 82 = .ok (.ireturn, 1) := by decide +kernel
theorem dX6_count_83 : decode cX6_count 83 = .ok (.aload_n 0, 1) := by decide +kernel
theorem dX6_count_84 : decode cX6_count 84 = .ok (.invokevirtual 187, 3) := by decide +kernel
theorem dX6_count_87 : decode cX6_count 87 = .ok (.ireturn, 1) := by decide +kernel
theorem dX6_count_88 : decode cX6_count 88 = .ok (.aload_n 0, 1) := by decide +kernel
theorem dX6_count_89 : decode cX6_count 89 = .ok (.bipush (-5), 2) := by decide +kernel
theorem dX6_count_91 : decode cX6_count 91 = .ok (.invokevirtual 159, 3) := by decide +kernel
theorem dX6_count_94 : decode cX6_count 94 = .ok (.ireturn, 1) := by decide +kernel
theorem dX6_count_95 : decode cX6_count 95 = .ok (.aload_n 0, 1) := by decide +kernel
theorem dX6_count_96 : decode cX6_count 96 = .ok (.invokevirtual 190, 3) := by decide +kernel
theorem dX6_count_99 : decode cX6_count 99 = .ok (.ireturn, 1) := by decide +kernel
theorem dX6_count_100 : decode cX6_count 100 = .ok (.aload_n 0, 1) := by decide +kernel
theorem dX6_count_101 : decode cX6_count 101 = .ok (.getfield 7, 3) := by decide +kernel
theorem dX6_count_104 : decode cX6_count 104 = .ok (.iconst 1, 1) := by decide +kernel
theorem dX6_count_105 : decode cX6_count 105 = .ok (.iaload, 1) := by decide +kernel
theorem dX6_count_106 : decode cX6_count 106 = .ok (.ireturn, 1) := by decide +kernel
theorem dX6_count_107 : decode cX6_count 107 = .ok (.aload_n 0, 1) := by decide +kernel
theorem dX6_count_108 : decode cX6_count 108 = .ok (.getfield 7, 3) := by decide +kernel
theorem dX6_count_111 : decode cX6_count 111 = .ok (.iconst 2, 1) := by decide +kernel
theorem dX6_count_112 : decode cX6_count 112 = .ok (.iaload, 1) := by decide +kernel
theorem dX6_count_113 : decode cX6_count 113 = .ok (.ireturn, 1) := by decide +kernel
theorem dX6_count_114 : decode cX6_count 114 = .ok (.aload_n 0, 1) := by decide +kernel
theorem dX6_count_115 : decode cX6_count 115 = .ok (.invokevirtual 193, 3) := by decide +kernel
theorem dX6_count_118 : decode cX6_count 118 = .ok (.ireturn, 1) := by decide +kernel
theorem dX6_count_119 : decode cX6_count 119 = .ok (.aload_n 0, 1) := by decide +kernel
theorem dX6_count_120 : decode cX6_count 120 = .ok (.getfield 42, 3) := by decide +kernel
theorem dX6_count_123 : decode cX6_count 123 = .ok (.ireturn, 1) := by decide +kernel
theorem dX6_count_124 : decode cX6_count 124 = .ok (.aload_n 0, 1) := by decide +kernel
theorem dX6_count_125 : decode cX6_count 125 = .ok (.getfield 128, 3) := by decide +kernel
theorem dX6_count_128 : decode cX6_count 128 = .ok (.ireturn, 1) := by decide +kernel
theorem dX6_count_129 : decode cX6_count 129 = .ok (.bipush (-2), 2) := by decide +kernel
theorem dX6_count_131 : decode cX6_count 131 = .ok (.ireturn, 1) := by decide +kernel
