theorem dX5_init_0 : decode cX5_init 0 = .ok (.aload_n 0, 1) := by decide +kernel
theorem dX5_init_1 : decode cX5_init 1 = .ok (.invokespecial 3, 3) := by decide +kernel
theorem dX5_init_4 : decode cX5_init 4 = .ok (.aload_n 0, 1) := by decide +kernel
theorem dX5_init_5 : decode cX5_init 5 = .ok (.new 9, 3) := by decide +kernel
theorem dX5_init_8 : decode cX5_init 8 = .ok (.dup, 1) := by decide +kernel
theorem dX5_init_9 : decode cX5_init 9 = .ok (.invokespecial 11, 3) := by decide +kernel
theorem dX5_init_12 : decode cX5_init 12 = .ok (.putfield 12, 3) := by decide +kernel
theorem dX5_init_15 : decode cX5_init 15 = .ok (.aload_n 0, 1) := by decide +kernel
theorem dX5_init_16 : decode cX5_init 16 = .ok (.new 9, 3) := by decide +kernel
theorem dX5_init_19 : decode cX5_init 19 = .ok (.dup, 1) := by decide +kernel
theorem dX5_init_20 : decode cX5_init 20 = .ok (.invokespecial 11, 3) := by decide +kernel
theorem dX5_init_23 : decode cX5_init 23 = .ok (.putfield 16, 3) := by decide +kernel
theorem dX5_init_26 : decode cX5_init 26 = .ok (.aload_n 0, 1) := by decide +kernel
theorem dX5_init_27 : decode cX5_init 27 = .ok (.iconst 0, 1) := by decide +kernel
theorem dX5_init_28 : decode cX5_init 28 = .ok (.putfield 19, 3) := by decide +kernel
theorem dX5_init_31 : decode cX5_init 31 = .ok (.aload_n 0, 1) := by decide +kernel
theorem dX5_init_32 : decode cX5_init 32 = .ok (.new 23, 3) := by decide +kernel
theorem dX5_init_35 : decode cX5_init 35 = .ok (.dup, 1) := by decide +kernel
theorem dX5_init_36 : decode cX5_init 36 = .ok (.invokespecial 25, 3) := by decide +kernel
theorem dX5_init_39 : decode cX5_init 39 = .ok (.putfield 26, 3) := by decide +kernel
theorem dX5_init_42 : decode cX5_init 42 = .ok (.aload_n 0, 1) := by decide +kernel
theorem dX5_init_43 : decode cX5_init 43 = .ok (.new 30, 3) := by decide +kernel
theorem dX5_init_46 : decode cX5_init 46 = .ok (.dup, 1) := by decide +kernel
theorem dX5_init_47 : decode cX5_init 47 = .ok (.invokespecial 32, 3) := by decide +kernel
theorem dX5_init_50 : decode cX5_init 50 = .ok (.putfield 33, 3) := by decide +kernel
theorem dX5_init_53 : decode cX5_init 53 = .ok (.aload_n 0, 1) := by decide +kernel
theorem dX5_init_54 : decode cX5_init 54 = .ok (.new 37, 3) := by decide +kernel
theorem dX5_init_57 : decode cX5_init 57 = .ok (.dup, 1) := by decide +kernel
theorem dX5_init_58 : decode cX5_init 58 = .ok (.invokespecial 39, 3) := by decide +kernel
theorem dX5_init_61 : decode cX5_init 61 = .ok (.putfield 40, 3) := by decide +kernel
theorem dX5_init_64 : decode cX5_init 64 = .ok (.aload_n 0, 1) := by decide +kernel
theorem dX5_init_65 : decode cX5_init 65 = .ok (.new 44, 3) := by decide +kernel
theorem dX5_init_68 : decode cX5_init 68 = .ok (.dup, 1) := by decide +kernel
theorem dX5_init_69 : decode cX5_init 69 = .ok (.invokespecial 46, 3) := by decide +kernel
theorem dX5_init_72 : decode cX5_init 72 = .ok (.putfield 47, 3) := by decide +kernel
theorem dX5_init_75 : decode cX5_init 75 = .ok (.return_, 1) := by decide +kernel
theorem dX5_grow_0 : decode cX5_grow 0 = .ok (.aload_n 0, 1) := by decide +kernel
theorem dX5_grow_1 : decode cX5_grow 1 = .ok (.getfield 12, 3) := by decide +kernel
theorem dX5_grow_4 : decode cX5_grow 4 = .ok (.getfield 51, 3) := by decide +kernel
theorem dX5_grow_7 : decode cX5_grow 7 = .ok (.bipush 10, 2) := by decide +kernel
theorem dX5_grow_9 : decode cX5_grow 9 = .ok (.if_icmp .lt 6, 3) := by decide +kernel
theorem dX5_grow_12 : decode cX5_grow 12 = .ok (.bipush (-3), 2) := by decide +kernel
theorem dX5_grow_14 : decode cX5_grow 14 = .ok (.ireturn, 1) := by decide +kernel
theorem dX5_grow_15 : decode cX5_grow 15 = .ok (.aload_n 0, 1) := by decide +kernel
theorem dX5_grow_16 : decode cX5_grow 16 = .ok (.getfield 26, 3) := by decide +kernel
theorem dX5_grow_19 : decode cX5_grow 19 = .ok (.aload_n 0, 1) := by decide +kernel
theorem dX5_grow_20 : decode cX5_grow 20 = .ok (.getfield 12, 3) := by decide +kernel
theorem dX5_grow_23 : decode cX5_grow 23 = .ok (.invokevirtual 55, 3) := by decide +kernel
theorem dX5_grow_26 : decode cX5_grow 26 = .ok (.aload_n 0, 1) := by decide +kernel
theorem dX5_grow_27 : decode cX5_grow 27 = .ok (.getfield 12, 3) := by decide +kernel
theorem dX5_grow_30 : decode cX5_grow 30 = .ok (.invokevirtual 59, 3) := by decide +kernel
theorem dX5_grow_33 : decode cX5_grow 33 = .ok (.aload_n 0, 1) := by decide +kernel
theorem dX5_grow_34 : decode cX5_grow 34 = .ok (.getfield 12, 3) := by decide +kernel
theorem dX5_grow_37 : decode cX5_grow 37 = .ok (.getfield 51, 3) := by decide +kernel
theorem dX5_grow_40 : decode cX5_grow 40 = .ok (.iconst 1, 1) := by decide +kernel
theorem dX5_grow_41 : decode cX5_grow 41 = .ok (.isub, 1) := by decide +kernel
theorem dX5_grow_42 : decode cX5_grow 42 = .ok (.ireturn, 1) := by decide +kernel
theorem dX5_remove_0 : decode cX5_remove 0 = .ok (.aload_n 0, 1) := by decide +kernel
theorem dX5_remove_1 : decode cX5_remove 1 = .ok (.getfield 12, 3) := by decide +kernel
theorem dX5_remove_4 : decode cX5_remove 4 = .ok (.iload_n 1, 1) := by decide +kernel
theorem dX5_remove_5 : decode cX5_remove 5 = .ok (.invokevirtual 62, 3) := by decide +kernel
theorem dX5_remove_8 : decode cX5_remove 8 = .ok (.ifCond .ne 5, 3) := by decide +kernel
theorem dX5_remove_11 : decode cX5_remove 11 = .ok (.iconst (-1), 1) := by decide +kernel
theorem dX5_remove_12 : decode cX5_remove 12 = .ok (.ireturn, 1) := by decide +kernel
theorem dX5_remove_13 : decode cX5_remove 13 = .ok (.aload_n 0, 1) := by decide +kernel
theorem dX5_remove_14 : decode cX5_remove 14 = .ok (.getfield 12, 3) := by decide +kernel
theorem dX5_remove_17 : decode cX5_remove 17 = .ok (.getfield 51, 3) := by decide +kernel
theorem dX5_remove_20 : decode cX5_remove 20 = .ok (.iconst 2, 1) := by decide +kernel
theorem dX5_remove_21 : decode cX5_remove 21 = .ok (.if_icmp .gt 6, 3) := by decide +kernel
theorem dX5_remove_24 : decode cX5_remove 24 = .ok (.bipush (-4), 2) := by decide +kernel
theorem dX5_remove_26 : decode cX5_remove 26 = .ok (.ireturn, 1) := by decide +kernel
theorem dX5_remove_27 : decode cX5_remove 27 = .ok (.aload_n 0, 1) := by decide +kernel
theorem dX5_remove_28 : decode cX5_remove 28 = .ok (.getfield 26, 3) := by decide +kernel
theorem dX5_remove_31 : decode cX5_remove 31 = .ok (.aload_n 0, 1) := by decide +kernel
theorem dX5_remove_32 : decode cX5_remove 32 = .ok (.getfield 12, 3) := by decide +kernel
theorem dX5_remove_35 : decode cX5_remove 35 = .ok (.invokevirtual 55, 3) := by decide +kernel
theorem dX5_remove_38 : decode cX5_remove 38 = .ok (.aload_n 0, 1) := by decide +kernel
theorem dX5_remove_39 : decode cX5_remove 39 = .ok (.getfield 12, 3) := by decide +kernel
theorem dX5_remove_42 : decode cX5_remove 42 = .ok (.iload_n 1, 1) := by decide +kernel
theorem dX5_remove_43 : decode cX5_remove 43 = .ok (.invokevirtual 66, 3) := by decide +kernel
theorem dX5_remove_46 : decode cX5_remove 46 = .ok (.aload_n 0, 1) := by decide +kernel
theorem dX5_remove_47 : decode cX5_remove 47 = .ok (.getfield 12, 3) := by decide +kernel
theorem dX5_remove_50 : decode cX5_remove 50 = .ok (.getfield 51, 3) := by decide +kernel
theorem dX5_remove_53 : decode cX5_remove 53 = .ok (.ireturn, 1) := by decide +kernel
theorem dX5_join_0 : decode cX5_join 0 = .ok (.aload_n 0, 1) := by decide +kernel
theorem dX5_join_1 : decode cX5_join 1 = .ok (.iload_n 1, 1) := by decide +kernel
theorem dX5_join_2 : decode cX5_join 2 = .ok (.iload_n 2, 1) := by decide +kernel
theorem dX5_join_3 : decode cX5_join 3 = .ok (.invokevirtual 70, 3) := by decide +kernel
theorem dX5_join_6 : decode cX5_join 6 = .ok (.istore_n 3, 1) := by decide +kernel
theorem dX5_join_7 : decode cX5_join 7 = .ok (.iload_n 3, 1) := by decide +kernel
theorem dX5_join_8 : decode cX5_join 8 = .ok (.ifCond .eq 5, 3) := by decide +kernel
theorem dX5_join_11 : decode cX5_join 11 = .ok (.iload_n 3, 1) := by decide +kernel
theorem dX5_join_12 : decode cX5_join 12 = .ok (.ireturn, 1) := by decide +kernel
theorem dX5_join_13 : decode cX5_join 13 = .ok (.aload_n 0, 1) := by decide +kernel
theorem dX5_join_14 : decode cX5_join 14 = .ok (.getfield 12, 3) := by decide +kernel
theorem dX5_join_17 : decode cX5_join 17 = .ok (.getfield 51, 3) := by decide +kernel
theorem dX5_join_20 : decode cX5_join 20 = .ok (.iconst 2, 1) := by decide +kernel
theorem dX5_join_21 : decode cX5_join 21 = .ok (.if_icmp .gt 6, 3) := by decide +kernel
theorem dX5_join_24 : decode cX5_join 24 = .ok (.bipush (-4), 2) := by decide +kernel
theorem dX5_join_26 : decode cX5_join 26 = .ok (.ireturn, 1) := by decide +kernel
theorem dX5_join_27 : decode cX5_join 27 = .ok (.aload_n 0, 1) := by decide +kernel
theorem dX5_join_28 : decode cX5_join 28 = .ok (.getfield 26, 3) := by decide +kernel
theorem dX5_join_31 : decode cX5_join 31 = .ok (.aload_n 0, 1) := by decide +kernel
theorem dX5_join_32 : decode cX5_join 32 = .ok (.getfield 12, 3) := by decide +kernel
theorem dX5_join_35 : decode cX5_join 35 = .ok (.invokevirtual 55, 3) := by decide +kernel
theorem dX5_join_38 : decode cX5_join 38 = .ok (.aload_n 0, 1) := by decide +kernel
theorem dX5_join_39 : decode cX5_join 39 = .ok (.getfield 12, 3) := by decide +kernel
theorem dX5_join_42 : decode cX5_join 42 = .ok (.iload_n 1, 1) := by decide +kernel
theorem dX5_join_43 : decode cX5_join 43 = .ok (.iload_n 2, 1) := by decide +kernel
theorem dX5_join_44 : decode cX5_join 44 = .ok (.invokestatic 74, 3) := by decide +kernel
theorem dX5_join_47 : decode cX5_join 47 = .ok (.iload_n 1, 1) := by decide +kernel
theorem dX5_join_48 : decode cX5_join 48 = .ok (.iload_n 2, 1) := by decide +kernel
theorem dX5_join_49 : decode cX5_join 49 = .ok (.invokestatic 79, 3) := by decide +kernel
theorem dX5_join_52 : decode cX5_join 52 = .ok (.invokevirtual 82, 3) := by decide +kernel
theorem dX5_join_55 : decode cX5_join 55 = .ok (.aload_n 0, 1) := by decide +kernel
theorem dX5_join_56 : decode cX5_join 56 = .ok (.getfield 12, 3) := by decide +kernel
theorem dX5_join_59 : decode cX5_join 59 = .ok (.getfield 51, 3) := by decide +kernel
theorem dX5_join_62 : decode cX5_join 62 = .ok (.ireturn, 1) := by decide +kernel
theorem dX5_tie_0 : decode cX5_tie 0 = .ok (.aload_n 0, 1) := by decide +kernel
theorem dX5_tie_1 : decode cX5_tie 1 = .ok (.iload_n 1, 1) := by decide +kernel
theorem dX5_tie_2 : decode cX5_tie 2 = .ok (.iload_n 2, 1) := by decide +kernel
theorem dX5_tie_3 : decode cX5_tie 3 = .ok (.iload_n 3, 1) := by decide +kernel
theorem dX5_tie_4 : decode cX5_tie 4 = .ok (.invokevirtual 86, 3) := by decide +kernel
theorem dX5_tie_7 : decode cX5_tie 7 = .ok (.istore 4, 2) := by decide +kernel
theorem dX5_tie_9 : decode cX5_tie 9 = .ok (.iload 4, 2) := by decide +kernel
theorem dX5_tie_11 : decode cX5_tie 11 = .ok (.ifCond .eq 6, 3) := by decide +kernel
theorem dX5_tie_14 : decode cX5_tie 14 = .ok (.iload 4, 2) := by decide +kernel
theorem dX5_tie_16 : decode cX5_tie 16 = .ok (.ireturn, 1) := by decide +kernel
theorem dX5_tie_17 : decode cX5_tie 17 = .ok (.aload_n 0, 1) := by decide +kernel
theorem dX5_tie_18 : decode cX5_tie 18 = .ok (.getfield 12, 3) := by decide +kernel
theorem dX5_tie_21 : decode cX5_tie 21 = .ok (.iload_n 1, 1) := by decide +kernel
theorem dX5_tie_22 : decode cX5_tie 22 = .ok (.iload_n 2, 1) := by decide +kernel
theorem dX5_tie_23 : decode cX5_tie 23 = .ok (.invokevirtual 90, 3) := by decide +kernel
theorem dX5_tie_26 : decode cX5_tie 26 = .ok (.istore 5, 2) := by decide +kernel
theorem dX5_tie_28 : decode cX5_tie 28 = .ok (.iload 5, 2) := by decide +kernel
theorem dX5_tie_30 : decode cX5_tie 30 = .ok (.iload_n 3, 1) := by decide +kernel
theorem dX5_tie_31 : decode cX5_tie 31 = .ok (.if_icmp .ne 6, 3) := by decide +kernel
theorem dX5_tie_34 : decode cX5_tie 34 = .ok (.bipush (-5), 2) := by decide +kernel
theorem dX5_tie_36 : decode cX5_tie 36 = .ok (.ireturn, 1) := by decide +kernel
theorem dX5_tie_37 : decode cX5_tie 37 = .ok (.aload_n 0, 1) := by decide +kernel
theorem dX5_tie_38 : decode cX5_tie 38 = .ok (.getfield 26, 3) := by decide +kernel
theorem dX5_tie_41 : decode cX5_tie 41 = .ok (.aload_n 0, 1) := by decide +kernel
theorem dX5_tie_42 : decode cX5_tie 42 = .ok (.getfield 12, 3) := by decide +kernel
theorem dX5_tie_45 : decode cX5_tie 45 = .ok (.invokevirtual 55, 3) := by decide +kernel
theorem dX5_tie_48 : decode cX5_tie 48 = .ok (.aload_n 0, 1) := by decide +kernel
theorem dX5_tie_49 : decode cX5_tie 49 = .ok (.getfield 12, 3) := by decide +kernel
theorem dX5_tie_52 : decode cX5_tie 52 = .ok (.iload_n 1, 1) := by decide +kernel
theorem dX5_tie_53 : decode cX5_tie 53 = .ok (.iload_n 2, 1) := by decide +kernel
theorem dX5_tie_54 : decode cX5_tie 54 = .ok (.iload_n 3, 1) := by decide +kernel
theorem dX5_tie_55 : decode cX5_tie 55 = .ok (.invokevirtual 93, 3) := by decide +kernel
theorem dX5_tie_58 : decode cX5_tie 58 = .ok (.iload 5, 2) := by decide +kernel
theorem dX5_tie_60 : decode cX5_tie 60 = .ok (.ireturn, 1) := by decide +kernel
theorem dX5_tieAll_0 : decode cX5_tieAll 0 = .ok (.aload_n 0, 1) := by decide +kernel
theorem dX5_tieAll_1 : decode cX5_tieAll 1 = .ok (.getfield 33, 3) := by decide +kernel
theorem dX5_tieAll_4 : decode cX5_tieAll 4 = .ok (.invokevirtual 97, 3) := by decide +kernel
theorem dX5_tieAll_7 : decode cX5_tieAll 7 = .ok (.istore_n 1, 1) := by decide +kernel
theorem dX5_tieAll_8 : decode cX5_tieAll 8 = .ok (.iload_n 1, 1) := by decide +kernel
theorem dX5_tieAll_9 : decode cX5_tieAll 9 = .ok (.iconst (-1), 1) := by decide +kernel
theorem dX5_tieAll_10 : decode cX5_tieAll 10 = .ok (.if_icmp .eq 8, 3) := by decide +kernel
theorem dX5_tieAll_13 : decode cX5_tieAll 13 = .ok (.bipush (-100), 2) := by decide +kernel
theorem dX5_tieAll_15 : decode cX5_tieAll 15 = .ok (.iload_n 1, 1) := by decide +kernel
theorem dX5_tieAll_16 : decode cX5_tieAll 16 = .ok (.isub, 1) := by decide +kernel
theorem dX5_tieAll_17 : decode cX5_tieAll 17 = .ok (.ireturn, 1) := by decide +kernel
theorem dX5_tieAll_18 : decode cX5_tieAll 18 = .ok (.aload_n 0, 1) := by decide +kernel
theorem dX5_tieAll_19 : decode cX5_tieAll 19 = .ok (.getfield 33, 3) := by decide +kernel
theorem dX5_tieAll_22 : decode cX5_tieAll 22 = .ok (.aload_n 0, 1) := by decide +kernel
theorem dX5_tieAll_23 : decode cX5_tieAll 23 = .ok (.getfield 12, 3) := by decide +kernel
theorem dX5_tieAll_26 : decode cX5_tieAll 26 = .ok (.invokevirtual 101, 3) := by decide +kernel
theorem dX5_tieAll_29 : decode cX5_tieAll 29 = .ok (.ifCond .ne 5, 3) := by decide +kernel
theorem dX5_tieAll_32 : decode cX5_tieAll 32 = .ok (.iconst (-1), 1) := by decide +kernel
theorem dX5_tieAll_33 : decode cX5_tieAll 33 = .ok (.ireturn, 1) := by decide +kernel
theorem dX5_tieAll_34 : decode cX5_tieAll 34 = .ok (.aload_n 0, 1) := by decide +kernel
theorem dX5_tieAll_35 : decode cX5_tieAll 35 = .ok (.getfield 26, 3) := by decide +kernel
theorem dX5_tieAll_38 : decode cX5_tieAll 38 = .ok (.aload_n 0, 1) := by decide +kernel
theorem dX5_tieAll_39 : decode cX5_tieAll 39 = .ok (.getfield 12, 3) := by decide +kernel
theorem dX5_tieAll_42 : decode cX5_tieAll 42 = .ok (.invokevirtual 55, 3) := by decide +kernel
theorem dX5_tieAll_45 : decode cX5_tieAll 45 = .ok (.aload_n 0, 1) := by decide +kernel
theorem dX5_tieAll_46 : decode cX5_tieAll 46 = .ok (.getfield 33, 3) := by decide +kernel
theorem dX5_tieAll_49 : decode cX5_tieAll 49 = .ok (.aload_n 0, 1) := by decide +kernel
theorem dX5_tieAll_50 : decode cX5_tieAll 50 = .ok (.getfield 12, 3) := by decide +kernel
theorem dX5_tieAll_53 : decode cX5_tieAll 53 = .ok (.invokevirtual 105, 3) := by decide +kernel
theorem dX5_tieAll_56 : decode cX5_tieAll 56 = .ok (.aload_n 0, 1) := by decide +kernel
theorem dX5_tieAll_57 : decode cX5_tieAll 57 = .ok (.getfield 33, 3) := by decide +kernel
theorem dX5_tieAll_60 : decode cX5_tieAll 60 = .ok (.getfield 108, 3) := by decide +kernel
theorem dX5_tieAll_63 : decode cX5_tieAll 63 = .ok (.ireturn, 1) := by decide +kernel
theorem dX5_set_0 : decode cX5_set 0 = .ok (.iload_n 1, 1) := by decide +kernel
theorem dX5_set_1 : decode cX5_set 1 = .ok (.lookupswitch 39 #[(0, 27), (1, 33)], 27) := by decide +kernel
theorem dX5_set_28 : decode cX5_set 28 = .ok (.aload_n 0, 1) := by decide +kernel
theorem dX5_set_29 : decode cX5_set 29 = .ok (.iload_n 2, 1) := by decide +kernel
theorem dX5_set_30 : decode cX5_set 30 = .ok (.invokevirtual 111, 3) := by decide +kernel
theorem dX5_set_33 : decode cX5_set 33 = .ok (.ireturn, 1) := by decide +kernel
theorem dX5_set_34 : decode cX5_set 34 = .ok (.aload_n 0, 1) := by decide +kernel
theorem dX5_set_35 : decode cX5_set 35 = .ok (.iload_n 2, 1) := by decide +kernel
theorem dX5_set_36 : decode cX5_set 36 = .ok (.invokevirtual 115, 3) := by decide +kernel
theorem dX5_set_39 : decode cX5_set 39 = .ok (.ireturn, 1) := by decide +kernel
theorem dX5_set_40 : decode cX5_set 40 = .ok (.bipush (-2), 2) := by decide +kernel
theorem dX5_set_42 : decode cX5_set 42 = .ok (.ireturn, 1) := by decide +kernel
theorem dX5_setStart_0 : decode cX5_setStart 0 = .ok (.aload_n 0, 1) := by decide +kernel
theorem dX5_setStart_1 : decode cX5_setStart 1 = .ok (.getfield 12, 3) := by decide +kernel
theorem dX5_setStart_4 : decode cX5_setStart 4 = .ok (.getfield 118, 3) := by decide +kernel
theorem dX5_setStart_7 : decode cX5_setStart 7 = .ok (.istore_n 2, 1) := by decide +kernel
theorem dX5_setStart_8 : decode cX5_setStart 8 = .ok (.aload_n 0, 1) := by decide +kernel
theorem dX5_setStart_9 : decode cX5_setStart 9 = .ok (.getfield 12, 3) := by decide +kernel
theorem dX5_setStart_12 : decode cX5_setStart 12 = .ok (.iload_n 1, 1) := by decide +kernel
theorem dX5_setStart_13 : decode cX5_setStart 13 = .ok (.invokevirtual 62, 3) := by decide +kernel
theorem dX5_setStart_16 : decode cX5_setStart 16 = .ok (.ifCond .ne 6, 3) := by decide +kernel
theorem dX5_setStart_19 : decode cX5_setStart 19 = .ok (.bipush (-2), 2) := by decide +kernel
theorem dX5_setStart_21 : decode cX5_setStart 21 = .ok (.ireturn, 1) := by decide +kernel
theorem dX5_setStart_22 : decode cX5_setStart 22 = .ok (.iload_n 1, 1) := by decide +kernel
theorem dX5_setStart_23 : decode cX5_setStart 23 = .ok (.iload_n 2, 1) := by decide +kernel
theorem dX5_setStart_24 : decode cX5_setStart 24 = .ok (.if_icmp .ne 6, 3) := by decide +kernel
theorem dX5_setStart_27 : decode cX5_setStart 27 = .ok (.bipush (-5), 2) := by decide +kernel
theorem dX5_setStart_29 : decode cX5_setStart 29 = .ok (.ireturn, 1) := by decide +kernel
theorem dX5_setStart_30 : decode cX5_setStart 30 = .ok (.aload_n 0, 1) := by decide +kernel
theorem dX5_setStart_31 : decode cX5_setStart 31 = .ok (.getfield 26, 3) := by decide +kernel
theorem dX5_setStart_34 : decode cX5_setStart 34 = .ok (.aload_n 0, 1) := by decide +kernel
theorem dX5_setStart_35 : decode cX5_setStart 35 = .ok (.getfield 12, 3) := by decide +kernel
theorem dX5_setStart_38 : decode cX5_setStart 38 = .ok (.invokevirtual 55, 3) := by decide +kernel
theorem dX5_setStart_41 : decode cX5_setStart 41 = .ok (.aload_n 0, 1) := by decide +kernel
theorem dX5_setStart_42 : decode cX5_setStart 42 = .ok (.getfield 12, 3) := by decide +kernel
theorem dX5_setStart_45 : decode cX5_setStart 45 = .ok (.iload_n 1, 1) := by decide +kernel
theorem dX5_setStart_46 : decode cX5_setStart 46 = .ok (.putfield 118, 3) := by decide +kernel
theorem dX5_setStart_49 : decode cX5_setStart 49 = .ok (.iload_n 2, 1) := by decide +kernel
theorem dX5_setStart_50 : decode cX5_setStart 50 = .ok (.ireturn, 1) := by decide +kernel
theorem dX5_setFairPlaces_0 : decode cX5_setFairPlaces 0 = .ok (.aload_n 0, 1) := by decide +kernel
theorem dX5_setFairPlaces_1 : decode cX5_setFairPlaces 1 = .ok (.getfield 12, 3) := by decide +kernel
theorem dX5_setFairPlaces_4 : decode cX5_setFairPlaces 4 = .ok (.getfield 121, 3) := by decide +kernel
theorem dX5_setFairPlaces_7 : decode cX5_setFairPlaces 7 = .ok (.istore_n 2, 1) := by decide +kernel
theorem dX5_setFairPlaces_8 : decode cX5_setFairPlaces 8 = .ok (.iload_n 1, 1) := by decide +kernel
theorem dX5_setFairPlaces_9 : decode cX5_setFairPlaces 9 = .ok (.iconst 1, 1) := by decide +kernel
theorem dX5_setFairPlaces_10 : decode cX5_setFairPlaces 10 = .ok (.if_icmp .lt 8, 3) := by decide +kernel
theorem dX5_setFairPlaces_13 : decode cX5_setFairPlaces 13 = .ok (.iload_n 1, 1) := by decide +kernel
theorem dX5_setFairPlaces_14 : decode cX5_setFairPlaces 14 = .ok (.iconst 5, 1) := by decide +kernel
theorem dX5_setFairPlaces_15 : decode cX5_setFairPlaces 15 = .ok (.if_icmp .le 6, 3) := by decide +kernel
theorem dX5_setFairPlaces_18 : decode cX5_setFairPlaces 18 = .ok (.bipush (-2), 2) := by decide +kernel
theorem dX5_setFairPlaces_20 : decode cX5_setFairPlaces 20 = .ok (.ireturn, 1) := by decide +kernel
theorem dX5_setFairPlaces_21 : decode cX5_setFairPlaces 21 = .ok (.iload_n 1, 1) := by decide +kernel
theorem dX5_setFairPlaces_22 : decode cX5_setFairPlaces 22 = .ok (.iload_n 2, 1) := by decide +kernel
theorem dX5_setFairPlaces_23 : decode cX5_setFairPlaces 23 = .ok (.if_icmp .ne 6, 3) := by decide +kernel
theorem dX5_setFairPlaces_26 : decode cX5_setFairPlaces 26 = .ok (.bipush (-5), 2) := by decide +kernel
theorem dX5_setFairPlaces_28 : decode cX5_setFairPlaces 28 = .ok (.ireturn, 1) := by decide +kernel
theorem dX5_setFairPlaces_29 : decode cX5_setFairPlaces 29 = .ok (.aload_n 0, 1) := by decide +kernel
theorem dX5_setFairPlaces_30 : decode cX5_setFairPlaces 30 = .ok (.getfield 26, 3) := by decide +kernel
theorem dX5_setFairPlaces_33 : decode cX5_setFairPlaces 33 = .ok (.aload_n 0, 1) := by decide +kernel
theorem dX5_setFairPlaces_34 : decode cX5_setFairPlaces 34 = .ok (.getfield 12, 3) := by decide +kernel
theorem dX5_setFairPlaces_37 : decode cX5_setFairPlaces 37 = .ok (.invokevirtual 55, 3) := by decide +kernel
theorem dX5_setFairPlaces_40 : decode cX5_setFairPlaces 40 = .ok (.aload_n 0, 1) := by decide +kernel
theorem dX5_setFairPlaces_41 : decode cX5_setFairPlaces 41 = .ok (.getfield 12, 3) := by decide +kernel
theorem dX5_setFairPlaces_44 : decode cX5_setFairPlaces 44 = .ok (.iload_n 1, 1) := by decide +kernel
theorem dX5_setFairPlaces_45 : decode cX5_setFairPlaces 45 = .ok (.putfield 121, 3) := by decide +kernel
theorem dX5_setFairPlaces_48 : decode cX5_setFairPlaces 48 = .ok (.iload_n 2, 1) := by decide +kernel
theorem dX5_setFairPlaces_49 : decode cX5_setFairPlaces 49 = .ok (.ireturn, 1) := by decide +kernel
theorem dX5_strengthen_0 : decode cX5_strengthen 0 = .ok (.aload_n 0, 1) := by decide +kernel
theorem dX5_strengthen_1 : decode cX5_strengthen 1 = .ok (.getfield 40, 3) := by decide +kernel
theorem dX5_strengthen_4 : decode cX5_strengthen 4 = .ok (.aload_n 0, 1) := by decide +kernel
theorem dX5_strengthen_5 : decode cX5_strengthen 5 = .ok (.getfield 12, 3) := by decide +kernel
theorem dX5_strengthen_8 : decode cX5_strengthen 8 = .ok (.invokevirtual 124, 3) := by decide +kernel
theorem dX5_strengthen_11 : decode cX5_strengthen 11 = .ok (.aload_n 0, 1) := by decide +kernel
theorem dX5_strengthen_12 : decode cX5_strengthen 12 = .ok (.getfield 40, 3) := by decide +kernel
theorem dX5_strengthen_15 : decode cX5_strengthen 15 = .ok (.aload_n 0, 1) := by decide +kernel
theorem dX5_strengthen_16 : decode cX5_strengthen 16 = .ok (.getfield 40, 3) := by decide +kernel
theorem dX5_strengthen_19 : decode cX5_strengthen 19 = .ok (.invokevirtual 127, 3) := by decide +kernel
theorem dX5_strengthen_22 : decode cX5_strengthen 22 = .ok (.invokevirtual 130, 3) := by decide +kernel
theorem dX5_strengthen_25 : decode cX5_strengthen 25 = .ok (.istore_n 1, 1) := by decide +kernel
theorem dX5_strengthen_26 : decode cX5_strengthen 26 = .ok (.iconst 0, 1) := by decide +kernel
theorem dX5_strengthen_27 : decode cX5_strengthen 27 = .ok (.istore_n 2, 1) := by decide +kernel
theorem dX5_strengthen_28 : decode cX5_strengthen 28 = .ok (.iload_n 2, 1) := by decide +kernel
theorem dX5_strengthen_29 : decode cX5_strengthen 29 = .ok (.aload_n 0, 1) := by decide +kernel
theorem dX5_strengthen_30 : decode cX5_strengthen 30 = .ok (.getfield 12, 3) := by decide +kernel
theorem dX5_strengthen_33 : decode cX5_strengthen 33 = .ok (.getfield 51, 3) := by decide +kernel
theorem dX5_strengthen_36 : decode cX5_strengthen 36 = .ok (.if_icmp .ge 93, 3) := by decide +kernel
theorem dX5_strengthen_39 : decode cX5_strengthen 39 = .ok (.iload_n 2, 1) := by decide +kernel
theorem dX5_strengthen_40 : decode cX5_strengthen 40 = .ok (.iconst 1, 1) := by decide +kernel
theorem dX5_strengthen_41 : decode cX5_strengthen 41 = .ok (.iadd, 1) := by decide +kernel
theorem dX5_strengthen_42 : decode cX5_strengthen 42 = .ok (.istore_n 3, 1) := by decide +kernel
theorem dX5_strengthen_43 : decode cX5_strengthen 43 = .ok (.iload_n 3, 1) := by decide +kernel
theorem dX5_strengthen_44 : decode cX5_strengthen 44 = .ok (.aload_n 0, 1) := by decide +kernel
theorem dX5_strengthen_45 : decode cX5_strengthen 45 = .ok (.getfield 12, 3) := by decide +kernel
theorem dX5_strengthen_48 : decode cX5_strengthen 48 = .ok (.getfield 51, 3) := by decide +kernel
theorem dX5_strengthen_51 : decode cX5_strengthen 51 = .ok (.if_icmp .ge 72, 3) := by decide +kernel
theorem dX5_strengthen_54 : decode cX5_strengthen 54 = .ok (.aload_n 0, 1) := by decide +kernel
theorem dX5_strengthen_55 : decode cX5_strengthen 55 = .ok (.getfield 12, 3) := by decide +kernel
theorem dX5_strengthen_58 : decode cX5_strengthen 58 = .ok (.iload_n 2, 1) := by decide +kernel
theorem dX5_strengthen_59 : decode cX5_strengthen 59 = .ok (.iload_n 3, 1) := by decide +kernel
theorem dX5_strengthen_60 : decode cX5_strengthen 60 = .ok (.invokevirtual 90, 3) := by decide +kernel
theorem dX5_strengthen_63 : decode cX5_strengthen 63 = .ok (.istore 4, 2) := by decide +kernel
theorem dX5_strengthen_65 : decode cX5_strengthen 65 = .ok (.iload_n 1, 1) := by decide +kernel
theorem dX5_strengthen_66 : decode cX5_strengthen 66 = .ok (.iload_n 2, 1) := by decide +kernel
theorem dX5_strengthen_67 : decode cX5_strengthen 67 = .ok (.iload_n 3, 1) := by decide +kernel
theorem dX5_strengthen_68 : decode cX5_strengthen 68 = .ok (.invokestatic 133, 3) := by decide +kernel
theorem dX5_strengthen_71 : decode cX5_strengthen 71 = .ok (.ifCond .eq 46, 3) := by decide +kernel
theorem dX5_strengthen_74 : decode cX5_strengthen 74 = .ok (.iload 4, 2) := by decide +kernel
theorem dX5_strengthen_76 : decode cX5_strengthen 76 = .ok (.iconst 1, 1) := by decide +kernel
theorem dX5_strengthen_77 : decode cX5_strengthen 77 = .ok (.if_icmp .lt 40, 3) := by decide +kernel
theorem dX5_strengthen_80 : decode cX5_strengthen 80 = .ok (.iload 4, 2) := by decide +kernel
theorem dX5_strengthen_82 : decode cX5_strengthen 82 = .ok (.bipush 99, 2) := by decide +kernel
theorem dX5_strengthen_84 : decode cX5_strengthen 84 = .ok (.if_icmp .ge 33, 3) := by decide +kernel
theorem dX5_strengthen_87 : decode cX5_strengthen 87 = .ok (.aload_n 0, 1) := by decide +kernel
theorem dX5_strengthen_88 : decode cX5_strengthen 88 = .ok (.getfield 26, 3) := by decide +kernel
theorem dX5_strengthen_91 : decode cX5_strengthen 91 = .ok (.aload_n 0, 1) := by decide +kernel
theorem dX5_strengthen_92 : decode cX5_strengthen 92 = .ok (.getfield 12, 3) := by decide +kernel
theorem dX5_strengthen_95 : decode cX5_strengthen 95 = .ok (.invokevirtual 55, 3) := by decide +kernel
theorem dX5_strengthen_98 : decode cX5_strengthen 98 = .ok (.aload_n 0, 1) := by decide +kernel
theorem dX5_strengthen_99 : decode cX5_strengthen 99 = .ok (.getfield 12, 3) := by decide +kernel
theorem dX5_strengthen_102 : decode cX5_strengthen 102 = .ok (.iload_n 2, 1) := by decide +kernel
theorem dX5_strengthen_103 : decode cX5_strengthen 103 = .ok (.iload_n 3, 1) := by decide +kernel
theorem dX5_strengthen_104 : decode cX5_strengthen 104 = .ok (.iload 4, 2) := by decide +kernel
theorem dX5_strengthen_106 : decode cX5_strengthen 106 = .ok (.iconst 1, 1) := by decide +kernel
theorem dX5_strengthen_107 : decode cX5_strengthen 107 = .ok (.iadd, 1) := by decide +kernel
theorem dX5_strengthen_108 : decode cX5_strengthen 108 = .ok (.invokevirtual 93, 3) := by decide +kernel
theorem dX5_strengthen_111 : decode cX5_strengthen 111 = .ok (.iload_n 2, 1) := by decide +kernel
theorem dX5_strengthen_112 : decode cX5_strengthen 112 = .ok (.iload_n 3, 1) := by decide +kernel
theorem dX5_strengthen_113 : decode cX5_strengthen 113 = .ok (.invokestatic 137, 3) := by decide +kernel
theorem dX5_strengthen_116 : decode cX5_strengthen 116 = .ok (.ireturn, 1) := by decide +kernel
theorem dX5_strengthen_117 : decode cX5_strengthen 117 = .ok (.iinc 3 1, 3) := by decide +kernel
theorem dX5_strengthen_120 : decode cX5_strengthen 120 = .ok (.goto (-77), 3) := by decide +kernel
theorem dX5_strengthen_123 : decode cX5_strengthen 123 = .ok (.iinc 2 1, 3) := by decide +kernel
theorem dX5_strengthen_126 : decode cX5_strengthen 126 = .ok (.goto (-98), 3) := by decide +kernel
theorem dX5_strengthen_129 : decode cX5_strengthen 129 = .ok (.bipush (-4), 2) := by decide +kernel
theorem dX5_strengthen_131 : decode cX5_strengthen 131 = .ok (.ireturn, 1) := by decide +kernel
theorem dX5_type_0 : decode cX5_type 0 = .ok (.aload_n 0, 1) := by decide +kernel
theorem dX5_type_1 : decode cX5_type 1 = .ok (.getfield 33, 3) := by decide +kernel
theorem dX5_type_4 : decode cX5_type 4 = .ok (.getfield 140, 3) := by decide +kernel
theorem dX5_type_7 : decode cX5_type 7 = .ok (.bipush 60, 2) := by decide +kernel
theorem dX5_type_9 : decode cX5_type 9 = .ok (.if_icmp .lt 6, 3) := by decide +kernel
theorem dX5_type_12 : decode cX5_type 12 = .ok (.bipush (-3), 2) := by decide +kernel
theorem dX5_type_14 : decode cX5_type 14 = .ok (.ireturn, 1) := by decide +kernel
theorem dX5_type_15 : decode cX5_type 15 = .ok (.aload_n 0, 1) := by decide +kernel
theorem dX5_type_16 : decode cX5_type 16 = .ok (.getfield 33, 3) := by decide +kernel
theorem dX5_type_19 : decode cX5_type 19 = .ok (.iload_n 1, 1) := by decide +kernel
theorem dX5_type_20 : decode cX5_type 20 = .ok (.invokevirtual 143, 3) := by decide +kernel
theorem dX5_type_23 : decode cX5_type 23 = .ok (.aload_n 0, 1) := by decide +kernel
theorem dX5_type_24 : decode cX5_type 24 = .ok (.getfield 33, 3) := by decide +kernel
theorem dX5_type_27 : decode cX5_type 27 = .ok (.getfield 140, 3) := by decide +kernel
theorem dX5_type_30 : decode cX5_type 30 = .ok (.ireturn, 1) := by decide +kernel
theorem dX5_clearText_0 : decode cX5_clearText 0 = .ok (.aload_n 0, 1) := by decide +kernel
theorem dX5_clearText_1 : decode cX5_clearText 1 = .ok (.getfield 33, 3) := by decide +kernel
theorem dX5_clearText_4 : decode cX5_clearText 4 = .ok (.getfield 140, 3) := by decide +kernel
theorem dX5_clearText_7 : decode cX5_clearText 7 = .ok (.istore_n 1, 1) := by decide +kernel
theorem dX5_clearText_8 : decode cX5_clearText 8 = .ok (.aload_n 0, 1) := by decide +kernel
theorem dX5_clearText_9 : decode cX5_clearText 9 = .ok (.getfield 33, 3) := by decide +kernel
theorem dX5_clearText_12 : decode cX5_clearText 12 = .ok (.iconst 0, 1) := by decide +kernel
theorem dX5_clearText_13 : decode cX5_clearText 13 = .ok (.putfield 140, 3) := by decide +kernel
theorem dX5_clearText_16 : decode cX5_clearText 16 = .ok (.iload_n 1, 1) := by decide +kernel
theorem dX5_clearText_17 : decode cX5_clearText 17 = .ok (.ireturn, 1) := by decide +kernel
theorem dX5_undo_0 : decode cX5_undo 0 = .ok (.aload_n 0, 1) := by decide +kernel
theorem dX5_undo_1 : decode cX5_undo 1 = .ok (.getfield 26, 3) := by decide +kernel
theorem dX5_undo_4 : decode cX5_undo 4 = .ok (.getfield 147, 3) := by decide +kernel
theorem dX5_undo_7 : decode cX5_undo 7 = .ok (.ifCond .gt 6, 3) := by decide +kernel
theorem dX5_undo_10 : decode cX5_undo 10 = .ok (.bipush (-5), 2) := by decide +kernel
theorem dX5_undo_12 : decode cX5_undo 12 = .ok (.ireturn, 1) := by decide +kernel
theorem dX5_undo_13 : decode cX5_undo 13 = .ok (.aload_n 0, 1) := by decide +kernel
theorem dX5_undo_14 : decode cX5_undo 14 = .ok (.getfield 26, 3) := by decide +kernel
theorem dX5_undo_17 : decode cX5_undo 17 = .ok (.aload_n 0, 1) := by decide +kernel
theorem dX5_undo_18 : decode cX5_undo 18 = .ok (.getfield 12, 3) := by decide +kernel
theorem dX5_undo_21 : decode cX5_undo 21 = .ok (.invokevirtual 150, 3) := by decide +kernel
theorem dX5_undo_24 : decode cX5_undo 24 = .ok (.aload_n 0, 1) := by decide +kernel
theorem dX5_undo_25 : decode cX5_undo 25 = .ok (.getfield 26, 3) := by decide +kernel
theorem dX5_undo_28 : decode cX5_undo 28 = .ok (.getfield 147, 3) := by decide +kernel
theorem dX5_undo_31 : decode cX5_undo 31 = .ok (.ireturn, 1) := by decide +kernel
theorem dX5_keep_0 : decode cX5_keep 0 = .ok (.aload_n 0, 1) := by decide +kernel
theorem dX5_keep_1 : decode cX5_keep 1 = .ok (.getfield 16, 3) := by decide +kernel
theorem dX5_keep_4 : decode cX5_keep 4 = .ok (.aload_n 0, 1) := by decide +kernel
theorem dX5_keep_5 : decode cX5_keep 5 = .ok (.getfield 12, 3) := by decide +kernel
theorem dX5_keep_8 : decode cX5_keep 8 = .ok (.invokevirtual 153, 3) := by decide +kernel
theorem dX5_keep_11 : decode cX5_keep 11 = .ok (.aload_n 0, 1) := by decide +kernel
theorem dX5_keep_12 : decode cX5_keep 12 = .ok (.iconst 1, 1) := by decide +kernel
theorem dX5_keep_13 : decode cX5_keep 13 = .ok (.putfield 19, 3) := by decide +kernel
theorem dX5_keep_16 : decode cX5_keep 16 = .ok (.aload_n 0, 1) := by decide +kernel
theorem dX5_keep_17 : decode cX5_keep 17 = .ok (.getfield 12, 3) := by decide +kernel
theorem dX5_keep_20 : decode cX5_keep 20 = .ok (.getfield 51, 3) := by decide +kernel
theorem dX5_keep_23 : decode cX5_keep 23 = .ok (.ireturn, 1) := by decide +kernel
theorem dX5_restore_0 : decode cX5_restore 0 = .ok (.aload_n 0, 1) := by decide +kernel
theorem dX5_restore_1 : decode cX5_restore 1 = .ok (.getfield 19, 3) := by decide +kernel
theorem dX5_restore_4 : decode cX5_restore 4 = .ok (.ifCond .ne 6, 3) := by decide +kernel
theorem dX5_restore_7 : decode cX5_restore 7 = .ok (.bipush (-5), 2) := by decide +kernel
theorem dX5_restore_9 : decode cX5_restore 9 = .ok (.ireturn, 1) := by decide +kernel
theorem dX5_restore_10 : decode cX5_restore 10 = .ok (.aload_n 0, 1) := by decide +kernel
theorem dX5_restore_11 : decode cX5_restore 11 = .ok (.getfield 26, 3) := by decide +kernel
theorem dX5_restore_14 : decode cX5_restore 14 = .ok (.aload_n 0, 1) := by decide +kernel
theorem dX5_restore_15 : decode cX5_restore 15 = .ok (.getfield 12, 3) := by decide +kernel
theorem dX5_restore_18 : decode cX5_restore 18 = .ok (.invokevirtual 55, 3) := by decide +kernel
theorem dX5_restore_21 : decode cX5_restore 21 = .ok (.aload_n 0, 1) := by decide +kernel
theorem dX5_restore_22 : decode cX5_restore 22 = .ok (.getfield 12, 3) := by decide +kernel
theorem dX5_restore_25 : decode cX5_restore 25 = .ok (.aload_n 0, 1) := by decide +kernel
theorem dX5_restore_26 : decode cX5_restore 26 = .ok (.getfield 16, 3) := by decide +kernel
theorem dX5_restore_29 : decode cX5_restore 29 = .ok (.invokevirtual 153, 3) := by decide +kernel
theorem dX5_restore_32 : decode cX5_restore 32 = .ok (.aload_n 0, 1) := by decide +kernel
theorem dX5_restore_33 : decode cX5_restore 33 = .ok (.getfield 12, 3) := by decide +kernel
theorem dX5_restore_36 : decode cX5_restore 36 = .ok (.getfield 51, 3) := by decide +kernel
theorem dX5_restore_39 : decode cX5_restore 39 = .ok (.ireturn, 1) := by decide +kernel
theorem dX5_weight_0 : decode cX5_weight 0 = .ok (.aload_n 0, 1) := by decide +kernel
theorem dX5_weight_1 : decode cX5_weight 1 = .ok (.iload_n 1, 1) := by decide +kernel
theorem dX5_weight_2 : decode cX5_weight 2 = .ok (.iload_n 2, 1) := by decide +kernel
theorem dX5_weight_3 : decode cX5_weight 3 = .ok (.invokevirtual 70, 3) := by decide +kernel
theorem dX5_weight_6 : decode cX5_weight 6 = .ok (.istore_n 3, 1) := by decide +kernel
theorem dX5_weight_7 : decode cX5_weight 7 = .ok (.iload_n 3, 1) := by decide +kernel
theorem dX5_weight_8 : decode cX5_weight 8 = .ok (.ifCond .eq 5, 3) := by decide +kernel
theorem dX5_weight_11 : decode cX5_weight 11 = .ok (.iload_n 3, 1) := by decide +kernel
theorem dX5_weight_12 : decode cX5_weight 12 = .ok (.ireturn, 1) := by decide +kernel
theorem dX5_weight_13 : decode cX5_weight 13 = .ok (.aload_n 0, 1) := by decide +kernel
theorem dX5_weight_14 : decode cX5_weight 14 = .ok (.getfield 12, 3) := by decide +kernel
theorem dX5_weight_17 : decode cX5_weight 17 = .ok (.iload_n 1, 1) := by decide +kernel
theorem dX5_weight_18 : decode cX5_weight 18 = .ok (.iload_n 2, 1) := by decide +kernel
theorem dX5_weight_19 : decode cX5_weight 19 = .ok (.invokevirtual 90, 3) := by decide +kernel
theorem dX5_weight_22 : decode cX5_weight 22 = .ok (.ireturn, 1) := by decide +kernel
theorem dX5_place_0 : decode cX5_place 0 = .ok (.aload_n 0, 1) := by decide +kernel
theorem dX5_place_1 : decode cX5_place 1 = .ok (.getfield 12, 3) := by decide +kernel
theorem dX5_place_4 : decode cX5_place 4 = .ok (.iload_n 1, 1) := by decide +kernel
theorem dX5_place_5 : decode cX5_place 5 = .ok (.invokevirtual 62, 3) := by decide +kernel
theorem dX5_place_8 : decode cX5_place 8 = .ok (.ifCond .ne 5, 3) := by decide +kernel
theorem dX5_place_11 : decode cX5_place 11 = .ok (.iconst (-1), 1) := by decide +kernel
theorem dX5_place_12 : decode cX5_place 12 = .ok (.ireturn, 1) := by decide +kernel
theorem dX5_place_13 : decode cX5_place 13 = .ok (.iload_n 2, 1) := by decide +kernel
theorem dX5_place_14 : decode cX5_place 14 = .ok (.tableswitch 133 0 5 #[38, 47, 56, 65, 85, 105], 38) := by decide +kernel
theorem dX5_place_52 : decode cX5_place 52 = .ok (.aload_n 0, 1) := by decide +kernel
theorem dX5_place_53 : decode cX5_place 53 = .ok (.getfield 12, 3) := by decide +kernel
theorem dX5_place_56 : decode cX5_place 56 = .ok (.iload_n 1, 1) := by decide +kernel
theorem dX5_place_57 : decode cX5_place 57 = .ok (.invokevirtual 156, 3) := by decide +kernel
theorem dX5_place_60 : decode cX5_place 60 = .ok (.ireturn, 1) := by decide +kernel
theorem dX5_place_61 : decode cX5_place 61 = .ok (.aload_n 0, 1) := by decide +kernel
theorem dX5_place_62 : decode cX5_place 62 = .ok (.getfield 12, 3) := by decide +kernel
theorem dX5_place_65 : decode cX5_place 65 = .ok (.iload_n 1, 1) := by decide +kernel
theorem dX5_place_66 : decode cX5_place 66 = .ok (.invokevirtual 159, 3) := by decide +kernel
theorem dX5_place_69 : decode cX5_place 69 = .ok (.ireturn, 1) := by decide +kernel
theorem dX5_place_70 : decode cX5_place 70 = .ok (.aload_n 0, 1) := by decide +kernel
theorem dX5_place_71 : decode cX5_place 71 = .ok (.getfield 12, 3) := by decide +kernel
theorem dX5_place_74 : decode cX5_place 74 = .ok (.iload_n 1, 1) := by decide +kernel
theorem dX5_place_75 : decode cX5_place 75 = .ok (.invokevirtual 162, 3) := by decide +kernel
theorem dX5_place_78 : decode cX5_place 78 = .ok (.ireturn, 1) := by decide +kernel
theorem dX5_place_79 : decode cX5_place 79 = .ok (.aload_n 0, 1) := by decide +kernel
theorem dX5_place_80 : decode cX5_place 80 = .ok (.getfield 47, 3) := by decide +kernel
theorem dX5_place_83 : decode cX5_place 83 = .ok (.aload_n 0, 1) := by decide +kernel
theorem dX5_place_84 : decode cX5_place 84 = .ok (.getfield 12, 3) := by decide +kernel
theorem dX5_place_87 : decode cX5_place 87 = .ok (.invokevirtual 165, 3) := by decide +kernel
theorem dX5_place_90 : decode cX5_place 90 = .ok (.aload_n 0, 1) := by decide +kernel
theorem dX5_place_91 : decode cX5_place 91 = .ok (.getfield 47, 3) := by decide +kernel
theorem dX5_place_94 : decode cX5_place 94 = .ok (.iload_n 1, 1) := by decide +kernel
theorem dX5_place_95 : decode cX5_place 95 = .ok (.invokevirtual 168, 3) := by decide +kernel
theorem dX5_place_98 : decode cX5_place 98 = .ok (.ireturn, 1) := by decide +kernel
theorem dX5_place_99 : decode cX5_place 99 = .ok (.aload_n 0, 1) := by decide +kernel
theorem dX5_place_100 : decode cX5_place 100 = .ok (.getfield 40, 3) := by decide +kernel
theorem dX5_place_103 : decode cX5_place 103 = .ok (.aload_n 0, 1) := by decide +kernel
theorem dX5_place_104 : decode cX5_place 104 = .ok (.getfield 12, 3) := by decide +kernel
theorem dX5_place_107 : decode cX5_place 107 = .ok (.invokevirtual 124, 3) := by decide +kernel
theorem dX5_place_110 : decode cX5_place 110 = .ok (.aload_n 0, 1) := by decide +kernel
theorem dX5_place_111 : decode cX5_place 111 = .ok (.getfield 40, 3) := by decide +kernel
theorem dX5_place_114 : decode cX5_place 114 = .ok (.iload_n 1, 1) := by decide +kernel
theorem dX5_place_115 : decode cX5_place 115 = .ok (.invokevirtual 171, 3) := by decide +kernel
theorem dX5_place_118 : decode cX5_place 118 = .ok (.ireturn, 1) := by decide +kernel
theorem dX5_place_119 : decode cX5_place 119 = .ok (.aload_n 0, 1) := by decide +kernel
theorem dX5_place_120 : decode cX5_place 120 = .ok (.getfield 40, 3) := by decide +kernel
theorem dX5_place_123 : decode cX5_place 123 = .ok (.aload_n 0, 1) := by decide +kernel
theorem dX5_place_124 : decode cX5_place 124 = .ok (.getfield 12, 3) := by decide +kernel
theorem dX5_place_127 : decode cX5_place 127 = .ok (.invokevirtual 124, 3) := by decide +kernel
theorem dX5_place_130 : decode cX5_place 130 = .ok (.aload_n 0, 1) := by decide +kernel
theorem dX5_place_131 : decode cX5_place 131 = .ok (.getfield 40, 3) := by decide +kernel
theorem dX5_place_134 : decode cX5_place 134 = .ok (.iconst 0, 1) := by decide +kernel
theorem dX5_place_135 : decode cX5_place 135 = .ok (.aload_n 0, 1) := by decide +kernel
theorem dX5_place_136 : decode cX5_place 136 = .ok (.getfield 40, 3) := by decide +kernel
theorem dX5_place_139 : decode cX5_place 139 = .ok (.iload_n 1, 1) := by decide +kernel
theorem dX5_place_140 : decode cX5_place 140 = .ok (.invokevirtual 171, 3) := by decide +kernel
theorem dX5_place_143 : decode cX5_place 143 = .ok (.invokevirtual 174, 3) := by decide +kernel
theorem dX5_place_146 : decode cX5_place 146 = .ok (.ireturn, 1) := by decide +kernel
theorem dX5_place_147 : decode cX5_place 147 = .ok (.bipush (-2), 2) := by decide +kernel
theorem dX5_place_149 : decode cX5_place 149 = .ok (.ireturn, 1) := by decide +kernel
theorem dX5_phase_0 : decode cX5_phase 0 = .ok (.aload_n 0, 1) := by decide +kernel
theorem dX5_phase_1 : decode cX5_phase 1 = .ok (.iload_n 1, 1) := by decide +kernel
theorem dX5_phase_2 : decode cX5_phase 2 = .ok (.invokevirtual 177, 3) := by decide +kernel
theorem dX5_phase_5 : decode cX5_phase 5 = .ok (.ifCond .ne 5, 3) := by decide +kernel
theorem dX5_phase_8 : decode cX5_phase 8 = .ok (.iconst (-1), 1) := by decide +kernel
theorem dX5_phase_9 : decode cX5_phase 9 = .ok (.ireturn, 1) := by decide +kernel
theorem dX5_phase_10 : decode cX5_phase 10 = .ok (.aload_n 0, 1) := by decide +kernel
theorem dX5_phase_11 : decode cX5_phase 11 = .ok (.getfield 40, 3) := by decide +kernel
theorem dX5_phase_14 : decode cX5_phase 14 = .ok (.aload_n 0, 1) := by decide +kernel
theorem dX5_phase_15 : decode cX5_phase 15 = .ok (.getfield 12, 3) := by decide +kernel
theorem dX5_phase_18 : decode cX5_phase 18 = .ok (.invokevirtual 124, 3) := by decide +kernel
theorem dX5_phase_21 : decode cX5_phase 21 = .ok (.aload_n 0, 1) := by decide +kernel
theorem dX5_phase_22 : decode cX5_phase 22 = .ok (.getfield 40, 3) := by decide +kernel
theorem dX5_phase_25 : decode cX5_phase 25 = .ok (.iload_n 1, 1) := by decide +kernel
theorem dX5_phase_26 : decode cX5_phase 26 = .ok (.invokevirtual 180, 3) := by decide +kernel
theorem dX5_phase_29 : decode cX5_phase 29 = .ok (.istore_n 3, 1) := by decide +kernel
theorem dX5_phase_30 : decode cX5_phase 30 = .ok (.iload_n 2, 1) := by decide +kernel
theorem dX5_phase_31 : decode cX5_phase 31 = .ok (.tableswitch 90 0 5 #[37, 46, 55, 67, 79, 88], 37) := by decide +kernel
theorem dX5_phase_68 : decode cX5_phase 68 = .ok (.aload_n 0, 1) := by decide +kernel
theorem dX5_phase_69 : decode cX5_phase 69 = .ok (.getfield 40, 3) := by decide +kernel
theorem dX5_phase_72 : decode cX5_phase 72 = .ok (.iload_n 1, 1) := by decide +kernel
theorem dX5_phase_73 : decode cX5_phase 73 = .ok (.invokevirtual 130, 3) := by decide +kernel
theorem dX5_phase_76 : decode cX5_phase 76 = .ok (.ireturn, 1) := by decide +kernel
theorem dX5_phase_77 : decode cX5_phase 77 = .ok (.aload_n 0, 1) := by decide +kernel
theorem dX5_phase_78 : decode cX5_phase 78 = .ok (.getfield 40, 3) := by decide +kernel
theorem dX5_phase_81 : decode cX5_phase 81 = .ok (.iload_n 1, 1) := by decide +kernel
theorem dX5_phase_82 : decode cX5_phase 82 = .ok (.invokevirtual 183, 3) := by decide +kernel
theorem dX5_phase_85 : decode cX5_phase 85 = .ok (.ireturn, 1) := by decide +kernel
theorem dX5_phase_86 : decode cX5_phase 86 = .ok (.aload_n 0, 1) := by decide +kernel
theorem dX5_phase_87 : decode cX5_phase 87 = .ok (.getfield 40, 3) := by decide +kernel
theorem dX5_phase_90 : decode cX5_phase 90 = .ok (.iload_n 1, 1) := by decide +kernel
theorem dX5_phase_91 : decode cX5_phase 91 = .ok (.iload_n 3, 1) := by decide +kernel
theorem dX5_phase_92 : decode cX5_phase 92 = .ok (.iconst 1, 1) := by decide +kernel
theorem dX5_phase_93 : decode cX5_phase 93 = .ok (.isub, 1) := by decide +kernel
theorem dX5_phase_94 : decode cX5_phase 94 = .ok (.invokevirtual 186, 3) := by decide +kernel
theorem dX5_phase_97 : decode cX5_phase 97 = .ok (.ireturn, 1) := by decide +kernel
theorem dX5_phase_98 : decode cX5_phase 98 = .ok (.aload_n 0, 1) := by decide +kernel
theorem dX5_phase_99 : decode cX5_phase 99 = .ok (.getfield 40, 3) := by decide +kernel
theorem dX5_phase_102 : decode cX5_phase 102 = .ok (.iload_n 1, 1) := by decide +kernel
theorem dX5_phase_103 : decode cX5_phase 103 = .ok (.iload_n 3, 1) := by decide +kernel
theorem dX5_phase_104 : decode cX5_phase 104 = .ok (.iconst 2, 1) := by decide +kernel
theorem dX5_phase_105 : decode cX5_phase 105 = .ok (.isub, 1) := by decide +kernel
theorem dX5_phase_106 : decode cX5_phase 106 = .ok (.invokevirtual 186, 3) := by decide +kernel
theorem dX5_phase_109 : decode cX5_phase 109 = .ok (.ireturn, 1) := by decide +kernel
theorem dX5_phase_110 : decode cX5_phase 110 = .ok (.aload_n 0, 1) := by decide +kernel
theorem dX5_phase_111 : decode cX5_phase 111 = .ok (.getfield 40, 3) := by decide +kernel
theorem dX5_phase_114 : decode cX5_phase 114 = .ok (.iload_n 1, 1) := by decide +kernel
theorem dX5_phase_115 : decode cX5_phase 115 = .ok (.invokevirtual 189, 3) := by decide +kernel
theorem dX5_phase_118 : decode cX5_phase 118 = .ok (.ireturn, 1) := by decide +kernel
theorem dX5_phase_119 : decode cX5_phase 119 = .ok (.iload_n 3, 1) := by decide +kernel
theorem dX5_phase_120 : decode cX5_phase 120 = .ok (.ireturn, 1) := by decide +kernel
theorem dX5_phase_121 : decode cX5_phase 121 = .ok (.bipush (-2), 2) := by decide +kernel
theorem dX5_phase_123 : decode cX5_phase 123 = .ok (.ireturn, 1) := by decide +kernel
theorem dX5_swallowed_0 : decode cX5_swallowed 0 = .ok (.aload_n 0, 1) := by decide +kernel
theorem dX5_swallowed_1 : decode cX5_swallowed 1 = .ok (.iload_n 1, 1) := by decide +kernel
theorem dX5_swallowed_2 : decode cX5_swallowed 2 = .ok (.invokevirtual 177, 3) := by decide +kernel
theorem dX5_swallowed_5 : decode cX5_swallowed 5 = .ok (.ifCond .ne 5, 3) := by decide +kernel
theorem dX5_swallowed_8 : decode cX5_swallowed 8 = .ok (.iconst (-1), 1) := by decide +kernel
theorem dX5_swallowed_9 : decode cX5_swallowed 9 = .ok (.ireturn, 1) := by decide +kernel
theorem dX5_swallowed_10 : decode cX5_swallowed 10 = .ok (.iload_n 2, 1) := by decide +kernel
theorem dX5_swallowed_11 : decode cX5_swallowed 11 = .ok (.ifCond .ge 6, 3) := by decide +kernel
theorem dX5_swallowed_14 : decode cX5_swallowed 14 = .ok (.bipush (-2), 2) := by decide +kernel
theorem dX5_swallowed_16 : decode cX5_swallowed 16 = .ok (.ireturn, 1) := by decide +kernel
theorem dX5_swallowed_17 : decode cX5_swallowed 17 = .ok (.aload_n 0, 1) := by decide +kernel
theorem dX5_swallowed_18 : decode cX5_swallowed 18 = .ok (.getfield 40, 3) := by decide +kernel
theorem dX5_swallowed_21 : decode cX5_swallowed 21 = .ok (.aload_n 0, 1) := by decide +kernel
theorem dX5_swallowed_22 : decode cX5_swallowed 22 = .ok (.getfield 12, 3) := by decide +kernel
theorem dX5_swallowed_25 : decode cX5_swallowed 25 = .ok (.invokevirtual 124, 3) := by decide +kernel
theorem dX5_swallowed_28 : decode cX5_swallowed 28 = .ok (.iload_n 2, 1) := by decide +kernel
theorem dX5_swallowed_29 : decode cX5_swallowed 29 = .ok (.aload_n 0, 1) := by decide +kernel
theorem dX5_swallowed_30 : decode cX5_swallowed 30 = .ok (.getfield 40, 3) := by decide +kernel
theorem dX5_swallowed_33 : decode cX5_swallowed 33 = .ok (.iload_n 1, 1) := by decide +kernel
theorem dX5_swallowed_34 : decode cX5_swallowed 34 = .ok (.invokevirtual 180, 3) := by decide +kernel
theorem dX5_swallowed_37 : decode cX5_swallowed 37 = .ok (.if_icmp .lt 6, 3) := by decide +kernel
theorem dX5_swallowed_40 : decode cX5_swallowed 40 = .ok (.bipush (-5), 2) := by decide +kernel
theorem dX5_swallowed_42 : decode cX5_swallowed 42 = .ok (.ireturn, 1) := by decide +kernel
theorem dX5_swallowed_43 : decode cX5_swallowed 43 = .ok (.iload_n 3, 1) := by decide +kernel
theorem dX5_swallowed_44 : decode cX5_swallowed 44 = .ok (.ifCond .eq 15, 3) := by decide +kernel
theorem dX5_swallowed_47 : decode cX5_swallowed 47 = .ok (.aload_n 0, 1) := by decide +kernel
theorem dX5_swallowed_48 : decode cX5_swallowed 48 = .ok (.getfield 40, 3) := by decide +kernel
theorem dX5_swallowed_51 : decode cX5_swallowed 51 = .ok (.iload_n 1, 1) := by decide +kernel
theorem dX5_swallowed_52 : decode cX5_swallowed 52 = .ok (.iload_n 2, 1) := by decide +kernel
theorem dX5_swallowed_53 : decode cX5_swallowed 53 = .ok (.invokevirtual 174, 3) := by decide +kernel
theorem dX5_swallowed_56 : decode cX5_swallowed 56 = .ok (.goto 12, 3) := by decide +kernel
theorem dX5_swallowed_59 : decode cX5_swallowed 59 = .ok (.aload_n 0, 1) := by decide +kernel
theorem dX5_swallowed_60 : decode cX5_swallowed 60 = .ok (.getfield 40, 3) := by decide +kernel
theorem dX5_swallowed_63 : decode cX5_swallowed 63 = .ok (.iload_n 1, 1) := by decide +kernel
theorem dX5_swallowed_64 : decode cX5_swallowed 64 = .ok (.iload_n 2, 1) := by decide +kernel
theorem dX5_swallowed_65 : decode cX5_swallowed 65 = .ok (.invokevirtual 186, 3) := by decide +kernel
theorem dX5_swallowed_68 : decode cX5_swallowed 68 = .ok (.ireturn, 1) := by decide +kernel
theorem dX5_least_0 : decode cX5_least 0 = .ok (.iload_n 1, 1) := by decide +kernel
theorem dX5_least_1 : decode cX5_least 1 = .ok (.ifCond .lt 8, 3) := by decide +kernel
theorem dX5_least_4 : decode cX5_least 4 = .ok (.iload_n 1, 1) := by decide +kernel
theorem dX5_least_5 : decode cX5_least 5 = .ok (.iconst 4, 1) := by decide +kernel
theorem dX5_least_6 : decode cX5_least 6 = .ok (.if_icmp .le 6, 3) := by decide +kernel
theorem dX5_least_9 : decode cX5_least 9 = .ok (.bipush (-2), 2) := by decide +kernel
theorem dX5_least_11 : decode cX5_least 11 = .ok (.ireturn, 1) := by decide +kernel
theorem dX5_least_12 : decode cX5_least 12 = .ok (.iload_n 1, 1) := by decide +kernel
theorem dX5_least_13 : decode cX5_least 13 = .ok (.iconst 2, 1) := by decide +kernel
theorem dX5_least_14 : decode cX5_least 14 = .ok (.if_icmp .gt 11, 3) := by decide +kernel
theorem dX5_least_17 : decode cX5_least 17 = .ok (.aload_n 0, 1) := by decide +kernel
theorem dX5_least_18 : decode cX5_least 18 = .ok (.iload_n 1, 1) := by decide +kernel
theorem dX5_least_19 : decode cX5_least 19 = .ok (.invokevirtual 192, 3) := by decide +kernel
theorem dX5_least_22 : decode cX5_least 22 = .ok (.goto 17, 3) := by decide +kernel
theorem dX5_least_25 : decode cX5_least 25 = .ok (.aload_n 0, 1) := by decide +kernel
theorem dX5_least_26 : decode cX5_least 26 = .ok (.iload_n 1, 1) := by decide +kernel
theorem dX5_least_27 : decode cX5_least 27 = .ok (.iconst 3, 1) := by decide +kernel
theorem dX5_least_28 : decode cX5_least 28 = .ok (.if_icmp .ne 7, 3) := by decide +kernel
theorem dX5_least_31 : decode cX5_least 31 = .ok (.iconst 1, 1) := by decide +kernel
theorem dX5_least_32 : decode cX5_least 32 = .ok (.goto 4, 3) := by decide +kernel
theorem dX5_least_35 : decode cX5_least 35 = .ok (.iconst 0, 1) := by decide +kernel
theorem dX5_least_36 : decode cX5_least 36 = .ok (.invokevirtual 195, 3) := by decide +kernel
theorem dX5_least_39 : decode cX5_least 39 = .ok (.ireturn, 1) := by decide +kernel
theorem dX5_leastByPhases_0 : decode cX5_leastByPhases 0 = .ok (.aload_n 0, 1) := by decide +kernel
theorem dX5_leastByPhases_1 : decode cX5_leastByPhases 1 = .ok (.getfield 40, 3) := by decide +kernel
theorem dX5_leastByPhases_4 : decode cX5_leastByPhases 4 = .ok (.aload_n 0, 1) := by decide +kernel
theorem dX5_leastByPhases_5 : decode cX5_leastByPhases 5 = .ok (.getfield 12, 3) := by decide +kernel
theorem dX5_leastByPhases_8 : decode cX5_leastByPhases 8 = .ok (.invokevirtual 124, 3) := by decide +kernel
theorem dX5_leastByPhases_11 : decode cX5_leastByPhases 11 = .ok (.aload_n 0, 1) := by decide +kernel
theorem dX5_leastByPhases_12 : decode cX5_leastByPhases 12 = .ok (.getfield 40, 3) := by decide +kernel
theorem dX5_leastByPhases_15 : decode cX5_leastByPhases 15 = .ok (.invokevirtual 127, 3) := by decide +kernel
theorem dX5_leastByPhases_18 : decode cX5_leastByPhases 18 = .ok (.istore_n 2, 1) := by decide +kernel
theorem dX5_leastByPhases_19 : decode cX5_leastByPhases 19 = .ok (.iload_n 1, 1) := by decide +kernel
theorem dX5_leastByPhases_20 : decode cX5_leastByPhases 20 = .ok (.ifCond .ne 12, 3) := by decide +kernel
theorem dX5_leastByPhases_23 : decode cX5_leastByPhases 23 = .ok (.aload_n 0, 1) := by decide +kernel
theorem dX5_leastByPhases_24 : decode cX5_leastByPhases 24 = .ok (.getfield 40, 3) := by decide +kernel
theorem dX5_leastByPhases_27 : decode cX5_leastByPhases 27 = .ok (.iload_n 2, 1) := by decide +kernel
theorem dX5_leastByPhases_28 : decode cX5_leastByPhases 28 = .ok (.invokevirtual 130, 3) := by decide +kernel
theorem dX5_leastByPhases_31 : decode cX5_leastByPhases 31 = .ok (.ireturn, 1) := by decide +kernel
theorem dX5_leastByPhases_32 : decode cX5_leastByPhases 32 = .ok (.iload_n 1, 1) := by decide +kernel
theorem dX5_leastByPhases_33 : decode cX5_leastByPhases 33 = .ok (.iconst 1, 1) := by decide +kernel
theorem dX5_leastByPhases_34 : decode cX5_leastByPhases 34 = .ok (.if_icmp .ne 14, 3) := by decide +kernel
theorem dX5_leastByPhases_37 : decode cX5_leastByPhases 37 = .ok (.aload_n 0, 1) := by decide +kernel
theorem dX5_leastByPhases_38 : decode cX5_leastByPhases 38 = .ok (.getfield 40, 3) := by decide +kernel
theorem dX5_leastByPhases_41 : decode cX5_leastByPhases 41 = .ok (.iload_n 2, 1) := by decide +kernel
theorem dX5_leastByPhases_42 : decode cX5_leastByPhases 42 = .ok (.invokevirtual 183, 3) := by decide +kernel
theorem dX5_leastByPhases_45 : decode cX5_leastByPhases 45 = .ok (.goto 4, 3) := by decide +kernel
theorem dX5_leastByPhases_48 : decode cX5_leastByPhases 48 = .ok (.iload_n 2, 1) := by decide +kernel
theorem dX5_leastByPhases_49 : decode cX5_leastByPhases 49 = .ok (.ireturn, 1) := by decide +kernel
theorem dX5_leastFair_0 : decode cX5_leastFair 0 = .ok (.aload_n 0, 1) := by decide +kernel
theorem dX5_leastFair_1 : decode cX5_leastFair 1 = .ok (.getfield 47, 3) := by decide +kernel
theorem dX5_leastFair_4 : decode cX5_leastFair 4 = .ok (.aload_n 0, 1) := by decide +kernel
theorem dX5_leastFair_5 : decode cX5_leastFair 5 = .ok (.getfield 12, 3) := by decide +kernel
theorem dX5_leastFair_8 : decode cX5_leastFair 8 = .ok (.invokevirtual 165, 3) := by decide +kernel
theorem dX5_leastFair_11 : decode cX5_leastFair 11 = .ok (.aload_n 0, 1) := by decide +kernel
theorem dX5_leastFair_12 : decode cX5_leastFair 12 = .ok (.getfield 47, 3) := by decide +kernel
theorem dX5_leastFair_15 : decode cX5_leastFair 15 = .ok (.aload_n 0, 1) := by decide +kernel
theorem dX5_leastFair_16 : decode cX5_leastFair 16 = .ok (.getfield 12, 3) := by decide +kernel
theorem dX5_leastFair_19 : decode cX5_leastFair 19 = .ok (.getfield 121, 3) := by decide +kernel
theorem dX5_leastFair_22 : decode cX5_leastFair 22 = .ok (.invokevirtual 199, 3) := by decide +kernel
theorem dX5_leastFair_25 : decode cX5_leastFair 25 = .ok (.istore_n 2, 1) := by decide +kernel
theorem dX5_leastFair_26 : decode cX5_leastFair 26 = .ok (.aload_n 0, 1) := by decide +kernel
theorem dX5_leastFair_27 : decode cX5_leastFair 27 = .ok (.getfield 47, 3) := by decide +kernel
theorem dX5_leastFair_30 : decode cX5_leastFair 30 = .ok (.iload_n 2, 1) := by decide +kernel
theorem dX5_leastFair_31 : decode cX5_leastFair 31 = .ok (.invokevirtual 201, 3) := by decide +kernel
theorem dX5_leastFair_34 : decode cX5_leastFair 34 = .ok (.ifCond .ne 6, 3) := by decide +kernel
theorem dX5_leastFair_37 : decode cX5_leastFair 37 = .ok (.bipush (-5), 2) := by decide +kernel
theorem dX5_leastFair_39 : decode cX5_leastFair 39 = .ok (.ireturn, 1) := by decide +kernel
theorem dX5_leastFair_40 : decode cX5_leastFair 40 = .ok (.iload_n 1, 1) := by decide +kernel
theorem dX5_leastFair_41 : decode cX5_leastFair 41 = .ok (.ifCond .eq 7, 3) := by decide +kernel
theorem dX5_leastFair_44 : decode cX5_leastFair 44 = .ok (.iload_n 2, 1) := by decide +kernel
theorem dX5_leastFair_45 : decode cX5_leastFair 45 = .ok (.goto 11, 3) := by decide +kernel
theorem dX5_leastFair_48 : decode cX5_leastFair 48 = .ok (.aload_n 0, 1) := by decide +kernel
theorem dX5_leastFair_49 : decode cX5_leastFair 49 = .ok (.getfield 47, 3) := by decide +kernel
theorem dX5_leastFair_52 : decode cX5_leastFair 52 = .ok (.iload_n 2, 1) := by decide +kernel
theorem dX5_leastFair_53 : decode cX5_leastFair 53 = .ok (.invokevirtual 204, 3) := by decide +kernel
theorem dX5_leastFair_56 : decode cX5_leastFair 56 = .ok (.ireturn, 1) := by decide +kernel
theorem dX5_leastOf_0 : decode cX5_leastOf 0 = .ok (.iload_n 1, 1) := by decide +kernel
theorem dX5_leastOf_1 : decode cX5_leastOf 1 = .ok (.ifCond .ge 6, 3) := by decide +kernel
theorem dX5_leastOf_4 : decode cX5_leastOf 4 = .ok (.bipush (-2), 2) := by decide +kernel
theorem dX5_leastOf_6 : decode cX5_leastOf 6 = .ok (.ireturn, 1) := by decide +kernel
theorem dX5_leastOf_7 : decode cX5_leastOf 7 = .ok (.aload_n 0, 1) := by decide +kernel
theorem dX5_leastOf_8 : decode cX5_leastOf 8 = .ok (.getfield 47, 3) := by decide +kernel
theorem dX5_leastOf_11 : decode cX5_leastOf 11 = .ok (.aload_n 0, 1) := by decide +kernel
theorem dX5_leastOf_12 : decode cX5_leastOf 12 = .ok (.getfield 12, 3) := by decide +kernel
theorem dX5_leastOf_15 : decode cX5_leastOf 15 = .ok (.invokevirtual 165, 3) := by decide +kernel
theorem dX5_leastOf_18 : decode cX5_leastOf 18 = .ok (.iload_n 1, 1) := by decide +kernel
theorem dX5_leastOf_19 : decode cX5_leastOf 19 = .ok (.aload_n 0, 1) := by decide +kernel
theorem dX5_leastOf_20 : decode cX5_leastOf 20 = .ok (.getfield 47, 3) := by decide +kernel
theorem dX5_leastOf_23 : decode cX5_leastOf 23 = .ok (.getfield 207, 3) := by decide +kernel
theorem dX5_leastOf_26 : decode cX5_leastOf 26 = .ok (.if_icmp .ge 14, 3) := by decide +kernel
theorem dX5_leastOf_29 : decode cX5_leastOf 29 = .ok (.aload_n 0, 1) := by decide +kernel
theorem dX5_leastOf_30 : decode cX5_leastOf 30 = .ok (.getfield 47, 3) := by decide +kernel
theorem dX5_leastOf_33 : decode cX5_leastOf 33 = .ok (.iload_n 1, 1) := by decide +kernel
theorem dX5_leastOf_34 : decode cX5_leastOf 34 = .ok (.invokevirtual 210, 3) := by decide +kernel
theorem dX5_leastOf_37 : decode cX5_leastOf 37 = .ok (.goto 5, 3) := by decide +kernel
theorem dX5_leastOf_40 : decode cX5_leastOf 40 = .ok (.bipush (-5), 2) := by decide +kernel
theorem dX5_leastOf_42 : decode cX5_leastOf 42 = .ok (.ireturn, 1) := by decide +kernel
theorem dX5_between_0 : decode cX5_between 0 = .ok (.aload_n 0, 1) := by decide +kernel
theorem dX5_between_1 : decode cX5_between 1 = .ok (.iload_n 1, 1) := by decide +kernel
theorem dX5_between_2 : decode cX5_between 2 = .ok (.iload_n 2, 1) := by decide +kernel
theorem dX5_between_3 : decode cX5_between 3 = .ok (.invokevirtual 70, 3) := by decide +kernel
theorem dX5_between_6 : decode cX5_between 6 = .ok (.istore 4, 2) := by decide +kernel
theorem dX5_between_8 : decode cX5_between 8 = .ok (.iload 4, 2) := by decide +kernel
theorem dX5_between_10 : decode cX5_between 10 = .ok (.ifCond .eq 6, 3) := by decide +kernel
theorem dX5_between_13 : decode cX5_between 13 = .ok (.iload 4, 2) := by decide +kernel
theorem dX5_between_15 : decode cX5_between 15 = .ok (.ireturn, 1) := by decide +kernel
theorem dX5_between_16 : decode cX5_between 16 = .ok (.iload_n 3, 1) := by decide +kernel
theorem dX5_between_17 : decode cX5_between 17 = .ok (.ifCond .eq 11, 3) := by decide +kernel
theorem dX5_between_20 : decode cX5_between 20 = .ok (.iload_n 3, 1) := by decide +kernel
theorem dX5_between_21 : decode cX5_between 21 = .ok (.iconst 1, 1) := by decide +kernel
theorem dX5_between_22 : decode cX5_between 22 = .ok (.if_icmp .eq 6, 3) := by decide +kernel
theorem dX5_between_25 : decode cX5_between 25 = .ok (.bipush (-2), 2) := by decide +kernel
theorem dX5_between_27 : decode cX5_between 27 = .ok (.ireturn, 1) := by decide +kernel
theorem dX5_between_28 : decode cX5_between 28 = .ok (.aload_n 0, 1) := by decide +kernel
theorem dX5_between_29 : decode cX5_between 29 = .ok (.getfield 47, 3) := by decide +kernel
theorem dX5_between_32 : decode cX5_between 32 = .ok (.aload_n 0, 1) := by decide +kernel
theorem dX5_between_33 : decode cX5_between 33 = .ok (.getfield 12, 3) := by decide +kernel
theorem dX5_between_36 : decode cX5_between 36 = .ok (.invokevirtual 165, 3) := by decide +kernel
theorem dX5_between_39 : decode cX5_between 39 = .ok (.aload_n 0, 1) := by decide +kernel
theorem dX5_between_40 : decode cX5_between 40 = .ok (.getfield 47, 3) := by decide +kernel
theorem dX5_between_43 : decode cX5_between 43 = .ok (.iload_n 1, 1) := by decide +kernel
theorem dX5_between_44 : decode cX5_between 44 = .ok (.iload_n 2, 1) := by decide +kernel
theorem dX5_between_45 : decode cX5_between 45 = .ok (.invokevirtual 213, 3) := by decide +kernel
theorem dX5_between_48 : decode cX5_between 48 = .ok (.istore 5, 2) := by decide +kernel
theorem dX5_between_50 : decode cX5_between 50 = .ok (.iload_n 3, 1) := by decide +kernel
theorem dX5_between_51 : decode cX5_between 51 = .ok (.ifCond .ne 8, 3) := by decide +kernel
theorem dX5_between_54 : decode cX5_between 54 = .ok (.iload 5, 2) := by decide +kernel
theorem dX5_between_56 : decode cX5_between 56 = .ok (.goto 12, 3) := by decide +kernel
theorem dX5_between_59 : decode cX5_between 59 = .ok (.aload_n 0, 1) := by decide +kernel
theorem dX5_between_60 : decode cX5_between 60 = .ok (.getfield 47, 3) := by decide +kernel
theorem dX5_between_63 : decode cX5_between 63 = .ok (.iload 5, 2) := by decide +kernel
theorem dX5_between_65 : decode cX5_between 65 = .ok (.invokevirtual 204, 3) := by decide +kernel
theorem dX5_between_68 : decode cX5_between 68 = .ok (.ireturn, 1) := by decide +kernel
theorem dX5_parting_0 : decode cX5_parting 0 = .ok (.aload_n 0, 1) := by decide +kernel
theorem dX5_parting_1 : decode cX5_parting 1 = .ok (.getfield 47, 3) := by decide +kernel
theorem dX5_parting_4 : decode cX5_parting 4 = .ok (.aload_n 0, 1) := by decide +kernel
theorem dX5_parting_5 : decode cX5_parting 5 = .ok (.getfield 12, 3) := by decide +kernel
theorem dX5_parting_8 : decode cX5_parting 8 = .ok (.invokevirtual 165, 3) := by decide +kernel
theorem dX5_parting_11 : decode cX5_parting 11 = .ok (.aload_n 0, 1) := by decide +kernel
theorem dX5_parting_12 : decode cX5_parting 12 = .ok (.getfield 47, 3) := by decide +kernel
theorem dX5_parting_15 : decode cX5_parting 15 = .ok (.iload_n 1, 1) := by decide +kernel
theorem dX5_parting_16 : decode cX5_parting 16 = .ok (.invokevirtual 201, 3) := by decide +kernel
theorem dX5_parting_19 : decode cX5_parting 19 = .ok (.ifCond .eq 14, 3) := by decide +kernel
theorem dX5_parting_22 : decode cX5_parting 22 = .ok (.aload_n 0, 1) := by decide +kernel
theorem dX5_parting_23 : decode cX5_parting 23 = .ok (.getfield 47, 3) := by decide +kernel
theorem dX5_parting_26 : decode cX5_parting 26 = .ok (.iload_n 1, 1) := by decide +kernel
theorem dX5_parting_27 : decode cX5_parting 27 = .ok (.invokevirtual 204, 3) := by decide +kernel
theorem dX5_parting_30 : decode cX5_parting 30 = .ok (.goto 5, 3) := by decide +kernel
theorem dX5_parting_33 : decode cX5_parting 33 = .ok (.bipush (-2), 2) := by decide +kernel
theorem dX5_parting_35 : decode cX5_parting 35 = .ok (.ireturn, 1) := by decide +kernel
theorem dX5_wouldBe_0 : decode cX5_wouldBe 0 = .ok (.aload_n 0, 1) := by decide +kernel
theorem dX5_wouldBe_1 : decode cX5_wouldBe 1 = .ok (.iload_n 1, 1) := by decide +kernel
theorem dX5_wouldBe_2 : decode cX5_wouldBe 2 = .ok (.iload_n 2, 1) := by decide +kernel
theorem dX5_wouldBe_3 : decode cX5_wouldBe 3 = .ok (.iload_n 3, 1) := by decide +kernel
theorem dX5_wouldBe_4 : decode cX5_wouldBe 4 = .ok (.invokevirtual 86, 3) := by decide +kernel
theorem dX5_wouldBe_7 : decode cX5_wouldBe 7 = .ok (.istore 4, 2) := by decide +kernel
theorem dX5_wouldBe_9 : decode cX5_wouldBe 9 = .ok (.iload 4, 2) := by decide +kernel
theorem dX5_wouldBe_11 : decode cX5_wouldBe 11 = .ok (.ifCond .eq 6, 3) := by decide +kernel
theorem dX5_wouldBe_14 : decode cX5_wouldBe 14 = .ok (.iload 4, 2) := by decide +kernel
theorem dX5_wouldBe_16 : decode cX5_wouldBe 16 = .ok (.ireturn, 1) := by decide +kernel
theorem dX5_wouldBe_17 : decode cX5_wouldBe 17 = .ok (.aload_n 0, 1) := by decide +kernel
theorem dX5_wouldBe_18 : decode cX5_wouldBe 18 = .ok (.getfield 47, 3) := by decide +kernel
theorem dX5_wouldBe_21 : decode cX5_wouldBe 21 = .ok (.aload_n 0, 1) := by decide +kernel
theorem dX5_wouldBe_22 : decode cX5_wouldBe 22 = .ok (.getfield 12, 3) := by decide +kernel
theorem dX5_wouldBe_25 : decode cX5_wouldBe 25 = .ok (.invokevirtual 165, 3) := by decide +kernel
theorem dX5_wouldBe_28 : decode cX5_wouldBe 28 = .ok (.aload_n 0, 1) := by decide +kernel
theorem dX5_wouldBe_29 : decode cX5_wouldBe 29 = .ok (.getfield 47, 3) := by decide +kernel
theorem dX5_wouldBe_32 : decode cX5_wouldBe 32 = .ok (.iload_n 1, 1) := by decide +kernel
theorem dX5_wouldBe_33 : decode cX5_wouldBe 33 = .ok (.iload_n 2, 1) := by decide +kernel
theorem dX5_wouldBe_34 : decode cX5_wouldBe 34 = .ok (.iload_n 3, 1) := by decide +kernel
theorem dX5_wouldBe_35 : decode cX5_wouldBe 35 = .ok (.aload_n 0, 1) := by decide +kernel
theorem dX5_wouldBe_36 : decode cX5_wouldBe 36 = .ok (.getfield 12, 3) := by decide +kernel
theorem dX5_wouldBe_39 : decode cX5_wouldBe 39 = .ok (.iload_n 1, 1) := by decide +kernel
theorem dX5_wouldBe_40 : decode cX5_wouldBe 40 = .ok (.iload_n 2, 1) := by decide +kernel
theorem dX5_wouldBe_41 : decode cX5_wouldBe 41 = .ok (.invokevirtual 90, 3) := by decide +kernel
theorem dX5_wouldBe_44 : decode cX5_wouldBe 44 = .ok (.isub, 1) := by decide +kernel
theorem dX5_wouldBe_45 : decode cX5_wouldBe 45 = .ok (.invokevirtual 216, 3) := by decide +kernel
theorem dX5_wouldBe_48 : decode cX5_wouldBe 48 = .ok (.ireturn, 1) := by decide +kernel
theorem dX5_tight_0 : decode cX5_tight 0 = .ok (.iload_n 1, 1) := by decide +kernel
theorem dX5_tight_1 : decode cX5_tight 1 = .ok (.ifCond .ge 6, 3) := by decide +kernel
theorem dX5_tight_4 : decode cX5_tight 4 = .ok (.bipush (-2), 2) := by decide +kernel
theorem dX5_tight_6 : decode cX5_tight 6 = .ok (.ireturn, 1) := by decide +kernel
theorem dX5_tight_7 : decode cX5_tight 7 = .ok (.aload_n 0, 1) := by decide +kernel
theorem dX5_tight_8 : decode cX5_tight 8 = .ok (.getfield 47, 3) := by decide +kernel
theorem dX5_tight_11 : decode cX5_tight 11 = .ok (.aload_n 0, 1) := by decide +kernel
theorem dX5_tight_12 : decode cX5_tight 12 = .ok (.getfield 12, 3) := by decide +kernel
theorem dX5_tight_15 : decode cX5_tight 15 = .ok (.invokevirtual 165, 3) := by decide +kernel
theorem dX5_tight_18 : decode cX5_tight 18 = .ok (.iload_n 1, 1) := by decide +kernel
theorem dX5_tight_19 : decode cX5_tight 19 = .ok (.aload_n 0, 1) := by decide +kernel
theorem dX5_tight_20 : decode cX5_tight 20 = .ok (.getfield 47, 3) := by decide +kernel
theorem dX5_tight_23 : decode cX5_tight 23 = .ok (.getfield 219, 3) := by decide +kernel
theorem dX5_tight_26 : decode cX5_tight 26 = .ok (.if_icmp .ge 14, 3) := by decide +kernel
theorem dX5_tight_29 : decode cX5_tight 29 = .ok (.aload_n 0, 1) := by decide +kernel
theorem dX5_tight_30 : decode cX5_tight 30 = .ok (.getfield 47, 3) := by decide +kernel
theorem dX5_tight_33 : decode cX5_tight 33 = .ok (.iload_n 1, 1) := by decide +kernel
theorem dX5_tight_34 : decode cX5_tight 34 = .ok (.invokevirtual 222, 3) := by decide +kernel
theorem dX5_tight_37 : decode cX5_tight 37 = .ok (.goto 5, 3) := by decide +kernel
theorem dX5_tight_40 : decode cX5_tight 40 = .ok (.bipush (-5), 2) := by decide +kernel
theorem dX5_tight_42 : decode cX5_tight 42 = .ok (.ireturn, 1) := by decide +kernel
theorem dX5_count_0 : decode cX5_count 0 = .ok (.iload_n 1, 1) := by decide +kernel
theorem dX5_count_1 : decode cX5_count 1 = .ok (.tableswitch 129 0 10 #[59, 67, 75, 83, 83, 89, 97, 105, 83, 113, 121], 59) := by decide +kernel
theorem dX5_count_60 : decode cX5_count 60 = .ok (.aload_n 0, 1) := by decide +kernel
theorem dX5_count_61 : decode cX5_count 61 = .ok (.getfield 12, 3) := by decide +kernel
theorem dX5_count_64 : decode cX5_count 64 = .ok (.getfield 51, 3) := by decide +kernel
theorem dX5_count_67 : decode cX5_count 67 = .ok (.ireturn, 1) := by decide +kernel
theorem dX5_count_68 : decode cX5_count 68 = .ok (.aload_n 0, 1) := by decide +kernel
theorem dX5_count_69 : decode cX5_count 69 = .ok (.getfield 12, 3) := by decide +kernel
theorem dX5_count_72 : decode cX5_count 72 = .ok (.invokevirtual 225, 3) := by decide +kernel
theorem dX5_count_75 : decode cX5_count 75 = .ok (.ireturn, 1) := by decide +kernel
theorem dX5_count_76 : decode cX5_count 76 = .ok (.aload_n 0, 1) := by decide +kernel
theorem dX5_count_77 : decode cX5_count 77 = .ok (.getfield 12, 3) := by decide +kernel
theorem dX5_count_80 : decode cX5_count 80 = .ok (.invokevirtual 228, 3) := by decide +kernel
theorem dX5_count_83 : decode cX5_count 83 = .ok (.ireturn, 1) := by decide +kernel
theorem dX5_count_84 : decode cX5_count 84 = .ok (.aload_n 0, 1) := by decide +kernel
theorem dX5_count_85 : decode cX5_count 85 = .ok (.iload_n 1, 1) := by decide +kernel
theorem dX5_count_86 : decode cX5_count 86 = .ok (.invokevirtual 231, 3) := by decide +kernel
theorem dX5_count_89 : decode cX5_count 89 = .ok (.ireturn, 1) := by decide +kernel
theorem dX5_count_90 : decode cX5_count 90 = .ok (.aload_n 0, 1) := by decide +kernel
theorem dX5_count_91 : decode cX5_count 91 = .ok (.getfield 12, 3) := by decide +kernel
theorem dX5_count_94 : decode cX5_count 94 = .ok (.invokevirtual 234, 3) := by decide +kernel
theorem dX5_count_97 : decode cX5_count 97 = .ok (.ireturn, 1) := by decide +kernel
theorem dX5_count_98 : decode cX5_count 98 = .ok (.aload_n 0, 1) := by decide +kernel
theorem dX5_count_99 : decode cX5_count 99 = .ok (.getfield 12, 3) := by decide +kernel
theorem dX5_count_102 : decode cX5_count 102 = .ok (.getfield 118, 3) := by decide +kernel
theorem dX5_count_105 : decode cX5_count 105 = .ok (.ireturn, 1) := by decide +kernel
theorem dX5_count_106 : decode cX5_count 106 = .ok (.aload_n 0, 1) := by decide +kernel
theorem dX5_count_107 : decode cX5_count 107 = .ok (.getfield 12, 3) := by decide +kernel
theorem dX5_count_110 : decode cX5_count 110 = .ok (.getfield 121, 3) := by decide +kernel
theorem dX5_count_113 : decode cX5_count 113 = .ok (.ireturn, 1) := by decide +kernel
theorem dX5_count_114 : decode cX5_count 114 = .ok (.aload_n 0, 1) := by decide +kernel
theorem dX5_count_115 : decode cX5_count 115 = .ok (.getfield 26, 3) := by decide +kernel
theorem dX5_count_118 : decode cX5_count 118 = .ok (.getfield 147, 3) := by decide +kernel
theorem dX5_count_121 : decode cX5_count 121 = .ok (.ireturn, 1) := by decide +kernel
theorem dX5_count_122 : decode cX5_count 122 = .ok (.aload_n 0, 1) := by decide +kernel
theorem dX5_count_123 : decode cX5_count 123 = .ok (.getfield 33, 3) := by decide +kernel
theorem dX5_count_126 : decode cX5_count 126 = .ok (.getfield 140, 3) := by decide +kernel
theorem dX5_count_129 : decode cX5_count 129 = .ok (.ireturn, 1) := by decide +kernel
theorem dX5_count_130 : decode cX5_count 130 = .ok (.bipush (-2), 2) := by decide +kernel
theorem dX5_count_132 : decode cX5_count 132 = .ok (.ireturn, 1) := by decide +kernel
theorem dX5_countPartings_0 : decode cX5_countPartings 0 = .ok (.aload_n 0, 1) := by decide +kernel
theorem dX5_countPartings_1 : decode cX5_countPartings 1 = .ok (.getfield 47, 3) := by decide +kernel
theorem dX5_countPartings_4 : decode cX5_countPartings 4 = .ok (.aload_n 0, 1) := by decide +kernel
theorem dX5_countPartings_5 : decode cX5_countPartings 5 = .ok (.getfield 12, 3) := by decide +kernel
theorem dX5_countPartings_8 : decode cX5_countPartings 8 = .ok (.invokevirtual 165, 3) := by decide +kernel
theorem dX5_countPartings_11 : decode cX5_countPartings 11 = .ok (.iload_n 1, 1) := by decide +kernel
theorem dX5_countPartings_12 : decode cX5_countPartings 12 = .ok (.iconst 3, 1) := by decide +kernel
theorem dX5_countPartings_13 : decode cX5_countPartings 13 = .ok (.if_icmp .ne 11, 3) := by decide +kernel
theorem dX5_countPartings_16 : decode cX5_countPartings 16 = .ok (.aload_n 0, 1) := by decide +kernel
theorem dX5_countPartings_17 : decode cX5_countPartings 17 = .ok (.getfield 47, 3) := by decide +kernel
theorem dX5_countPartings_20 : decode cX5_countPartings 20 = .ok (.getfield 207, 3) := by decide +kernel
theorem dX5_countPartings_23 : decode cX5_countPartings 23 = .ok (.ireturn, 1) := by decide +kernel
theorem dX5_countPartings_24 : decode cX5_countPartings 24 = .ok (.iload_n 1, 1) := by decide +kernel
theorem dX5_countPartings_25 : decode cX5_countPartings 25 = .ok (.iconst 4, 1) := by decide +kernel
theorem dX5_countPartings_26 : decode cX5_countPartings 26 = .ok (.if_icmp .ne 13, 3) := by decide +kernel
theorem dX5_countPartings_29 : decode cX5_countPartings 29 = .ok (.aload_n 0, 1) := by decide +kernel
theorem dX5_countPartings_30 : decode cX5_countPartings 30 = .ok (.getfield 47, 3) := by decide +kernel
theorem dX5_countPartings_33 : decode cX5_countPartings 33 = .ok (.getfield 219, 3) := by decide +kernel
theorem dX5_countPartings_36 : decode cX5_countPartings 36 = .ok (.goto 17, 3) := by decide +kernel
theorem dX5_countPartings_39 : decode cX5_countPartings 39 = .ok (.aload_n 0, 1) := by decide +kernel
theorem dX5_countPartings_40 : decode cX5_countPartings 40 = .ok (.getfield 47, 3) := by decide +kernel
theorem dX5_countPartings_43 : decode cX5_countPartings 43 = .ok (.aload_n 0, 1) := by decide +kernel
theorem dX5_countPartings_44 : decode cX5_countPartings 44 = .ok (.getfield 12, 3) := by decide +kernel
theorem dX5_countPartings_47 : decode cX5_countPartings 47 = .ok (.getfield 121, 3) := by decide +kernel
theorem dX5_countPartings_50 : decode cX5_countPartings 50 = .ok (.invokevirtual 237, 3) := by decide +kernel
theorem dX5_countPartings_53 : decode cX5_countPartings 53 = .ok (.ireturn, 1) := by decide +kernel
theorem dX5_pairError_0 : decode cX5_pairError 0 = .ok (.aload_n 0, 1) := by decide +kernel
theorem dX5_pairError_1 : decode cX5_pairError 1 = .ok (.getfield 12, 3) := by decide +kernel
theorem dX5_pairError_4 : decode cX5_pairError 4 = .ok (.iload_n 1, 1) := by decide +kernel
theorem dX5_pairError_5 : decode cX5_pairError 5 = .ok (.invokevirtual 62, 3) := by decide +kernel
theorem dX5_pairError_8 : decode cX5_pairError 8 = .ok (.ifCond .eq 14, 3) := by decide +kernel
theorem dX5_pairError_11 : decode cX5_pairError 11 = .ok (.aload_n 0, 1) := by decide +kernel
theorem dX5_pairError_12 : decode cX5_pairError 12 = .ok (.getfield 12, 3) := by decide +kernel
theorem dX5_pairError_15 : decode cX5_pairError 15 = .ok (.iload_n 2, 1) := by decide +kernel
theorem dX5_pairError_16 : decode cX5_pairError 16 = .ok (.invokevirtual 62, 3) := by decide +kernel
theorem dX5_pairError_19 : decode cX5_pairError 19 = .ok (.ifCond .ne 5, 3) := by decide +kernel
theorem dX5_pairError_22 : decode cX5_pairError 22 = .ok (.iconst (-1), 1) := by decide +kernel
theorem dX5_pairError_23 : decode cX5_pairError 23 = .ok (.ireturn, 1) := by decide +kernel
theorem dX5_pairError_24 : decode cX5_pairError 24 = .ok (.iload_n 1, 1) := by decide +kernel
theorem dX5_pairError_25 : decode cX5_pairError 25 = .ok (.iload_n 2, 1) := by decide +kernel
theorem dX5_pairError_26 : decode cX5_pairError 26 = .ok (.if_icmp .ne 8, 3) := by decide +kernel
theorem dX5_pairError_29 : decode cX5_pairError 29 = .ok (.bipush (-2), 2) := by decide +kernel
theorem dX5_pairError_31 : decode cX5_pairError 31 = .ok (.goto 4, 3) := by decide +kernel
theorem dX5_pairError_34 : decode cX5_pairError 34 = .ok (.iconst 0, 1) := by decide +kernel
theorem dX5_pairError_35 : decode cX5_pairError 35 = .ok (.ireturn, 1) := by decide +kernel
theorem dX5_tieError_0 : decode cX5_tieError 0 = .ok (.aload_n 0, 1) := by decide +kernel
theorem dX5_tieError_1 : decode cX5_tieError 1 = .ok (.iload_n 1, 1) := by decide +kernel
theorem dX5_tieError_2 : decode cX5_tieError 2 = .ok (.iload_n 2, 1) := by decide +kernel
theorem dX5_tieError_3 : decode cX5_tieError 3 = .ok (.invokevirtual 70, 3) := by decide +kernel
theorem dX5_tieError_6 : decode cX5_tieError 6 = .ok (.istore 4, 2) := by decide +kernel
theorem dX5_tieError_8 : decode cX5_tieError 8 = .ok (.iload 4, 2) := by decide +kernel
theorem dX5_tieError_10 : decode cX5_tieError 10 = .ok (.ifCond .eq 6, 3) := by decide +kernel
theorem dX5_tieError_13 : decode cX5_tieError 13 = .ok (.iload 4, 2) := by decide +kernel
theorem dX5_tieError_15 : decode cX5_tieError 15 = .ok (.ireturn, 1) := by decide +kernel
theorem dX5_tieError_16 : decode cX5_tieError 16 = .ok (.iload_n 3, 1) := by decide +kernel
theorem dX5_tieError_17 : decode cX5_tieError 17 = .ok (.ifCond .lt 9, 3) := by decide +kernel
theorem dX5_tieError_20 : decode cX5_tieError 20 = .ok (.iload_n 3, 1) := by decide +kernel
theorem dX5_tieError_21 : decode cX5_tieError 21 = .ok (.bipush 99, 2) := by decide +kernel
theorem dX5_tieError_23 : decode cX5_tieError 23 = .ok (.if_icmp .le 8, 3) := by decide +kernel
theorem dX5_tieError_26 : decode cX5_tieError 26 = .ok (.bipush (-2), 2) := by decide +kernel
theorem dX5_tieError_28 : decode cX5_tieError 28 = .ok (.goto 4, 3) := by decide +kernel
theorem dX5_tieError_31 : decode cX5_tieError 31 = .ok (.iconst 0, 1) := by decide +kernel
theorem dX5_tieError_32 : decode cX5_tieError 32 = .ok (.ireturn, 1) := by decide +kernel
theorem dX5_isPhase_0 : decode cX5_isPhase 0 = .ok (.iload_n 1, 1) := by decide +kernel
theorem dX5_isPhase_1 : decode cX5_isPhase 1 = .ok (.ifCond .lt 20, 3) := by decide +kernel
theorem dX5_isPhase_4 : decode cX5_isPhase 4 = .ok (.iload_n 1, 1) := by decide +kernel
theorem dX5_isPhase_5 : decode cX5_isPhase 5 = .ok (.aload_n 0, 1) := by decide +kernel
theorem dX5_isPhase_6 : decode cX5_isPhase 6 = .ok (.getfield 12, 3) := by decide +kernel
theorem dX5_isPhase_9 : decode cX5_isPhase 9 = .ok (.getfield 51, 3) := by decide +kernel
theorem dX5_isPhase_12 : decode cX5_isPhase 12 = .ok (.iconst 1, 1) := by decide +kernel
theorem dX5_isPhase_13 : decode cX5_isPhase 13 = .ok (.isub, 1) := by decide +kernel
theorem dX5_isPhase_14 : decode cX5_isPhase 14 = .ok (.if_icmp .ge 7, 3) := by decide +kernel
theorem dX5_isPhase_17 : decode cX5_isPhase 17 = .ok (.iconst 1, 1) := by decide +kernel
theorem dX5_isPhase_18 : decode cX5_isPhase 18 = .ok (.goto 4, 3) := by decide +kernel
theorem dX5_isPhase_21 : decode cX5_isPhase 21 = .ok (.iconst 0, 1) := by decide +kernel
theorem dX5_isPhase_22 : decode cX5_isPhase 22 = .ok (.ireturn, 1) := by decide +kernel
theorem dX5_parts_0 : decode cX5_parts 0 = .ok (.iload_n 0, 1) := by decide +kernel
theorem dX5_parts_1 : decode cX5_parts 1 = .ok (.iload_n 1, 1) := by decide +kernel
theorem dX5_parts_2 : decode cX5_parts 2 = .ok (.invokestatic 240, 3) := by decide +kernel
theorem dX5_parts_5 : decode cX5_parts 5 = .ok (.iload_n 0, 1) := by decide +kernel
theorem dX5_parts_6 : decode cX5_parts 6 = .ok (.iload_n 2, 1) := by decide +kernel
theorem dX5_parts_7 : decode cX5_parts 7 = .ok (.invokestatic 240, 3) := by decide +kernel
theorem dX5_parts_10 : decode cX5_parts 10 = .ok (.if_icmp .eq 7, 3) := by decide +kernel
theorem dX5_parts_13 : decode cX5_parts 13 = .ok (.iconst 1, 1) := by decide +kernel
theorem dX5_parts_14 : decode cX5_parts 14 = .ok (.goto 4, 3) := by decide +kernel
theorem dX5_parts_17 : decode cX5_parts 17 = .ok (.iconst 0, 1) := by decide +kernel
theorem dX5_parts_18 : decode cX5_parts 18 = .ok (.ireturn, 1) := by decide +kernel
theorem dX5_holds_0 : decode cX5_holds 0 = .ok (.iload_n 0, 1) := by decide +kernel
theorem dX5_holds_1 : decode cX5_holds 1 = .ok (.iconst 1, 1) := by decide +kernel
theorem dX5_holds_2 : decode cX5_holds 2 = .ok (.iload_n 1, 1) := by decide +kernel
theorem dX5_holds_3 : decode cX5_holds 3 = .ok (.ishl, 1) := by decide +kernel
theorem dX5_holds_4 : decode cX5_holds 4 = .ok (.iand, 1) := by decide +kernel
theorem dX5_holds_5 : decode cX5_holds 5 = .ok (.ifCond .eq 7, 3) := by decide +kernel
theorem dX5_holds_8 : decode cX5_holds 8 = .ok (.iconst 1, 1) := by decide +kernel
theorem dX5_holds_9 : decode cX5_holds 9 = .ok (.goto 4, 3) := by decide +kernel
theorem dX5_holds_12 : decode cX5_holds 12 = .ok (.iconst 0, 1) := by decide +kernel
theorem dX5_holds_13 : decode cX5_holds 13 = .ok (.ireturn, 1) := by decide +kernel
theorem dX5_pairNumber_0 : decode cX5_pairNumber 0 = .ok (.bipush 10, 2) := by decide +kernel
theorem dX5_pairNumber_2 : decode cX5_pairNumber 2 = .ok (.iload_n 0, 1) := by decide +kernel
theorem dX5_pairNumber_3 : decode cX5_pairNumber 3 = .ok (.imul, 1) := by decide +kernel
theorem dX5_pairNumber_4 : decode cX5_pairNumber 4 = .ok (.iload_n 1, 1) := by decide +kernel
theorem dX5_pairNumber_5 : decode cX5_pairNumber 5 = .ok (.iadd, 1) := by decide +kernel
theorem dX5_pairNumber_6 : decode cX5_pairNumber 6 = .ok (.ireturn, 1) := by decide +kernel
theorem dJ6_bitCount_0f7a4_0 : decode cJ6_bitCount_0f7a4 0 = .ok (.iload_n 0, 1) := by decide +kernel
theorem dJ6_bitCount_0f7a4_1 : decode cJ6_bitCount_0f7a4 1 = .ok (.iload_n 0, 1) := by decide +kernel
theorem dJ6_bitCount_0f7a4_2 : decode cJ6_bitCount_0f7a4 2 = .ok (.iconst 1, 1) := by decide +kernel
theorem dJ6_bitCount_0f7a4_3 : decode cJ6_bitCount_0f7a4 3 = .ok (.iushr, 1) := by decide +kernel
theorem dJ6_bitCount_0f7a4_4 : decode cJ6_bitCount_0f7a4 4 = .ok (.ldc_w 265, 3) := by decide +kernel
theorem dJ6_bitCount_0f7a4_7 : decode cJ6_bitCount_0f7a4 7 = .ok (.iand, 1) := by decide +kernel
theorem dJ6_bitCount_0f7a4_8 : decode cJ6_bitCount_0f7a4 8 = .ok (.isub, 1) := by decide +kernel
theorem dJ6_bitCount_0f7a4_9 : decode cJ6_bitCount_0f7a4 9 = .ok (.istore_n 0, 1) := by decide +kernel
theorem dJ6_bitCount_0f7a4_10 : decode cJ6_bitCount_0f7a4 10 = .ok (.iload_n 0, 1) := by decide +kernel
theorem dJ6_bitCount_0f7a4_11 : decode cJ6_bitCount_0f7a4 11 = .ok (.ldc_w 266, 3) := by decide +kernel
theorem dJ6_bitCount_0f7a4_14 : decode cJ6_bitCount_0f7a4 14 = .ok (.iand, 1) := by decide +kernel
theorem dJ6_bitCount_0f7a4_15 : decode cJ6_bitCount_0f7a4 15 = .ok (.iload_n 0, 1) := by decide +kernel
theorem dJ6_bitCount_0f7a4_16 : decode cJ6_bitCount_0f7a4 16 = .ok (.iconst 2, 1) := by decide +kernel
theorem dJ6_bitCount_0f7a4_17 : decode cJ6_bitCount_0f7a4 17 = .ok (.iushr, 1) := by decide +kernel
theorem dJ6_bitCount_0f7a4_18 : decode cJ6_bitCount_0f7a4 18 = .ok (.ldc_w 266, 3) := by decide +kernel
theorem dJ6_bitCount_0f7a4_21 : decode cJ6_bitCount_0f7a4 21 = .ok (.iand, 1) := by decide +kernel
theorem dJ6_bitCount_0f7a4_22 : decode cJ6_bitCount_0f7a4 22 = .ok (.iadd, 1) := by decide +kernel
theorem dJ6_bitCount_0f7a4_23 : decode cJ6_bitCount_0f7a4 23 = .ok (.istore_n 0, 1) := by decide +kernel
theorem dJ6_bitCount_0f7a4_24 : decode cJ6_bitCount_0f7a4 24 = .ok (.iload_n 0, 1) := by decide +kernel
theorem dJ6_bitCount_0f7a4_25 : decode cJ6_bitCount_0f7a4 25 = .ok (.iload_n 0, 1) := by decide +kernel
theorem dJ6_bitCount_0f7a4_26 : decode cJ6_bitCount_0f7a4 26 = .ok (.iconst 4, 1) := by decide +kernel
theorem dJ6_bitCount_0f7a4_27 : decode cJ6_bitCount_0f7a4 27 = .ok (.iushr, 1) := by decide +kernel
theorem dJ6_bitCount_0f7a4_28 : decode cJ6_bitCount_0f7a4 28 = .ok (.iadd, 1) := by decide +kernel
theorem dJ6_bitCount_0f7a4_29 : decode cJ6_bitCount_0f7a4 29 = .ok (.ldc_w 267, 3) := by decide +kernel
theorem dJ6_bitCount_0f7a4_32 : decode cJ6_bitCount_0f7a4 32 = .ok (.iand, 1) := by decide +kernel
theorem dJ6_bitCount_0f7a4_33 : decode cJ6_bitCount_0f7a4 33 = .ok (.istore_n 0, 1) := by decide +kernel
theorem dJ6_bitCount_0f7a4_34 : decode cJ6_bitCount_0f7a4 34 = .ok (.iload_n 0, 1) := by decide +kernel
theorem dJ6_bitCount_0f7a4_35 : decode cJ6_bitCount_0f7a4 35 = .ok (.iload_n 0, 1) := by decide +kernel
theorem dJ6_bitCount_0f7a4_36 : decode cJ6_bitCount_0f7a4 36 = .ok (.bipush 8, 2) := by decide +kernel
theorem dJ6_bitCount_0f7a4_38 : decode cJ6_bitCount_0f7a4 38 = .ok (.iushr, 1) := by decide +kernel
theorem dJ6_bitCount_0f7a4_39 : decode cJ6_bitCount_0f7a4 39 = .ok (.iadd, 1) := by decide +kernel
theorem dJ6_bitCount_0f7a4_40 : decode cJ6_bitCount_0f7a4 40 = .ok (.istore_n 0, 1) := by decide +kernel
theorem dJ6_bitCount_0f7a4_41 : decode cJ6_bitCount_0f7a4 41 = .ok (.iload_n 0, 1) := by decide +kernel
theorem dJ6_bitCount_0f7a4_42 : decode cJ6_bitCount_0f7a4 42 = .ok (.iload_n 0, 1) := by decide +kernel
theorem dJ6_bitCount_0f7a4_43 : decode cJ6_bitCount_0f7a4 43 = .ok (.bipush 16, 2) := by decide +kernel
theorem dJ6_bitCount_0f7a4_45 : decode cJ6_bitCount_0f7a4 45 = .ok (.iushr, 1) := by decide +kernel
theorem dJ6_bitCount_0f7a4_46 : decode cJ6_bitCount_0f7a4 46 = .ok (.iadd, 1) := by decide +kernel
theorem dJ6_bitCount_0f7a4_47 : decode cJ6_bitCount_0f7a4 47 = .ok (.istore_n 0, 1) := by decide +kernel
theorem dJ6_bitCount_0f7a4_48 : decode cJ6_bitCount_0f7a4 48 = .ok (.iload_n 0, 1) := by decide +kernel
theorem dJ6_bitCount_0f7a4_49 : decode cJ6_bitCount_0f7a4 49 = .ok (.bipush 63, 2) := by decide +kernel
theorem dJ6_bitCount_0f7a4_51 : decode cJ6_bitCount_0f7a4 51 = .ok (.iand, 1) := by decide +kernel
theorem dJ6_bitCount_0f7a4_52 : decode cJ6_bitCount_0f7a4 52 = .ok (.ireturn, 1) := by decide +kernel
theorem dL_law_0 : decode cL_law 0 = .ok (.new 7, 3) := by decide +kernel
theorem dL_law_3 : decode cL_law 3 = .ok (.dup, 1) := by decide +kernel
theorem dL_law_4 : decode cL_law 4 = .ok (.invokespecial 9, 3) := by decide +kernel
theorem dL_law_7 : decode cL_law 7 = .ok (.astore_n 1, 1) := by decide +kernel
theorem dL_law_8 : decode cL_law 8 = .ok (.new 10, 3) := by decide +kernel
theorem dL_law_11 : decode cL_law 11 = .ok (.dup, 1) := by decide +kernel
theorem dL_law_12 : decode cL_law 12 = .ok (.invokespecial 12, 3) := by decide +kernel
theorem dL_law_15 : decode cL_law 15 = .ok (.astore_n 2, 1) := by decide +kernel
theorem dL_law_16 : decode cL_law 16 = .ok (.iconst 0, 1) := by decide +kernel
theorem dL_law_17 : decode cL_law 17 = .ok (.istore_n 3, 1) := by decide +kernel
theorem dL_law_18 : decode cL_law 18 = .ok (.iload_n 3, 1) := by decide +kernel
theorem dL_law_19 : decode cL_law 19 = .ok (.aload_n 0, 1) := by decide +kernel
theorem dL_law_20 : decode cL_law 20 = .ok (.arraylength, 1) := by decide +kernel
theorem dL_law_21 : decode cL_law 21 = .ok (.iconst 4, 1) := by decide +kernel
theorem dL_law_22 : decode cL_law 22 = .ok (.isub, 1) := by decide +kernel
theorem dL_law_23 : decode cL_law 23 = .ok (.if_icmp .gt 730, 3) := by decide +kernel
theorem dL_law_26 : decode cL_law 26 = .ok (.aload_n 0, 1) := by decide +kernel
theorem dL_law_27 : decode cL_law 27 = .ok (.iload_n 3, 1) := by decide +kernel
theorem dL_law_28 : decode cL_law 28 = .ok (.iaload, 1) := by decide +kernel
theorem dL_law_29 : decode cL_law 29 = .ok (.bipush 31, 2) := by decide +kernel
theorem dL_law_31 : decode cL_law 31 = .ok (.iand, 1) := by decide +kernel
theorem dL_law_32 : decode cL_law 32 = .ok (.tableswitch 715 0 22 #[108, 121, 144, 177, 220, 233, 266, 279, 304, 317, 330, 343, 356, 389, 422, 455, 514, 537, 560, 603, 626, 669, 692], 108) := by decide +kernel
theorem dL_law_140 : decode cL_law 140 = .ok (.aload_n 1, 1) := by decide +kernel
theorem dL_law_141 : decode cL_law 141 = .ok (.invokevirtual 13, 3) := by decide +kernel
theorem dL_law_144 : decode cL_law 144 = .ok (.aload_n 2, 1) := by decide +kernel
theorem dL_law_145 : decode cL_law 145 = .ok (.invokevirtual 17, 3) := by decide +kernel
theorem dL_law_148 : decode cL_law 148 = .ok (.if_icmp .eq 599, 3) := by decide +kernel
theorem dL_law_151 : decode cL_law 151 = .ok (.iconst 0, 1) := by decide +kernel
theorem dL_law_152 : decode cL_law 152 = .ok (.ireturn, 1) := by decide +kernel
theorem dL_law_153 : decode cL_law 153 = .ok (.aload_n 1, 1) := by decide +kernel
theorem dL_law_154 : decode cL_law 154 = .ok (.aload_n 0, 1) := by decide +kernel
theorem dL_law_155 : decode cL_law 155 = .ok (.iload_n 3, 1) := by decide +kernel
theorem dL_law_156 : decode cL_law 156 = .ok (.iconst 1, 1) := by decide +kernel
theorem dL_law_157 : decode cL_law 157 = .ok (.iadd, 1) := by decide +kernel
theorem dL_law_158 : decode cL_law 158 = .ok (.iaload, 1) := by decide +kernel
theorem dL_law_159 : decode cL_law 159 = .ok (.invokevirtual 18, 3) := by decide +kernel
theorem dL_law_162 : decode cL_law 162 = .ok (.aload_n 2, 1) := by decide +kernel
theorem dL_law_163 : decode cL_law 163 = .ok (.aload_n 0, 1) := by decide +kernel
theorem dL_law_164 : decode cL_law 164 = .ok (.iload_n 3, 1) := by decide +kernel
theorem dL_law_165 : decode cL_law 165 = .ok (.iconst 1, 1) := by decide +kernel
theorem dL_law_166 : decode cL_law 166 = .ok (.iadd, 1) := by decide +kernel
theorem dL_law_167 : decode cL_law 167 = .ok (.iaload, 1) := by decide +kernel
theorem dL_law_168 : decode cL_law 168 = .ok (.invokevirtual 22, 3) := by decide +kernel
theorem dL_law_171 : decode cL_law 171 = .ok (.if_icmp .eq 576, 3) := by decide +kernel
theorem dL_law_174 : decode cL_law 174 = .ok (.iconst 0, 1) := by decide +kernel
theorem dL_law_175 : decode cL_law 175 = .ok (.ireturn, 1) := by decide +kernel
theorem dL_law_176 : decode cL_law 176 = .ok (.aload_n 1, 1) := by decide +kernel
theorem dL_law_177 : decode cL_law 177 = .ok (.aload_n 0, 1) := by decide +kernel
theorem dL_law_178 : decode cL_law 178 = .ok (.iload_n 3, 1) := by decide +kernel
theorem dL_law_179 : decode cL_law 179 = .ok (.iconst 1, 1) := by decide +kernel
theorem dL_law_180 : decode cL_law 180 = .ok (.iadd, 1) := by decide +kernel
theorem dL_law_181 : decode cL_law 181 = .ok (.iaload, 1) := by decide +kernel
theorem dL_law_182 : decode cL_law 182 = .ok (.aload_n 0, 1) := by decide +kernel
theorem dL_law_183 : decode cL_law 183 = .ok (.iload_n 3, 1) := by decide +kernel
theorem dL_law_184 : decode cL_law 184 = .ok (.iconst 2, 1) := by decide +kernel
theorem dL_law_185 : decode cL_law 185 = .ok (.iadd, 1) := by decide +kernel
theorem dL_law_186 : decode cL_law 186 = .ok (.iaload, 1) := by decide +kernel
theorem dL_law_187 : decode cL_law 187 = .ok (.invokevirtual 23, 3) := by decide +kernel
theorem dL_law_190 : decode cL_law 190 = .ok (.aload_n 2, 1) := by decide +kernel
theorem dL_law_191 : decode cL_law 191 = .ok (.aload_n 0, 1) := by decide +kernel
theorem dL_law_192 : decode cL_law 192 = .ok (.iload_n 3, 1) := by decide +kernel
theorem dL_law_193 : decode cL_law 193 = .ok (.iconst 1, 1) := by decide +kernel
theorem dL_law_194 : decode cL_law 194 = .ok (.iadd, 1) := by decide +kernel
theorem dL_law_195 : decode cL_law 195 = .ok (.iaload, 1) := by decide +kernel
theorem dL_law_196 : decode cL_law 196 = .ok (.aload_n 0, 1) := by decide +kernel
theorem dL_law_197 : decode cL_law 197 = .ok (.iload_n 3, 1) := by decide +kernel
theorem dL_law_198 : decode cL_law 198 = .ok (.iconst 2, 1) := by decide +kernel
theorem dL_law_199 : decode cL_law 199 = .ok (.iadd, 1) := by decide +kernel
theorem dL_law_200 : decode cL_law 200 = .ok (.iaload, 1) := by decide +kernel
theorem dL_law_201 : decode cL_law 201 = .ok (.invokevirtual 27, 3) := by decide +kernel
theorem dL_law_204 : decode cL_law 204 = .ok (.if_icmp .eq 543, 3) := by decide +kernel
theorem dL_law_207 : decode cL_law 207 = .ok (.iconst 0, 1) := by decide +kernel
theorem dL_law_208 : decode cL_law 208 = .ok (.ireturn, 1) := by decide +kernel
theorem dL_law_209 : decode cL_law 209 = .ok (.aload_n 1, 1) := by decide +kernel
theorem dL_law_210 : decode cL_law 210 = .ok (.aload_n 0, 1) := by decide +kernel
theorem dL_law_211 : decode cL_law 211 = .ok (.iload_n 3, 1) := by decide +kernel
theorem dL_law_212 : decode cL_law 212 = .ok (.iconst 1, 1) := by decide +kernel
theorem dL_law_213 : decode cL_law 213 = .ok (.iadd, 1) := by decide +kernel
theorem dL_law_214 : decode cL_law 214 = .ok (.iaload, 1) := by decide +kernel
theorem dL_law_215 : decode cL_law 215 = .ok (.aload_n 0, 1) := by decide +kernel
theorem dL_law_216 : decode cL_law 216 = .ok (.iload_n 3, 1) := by decide +kernel
theorem dL_law_217 : decode cL_law 217 = .ok (.iconst 2, 1) := by decide +kernel
theorem dL_law_218 : decode cL_law 218 = .ok (.iadd, 1) := by decide +kernel
theorem dL_law_219 : decode cL_law 219 = .ok (.iaload, 1) := by decide +kernel
theorem dL_law_220 : decode cL_law 220 = .ok (.aload_n 0, 1) := by decide +kernel
theorem dL_law_221 : decode cL_law 221 = .ok (.iload_n 3, 1) := by decide +kernel
theorem dL_law_222 : decode cL_law 222 = .ok (.iconst 3, 1) := by decide +kernel
theorem dL_law_223 : decode cL_law 223 = .ok (.iadd, 1) := by decide +kernel
theorem dL_law_224 : decode cL_law 224 = .ok (.iaload, 1) := by decide +kernel
theorem dL_law_225 : decode cL_law 225 = .ok (.invokevirtual 28, 3) := by decide +kernel
theorem dL_law_228 : decode cL_law 228 = .ok (.aload_n 2, 1) := by decide +kernel
theorem dL_law_229 : decode cL_law 229 = .ok (.aload_n 0, 1) := by decide +kernel
theorem dL_law_230 : decode cL_law 230 = .ok (.iload_n 3, 1) := by decide +kernel
theorem dL_law_231 : decode cL_law 231 = .ok (.iconst 1, 1) := by decide +kernel
theorem dL_law_232 : decode cL_law 232 = .ok (.iadd, 1) := by decide +kernel
theorem dL_law_233 : decode cL_law 233 = .ok (.iaload, 1) := by decide +kernel
theorem dL_law_234 : decode cL_law 234 = .ok (.aload_n 0, 1) := by decide +kernel
theorem dL_law_235 : decode cL_law 235 = .ok (.iload_n 3, 1) := by decide +kernel
theorem dL_law_236 : decode cL_law 236 = .ok (.iconst 2, 1) := by decide +kernel
theorem dL_law_237 : decode cL_law 237 = .ok (.iadd, 1) := by decide +kernel
theorem dL_law_238 : decode cL_law 238 = .ok (.iaload, 1) := by decide +kernel
theorem dL_law_239 : decode cL_law 239 = .ok (.aload_n 0, 1) := by decide +kernel
theorem dL_law_240 : decode cL_law 240 = .ok (.iload_n 3, 1) := by decide +kernel
theorem dL_law_241 : decode cL_law 241 = .ok (.iconst 3, 1) := by decide +kernel
theorem dL_law_242 : decode cL_law 242 = .ok (.iadd, 1) := by decide +kernel
theorem dL_law_243 : decode cL_law 243 = .ok (.iaload, 1) := by decide +kernel
theorem dL_law_244 : decode cL_law 244 = .ok (.invokevirtual 32, 3) := by decide +kernel
theorem dL_law_247 : decode cL_law 247 = .ok (.if_icmp .eq 500, 3) := by decide +kernel
theorem dL_law_250 : decode cL_law 250 = .ok (.iconst 0, 1) := by decide +kernel
theorem dL_law_251 : decode cL_law 251 = .ok (.ireturn, 1) := by decide +kernel
theorem dL_law_252 : decode cL_law 252 = .ok (.aload_n 1, 1) := by decide +kernel
theorem dL_law_253 : decode cL_law 253 = .ok (.invokevirtual 33, 3) := by decide +kernel
theorem dL_law_256 : decode cL_law 256 = .ok (.aload_n 2, 1) := by decide +kernel
theorem dL_law_257 : decode cL_law 257 = .ok (.invokevirtual 36, 3) := by decide +kernel
theorem dL_law_260 : decode cL_law 260 = .ok (.if_icmp .eq 487, 3) := by decide +kernel
theorem dL_law_263 : decode cL_law 263 = .ok (.iconst 0, 1) := by decide +kernel
theorem dL_law_264 : decode cL_law 264 = .ok (.ireturn, 1) := by decide +kernel
theorem dL_law_265 : decode cL_law 265 = .ok (.aload_n 1, 1) := by decide +kernel
theorem dL_law_266 : decode cL_law 266 = .ok (.aload_n 0, 1) := by decide +kernel
theorem dL_law_267 : decode cL_law 267 = .ok (.iload_n 3, 1) := by decide +kernel
theorem dL_law_268 : decode cL_law 268 = .ok (.iconst 1, 1) := by decide +kernel
theorem dL_law_269 : decode cL_law 269 = .ok (.iadd, 1) := by decide +kernel
theorem dL_law_270 : decode cL_law 270 = .ok (.iaload, 1) := by decide +kernel
theorem dL_law_271 : decode cL_law 271 = .ok (.aload_n 0, 1) := by decide +kernel
theorem dL_law_272 : decode cL_law 272 = .ok (.iload_n 3, 1) := by decide +kernel
theorem dL_law_273 : decode cL_law 273 = .ok (.iconst 2, 1) := by decide +kernel
theorem dL_law_274 : decode cL_law 274 = .ok (.iadd, 1) := by decide +kernel
theorem dL_law_275 : decode cL_law 275 = .ok (.iaload, 1) := by decide +kernel
theorem dL_law_276 : decode cL_law 276 = .ok (.invokevirtual 37, 3) := by decide +kernel
theorem dL_law_279 : decode cL_law 279 = .ok (.aload_n 2, 1) := by decide +kernel
theorem dL_law_280 : decode cL_law 280 = .ok (.aload_n 0, 1) := by decide +kernel
theorem dL_law_281 : decode cL_law 281 = .ok (.iload_n 3, 1) := by decide +kernel
theorem dL_law_282 : decode cL_law 282 = .ok (.iconst 1, 1) := by decide +kernel
theorem dL_law_283 : decode cL_law 283 = .ok (.iadd, 1) := by decide +kernel
theorem dL_law_284 : decode cL_law 284 = .ok (.iaload, 1) := by decide +kernel
theorem dL_law_285 : decode cL_law 285 = .ok (.aload_n 0, 1) := by decide +kernel
theorem dL_law_286 : decode cL_law 286 = .ok (.iload_n 3, 1) := by decide +kernel
theorem dL_law_287 : decode cL_law 287 = .ok (.iconst 2, 1) := by decide +kernel
theorem dL_law_288 : decode cL_law 288 = .ok (.iadd, 1) := by decide +kernel
theorem dL_law_289 : decode cL_law 289 = .ok (.iaload, 1) := by decide +kernel
theorem dL_law_290 : decode cL_law 290 = .ok (.invokevirtual 40, 3) := by decide +kernel
theorem dL_law_293 : decode cL_law 293 = .ok (.if_icmp .eq 454, 3) := by decide +kernel
theorem dL_law_296 : decode cL_law 296 = .ok (.iconst 0, 1) := by decide +kernel
theorem dL_law_297 : decode cL_law 297 = .ok (.ireturn, 1) := by decide +kernel
theorem dL_law_298 : decode cL_law 298 = .ok (.aload_n 1, 1) := by decide +kernel
theorem dL_law_299 : decode cL_law 299 = .ok (.invokevirtual 41, 3) := by decide +kernel
theorem dL_law_302 : decode cL_law 302 = .ok (.aload_n 2, 1) := by decide +kernel
theorem dL_law_303 : decode cL_law 303 = .ok (.invokevirtual 44, 3) := by decide +kernel
theorem dL_law_306 : decode cL_law 306 = .ok (.if_icmp .eq 441, 3) := by decide +kernel
theorem dL_law_309 : decode cL_law 309 = .ok (.iconst 0, 1) := by decide +kernel
theorem dL_law_310 : decode cL_law 310 = .ok (.ireturn, 1) := by decide +kernel
theorem dL_law_311 : decode cL_law 311 = .ok (.aload_n 1, 1) := by decide +kernel
theorem dL_law_312 : decode cL_law 312 = .ok (.aload_n 0, 1) := by decide +kernel
theorem dL_law_313 : decode cL_law 313 = .ok (.iload_n 3, 1) := by decide +kernel
theorem dL_law_314 : decode cL_law 314 = .ok (.iconst 1, 1) := by decide +kernel
theorem dL_law_315 : decode cL_law 315 = .ok (.iadd, 1) := by decide +kernel
theorem dL_law_316 : decode cL_law 316 = .ok (.iaload, 1) := by decide +kernel
theorem dL_law_317 : decode cL_law 317 = .ok (.i2c, 1) := by decide +kernel
theorem dL_law_318 : decode cL_law 318 = .ok (.invokevirtual 45, 3) := by decide +kernel
theorem dL_law_321 : decode cL_law 321 = .ok (.aload_n 2, 1) := by decide +kernel
theorem dL_law_322 : decode cL_law 322 = .ok (.aload_n 0, 1) := by decide +kernel
theorem dL_law_323 : decode cL_law 323 = .ok (.iload_n 3, 1) := by decide +kernel
theorem dL_law_324 : decode cL_law 324 = .ok (.iconst 1, 1) := by decide +kernel
theorem dL_law_325 : decode cL_law 325 = .ok (.iadd, 1) := by decide +kernel
theorem dL_law_326 : decode cL_law 326 = .ok (.iaload, 1) := by decide +kernel
theorem dL_law_327 : decode cL_law 327 = .ok (.i2c, 1) := by decide +kernel
theorem dL_law_328 : decode cL_law 328 = .ok (.invokevirtual 49, 3) := by decide +kernel
theorem dL_law_331 : decode cL_law 331 = .ok (.if_icmp .eq 416, 3) := by decide +kernel
theorem dL_law_334 : decode cL_law 334 = .ok (.iconst 0, 1) := by decide +kernel
theorem dL_law_335 : decode cL_law 335 = .ok (.ireturn, 1) := by decide +kernel
theorem dL_law_336 : decode cL_law 336 = .ok (.aload_n 1, 1) := by decide +kernel
theorem dL_law_337 : decode cL_law 337 = .ok (.invokevirtual 50, 3) := by decide +kernel
theorem dL_law_340 : decode cL_law 340 = .ok (.aload_n 2, 1) := by decide +kernel
theorem dL_law_341 : decode cL_law 341 = .ok (.invokevirtual 53, 3) := by decide +kernel
theorem dL_law_344 : decode cL_law 344 = .ok (.if_icmp .eq 403, 3) := by decide +kernel
theorem dL_law_347 : decode cL_law 347 = .ok (.iconst 0, 1) := by decide +kernel
theorem dL_law_348 : decode cL_law 348 = .ok (.ireturn, 1) := by decide +kernel
theorem dL_law_349 : decode cL_law 349 = .ok (.aload_n 1, 1) := by decide +kernel
theorem dL_law_350 : decode cL_law 350 = .ok (.invokevirtual 54, 3) := by decide +kernel
theorem dL_law_353 : decode cL_law 353 = .ok (.aload_n 2, 1) := by decide +kernel
theorem dL_law_354 : decode cL_law 354 = .ok (.invokevirtual 57, 3) := by decide +kernel
theorem dL_law_357 : decode cL_law 357 = .ok (.if_icmp .eq 390, 3) := by decide +kernel
theorem dL_law_360 : decode cL_law 360 = .ok (.iconst 0, 1) := by decide +kernel
theorem dL_law_361 : decode cL_law 361 = .ok (.ireturn, 1) := by decide +kernel
theorem dL_law_362 : decode cL_law 362 = .ok (.aload_n 1, 1) := by decide +kernel
theorem dL_law_363 : decode cL_law 363 = .ok (.invokevirtual 58, 3) := by decide +kernel
theorem dL_law_366 : decode cL_law 366 = .ok (.aload_n 2, 1) := by decide +kernel
theorem dL_law_367 : decode cL_law 367 = .ok (.invokevirtual 61, 3) := by decide +kernel
theorem dL_law_370 : decode cL_law 370 = .ok (.if_icmp .eq 377, 3) := by decide +kernel
theorem dL_law_373 : decode cL_law 373 = .ok (.iconst 0, 1) := by decide +kernel
theorem dL_law_374 : decode cL_law 374 = .ok (.ireturn, 1) := by decide +kernel
theorem dL_law_375 : decode cL_law 375 = .ok (.aload_n 1, 1) := by decide +kernel
theorem dL_law_376 : decode cL_law 376 = .ok (.invokevirtual 62, 3) := by decide +kernel
theorem dL_law_379 : decode cL_law 379 = .ok (.aload_n 2, 1) := by decide +kernel
theorem dL_law_380 : decode cL_law 380 = .ok (.invokevirtual 65, 3) := by decide +kernel
theorem dL_law_383 : decode cL_law 383 = .ok (.if_icmp .eq 364, 3) := by decide +kernel
theorem dL_law_386 : decode cL_law 386 = .ok (.iconst 0, 1) := by decide +kernel
theorem dL_law_387 : decode cL_law 387 = .ok (.ireturn, 1) := by decide +kernel
theorem dL_law_388 : decode cL_law 388 = .ok (.aload_n 1, 1) := by decide +kernel
theorem dL_law_389 : decode cL_law 389 = .ok (.aload_n 0, 1) := by decide +kernel
theorem dL_law_390 : decode cL_law 390 = .ok (.iload_n 3, 1) := by decide +kernel
theorem dL_law_391 : decode cL_law 391 = .ok (.iconst 1, 1) := by decide +kernel
theorem dL_law_392 : decode cL_law 392 = .ok (.iadd, 1) := by decide +kernel
theorem dL_law_393 : decode cL_law 393 = .ok (.iaload, 1) := by decide +kernel
theorem dL_law_394 : decode cL_law 394 = .ok (.aload_n 0, 1) := by decide +kernel
theorem dL_law_395 : decode cL_law 395 = .ok (.iload_n 3, 1) := by decide +kernel
theorem dL_law_396 : decode cL_law 396 = .ok (.iconst 2, 1) := by decide +kernel
theorem dL_law_397 : decode cL_law 397 = .ok (.iadd, 1) := by decide +kernel
theorem dL_law_398 : decode cL_law 398 = .ok (.iaload, 1) := by decide +kernel
theorem dL_law_399 : decode cL_law 399 = .ok (.invokevirtual 66, 3) := by decide +kernel
theorem dL_law_402 : decode cL_law 402 = .ok (.aload_n 2, 1) := by decide +kernel
theorem dL_law_403 : decode cL_law 403 = .ok (.aload_n 0, 1) := by decide +kernel
theorem dL_law_404 : decode cL_law 404 = .ok (.iload_n 3, 1) := by decide +kernel
theorem dL_law_405 : decode cL_law 405 = .ok (.iconst 1, 1) := by decide +kernel
theorem dL_law_406 : decode cL_law 406 = .ok (.iadd, 1) := by decide +kernel
theorem dL_law_407 : decode cL_law 407 = .ok (.iaload, 1) := by decide +kernel
theorem dL_law_408 : decode cL_law 408 = .ok (.aload_n 0, 1) := by decide +kernel
theorem dL_law_409 : decode cL_law 409 = .ok (.iload_n 3, 1) := by decide +kernel
theorem dL_law_410 : decode cL_law 410 = .ok (.iconst 2, 1) := by decide +kernel
theorem dL_law_411 : decode cL_law 411 = .ok (.iadd, 1) := by decide +kernel
theorem dL_law_412 : decode cL_law 412 = .ok (.iaload, 1) := by decide +kernel
theorem dL_law_413 : decode cL_law 413 = .ok (.invokevirtual 69, 3) := by decide +kernel
theorem dL_law_416 : decode cL_law 416 = .ok (.if_icmp .eq 331, 3) := by decide +kernel
theorem dL_law_419 : decode cL_law 419 = .ok (.iconst 0, 1) := by decide +kernel
theorem dL_law_420 : decode cL_law 420 = .ok (.ireturn, 1) := by decide +kernel
theorem dL_law_421 : decode cL_law 421 = .ok (.aload_n 1, 1) := by decide +kernel
theorem dL_law_422 : decode cL_law 422 = .ok (.aload_n 0, 1) := by decide +kernel
theorem dL_law_423 : decode cL_law 423 = .ok (.iload_n 3, 1) := by decide +kernel
theorem dL_law_424 : decode cL_law 424 = .ok (.iconst 1, 1) := by decide +kernel
theorem dL_law_425 : decode cL_law 425 = .ok (.iadd, 1) := by decide +kernel
theorem dL_law_426 : decode cL_law 426 = .ok (.iaload, 1) := by decide +kernel
theorem dL_law_427 : decode cL_law 427 = .ok (.aload_n 0, 1) := by decide +kernel
theorem dL_law_428 : decode cL_law 428 = .ok (.iload_n 3, 1) := by decide +kernel
theorem dL_law_429 : decode cL_law 429 = .ok (.iconst 2, 1) := by decide +kernel
theorem dL_law_430 : decode cL_law 430 = .ok (.iadd, 1) := by decide +kernel
theorem dL_law_431 : decode cL_law 431 = .ok (.iaload, 1) := by decide +kernel
theorem dL_law_432 : decode cL_law 432 = .ok (.invokevirtual 70, 3) := by decide +kernel
theorem dL_law_435 : decode cL_law 435 = .ok (.aload_n 2, 1) := by decide +kernel
theorem dL_law_436 : decode cL_law 436 = .ok (.aload_n 0, 1) := by decide +kernel
theorem dL_law_437 : decode cL_law 437 = .ok (.iload_n 3, 1) := by decide +kernel
theorem dL_law_438 : decode cL_law 438 = .ok (.iconst 1, 1) := by decide +kernel
theorem dL_law_439 : decode cL_law 439 = .ok (.iadd, 1) := by decide +kernel
theorem dL_law_440 : decode cL_law 440 = .ok (.iaload, 1) := by decide +kernel
theorem dL_law_441 : decode cL_law 441 = .ok (.aload_n 0, 1) := by decide +kernel
theorem dL_law_442 : decode cL_law 442 = .ok (.iload_n 3, 1) := by decide +kernel
theorem dL_law_443 : decode cL_law 443 = .ok (.iconst 2, 1) := by decide +kernel
theorem dL_law_444 : decode cL_law 444 = .ok (.iadd, 1) := by decide +kernel
theorem dL_law_445 : decode cL_law 445 = .ok (.iaload, 1) := by decide +kernel
theorem dL_law_446 : decode cL_law 446 = .ok (.invokevirtual 73, 3) := by decide +kernel
theorem dL_law_449 : decode cL_law 449 = .ok (.if_icmp .eq 298, 3) := by decide +kernel
theorem dL_law_452 : decode cL_law 452 = .ok (.iconst 0, 1) := by decide +kernel
theorem dL_law_453 : decode cL_law 453 = .ok (.ireturn, 1) := by decide +kernel
theorem dL_law_454 : decode cL_law 454 = .ok (.aload_n 1, 1) := by decide +kernel
theorem dL_law_455 : decode cL_law 455 = .ok (.aload_n 0, 1) := by decide +kernel
theorem dL_law_456 : decode cL_law 456 = .ok (.iload_n 3, 1) := by decide +kernel
theorem dL_law_457 : decode cL_law 457 = .ok (.iconst 1, 1) := by decide +kernel
theorem dL_law_458 : decode cL_law 458 = .ok (.iadd, 1) := by decide +kernel
theorem dL_law_459 : decode cL_law 459 = .ok (.iaload, 1) := by decide +kernel
theorem dL_law_460 : decode cL_law 460 = .ok (.aload_n 0, 1) := by decide +kernel
theorem dL_law_461 : decode cL_law 461 = .ok (.iload_n 3, 1) := by decide +kernel
theorem dL_law_462 : decode cL_law 462 = .ok (.iconst 2, 1) := by decide +kernel
theorem dL_law_463 : decode cL_law 463 = .ok (.iadd, 1) := by decide +kernel
theorem dL_law_464 : decode cL_law 464 = .ok (.iaload, 1) := by decide +kernel
theorem dL_law_465 : decode cL_law 465 = .ok (.invokevirtual 74, 3) := by decide +kernel
theorem dL_law_468 : decode cL_law 468 = .ok (.aload_n 2, 1) := by decide +kernel
theorem dL_law_469 : decode cL_law 469 = .ok (.aload_n 0, 1) := by decide +kernel
theorem dL_law_470 : decode cL_law 470 = .ok (.iload_n 3, 1) := by decide +kernel
theorem dL_law_471 : decode cL_law 471 = .ok (.iconst 1, 1) := by decide +kernel
theorem dL_law_472 : decode cL_law 472 = .ok (.iadd, 1) := by decide +kernel
theorem dL_law_473 : decode cL_law 473 = .ok (.iaload, 1) := by decide +kernel
theorem dL_law_474 : decode cL_law 474 = .ok (.aload_n 0, 1) := by decide +kernel
theorem dL_law_475 : decode cL_law 475 = .ok (.iload_n 3, 1) := by decide +kernel
theorem dL_law_476 : decode cL_law 476 = .ok (.iconst 2, 1) := by decide +kernel
theorem dL_law_477 : decode cL_law 477 = .ok (.iadd, 1) := by decide +kernel
theorem dL_law_478 : decode cL_law 478 = .ok (.iaload, 1) := by decide +kernel
theorem dL_law_479 : decode cL_law 479 = .ok (.invokevirtual 77, 3) := by decide +kernel
theorem dL_law_482 : decode cL_law 482 = .ok (.if_icmp .eq 265, 3) := by decide +kernel
theorem dL_law_485 : decode cL_law 485 = .ok (.iconst 0, 1) := by decide +kernel
theorem dL_law_486 : decode cL_law 486 = .ok (.ireturn, 1) := by decide +kernel
theorem dL_law_487 : decode cL_law 487 = .ok (.aload_n 1, 1) := by decide +kernel
theorem dL_law_488 : decode cL_law 488 = .ok (.aload_n 0, 1) := by decide +kernel
theorem dL_law_489 : decode cL_law 489 = .ok (.iload_n 3, 1) := by decide +kernel
theorem dL_law_490 : decode cL_law 490 = .ok (.iconst 1, 1) := by decide +kernel
theorem dL_law_491 : decode cL_law 491 = .ok (.iadd, 1) := by decide +kernel
theorem dL_law_492 : decode cL_law 492 = .ok (.iaload, 1) := by decide +kernel
theorem dL_law_493 : decode cL_law 493 = .ok (.aload_n 0, 1) := by decide +kernel
theorem dL_law_494 : decode cL_law 494 = .ok (.iload_n 3, 1) := by decide +kernel
theorem dL_law_495 : decode cL_law 495 = .ok (.iconst 2, 1) := by decide +kernel
theorem dL_law_496 : decode cL_law 496 = .ok (.iadd, 1) := by decide +kernel
theorem dL_law_497 : decode cL_law 497 = .ok (.iaload, 1) := by decide +kernel
theorem dL_law_498 : decode cL_law 498 = .ok (.aload_n 0, 1) := by decide +kernel
theorem dL_law_499 : decode cL_law 499 = .ok (.iload_n 3, 1) := by decide +kernel
theorem dL_law_500 : decode cL_law 500 = .ok (.iconst 3, 1) := by decide +kernel
theorem dL_law_501 : decode cL_law 501 = .ok (.iadd, 1) := by decide +kernel
theorem dL_law_502 : decode cL_law 502 = .ok (.iaload, 1) := by decide +kernel
theorem dL_law_503 : decode cL_law 503 = .ok (.ifCond .eq 7, 3) := by decide +kernel
theorem dL_law_506 : decode cL_law 506 = .ok (.iconst 1, 1) := by decide +kernel
theorem dL_law_507 : decode cL_law 507 = .ok (.goto 4, 3) := by decide +kernel
theorem dL_law_510 : decode cL_law 510 = .ok (.iconst 0, 1) := by decide +kernel
theorem dL_law_511 : decode cL_law 511 = .ok (.invokevirtual 78, 3) := by decide +kernel
theorem dL_law_514 : decode cL_law 514 = .ok (.aload_n 2, 1) := by decide +kernel
theorem dL_law_515 : decode cL_law 515 = .ok (.aload_n 0, 1) := by decide +kernel
theorem dL_law_516 : decode cL_law 516 = .ok (.iload_n 3, 1) := by decide +kernel
theorem dL_law_517 : decode cL_law 517 = .ok (.iconst 1, 1) := by decide +kernel
theorem dL_law_518 : decode cL_law 518 = .ok (.iadd, 1) := by decide +kernel
theorem dL_law_519 : decode cL_law 519 = .ok (.iaload, 1) := by decide +kernel
theorem dL_law_520 : decode cL_law 520 = .ok (.aload_n 0, 1) := by decide +kernel
theorem dL_law_521 : decode cL_law 521 = .ok (.iload_n 3, 1) := by decide +kernel
theorem dL_law_522 : decode cL_law 522 = .ok (.iconst 2, 1) := by decide +kernel
theorem dL_law_523 : decode cL_law 523 = .ok (.iadd, 1) := by decide +kernel
theorem dL_law_524 : decode cL_law 524 = .ok (.iaload, 1) := by decide +kernel
theorem dL_law_525 : decode cL_law 525 = .ok (.aload_n 0, 1) := by decide +kernel
theorem dL_law_526 : decode cL_law 526 = .ok (.iload_n 3, 1) := by decide +kernel
theorem dL_law_527 : decode cL_law 527 = .ok (.iconst 3, 1) := by decide +kernel
theorem dL_law_528 : decode cL_law 528 = .ok (.iadd, 1) := by decide +kernel
theorem dL_law_529 : decode cL_law 529 = .ok (.iaload, 1) := by decide +kernel
theorem dL_law_530 : decode cL_law 530 = .ok (.ifCond .eq 7, 3) := by decide +kernel
theorem dL_law_533 : decode cL_law 533 = .ok (.iconst 1, 1) := by decide +kernel
theorem dL_law_534 : decode cL_law 534 = .ok (.goto 4, 3) := by decide +kernel
theorem dL_law_537 : decode cL_law 537 = .ok (.iconst 0, 1) := by decide +kernel
theorem dL_law_538 : decode cL_law 538 = .ok (.invokevirtual 82, 3) := by decide +kernel
theorem dL_law_541 : decode cL_law 541 = .ok (.if_icmp .eq 206, 3) := by decide +kernel
theorem dL_law_544 : decode cL_law 544 = .ok (.iconst 0, 1) := by decide +kernel
theorem dL_law_545 : decode cL_law 545 = .ok (.ireturn, 1) := by decide +kernel
theorem dL_law_546 : decode cL_law 546 = .ok (.aload_n 1, 1) := by decide +kernel
theorem dL_law_547 : decode cL_law 547 = .ok (.aload_n 0, 1) := by decide +kernel
theorem dL_law_548 : decode cL_law 548 = .ok (.iload_n 3, 1) := by decide +kernel
theorem dL_law_549 : decode cL_law 549 = .ok (.iconst 1, 1) := by decide +kernel
theorem dL_law_550 : decode cL_law 550 = .ok (.iadd, 1) := by decide +kernel
theorem dL_law_551 : decode cL_law 551 = .ok (.iaload, 1) := by decide +kernel
theorem dL_law_552 : decode cL_law 552 = .ok (.invokevirtual 83, 3) := by decide +kernel
theorem dL_law_555 : decode cL_law 555 = .ok (.aload_n 2, 1) := by decide +kernel
theorem dL_law_556 : decode cL_law 556 = .ok (.aload_n 0, 1) := by decide +kernel
theorem dL_law_557 : decode cL_law 557 = .ok (.iload_n 3, 1) := by decide +kernel
theorem dL_law_558 : decode cL_law 558 = .ok (.iconst 1, 1) := by decide +kernel
theorem dL_law_559 : decode cL_law 559 = .ok (.iadd, 1) := by decide +kernel
theorem dL_law_560 : decode cL_law 560 = .ok (.iaload, 1) := by decide +kernel
theorem dL_law_561 : decode cL_law 561 = .ok (.invokevirtual 86, 3) := by decide +kernel
theorem dL_law_564 : decode cL_law 564 = .ok (.if_icmp .eq 183, 3) := by decide +kernel
theorem dL_law_567 : decode cL_law 567 = .ok (.iconst 0, 1) := by decide +kernel
theorem dL_law_568 : decode cL_law 568 = .ok (.ireturn, 1) := by decide +kernel
theorem dL_law_569 : decode cL_law 569 = .ok (.aload_n 1, 1) := by decide +kernel
theorem dL_law_570 : decode cL_law 570 = .ok (.aload_n 0, 1) := by decide +kernel
theorem dL_law_571 : decode cL_law 571 = .ok (.iload_n 3, 1) := by decide +kernel
theorem dL_law_572 : decode cL_law 572 = .ok (.iconst 1, 1) := by decide +kernel
theorem dL_law_573 : decode cL_law 573 = .ok (.iadd, 1) := by decide +kernel
theorem dL_law_574 : decode cL_law 574 = .ok (.iaload, 1) := by decide +kernel
theorem dL_law_575 : decode cL_law 575 = .ok (.invokevirtual 87, 3) := by decide +kernel
theorem dL_law_578 : decode cL_law 578 = .ok (.aload_n 2, 1) := by decide +kernel
theorem dL_law_579 : decode cL_law 579 = .ok (.aload_n 0, 1) := by decide +kernel
theorem dL_law_580 : decode cL_law 580 = .ok (.iload_n 3, 1) := by decide +kernel
theorem dL_law_581 : decode cL_law 581 = .ok (.iconst 1, 1) := by decide +kernel
theorem dL_law_582 : decode cL_law 582 = .ok (.iadd, 1) := by decide +kernel
theorem dL_law_583 : decode cL_law 583 = .ok (.iaload, 1) := by decide +kernel
theorem dL_law_584 : decode cL_law 584 = .ok (.invokevirtual 90, 3) := by decide +kernel
theorem dL_law_587 : decode cL_law 587 = .ok (.if_icmp .eq 160, 3) := by decide +kernel
theorem dL_law_590 : decode cL_law 590 = .ok (.iconst 0, 1) := by decide +kernel
theorem dL_law_591 : decode cL_law 591 = .ok (.ireturn, 1) := by decide +kernel
theorem dL_law_592 : decode cL_law 592 = .ok (.aload_n 1, 1) := by decide +kernel
theorem dL_law_593 : decode cL_law 593 = .ok (.aload_n 0, 1) := by decide +kernel
theorem dL_law_594 : decode cL_law 594 = .ok (.iload_n 3, 1) := by decide +kernel
theorem dL_law_595 : decode cL_law 595 = .ok (.iconst 1, 1) := by decide +kernel
theorem dL_law_596 : decode cL_law 596 = .ok (.iadd, 1) := by decide +kernel
theorem dL_law_597 : decode cL_law 597 = .ok (.iaload, 1) := by decide +kernel
theorem dL_law_598 : decode cL_law 598 = .ok (.aload_n 0, 1) := by decide +kernel
theorem dL_law_599 : decode cL_law 599 = .ok (.iload_n 3, 1) := by decide +kernel
theorem dL_law_600 : decode cL_law 600 = .ok (.iconst 2, 1) := by decide +kernel
theorem dL_law_601 : decode cL_law 601 = .ok (.iadd, 1) := by decide +kernel
theorem dL_law_602 : decode cL_law 602 = .ok (.iaload, 1) := by decide +kernel
theorem dL_law_603 : decode cL_law 603 = .ok (.aload_n 0, 1) := by decide +kernel
theorem dL_law_604 : decode cL_law 604 = .ok (.iload_n 3, 1) := by decide +kernel
theorem dL_law_605 : decode cL_law 605 = .ok (.iconst 3, 1) := by decide +kernel
theorem dL_law_606 : decode cL_law 606 = .ok (.iadd, 1) := by decide +kernel
theorem dL_law_607 : decode cL_law 607 = .ok (.iaload, 1) := by decide +kernel
theorem dL_law_608 : decode cL_law 608 = .ok (.invokevirtual 91, 3) := by decide +kernel
theorem dL_law_611 : decode cL_law 611 = .ok (.aload_n 2, 1) := by decide +kernel
theorem dL_law_612 : decode cL_law 612 = .ok (.aload_n 0, 1) := by decide +kernel
theorem dL_law_613 : decode cL_law 613 = .ok (.iload_n 3, 1) := by decide +kernel
theorem dL_law_614 : decode cL_law 614 = .ok (.iconst 1, 1) := by decide +kernel
theorem dL_law_615 : decode cL_law 615 = .ok (.iadd, 1) := by decide +kernel
theorem dL_law_616 : decode cL_law 616 = .ok (.iaload, 1) := by decide +kernel
theorem dL_law_617 : decode cL_law 617 = .ok (.aload_n 0, 1) := by decide +kernel
theorem dL_law_618 : decode cL_law 618 = .ok (.iload_n 3, 1) := by decide +kernel
theorem dL_law_619 : decode cL_law 619 = .ok (.iconst 2, 1) := by decide +kernel
theorem dL_law_620 : decode cL_law 620 = .ok (.iadd, 1) := by decide +kernel
theorem dL_law_621 : decode cL_law 621 = .ok (.iaload, 1) := by decide +kernel
theorem dL_law_622 : decode cL_law 622 = .ok (.aload_n 0, 1) := by decide +kernel
theorem dL_law_623 : decode cL_law 623 = .ok (.iload_n 3, 1) := by decide +kernel
theorem dL_law_624 : decode cL_law 624 = .ok (.iconst 3, 1) := by decide +kernel
theorem dL_law_625 : decode cL_law 625 = .ok (.iadd, 1) := by decide +kernel
theorem dL_law_626 : decode cL_law 626 = .ok (.iaload, 1) := by decide +kernel
theorem dL_law_627 : decode cL_law 627 = .ok (.invokevirtual 94, 3) := by decide +kernel
theorem dL_law_630 : decode cL_law 630 = .ok (.if_icmp .eq 117, 3) := by decide +kernel
theorem dL_law_633 : decode cL_law 633 = .ok (.iconst 0, 1) := by decide +kernel
theorem dL_law_634 : decode cL_law 634 = .ok (.ireturn, 1) := by decide +kernel
theorem dL_law_635 : decode cL_law 635 = .ok (.aload_n 1, 1) := by decide +kernel
theorem dL_law_636 : decode cL_law 636 = .ok (.aload_n 0, 1) := by decide +kernel
theorem dL_law_637 : decode cL_law 637 = .ok (.iload_n 3, 1) := by decide +kernel
theorem dL_law_638 : decode cL_law 638 = .ok (.iconst 1, 1) := by decide +kernel
theorem dL_law_639 : decode cL_law 639 = .ok (.iadd, 1) := by decide +kernel
theorem dL_law_640 : decode cL_law 640 = .ok (.iaload, 1) := by decide +kernel
theorem dL_law_641 : decode cL_law 641 = .ok (.invokevirtual 95, 3) := by decide +kernel
theorem dL_law_644 : decode cL_law 644 = .ok (.aload_n 2, 1) := by decide +kernel
theorem dL_law_645 : decode cL_law 645 = .ok (.aload_n 0, 1) := by decide +kernel
theorem dL_law_646 : decode cL_law 646 = .ok (.iload_n 3, 1) := by decide +kernel
theorem dL_law_647 : decode cL_law 647 = .ok (.iconst 1, 1) := by decide +kernel
theorem dL_law_648 : decode cL_law 648 = .ok (.iadd, 1) := by decide +kernel
theorem dL_law_649 : decode cL_law 649 = .ok (.iaload, 1) := by decide +kernel
theorem dL_law_650 : decode cL_law 650 = .ok (.invokevirtual 98, 3) := by decide +kernel
theorem dL_law_653 : decode cL_law 653 = .ok (.if_icmp .eq 94, 3) := by decide +kernel
theorem dL_law_656 : decode cL_law 656 = .ok (.iconst 0, 1) := by decide +kernel
theorem dL_law_657 : decode cL_law 657 = .ok (.ireturn, 1) := by decide +kernel
theorem dL_law_658 : decode cL_law 658 = .ok (.aload_n 1, 1) := by decide +kernel
theorem dL_law_659 : decode cL_law 659 = .ok (.aload_n 0, 1) := by decide +kernel
theorem dL_law_660 : decode cL_law 660 = .ok (.iload_n 3, 1) := by decide +kernel
theorem dL_law_661 : decode cL_law 661 = .ok (.iconst 1, 1) := by decide +kernel
theorem dL_law_662 : decode cL_law 662 = .ok (.iadd, 1) := by decide +kernel
theorem dL_law_663 : decode cL_law 663 = .ok (.iaload, 1) := by decide +kernel
theorem dL_law_664 : decode cL_law 664 = .ok (.aload_n 0, 1) := by decide +kernel
theorem dL_law_665 : decode cL_law 665 = .ok (.iload_n 3, 1) := by decide +kernel
theorem dL_law_666 : decode cL_law 666 = .ok (.iconst 2, 1) := by decide +kernel
theorem dL_law_667 : decode cL_law 667 = .ok (.iadd, 1) := by decide +kernel
theorem dL_law_668 : decode cL_law 668 = .ok (.iaload, 1) := by decide +kernel
theorem dL_law_669 : decode cL_law 669 = .ok (.aload_n 0, 1) := by decide +kernel
theorem dL_law_670 : decode cL_law 670 = .ok (.iload_n 3, 1) := by decide +kernel
theorem dL_law_671 : decode cL_law 671 = .ok (.iconst 3, 1) := by decide +kernel
theorem dL_law_672 : decode cL_law 672 = .ok (.iadd, 1) := by decide +kernel
theorem dL_law_673 : decode cL_law 673 = .ok (.iaload, 1) := by decide +kernel
theorem dL_law_674 : decode cL_law 674 = .ok (.invokevirtual 99, 3) := by decide +kernel
theorem dL_law_677 : decode cL_law 677 = .ok (.aload_n 2, 1) := by decide +kernel
theorem dL_law_678 : decode cL_law 678 = .ok (.aload_n 0, 1) := by decide +kernel
theorem dL_law_679 : decode cL_law 679 = .ok (.iload_n 3, 1) := by decide +kernel
theorem dL_law_680 : decode cL_law 680 = .ok (.iconst 1, 1) := by decide +kernel
theorem dL_law_681 : decode cL_law 681 = .ok (.iadd, 1) := by decide +kernel
theorem dL_law_682 : decode cL_law 682 = .ok (.iaload, 1) := by decide +kernel
theorem dL_law_683 : decode cL_law 683 = .ok (.aload_n 0, 1) := by decide +kernel
theorem dL_law_684 : decode cL_law 684 = .ok (.iload_n 3, 1) := by decide +kernel
theorem dL_law_685 : decode cL_law 685 = .ok (.iconst 2, 1) := by decide +kernel
theorem dL_law_686 : decode cL_law 686 = .ok (.iadd, 1) := by decide +kernel
theorem dL_law_687 : decode cL_law 687 = .ok (.iaload, 1) := by decide +kernel
theorem dL_law_688 : decode cL_law 688 = .ok (.aload_n 0, 1) := by decide +kernel
theorem dL_law_689 : decode cL_law 689 = .ok (.iload_n 3, 1) := by decide +kernel
theorem dL_law_690 : decode cL_law 690 = .ok (.iconst 3, 1) := by decide +kernel
theorem dL_law_691 : decode cL_law 691 = .ok (.iadd, 1) := by decide +kernel
theorem dL_law_692 : decode cL_law 692 = .ok (.iaload, 1) := by decide +kernel
theorem dL_law_693 : decode cL_law 693 = .ok (.invokevirtual 102, 3) := by decide +kernel
theorem dL_law_696 : decode cL_law 696 = .ok (.if_icmp .eq 51, 3) := by decide +kernel
theorem dL_law_699 : decode cL_law 699 = .ok (.iconst 0, 1) := by decide +kernel
theorem dL_law_700 : decode cL_law 700 = .ok (.ireturn, 1) := by decide +kernel
theorem dL_law_701 : decode cL_law 701 = .ok (.aload_n 1, 1) := by decide +kernel
theorem dL_law_702 : decode cL_law 702 = .ok (.aload_n 0, 1) := by decide +kernel
theorem dL_law_703 : decode cL_law 703 = .ok (.iload_n 3, 1) := by decide +kernel
theorem dL_law_704 : decode cL_law 704 = .ok (.iconst 1, 1) := by decide +kernel
theorem dL_law_705 : decode cL_law 705 = .ok (.iadd, 1) := by decide +kernel
theorem dL_law_706 : decode cL_law 706 = .ok (.iaload, 1) := by decide +kernel
theorem dL_law_707 : decode cL_law 707 = .ok (.invokevirtual 103, 3) := by decide +kernel
theorem dL_law_710 : decode cL_law 710 = .ok (.aload_n 2, 1) := by decide +kernel
theorem dL_law_711 : decode cL_law 711 = .ok (.aload_n 0, 1) := by decide +kernel
theorem dL_law_712 : decode cL_law 712 = .ok (.iload_n 3, 1) := by decide +kernel
theorem dL_law_713 : decode cL_law 713 = .ok (.iconst 1, 1) := by decide +kernel
theorem dL_law_714 : decode cL_law 714 = .ok (.iadd, 1) := by decide +kernel
theorem dL_law_715 : decode cL_law 715 = .ok (.iaload, 1) := by decide +kernel
theorem dL_law_716 : decode cL_law 716 = .ok (.invokevirtual 106, 3) := by decide +kernel
theorem dL_law_719 : decode cL_law 719 = .ok (.if_icmp .eq 28, 3) := by decide +kernel
theorem dL_law_722 : decode cL_law 722 = .ok (.iconst 0, 1) := by decide +kernel
theorem dL_law_723 : decode cL_law 723 = .ok (.ireturn, 1) := by decide +kernel
theorem dL_law_724 : decode cL_law 724 = .ok (.aload_n 1, 1) := by decide +kernel
theorem dL_law_725 : decode cL_law 725 = .ok (.aload_n 0, 1) := by decide +kernel
theorem dL_law_726 : decode cL_law 726 = .ok (.iload_n 3, 1) := by decide +kernel
theorem dL_law_727 : decode cL_law 727 = .ok (.iconst 1, 1) := by decide +kernel
theorem dL_law_728 : decode cL_law 728 = .ok (.iadd, 1) := by decide +kernel
theorem dL_law_729 : decode cL_law 729 = .ok (.iaload, 1) := by decide +kernel
theorem dL_law_730 : decode cL_law 730 = .ok (.invokevirtual 107, 3) := by decide +kernel
theorem dL_law_733 : decode cL_law 733 = .ok (.aload_n 2, 1) := by decide +kernel
theorem dL_law_734 : decode cL_law 734 = .ok (.aload_n 0, 1) := by decide +kernel
theorem dL_law_735 : decode cL_law 735 = .ok (.iload_n 3, 1) := by decide +kernel
theorem dL_law_736 : decode cL_law 736 = .ok (.iconst 1, 1) := by decide +kernel
theorem dL_law_737 : decode cL_law 737 = .ok (.iadd, 1) := by decide +kernel
theorem dL_law_738 : decode cL_law 738 = .ok (.iaload, 1) := by decide +kernel
theorem dL_law_739 : decode cL_law 739 = .ok (.invokevirtual 110, 3) := by decide +kernel
theorem dL_law_742 : decode cL_law 742 = .ok (.if_icmp .eq 5, 3) := by decide +kernel
theorem dL_law_745 : decode cL_law 745 = .ok (.iconst 0, 1) := by decide +kernel
theorem dL_law_746 : decode cL_law 746 = .ok (.ireturn, 1) := by decide +kernel
theorem dL_law_747 : decode cL_law 747 = .ok (.iinc 3 4, 3) := by decide +kernel
theorem dL_law_750 : decode cL_law 750 = .ok (.goto (-732), 3) := by decide +kernel
theorem dL_law_753 : decode cL_law 753 = .ok (.iconst 1, 1) := by decide +kernel
theorem dL_law_754 : decode cL_law 754 = .ok (.ireturn, 1) := by decide +kernel
