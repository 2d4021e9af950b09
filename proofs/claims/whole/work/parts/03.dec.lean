theorem dX0_init_0 : decode cX0_init 0 = .ok (.aload_n 0, 1) := by decide +kernel
theorem dX0_init_1 : decode cX0_init 1 = .ok (.invokespecial 3, 3) := by decide +kernel
theorem dX0_init_4 : decode cX0_init 4 = .ok (.aload_n 0, 1) := by decide +kernel
theorem dX0_init_5 : decode cX0_init 5 = .ok (.iconst 4, 1) := by decide +kernel
theorem dX0_init_6 : decode cX0_init 6 = .ok (.anewarray 9, 3) := by decide +kernel
theorem dX0_init_9 : decode cX0_init 9 = .ok (.putfield 11, 3) := by decide +kernel
theorem dX0_init_12 : decode cX0_init 12 = .ok (.iconst 0, 1) := by decide +kernel
theorem dX0_init_13 : decode cX0_init 13 = .ok (.istore_n 1, 1) := by decide +kernel
theorem dX0_init_14 : decode cX0_init 14 = .ok (.iload_n 1, 1) := by decide +kernel
theorem dX0_init_15 : decode cX0_init 15 = .ok (.iconst 4, 1) := by decide +kernel
theorem dX0_init_16 : decode cX0_init 16 = .ok (.if_icmp .ge 22, 3) := by decide +kernel
theorem dX0_init_19 : decode cX0_init 19 = .ok (.aload_n 0, 1) := by decide +kernel
theorem dX0_init_20 : decode cX0_init 20 = .ok (.getfield 11, 3) := by decide +kernel
theorem dX0_init_23 : decode cX0_init 23 = .ok (.iload_n 1, 1) := by decide +kernel
theorem dX0_init_24 : decode cX0_init 24 = .ok (.new 9, 3) := by decide +kernel
theorem dX0_init_27 : decode cX0_init 27 = .ok (.dup, 1) := by decide +kernel
theorem dX0_init_28 : decode cX0_init 28 = .ok (.invokespecial 17, 3) := by decide +kernel
theorem dX0_init_31 : decode cX0_init 31 = .ok (.aastore, 1) := by decide +kernel
theorem dX0_init_32 : decode cX0_init 32 = .ok (.iinc 1 1, 3) := by decide +kernel
theorem dX0_init_35 : decode cX0_init 35 = .ok (.goto (-21), 3) := by decide +kernel
theorem dX0_init_38 : decode cX0_init 38 = .ok (.aload_n 0, 1) := by decide +kernel
theorem dX0_init_39 : decode cX0_init 39 = .ok (.iconst 0, 1) := by decide +kernel
theorem dX0_init_40 : decode cX0_init 40 = .ok (.putfield 18, 3) := by decide +kernel
theorem dX0_init_43 : decode cX0_init 43 = .ok (.return_, 1) := by decide +kernel
theorem dX0_remember_0 : decode cX0_remember 0 = .ok (.aload_n 0, 1) := by decide +kernel
theorem dX0_remember_1 : decode cX0_remember 1 = .ok (.getfield 18, 3) := by decide +kernel
theorem dX0_remember_4 : decode cX0_remember 4 = .ok (.iconst 4, 1) := by decide +kernel
theorem dX0_remember_5 : decode cX0_remember 5 = .ok (.if_icmp .lt 7, 3) := by decide +kernel
theorem dX0_remember_8 : decode cX0_remember 8 = .ok (.aload_n 0, 1) := by decide +kernel
theorem dX0_remember_9 : decode cX0_remember 9 = .ok (.invokevirtual 22, 3) := by decide +kernel
theorem dX0_remember_12 : decode cX0_remember 12 = .ok (.aload_n 0, 1) := by decide +kernel
theorem dX0_remember_13 : decode cX0_remember 13 = .ok (.getfield 11, 3) := by decide +kernel
theorem dX0_remember_16 : decode cX0_remember 16 = .ok (.aload_n 0, 1) := by decide +kernel
theorem dX0_remember_17 : decode cX0_remember 17 = .ok (.getfield 18, 3) := by decide +kernel
theorem dX0_remember_20 : decode cX0_remember 20 = .ok (.aaload, 1) := by decide +kernel
theorem dX0_remember_21 : decode cX0_remember 21 = .ok (.aload_n 1, 1) := by decide +kernel
theorem dX0_remember_22 : decode cX0_remember 22 = .ok (.invokevirtual 25, 3) := by decide +kernel
theorem dX0_remember_25 : decode cX0_remember 25 = .ok (.aload_n 0, 1) := by decide +kernel
theorem dX0_remember_26 : decode cX0_remember 26 = .ok (.dup, 1) := by decide +kernel
theorem dX0_remember_27 : decode cX0_remember 27 = .ok (.getfield 18, 3) := by decide +kernel
theorem dX0_remember_30 : decode cX0_remember 30 = .ok (.iconst 1, 1) := by decide +kernel
theorem dX0_remember_31 : decode cX0_remember 31 = .ok (.iadd, 1) := by decide +kernel
theorem dX0_remember_32 : decode cX0_remember 32 = .ok (.putfield 18, 3) := by decide +kernel
theorem dX0_remember_35 : decode cX0_remember 35 = .ok (.return_, 1) := by decide +kernel
theorem dX0_dropOldest_0 : decode cX0_dropOldest 0 = .ok (.aload_n 0, 1) := by decide +kernel
theorem dX0_dropOldest_1 : decode cX0_dropOldest 1 = .ok (.getfield 11, 3) := by decide +kernel
theorem dX0_dropOldest_4 : decode cX0_dropOldest 4 = .ok (.iconst 0, 1) := by decide +kernel
theorem dX0_dropOldest_5 : decode cX0_dropOldest 5 = .ok (.aaload, 1) := by decide +kernel
theorem dX0_dropOldest_6 : decode cX0_dropOldest 6 = .ok (.astore_n 1, 1) := by decide +kernel
theorem dX0_dropOldest_7 : decode cX0_dropOldest 7 = .ok (.iconst 1, 1) := by decide +kernel
theorem dX0_dropOldest_8 : decode cX0_dropOldest 8 = .ok (.istore_n 2, 1) := by decide +kernel
theorem dX0_dropOldest_9 : decode cX0_dropOldest 9 = .ok (.iload_n 2, 1) := by decide +kernel
theorem dX0_dropOldest_10 : decode cX0_dropOldest 10 = .ok (.iconst 4, 1) := by decide +kernel
theorem dX0_dropOldest_11 : decode cX0_dropOldest 11 = .ok (.if_icmp .ge 23, 3) := by decide +kernel
theorem dX0_dropOldest_14 : decode cX0_dropOldest 14 = .ok (.aload_n 0, 1) := by decide +kernel
theorem dX0_dropOldest_15 : decode cX0_dropOldest 15 = .ok (.getfield 11, 3) := by decide +kernel
theorem dX0_dropOldest_18 : decode cX0_dropOldest 18 = .ok (.iload_n 2, 1) := by decide +kernel
theorem dX0_dropOldest_19 : decode cX0_dropOldest 19 = .ok (.iconst 1, 1) := by decide +kernel
theorem dX0_dropOldest_20 : decode cX0_dropOldest 20 = .ok (.isub, 1) := by decide +kernel
theorem dX0_dropOldest_21 : decode cX0_dropOldest 21 = .ok (.aload_n 0, 1) := by decide +kernel
theorem dX0_dropOldest_22 : decode cX0_dropOldest 22 = .ok (.getfield 11, 3) := by decide +kernel
theorem dX0_dropOldest_25 : decode cX0_dropOldest 25 = .ok (.iload_n 2, 1) := by decide +kernel
theorem dX0_dropOldest_26 : decode cX0_dropOldest 26 = .ok (.aaload, 1) := by decide +kernel
theorem dX0_dropOldest_27 : decode cX0_dropOldest 27 = .ok (.aastore, 1) := by decide +kernel
theorem dX0_dropOldest_28 : decode cX0_dropOldest 28 = .ok (.iinc 2 1, 3) := by decide +kernel
theorem dX0_dropOldest_31 : decode cX0_dropOldest 31 = .ok (.goto (-22), 3) := by decide +kernel
theorem dX0_dropOldest_34 : decode cX0_dropOldest 34 = .ok (.aload_n 0, 1) := by decide +kernel
theorem dX0_dropOldest_35 : decode cX0_dropOldest 35 = .ok (.getfield 11, 3) := by decide +kernel
theorem dX0_dropOldest_38 : decode cX0_dropOldest 38 = .ok (.iconst 3, 1) := by decide +kernel
theorem dX0_dropOldest_39 : decode cX0_dropOldest 39 = .ok (.aload_n 1, 1) := by decide +kernel
theorem dX0_dropOldest_40 : decode cX0_dropOldest 40 = .ok (.aastore, 1) := by decide +kernel
theorem dX0_dropOldest_41 : decode cX0_dropOldest 41 = .ok (.aload_n 0, 1) := by decide +kernel
theorem dX0_dropOldest_42 : decode cX0_dropOldest 42 = .ok (.iconst 3, 1) := by decide +kernel
theorem dX0_dropOldest_43 : decode cX0_dropOldest 43 = .ok (.putfield 18, 3) := by decide +kernel
theorem dX0_dropOldest_46 : decode cX0_dropOldest 46 = .ok (.return_, 1) := by decide +kernel
theorem dX0_takeBack_0 : decode cX0_takeBack 0 = .ok (.aload_n 0, 1) := by decide +kernel
theorem dX0_takeBack_1 : decode cX0_takeBack 1 = .ok (.getfield 18, 3) := by decide +kernel
theorem dX0_takeBack_4 : decode cX0_takeBack 4 = .ok (.ifCond .le 26, 3) := by decide +kernel
theorem dX0_takeBack_7 : decode cX0_takeBack 7 = .ok (.aload_n 0, 1) := by decide +kernel
theorem dX0_takeBack_8 : decode cX0_takeBack 8 = .ok (.dup, 1) := by decide +kernel
theorem dX0_takeBack_9 : decode cX0_takeBack 9 = .ok (.getfield 18, 3) := by decide +kernel
theorem dX0_takeBack_12 : decode cX0_takeBack 12 = .ok (.iconst 1, 1) := by decide +kernel
theorem dX0_takeBack_13 : decode cX0_takeBack 13 = .ok (.isub, 1) := by decide +kernel
theorem dX0_takeBack_14 : decode cX0_takeBack 14 = .ok (.putfield 18, 3) := by decide +kernel
theorem dX0_takeBack_17 : decode cX0_takeBack 17 = .ok (.aload_n 1, 1) := by decide +kernel
theorem dX0_takeBack_18 : decode cX0_takeBack 18 = .ok (.aload_n 0, 1) := by decide +kernel
theorem dX0_takeBack_19 : decode cX0_takeBack 19 = .ok (.getfield 11, 3) := by decide +kernel
theorem dX0_takeBack_22 : decode cX0_takeBack 22 = .ok (.aload_n 0, 1) := by decide +kernel
theorem dX0_takeBack_23 : decode cX0_takeBack 23 = .ok (.getfield 18, 3) := by decide +kernel
theorem dX0_takeBack_26 : decode cX0_takeBack 26 = .ok (.aaload, 1) := by decide +kernel
theorem dX0_takeBack_27 : decode cX0_takeBack 27 = .ok (.invokevirtual 25, 3) := by decide +kernel
theorem dX0_takeBack_30 : decode cX0_takeBack 30 = .ok (.return_, 1) := by decide +kernel
theorem dX1_init_0 : decode cX1_init 0 = .ok (.aload_n 0, 1) := by decide +kernel
theorem dX1_init_1 : decode cX1_init 1 = .ok (.invokespecial 3, 3) := by decide +kernel
theorem dX1_init_4 : decode cX1_init 4 = .ok (.aload_n 0, 1) := by decide +kernel
theorem dX1_init_5 : decode cX1_init 5 = .ok (.iconst 0, 1) := by decide +kernel
theorem dX1_init_6 : decode cX1_init 6 = .ok (.putfield 9, 3) := by decide +kernel
theorem dX1_init_9 : decode cX1_init 9 = .ok (.aload_n 0, 1) := by decide +kernel
theorem dX1_init_10 : decode cX1_init 10 = .ok (.iconst 0, 1) := by decide +kernel
theorem dX1_init_11 : decode cX1_init 11 = .ok (.putfield 15, 3) := by decide +kernel
theorem dX1_init_14 : decode cX1_init 14 = .ok (.aload_n 0, 1) := by decide +kernel
theorem dX1_init_15 : decode cX1_init 15 = .ok (.sipush 1024, 3) := by decide +kernel
theorem dX1_init_18 : decode cX1_init 18 = .ok (.newarray .int, 2) := by decide +kernel
theorem dX1_init_20 : decode cX1_init 20 = .ok (.putfield 18, 3) := by decide +kernel
theorem dX1_init_23 : decode cX1_init 23 = .ok (.aload_n 0, 1) := by decide +kernel
theorem dX1_init_24 : decode cX1_init 24 = .ok (.sipush 512, 3) := by decide +kernel
theorem dX1_init_27 : decode cX1_init 27 = .ok (.newarray .int, 2) := by decide +kernel
theorem dX1_init_29 : decode cX1_init 29 = .ok (.putfield 22, 3) := by decide +kernel
theorem dX1_init_32 : decode cX1_init 32 = .ok (.aload_n 0, 1) := by decide +kernel
theorem dX1_init_33 : decode cX1_init 33 = .ok (.iconst 0, 1) := by decide +kernel
theorem dX1_init_34 : decode cX1_init 34 = .ok (.putfield 25, 3) := by decide +kernel
theorem dX1_init_37 : decode cX1_init 37 = .ok (.aload_n 0, 1) := by decide +kernel
theorem dX1_init_38 : decode cX1_init 38 = .ok (.iconst 0, 1) := by decide +kernel
theorem dX1_init_39 : decode cX1_init 39 = .ok (.putfield 28, 3) := by decide +kernel
theorem dX1_init_42 : decode cX1_init 42 = .ok (.aload_n 0, 1) := by decide +kernel
theorem dX1_init_43 : decode cX1_init 43 = .ok (.sipush 511, 3) := by decide +kernel
theorem dX1_init_46 : decode cX1_init 46 = .ok (.newarray .int, 2) := by decide +kernel
theorem dX1_init_48 : decode cX1_init 48 = .ok (.putfield 31, 3) := by decide +kernel
theorem dX1_init_51 : decode cX1_init 51 = .ok (.aload_n 0, 1) := by decide +kernel
theorem dX1_init_52 : decode cX1_init 52 = .ok (.iconst 0, 1) := by decide +kernel
theorem dX1_init_53 : decode cX1_init 53 = .ok (.putfield 34, 3) := by decide +kernel
theorem dX1_init_56 : decode cX1_init 56 = .ok (.aload_n 0, 1) := by decide +kernel
theorem dX1_init_57 : decode cX1_init 57 = .ok (.bipush 45, 2) := by decide +kernel
theorem dX1_init_59 : decode cX1_init 59 = .ok (.newarray .int, 2) := by decide +kernel
theorem dX1_init_61 : decode cX1_init 61 = .ok (.putfield 37, 3) := by decide +kernel
theorem dX1_init_64 : decode cX1_init 64 = .ok (.return_, 1) := by decide +kernel
theorem dX1_measure_0 : decode cX1_measure 0 = .ok (.aload_n 0, 1) := by decide +kernel
theorem dX1_measure_1 : decode cX1_measure 1 = .ok (.aload_n 1, 1) := by decide +kernel
theorem dX1_measure_2 : decode cX1_measure 2 = .ok (.getfield 40, 3) := by decide +kernel
theorem dX1_measure_5 : decode cX1_measure 5 = .ok (.putfield 9, 3) := by decide +kernel
theorem dX1_measure_8 : decode cX1_measure 8 = .ok (.aload_n 0, 1) := by decide +kernel
theorem dX1_measure_9 : decode cX1_measure 9 = .ok (.iconst 1, 1) := by decide +kernel
theorem dX1_measure_10 : decode cX1_measure 10 = .ok (.aload_n 0, 1) := by decide +kernel
theorem dX1_measure_11 : decode cX1_measure 11 = .ok (.getfield 9, 3) := by decide +kernel
theorem dX1_measure_14 : decode cX1_measure 14 = .ok (.ishl, 1) := by decide +kernel
theorem dX1_measure_15 : decode cX1_measure 15 = .ok (.putfield 15, 3) := by decide +kernel
theorem dX1_measure_18 : decode cX1_measure 18 = .ok (.iconst 1, 1) := by decide +kernel
theorem dX1_measure_19 : decode cX1_measure 19 = .ok (.istore_n 2, 1) := by decide +kernel
theorem dX1_measure_20 : decode cX1_measure 20 = .ok (.iload_n 2, 1) := by decide +kernel
theorem dX1_measure_21 : decode cX1_measure 21 = .ok (.aload_n 0, 1) := by decide +kernel
theorem dX1_measure_22 : decode cX1_measure 22 = .ok (.getfield 9, 3) := by decide +kernel
theorem dX1_measure_25 : decode cX1_measure 25 = .ok (.if_icmp .ge 21, 3) := by decide +kernel
theorem dX1_measure_28 : decode cX1_measure 28 = .ok (.aload_n 0, 1) := by decide +kernel
theorem dX1_measure_29 : decode cX1_measure 29 = .ok (.aload_n 1, 1) := by decide +kernel
theorem dX1_measure_30 : decode cX1_measure 30 = .ok (.iload_n 2, 1) := by decide +kernel
theorem dX1_measure_31 : decode cX1_measure 31 = .ok (.invokevirtual 43, 3) := by decide +kernel
theorem dX1_measure_34 : decode cX1_measure 34 = .ok (.aload_n 0, 1) := by decide +kernel
theorem dX1_measure_35 : decode cX1_measure 35 = .ok (.aload_n 1, 1) := by decide +kernel
theorem dX1_measure_36 : decode cX1_measure 36 = .ok (.iload_n 2, 1) := by decide +kernel
theorem dX1_measure_37 : decode cX1_measure 37 = .ok (.invokevirtual 47, 3) := by decide +kernel
theorem dX1_measure_40 : decode cX1_measure 40 = .ok (.iinc 2 1, 3) := by decide +kernel
theorem dX1_measure_43 : decode cX1_measure 43 = .ok (.goto (-23), 3) := by decide +kernel
theorem dX1_measure_46 : decode cX1_measure 46 = .ok (.aload_n 0, 1) := by decide +kernel
theorem dX1_measure_47 : decode cX1_measure 47 = .ok (.invokevirtual 50, 3) := by decide +kernel
theorem dX1_measure_50 : decode cX1_measure 50 = .ok (.aload_n 0, 1) := by decide +kernel
theorem dX1_measure_51 : decode cX1_measure 51 = .ok (.aload_n 1, 1) := by decide +kernel
theorem dX1_measure_52 : decode cX1_measure 52 = .ok (.invokevirtual 53, 3) := by decide +kernel
theorem dX1_measure_55 : decode cX1_measure 55 = .ok (.return_, 1) := by decide +kernel
theorem dX1_measurePulls_0 : decode cX1_measurePulls 0 = .ok (.iconst 1, 1) := by decide +kernel
theorem dX1_measurePulls_1 : decode cX1_measurePulls 1 = .ok (.istore_n 3, 1) := by decide +kernel
theorem dX1_measurePulls_2 : decode cX1_measurePulls 2 = .ok (.iload_n 3, 1) := by decide +kernel
theorem dX1_measurePulls_3 : decode cX1_measurePulls 3 = .ok (.iload_n 2, 1) := by decide +kernel
theorem dX1_measurePulls_4 : decode cX1_measurePulls 4 = .ok (.if_icmp .ge 55, 3) := by decide +kernel
theorem dX1_measurePulls_7 : decode cX1_measurePulls 7 = .ok (.aload_n 1, 1) := by decide +kernel
theorem dX1_measurePulls_8 : decode cX1_measurePulls 8 = .ok (.iload_n 3, 1) := by decide +kernel
theorem dX1_measurePulls_9 : decode cX1_measurePulls 9 = .ok (.iload_n 2, 1) := by decide +kernel
theorem dX1_measurePulls_10 : decode cX1_measurePulls 10 = .ok (.invokevirtual 57, 3) := by decide +kernel
theorem dX1_measurePulls_13 : decode cX1_measurePulls 13 = .ok (.istore 4, 2) := by decide +kernel
theorem dX1_measurePulls_15 : decode cX1_measurePulls 15 = .ok (.iconst 0, 1) := by decide +kernel
theorem dX1_measurePulls_16 : decode cX1_measurePulls 16 = .ok (.istore 5, 2) := by decide +kernel
theorem dX1_measurePulls_18 : decode cX1_measurePulls 18 = .ok (.iload 5, 2) := by decide +kernel
theorem dX1_measurePulls_20 : decode cX1_measurePulls 20 = .ok (.iconst 1, 1) := by decide +kernel
theorem dX1_measurePulls_21 : decode cX1_measurePulls 21 = .ok (.iload_n 3, 1) := by decide +kernel
theorem dX1_measurePulls_22 : decode cX1_measurePulls 22 = .ok (.ishl, 1) := by decide +kernel
theorem dX1_measurePulls_23 : decode cX1_measurePulls 23 = .ok (.if_icmp .ge 30, 3) := by decide +kernel
theorem dX1_measurePulls_26 : decode cX1_measurePulls 26 = .ok (.aload_n 0, 1) := by decide +kernel
theorem dX1_measurePulls_27 : decode cX1_measurePulls 27 = .ok (.getfield 22, 3) := by decide +kernel
theorem dX1_measurePulls_30 : decode cX1_measurePulls 30 = .ok (.iload 5, 2) := by decide +kernel
theorem dX1_measurePulls_32 : decode cX1_measurePulls 32 = .ok (.iconst 1, 1) := by decide +kernel
theorem dX1_measurePulls_33 : decode cX1_measurePulls 33 = .ok (.iload_n 3, 1) := by decide +kernel
theorem dX1_measurePulls_34 : decode cX1_measurePulls 34 = .ok (.ishl, 1) := by decide +kernel
theorem dX1_measurePulls_35 : decode cX1_measurePulls 35 = .ok (.ior, 1) := by decide +kernel
theorem dX1_measurePulls_36 : decode cX1_measurePulls 36 = .ok (.aload_n 0, 1) := by decide +kernel
theorem dX1_measurePulls_37 : decode cX1_measurePulls 37 = .ok (.getfield 22, 3) := by decide +kernel
theorem dX1_measurePulls_40 : decode cX1_measurePulls 40 = .ok (.iload 5, 2) := by decide +kernel
theorem dX1_measurePulls_42 : decode cX1_measurePulls 42 = .ok (.iaload, 1) := by decide +kernel
theorem dX1_measurePulls_43 : decode cX1_measurePulls 43 = .ok (.iload 4, 2) := by decide +kernel
theorem dX1_measurePulls_45 : decode cX1_measurePulls 45 = .ok (.iadd, 1) := by decide +kernel
theorem dX1_measurePulls_46 : decode cX1_measurePulls 46 = .ok (.iastore, 1) := by decide +kernel
theorem dX1_measurePulls_47 : decode cX1_measurePulls 47 = .ok (.iinc 5 2, 3) := by decide +kernel
theorem dX1_measurePulls_50 : decode cX1_measurePulls 50 = .ok (.goto (-32), 3) := by decide +kernel
theorem dX1_measurePulls_53 : decode cX1_measurePulls 53 = .ok (.iinc 3 1, 3) := by decide +kernel
theorem dX1_measurePulls_56 : decode cX1_measurePulls 56 = .ok (.goto (-54), 3) := by decide +kernel
theorem dX1_measurePulls_59 : decode cX1_measurePulls 59 = .ok (.return_, 1) := by decide +kernel
theorem dX1_measureWith_0 : decode cX1_measureWith 0 = .ok (.aload_n 1, 1) := by decide +kernel
theorem dX1_measureWith_1 : decode cX1_measureWith 1 = .ok (.iload_n 2, 1) := by decide +kernel
theorem dX1_measureWith_2 : decode cX1_measureWith 2 = .ok (.invokevirtual 61, 3) := by decide +kernel
theorem dX1_measureWith_5 : decode cX1_measureWith 5 = .ok (.istore_n 3, 1) := by decide +kernel
theorem dX1_measureWith_6 : decode cX1_measureWith 6 = .ok (.iconst 0, 1) := by decide +kernel
theorem dX1_measureWith_7 : decode cX1_measureWith 7 = .ok (.istore 4, 2) := by decide +kernel
theorem dX1_measureWith_9 : decode cX1_measureWith 9 = .ok (.iload 4, 2) := by decide +kernel
theorem dX1_measureWith_11 : decode cX1_measureWith 11 = .ok (.iconst 1, 1) := by decide +kernel
theorem dX1_measureWith_12 : decode cX1_measureWith 12 = .ok (.iload_n 2, 1) := by decide +kernel
theorem dX1_measureWith_13 : decode cX1_measureWith 13 = .ok (.ishl, 1) := by decide +kernel
theorem dX1_measureWith_14 : decode cX1_measureWith 14 = .ok (.if_icmp .ge 39, 3) := by decide +kernel
theorem dX1_measureWith_17 : decode cX1_measureWith 17 = .ok (.aload_n 0, 1) := by decide +kernel
theorem dX1_measureWith_18 : decode cX1_measureWith 18 = .ok (.getfield 18, 3) := by decide +kernel
theorem dX1_measureWith_21 : decode cX1_measureWith 21 = .ok (.iload 4, 2) := by decide +kernel
theorem dX1_measureWith_23 : decode cX1_measureWith 23 = .ok (.iconst 1, 1) := by decide +kernel
theorem dX1_measureWith_24 : decode cX1_measureWith 24 = .ok (.iload_n 2, 1) := by decide +kernel
theorem dX1_measureWith_25 : decode cX1_measureWith 25 = .ok (.ishl, 1) := by decide +kernel
theorem dX1_measureWith_26 : decode cX1_measureWith 26 = .ok (.ior, 1) := by decide +kernel
theorem dX1_measureWith_27 : decode cX1_measureWith 27 = .ok (.aload_n 0, 1) := by decide +kernel
theorem dX1_measureWith_28 : decode cX1_measureWith 28 = .ok (.getfield 18, 3) := by decide +kernel
theorem dX1_measureWith_31 : decode cX1_measureWith 31 = .ok (.iload 4, 2) := by decide +kernel
theorem dX1_measureWith_33 : decode cX1_measureWith 33 = .ok (.iaload, 1) := by decide +kernel
theorem dX1_measureWith_34 : decode cX1_measureWith 34 = .ok (.iload_n 3, 1) := by decide +kernel
theorem dX1_measureWith_35 : decode cX1_measureWith 35 = .ok (.iadd, 1) := by decide +kernel
theorem dX1_measureWith_36 : decode cX1_measureWith 36 = .ok (.iconst 2, 1) := by decide +kernel
theorem dX1_measureWith_37 : decode cX1_measureWith 37 = .ok (.aload_n 0, 1) := by decide +kernel
theorem dX1_measureWith_38 : decode cX1_measureWith 38 = .ok (.getfield 22, 3) := by decide +kernel
theorem dX1_measureWith_41 : decode cX1_measureWith 41 = .ok (.iload 4, 2) := by decide +kernel
theorem dX1_measureWith_43 : decode cX1_measureWith 43 = .ok (.iaload, 1) := by decide +kernel
theorem dX1_measureWith_44 : decode cX1_measureWith 44 = .ok (.imul, 1) := by decide +kernel
theorem dX1_measureWith_45 : decode cX1_measureWith 45 = .ok (.isub, 1) := by decide +kernel
theorem dX1_measureWith_46 : decode cX1_measureWith 46 = .ok (.iastore, 1) := by decide +kernel
theorem dX1_measureWith_47 : decode cX1_measureWith 47 = .ok (.iinc 4 2, 3) := by decide +kernel
theorem dX1_measureWith_50 : decode cX1_measureWith 50 = .ok (.goto (-41), 3) := by decide +kernel
theorem dX1_measureWith_53 : decode cX1_measureWith 53 = .ok (.return_, 1) := by decide +kernel
theorem dX1_findLeast_0 : decode cX1_findLeast 0 = .ok (.aload_n 0, 1) := by decide +kernel
theorem dX1_findLeast_1 : decode cX1_findLeast 1 = .ok (.iconst 0, 1) := by decide +kernel
theorem dX1_findLeast_2 : decode cX1_findLeast 2 = .ok (.putfield 28, 3) := by decide +kernel
theorem dX1_findLeast_5 : decode cX1_findLeast 5 = .ok (.iconst 2, 1) := by decide +kernel
theorem dX1_findLeast_6 : decode cX1_findLeast 6 = .ok (.istore_n 1, 1) := by decide +kernel
theorem dX1_findLeast_7 : decode cX1_findLeast 7 = .ok (.iload_n 1, 1) := by decide +kernel
theorem dX1_findLeast_8 : decode cX1_findLeast 8 = .ok (.aload_n 0, 1) := by decide +kernel
theorem dX1_findLeast_9 : decode cX1_findLeast 9 = .ok (.getfield 15, 3) := by decide +kernel
theorem dX1_findLeast_12 : decode cX1_findLeast 12 = .ok (.if_icmp .ge 77, 3) := by decide +kernel
theorem dX1_findLeast_15 : decode cX1_findLeast 15 = .ok (.aload_n 0, 1) := by decide +kernel
theorem dX1_findLeast_16 : decode cX1_findLeast 16 = .ok (.getfield 28, 3) := by decide +kernel
theorem dX1_findLeast_19 : decode cX1_findLeast 19 = .ok (.ifCond .eq 16, 3) := by decide +kernel
theorem dX1_findLeast_22 : decode cX1_findLeast 22 = .ok (.aload_n 0, 1) := by decide +kernel
theorem dX1_findLeast_23 : decode cX1_findLeast 23 = .ok (.getfield 18, 3) := by decide +kernel
theorem dX1_findLeast_26 : decode cX1_findLeast 26 = .ok (.iload_n 1, 1) := by decide +kernel
theorem dX1_findLeast_27 : decode cX1_findLeast 27 = .ok (.iaload, 1) := by decide +kernel
theorem dX1_findLeast_28 : decode cX1_findLeast 28 = .ok (.aload_n 0, 1) := by decide +kernel
theorem dX1_findLeast_29 : decode cX1_findLeast 29 = .ok (.getfield 25, 3) := by decide +kernel
theorem dX1_findLeast_32 : decode cX1_findLeast 32 = .ok (.if_icmp .ge 18, 3) := by decide +kernel
theorem dX1_findLeast_35 : decode cX1_findLeast 35 = .ok (.aload_n 0, 1) := by decide +kernel
theorem dX1_findLeast_36 : decode cX1_findLeast 36 = .ok (.aload_n 0, 1) := by decide +kernel
theorem dX1_findLeast_37 : decode cX1_findLeast 37 = .ok (.getfield 18, 3) := by decide +kernel
theorem dX1_findLeast_40 : decode cX1_findLeast 40 = .ok (.iload_n 1, 1) := by decide +kernel
theorem dX1_findLeast_41 : decode cX1_findLeast 41 = .ok (.iaload, 1) := by decide +kernel
theorem dX1_findLeast_42 : decode cX1_findLeast 42 = .ok (.putfield 25, 3) := by decide +kernel
theorem dX1_findLeast_45 : decode cX1_findLeast 45 = .ok (.aload_n 0, 1) := by decide +kernel
theorem dX1_findLeast_46 : decode cX1_findLeast 46 = .ok (.iconst 0, 1) := by decide +kernel
theorem dX1_findLeast_47 : decode cX1_findLeast 47 = .ok (.putfield 28, 3) := by decide +kernel
theorem dX1_findLeast_50 : decode cX1_findLeast 50 = .ok (.aload_n 0, 1) := by decide +kernel
theorem dX1_findLeast_51 : decode cX1_findLeast 51 = .ok (.getfield 18, 3) := by decide +kernel
theorem dX1_findLeast_54 : decode cX1_findLeast 54 = .ok (.iload_n 1, 1) := by decide +kernel
theorem dX1_findLeast_55 : decode cX1_findLeast 55 = .ok (.iaload, 1) := by decide +kernel
theorem dX1_findLeast_56 : decode cX1_findLeast 56 = .ok (.aload_n 0, 1) := by decide +kernel
theorem dX1_findLeast_57 : decode cX1_findLeast 57 = .ok (.getfield 25, 3) := by decide +kernel
theorem dX1_findLeast_60 : decode cX1_findLeast 60 = .ok (.if_icmp .ne 23, 3) := by decide +kernel
theorem dX1_findLeast_63 : decode cX1_findLeast 63 = .ok (.aload_n 0, 1) := by decide +kernel
theorem dX1_findLeast_64 : decode cX1_findLeast 64 = .ok (.getfield 31, 3) := by decide +kernel
theorem dX1_findLeast_67 : decode cX1_findLeast 67 = .ok (.aload_n 0, 1) := by decide +kernel
theorem dX1_findLeast_68 : decode cX1_findLeast 68 = .ok (.getfield 28, 3) := by decide +kernel
theorem dX1_findLeast_71 : decode cX1_findLeast 71 = .ok (.iload_n 1, 1) := by decide +kernel
theorem dX1_findLeast_72 : decode cX1_findLeast 72 = .ok (.iastore, 1) := by decide +kernel
theorem dX1_findLeast_73 : decode cX1_findLeast 73 = .ok (.aload_n 0, 1) := by decide +kernel
theorem dX1_findLeast_74 : decode cX1_findLeast 74 = .ok (.dup, 1) := by decide +kernel
theorem dX1_findLeast_75 : decode cX1_findLeast 75 = .ok (.getfield 28, 3) := by decide +kernel
theorem dX1_findLeast_78 : decode cX1_findLeast 78 = .ok (.iconst 1, 1) := by decide +kernel
theorem dX1_findLeast_79 : decode cX1_findLeast 79 = .ok (.iadd, 1) := by decide +kernel
theorem dX1_findLeast_80 : decode cX1_findLeast 80 = .ok (.putfield 28, 3) := by decide +kernel
theorem dX1_findLeast_83 : decode cX1_findLeast 83 = .ok (.iinc 1 2, 3) := by decide +kernel
theorem dX1_findLeast_86 : decode cX1_findLeast 86 = .ok (.goto (-79), 3) := by decide +kernel
theorem dX1_findLeast_89 : decode cX1_findLeast 89 = .ok (.return_, 1) := by decide +kernel
theorem dX1_findTight_0 : decode cX1_findTight 0 = .ok (.aload_n 0, 1) := by decide +kernel
theorem dX1_findTight_1 : decode cX1_findTight 1 = .ok (.iconst 0, 1) := by decide +kernel
theorem dX1_findTight_2 : decode cX1_findTight 2 = .ok (.putfield 34, 3) := by decide +kernel
theorem dX1_findTight_5 : decode cX1_findTight 5 = .ok (.iconst 0, 1) := by decide +kernel
theorem dX1_findTight_6 : decode cX1_findTight 6 = .ok (.istore_n 2, 1) := by decide +kernel
theorem dX1_findTight_7 : decode cX1_findTight 7 = .ok (.iload_n 2, 1) := by decide +kernel
theorem dX1_findTight_8 : decode cX1_findTight 8 = .ok (.aload_n 0, 1) := by decide +kernel
theorem dX1_findTight_9 : decode cX1_findTight 9 = .ok (.getfield 9, 3) := by decide +kernel
theorem dX1_findTight_12 : decode cX1_findTight 12 = .ok (.if_icmp .ge 69, 3) := by decide +kernel
theorem dX1_findTight_15 : decode cX1_findTight 15 = .ok (.iload_n 2, 1) := by decide +kernel
theorem dX1_findTight_16 : decode cX1_findTight 16 = .ok (.iconst 1, 1) := by decide +kernel
theorem dX1_findTight_17 : decode cX1_findTight 17 = .ok (.iadd, 1) := by decide +kernel
theorem dX1_findTight_18 : decode cX1_findTight 18 = .ok (.istore_n 3, 1) := by decide +kernel
theorem dX1_findTight_19 : decode cX1_findTight 19 = .ok (.iload_n 3, 1) := by decide +kernel
theorem dX1_findTight_20 : decode cX1_findTight 20 = .ok (.aload_n 0, 1) := by decide +kernel
theorem dX1_findTight_21 : decode cX1_findTight 21 = .ok (.getfield 9, 3) := by decide +kernel
theorem dX1_findTight_24 : decode cX1_findTight 24 = .ok (.if_icmp .ge 51, 3) := by decide +kernel
theorem dX1_findTight_27 : decode cX1_findTight 27 = .ok (.aload_n 1, 1) := by decide +kernel
theorem dX1_findTight_28 : decode cX1_findTight 28 = .ok (.iload_n 2, 1) := by decide +kernel
theorem dX1_findTight_29 : decode cX1_findTight 29 = .ok (.iload_n 3, 1) := by decide +kernel
theorem dX1_findTight_30 : decode cX1_findTight 30 = .ok (.invokevirtual 57, 3) := by decide +kernel
theorem dX1_findTight_33 : decode cX1_findTight 33 = .ok (.ifCond .le 36, 3) := by decide +kernel
theorem dX1_findTight_36 : decode cX1_findTight 36 = .ok (.aload_n 0, 1) := by decide +kernel
theorem dX1_findTight_37 : decode cX1_findTight 37 = .ok (.iload_n 2, 1) := by decide +kernel
theorem dX1_findTight_38 : decode cX1_findTight 38 = .ok (.iload_n 3, 1) := by decide +kernel
theorem dX1_findTight_39 : decode cX1_findTight 39 = .ok (.invokevirtual 65, 3) := by decide +kernel
theorem dX1_findTight_42 : decode cX1_findTight 42 = .ok (.ifCond .eq 27, 3) := by decide +kernel
theorem dX1_findTight_45 : decode cX1_findTight 45 = .ok (.aload_n 0, 1) := by decide +kernel
theorem dX1_findTight_46 : decode cX1_findTight 46 = .ok (.getfield 37, 3) := by decide +kernel
theorem dX1_findTight_49 : decode cX1_findTight 49 = .ok (.aload_n 0, 1) := by decide +kernel
theorem dX1_findTight_50 : decode cX1_findTight 50 = .ok (.getfield 34, 3) := by decide +kernel
theorem dX1_findTight_53 : decode cX1_findTight 53 = .ok (.iload_n 2, 1) := by decide +kernel
theorem dX1_findTight_54 : decode cX1_findTight 54 = .ok (.iload_n 3, 1) := by decide +kernel
theorem dX1_findTight_55 : decode cX1_findTight 55 = .ok (.invokestatic 69, 3) := by decide +kernel
theorem dX1_findTight_58 : decode cX1_findTight 58 = .ok (.iastore, 1) := by decide +kernel
theorem dX1_findTight_59 : decode cX1_findTight 59 = .ok (.aload_n 0, 1) := by decide +kernel
theorem dX1_findTight_60 : decode cX1_findTight 60 = .ok (.dup, 1) := by decide +kernel
theorem dX1_findTight_61 : decode cX1_findTight 61 = .ok (.getfield 34, 3) := by decide +kernel
theorem dX1_findTight_64 : decode cX1_findTight 64 = .ok (.iconst 1, 1) := by decide +kernel
theorem dX1_findTight_65 : decode cX1_findTight 65 = .ok (.iadd, 1) := by decide +kernel
theorem dX1_findTight_66 : decode cX1_findTight 66 = .ok (.putfield 34, 3) := by decide +kernel
theorem dX1_findTight_69 : decode cX1_findTight 69 = .ok (.iinc 3 1, 3) := by decide +kernel
theorem dX1_findTight_72 : decode cX1_findTight 72 = .ok (.goto (-53), 3) := by decide +kernel
theorem dX1_findTight_75 : decode cX1_findTight 75 = .ok (.iinc 2 1, 3) := by decide +kernel
theorem dX1_findTight_78 : decode cX1_findTight 78 = .ok (.goto (-71), 3) := by decide +kernel
theorem dX1_findTight_81 : decode cX1_findTight 81 = .ok (.return_, 1) := by decide +kernel
theorem dX1_partedByAllLeast_0 : decode cX1_partedByAllLeast 0 = .ok (.iconst 0, 1) := by decide +kernel
theorem dX1_partedByAllLeast_1 : decode cX1_partedByAllLeast 1 = .ok (.istore_n 3, 1) := by decide +kernel
theorem dX1_partedByAllLeast_2 : decode cX1_partedByAllLeast 2 = .ok (.iload_n 3, 1) := by decide +kernel
theorem dX1_partedByAllLeast_3 : decode cX1_partedByAllLeast 3 = .ok (.aload_n 0, 1) := by decide +kernel
theorem dX1_partedByAllLeast_4 : decode cX1_partedByAllLeast 4 = .ok (.getfield 28, 3) := by decide +kernel
theorem dX1_partedByAllLeast_7 : decode cX1_partedByAllLeast 7 = .ok (.if_icmp .ge 25, 3) := by decide +kernel
theorem dX1_partedByAllLeast_10 : decode cX1_partedByAllLeast 10 = .ok (.aload_n 0, 1) := by decide +kernel
theorem dX1_partedByAllLeast_11 : decode cX1_partedByAllLeast 11 = .ok (.getfield 31, 3) := by decide +kernel
theorem dX1_partedByAllLeast_14 : decode cX1_partedByAllLeast 14 = .ok (.iload_n 3, 1) := by decide +kernel
theorem dX1_partedByAllLeast_15 : decode cX1_partedByAllLeast 15 = .ok (.iaload, 1) := by decide +kernel
theorem dX1_partedByAllLeast_16 : decode cX1_partedByAllLeast 16 = .ok (.iload_n 1, 1) := by decide +kernel
theorem dX1_partedByAllLeast_17 : decode cX1_partedByAllLeast 17 = .ok (.iload_n 2, 1) := by decide +kernel
theorem dX1_partedByAllLeast_18 : decode cX1_partedByAllLeast 18 = .ok (.invokestatic 72, 3) := by decide +kernel
theorem dX1_partedByAllLeast_21 : decode cX1_partedByAllLeast 21 = .ok (.ifCond .ne 5, 3) := by decide +kernel
theorem dX1_partedByAllLeast_24 : decode cX1_partedByAllLeast 24 = .ok (.iconst 0, 1) := by decide +kernel
theorem dX1_partedByAllLeast_25 : decode cX1_partedByAllLeast 25 = .ok (.ireturn, 1) := by decide +kernel
theorem dX1_partedByAllLeast_26 : decode cX1_partedByAllLeast 26 = .ok (.iinc 3 1, 3) := by decide +kernel
theorem dX1_partedByAllLeast_29 : decode cX1_partedByAllLeast 29 = .ok (.goto (-27), 3) := by decide +kernel
theorem dX1_partedByAllLeast_32 : decode cX1_partedByAllLeast 32 = .ok (.iconst 1, 1) := by decide +kernel
theorem dX1_partedByAllLeast_33 : decode cX1_partedByAllLeast 33 = .ok (.ireturn, 1) := by decide +kernel
theorem dX1_isParting_0 : decode cX1_isParting 0 = .ok (.iload_n 1, 1) := by decide +kernel
theorem dX1_isParting_1 : decode cX1_isParting 1 = .ok (.ifCond .le 23, 3) := by decide +kernel
theorem dX1_isParting_4 : decode cX1_isParting 4 = .ok (.iload_n 1, 1) := by decide +kernel
theorem dX1_isParting_5 : decode cX1_isParting 5 = .ok (.aload_n 0, 1) := by decide +kernel
theorem dX1_isParting_6 : decode cX1_isParting 6 = .ok (.getfield 15, 3) := by decide +kernel
theorem dX1_isParting_9 : decode cX1_isParting 9 = .ok (.if_icmp .ge 15, 3) := by decide +kernel
theorem dX1_isParting_12 : decode cX1_isParting 12 = .ok (.iload_n 1, 1) := by decide +kernel
theorem dX1_isParting_13 : decode cX1_isParting 13 = .ok (.iconst 0, 1) := by decide +kernel
theorem dX1_isParting_14 : decode cX1_isParting 14 = .ok (.invokestatic 76, 3) := by decide +kernel
theorem dX1_isParting_17 : decode cX1_isParting 17 = .ok (.ifCond .ne 7, 3) := by decide +kernel
theorem dX1_isParting_20 : decode cX1_isParting 20 = .ok (.iconst 1, 1) := by decide +kernel
theorem dX1_isParting_21 : decode cX1_isParting 21 = .ok (.goto 4, 3) := by decide +kernel
theorem dX1_isParting_24 : decode cX1_isParting 24 = .ok (.iconst 0, 1) := by decide +kernel
theorem dX1_isParting_25 : decode cX1_isParting 25 = .ok (.ireturn, 1) := by decide +kernel
theorem dX1_weightOf_0 : decode cX1_weightOf 0 = .ok (.aload_n 0, 1) := by decide +kernel
theorem dX1_weightOf_1 : decode cX1_weightOf 1 = .ok (.iload_n 1, 1) := by decide +kernel
theorem dX1_weightOf_2 : decode cX1_weightOf 2 = .ok (.invokevirtual 79, 3) := by decide +kernel
theorem dX1_weightOf_5 : decode cX1_weightOf 5 = .ok (.ifCond .eq 12, 3) := by decide +kernel
theorem dX1_weightOf_8 : decode cX1_weightOf 8 = .ok (.aload_n 0, 1) := by decide +kernel
theorem dX1_weightOf_9 : decode cX1_weightOf 9 = .ok (.getfield 18, 3) := by decide +kernel
theorem dX1_weightOf_12 : decode cX1_weightOf 12 = .ok (.iload_n 1, 1) := by decide +kernel
theorem dX1_weightOf_13 : decode cX1_weightOf 13 = .ok (.iaload, 1) := by decide +kernel
theorem dX1_weightOf_14 : decode cX1_weightOf 14 = .ok (.goto 4, 3) := by decide +kernel
theorem dX1_weightOf_17 : decode cX1_weightOf 17 = .ok (.iconst 0, 1) := by decide +kernel
theorem dX1_weightOf_18 : decode cX1_weightOf 18 = .ok (.ireturn, 1) := by decide +kernel
theorem dX1_leastAt_0 : decode cX1_leastAt 0 = .ok (.iload_n 1, 1) := by decide +kernel
theorem dX1_leastAt_1 : decode cX1_leastAt 1 = .ok (.ifCond .lt 20, 3) := by decide +kernel
theorem dX1_leastAt_4 : decode cX1_leastAt 4 = .ok (.iload_n 1, 1) := by decide +kernel
theorem dX1_leastAt_5 : decode cX1_leastAt 5 = .ok (.aload_n 0, 1) := by decide +kernel
theorem dX1_leastAt_6 : decode cX1_leastAt 6 = .ok (.getfield 28, 3) := by decide +kernel
theorem dX1_leastAt_9 : decode cX1_leastAt 9 = .ok (.if_icmp .ge 12, 3) := by decide +kernel
theorem dX1_leastAt_12 : decode cX1_leastAt 12 = .ok (.aload_n 0, 1) := by decide +kernel
theorem dX1_leastAt_13 : decode cX1_leastAt 13 = .ok (.getfield 31, 3) := by decide +kernel
theorem dX1_leastAt_16 : decode cX1_leastAt 16 = .ok (.iload_n 1, 1) := by decide +kernel
theorem dX1_leastAt_17 : decode cX1_leastAt 17 = .ok (.iaload, 1) := by decide +kernel
theorem dX1_leastAt_18 : decode cX1_leastAt 18 = .ok (.goto 4, 3) := by decide +kernel
theorem dX1_leastAt_21 : decode cX1_leastAt 21 = .ok (.iconst 0, 1) := by decide +kernel
theorem dX1_leastAt_22 : decode cX1_leastAt 22 = .ok (.ireturn, 1) := by decide +kernel
theorem dX1_tightAt_0 : decode cX1_tightAt 0 = .ok (.iload_n 1, 1) := by decide +kernel
theorem dX1_tightAt_1 : decode cX1_tightAt 1 = .ok (.ifCond .lt 20, 3) := by decide +kernel
theorem dX1_tightAt_4 : decode cX1_tightAt 4 = .ok (.iload_n 1, 1) := by decide +kernel
theorem dX1_tightAt_5 : decode cX1_tightAt 5 = .ok (.aload_n 0, 1) := by decide +kernel
theorem dX1_tightAt_6 : decode cX1_tightAt 6 = .ok (.getfield 34, 3) := by decide +kernel
theorem dX1_tightAt_9 : decode cX1_tightAt 9 = .ok (.if_icmp .ge 12, 3) := by decide +kernel
theorem dX1_tightAt_12 : decode cX1_tightAt 12 = .ok (.aload_n 0, 1) := by decide +kernel
theorem dX1_tightAt_13 : decode cX1_tightAt 13 = .ok (.getfield 37, 3) := by decide +kernel
theorem dX1_tightAt_16 : decode cX1_tightAt 16 = .ok (.iload_n 1, 1) := by decide +kernel
theorem dX1_tightAt_17 : decode cX1_tightAt 17 = .ok (.iaload, 1) := by decide +kernel
theorem dX1_tightAt_18 : decode cX1_tightAt 18 = .ok (.goto 4, 3) := by decide +kernel
theorem dX1_tightAt_21 : decode cX1_tightAt 21 = .ok (.iconst 0, 1) := by decide +kernel
theorem dX1_tightAt_22 : decode cX1_tightAt 22 = .ok (.ireturn, 1) := by decide +kernel
theorem dX1_tightPairsOf_0 : decode cX1_tightPairsOf 0 = .ok (.iconst 0, 1) := by decide +kernel
theorem dX1_tightPairsOf_1 : decode cX1_tightPairsOf 1 = .ok (.istore_n 2, 1) := by decide +kernel
theorem dX1_tightPairsOf_2 : decode cX1_tightPairsOf 2 = .ok (.iconst 0, 1) := by decide +kernel
theorem dX1_tightPairsOf_3 : decode cX1_tightPairsOf 3 = .ok (.istore_n 3, 1) := by decide +kernel
theorem dX1_tightPairsOf_4 : decode cX1_tightPairsOf 4 = .ok (.iload_n 3, 1) := by decide +kernel
theorem dX1_tightPairsOf_5 : decode cX1_tightPairsOf 5 = .ok (.aload_n 0, 1) := by decide +kernel
theorem dX1_tightPairsOf_6 : decode cX1_tightPairsOf 6 = .ok (.getfield 34, 3) := by decide +kernel
theorem dX1_tightPairsOf_9 : decode cX1_tightPairsOf 9 = .ok (.if_icmp .ge 38, 3) := by decide +kernel
theorem dX1_tightPairsOf_12 : decode cX1_tightPairsOf 12 = .ok (.aload_n 0, 1) := by decide +kernel
theorem dX1_tightPairsOf_13 : decode cX1_tightPairsOf 13 = .ok (.getfield 37, 3) := by decide +kernel
theorem dX1_tightPairsOf_16 : decode cX1_tightPairsOf 16 = .ok (.iload_n 3, 1) := by decide +kernel
theorem dX1_tightPairsOf_17 : decode cX1_tightPairsOf 17 = .ok (.iaload, 1) := by decide +kernel
theorem dX1_tightPairsOf_18 : decode cX1_tightPairsOf 18 = .ok (.bipush 10, 2) := by decide +kernel
theorem dX1_tightPairsOf_20 : decode cX1_tightPairsOf 20 = .ok (.idiv, 1) := by decide +kernel
theorem dX1_tightPairsOf_21 : decode cX1_tightPairsOf 21 = .ok (.iload_n 1, 1) := by decide +kernel
theorem dX1_tightPairsOf_22 : decode cX1_tightPairsOf 22 = .ok (.if_icmp .eq 16, 3) := by decide +kernel
theorem dX1_tightPairsOf_25 : decode cX1_tightPairsOf 25 = .ok (.aload_n 0, 1) := by decide +kernel
theorem dX1_tightPairsOf_26 : decode cX1_tightPairsOf 26 = .ok (.getfield 37, 3) := by decide +kernel
theorem dX1_tightPairsOf_29 : decode cX1_tightPairsOf 29 = .ok (.iload_n 3, 1) := by decide +kernel
theorem dX1_tightPairsOf_30 : decode cX1_tightPairsOf 30 = .ok (.iaload, 1) := by decide +kernel
theorem dX1_tightPairsOf_31 : decode cX1_tightPairsOf 31 = .ok (.bipush 10, 2) := by decide +kernel
theorem dX1_tightPairsOf_33 : decode cX1_tightPairsOf 33 = .ok (.irem, 1) := by decide +kernel
theorem dX1_tightPairsOf_34 : decode cX1_tightPairsOf 34 = .ok (.iload_n 1, 1) := by decide +kernel
theorem dX1_tightPairsOf_35 : decode cX1_tightPairsOf 35 = .ok (.if_icmp .ne 6, 3) := by decide +kernel
theorem dX1_tightPairsOf_38 : decode cX1_tightPairsOf 38 = .ok (.iinc 2 1, 3) := by decide +kernel
theorem dX1_tightPairsOf_41 : decode cX1_tightPairsOf 41 = .ok (.iinc 3 1, 3) := by decide +kernel
theorem dX1_tightPairsOf_44 : decode cX1_tightPairsOf 44 = .ok (.goto (-40), 3) := by decide +kernel
theorem dX1_tightPairsOf_47 : decode cX1_tightPairsOf 47 = .ok (.iload_n 2, 1) := by decide +kernel
theorem dX1_tightPairsOf_48 : decode cX1_tightPairsOf 48 = .ok (.ireturn, 1) := by decide +kernel
theorem dX1_isFair_0 : decode cX1_isFair 0 = .ok (.iload_n 1, 1) := by decide +kernel
theorem dX1_isFair_1 : decode cX1_isFair 1 = .ok (.invokestatic 83, 3) := by decide +kernel
theorem dX1_isFair_4 : decode cX1_isFair 4 = .ok (.istore_n 3, 1) := by decide +kernel
theorem dX1_isFair_5 : decode cX1_isFair 5 = .ok (.iload_n 3, 1) := by decide +kernel
theorem dX1_isFair_6 : decode cX1_isFair 6 = .ok (.iload_n 2, 1) := by decide +kernel
theorem dX1_isFair_7 : decode cX1_isFair 7 = .ok (.if_icmp .lt 17, 3) := by decide +kernel
theorem dX1_isFair_10 : decode cX1_isFair 10 = .ok (.aload_n 0, 1) := by decide +kernel
theorem dX1_isFair_11 : decode cX1_isFair 11 = .ok (.getfield 9, 3) := by decide +kernel
theorem dX1_isFair_14 : decode cX1_isFair 14 = .ok (.iload_n 3, 1) := by decide +kernel
theorem dX1_isFair_15 : decode cX1_isFair 15 = .ok (.isub, 1) := by decide +kernel
theorem dX1_isFair_16 : decode cX1_isFair 16 = .ok (.iload_n 2, 1) := by decide +kernel
theorem dX1_isFair_17 : decode cX1_isFair 17 = .ok (.if_icmp .lt 7, 3) := by decide +kernel
theorem dX1_isFair_20 : decode cX1_isFair 20 = .ok (.iconst 1, 1) := by decide +kernel
theorem dX1_isFair_21 : decode cX1_isFair 21 = .ok (.goto 4, 3) := by decide +kernel
theorem dX1_isFair_24 : decode cX1_isFair 24 = .ok (.iconst 0, 1) := by decide +kernel
theorem dX1_isFair_25 : decode cX1_isFair 25 = .ok (.ireturn, 1) := by decide +kernel
theorem dX1_fairCount_0 : decode cX1_fairCount 0 = .ok (.iconst 0, 1) := by decide +kernel
theorem dX1_fairCount_1 : decode cX1_fairCount 1 = .ok (.istore_n 2, 1) := by decide +kernel
theorem dX1_fairCount_2 : decode cX1_fairCount 2 = .ok (.iconst 2, 1) := by decide +kernel
theorem dX1_fairCount_3 : decode cX1_fairCount 3 = .ok (.istore_n 3, 1) := by decide +kernel
theorem dX1_fairCount_4 : decode cX1_fairCount 4 = .ok (.iload_n 3, 1) := by decide +kernel
theorem dX1_fairCount_5 : decode cX1_fairCount 5 = .ok (.aload_n 0, 1) := by decide +kernel
theorem dX1_fairCount_6 : decode cX1_fairCount 6 = .ok (.getfield 15, 3) := by decide +kernel
theorem dX1_fairCount_9 : decode cX1_fairCount 9 = .ok (.if_icmp .ge 21, 3) := by decide +kernel
theorem dX1_fairCount_12 : decode cX1_fairCount 12 = .ok (.aload_n 0, 1) := by decide +kernel
theorem dX1_fairCount_13 : decode cX1_fairCount 13 = .ok (.iload_n 3, 1) := by decide +kernel
theorem dX1_fairCount_14 : decode cX1_fairCount 14 = .ok (.iload_n 1, 1) := by decide +kernel
theorem dX1_fairCount_15 : decode cX1_fairCount 15 = .ok (.invokevirtual 88, 3) := by decide +kernel
theorem dX1_fairCount_18 : decode cX1_fairCount 18 = .ok (.ifCond .eq 6, 3) := by decide +kernel
theorem dX1_fairCount_21 : decode cX1_fairCount 21 = .ok (.iinc 2 1, 3) := by decide +kernel
theorem dX1_fairCount_24 : decode cX1_fairCount 24 = .ok (.iinc 3 2, 3) := by decide +kernel
theorem dX1_fairCount_27 : decode cX1_fairCount 27 = .ok (.goto (-23), 3) := by decide +kernel
theorem dX1_fairCount_30 : decode cX1_fairCount 30 = .ok (.iload_n 2, 1) := by decide +kernel
theorem dX1_fairCount_31 : decode cX1_fairCount 31 = .ok (.ireturn, 1) := by decide +kernel
theorem dX1_leastFair_0 : decode cX1_leastFair 0 = .ok (.iconst 0, 1) := by decide +kernel
theorem dX1_leastFair_1 : decode cX1_leastFair 1 = .ok (.istore_n 2, 1) := by decide +kernel
theorem dX1_leastFair_2 : decode cX1_leastFair 2 = .ok (.iconst 2, 1) := by decide +kernel
theorem dX1_leastFair_3 : decode cX1_leastFair 3 = .ok (.istore_n 3, 1) := by decide +kernel
theorem dX1_leastFair_4 : decode cX1_leastFair 4 = .ok (.iload_n 3, 1) := by decide +kernel
theorem dX1_leastFair_5 : decode cX1_leastFair 5 = .ok (.aload_n 0, 1) := by decide +kernel
theorem dX1_leastFair_6 : decode cX1_leastFair 6 = .ok (.getfield 15, 3) := by decide +kernel
theorem dX1_leastFair_9 : decode cX1_leastFair 9 = .ok (.if_icmp .ge 39, 3) := by decide +kernel
theorem dX1_leastFair_12 : decode cX1_leastFair 12 = .ok (.aload_n 0, 1) := by decide +kernel
theorem dX1_leastFair_13 : decode cX1_leastFair 13 = .ok (.iload_n 3, 1) := by decide +kernel
theorem dX1_leastFair_14 : decode cX1_leastFair 14 = .ok (.iload_n 1, 1) := by decide +kernel
theorem dX1_leastFair_15 : decode cX1_leastFair 15 = .ok (.invokevirtual 88, 3) := by decide +kernel
theorem dX1_leastFair_18 : decode cX1_leastFair 18 = .ok (.ifCond .eq 24, 3) := by decide +kernel
theorem dX1_leastFair_21 : decode cX1_leastFair 21 = .ok (.iload_n 2, 1) := by decide +kernel
theorem dX1_leastFair_22 : decode cX1_leastFair 22 = .ok (.ifCond .eq 18, 3) := by decide +kernel
theorem dX1_leastFair_25 : decode cX1_leastFair 25 = .ok (.aload_n 0, 1) := by decide +kernel
theorem dX1_leastFair_26 : decode cX1_leastFair 26 = .ok (.getfield 18, 3) := by decide +kernel
theorem dX1_leastFair_29 : decode cX1_leastFair 29 = .ok (.iload_n 3, 1) := by decide +kernel
theorem dX1_leastFair_30 : decode cX1_leastFair 30 = .ok (.iaload, 1) := by decide +kernel
theorem dX1_leastFair_31 : decode cX1_leastFair 31 = .ok (.aload_n 0, 1) := by decide +kernel
theorem dX1_leastFair_32 : decode cX1_leastFair 32 = .ok (.getfield 18, 3) := by decide +kernel
theorem dX1_leastFair_35 : decode cX1_leastFair 35 = .ok (.iload_n 2, 1) := by decide +kernel
theorem dX1_leastFair_36 : decode cX1_leastFair 36 = .ok (.iaload, 1) := by decide +kernel
theorem dX1_leastFair_37 : decode cX1_leastFair 37 = .ok (.if_icmp .ge 5, 3) := by decide +kernel
theorem dX1_leastFair_40 : decode cX1_leastFair 40 = .ok (.iload_n 3, 1) := by decide +kernel
theorem dX1_leastFair_41 : decode cX1_leastFair 41 = .ok (.istore_n 2, 1) := by decide +kernel
theorem dX1_leastFair_42 : decode cX1_leastFair 42 = .ok (.iinc 3 2, 3) := by decide +kernel
theorem dX1_leastFair_45 : decode cX1_leastFair 45 = .ok (.goto (-41), 3) := by decide +kernel
theorem dX1_leastFair_48 : decode cX1_leastFair 48 = .ok (.iload_n 2, 1) := by decide +kernel
theorem dX1_leastFair_49 : decode cX1_leastFair 49 = .ok (.ireturn, 1) := by decide +kernel
theorem dX1_leastBetween_0 : decode cX1_leastBetween 0 = .ok (.iconst 0, 1) := by decide +kernel
theorem dX1_leastBetween_1 : decode cX1_leastBetween 1 = .ok (.istore_n 3, 1) := by decide +kernel
theorem dX1_leastBetween_2 : decode cX1_leastBetween 2 = .ok (.iconst 2, 1) := by decide +kernel
theorem dX1_leastBetween_3 : decode cX1_leastBetween 3 = .ok (.istore 4, 2) := by decide +kernel
theorem dX1_leastBetween_5 : decode cX1_leastBetween 5 = .ok (.iload 4, 2) := by decide +kernel
theorem dX1_leastBetween_7 : decode cX1_leastBetween 7 = .ok (.aload_n 0, 1) := by decide +kernel
theorem dX1_leastBetween_8 : decode cX1_leastBetween 8 = .ok (.getfield 15, 3) := by decide +kernel
theorem dX1_leastBetween_11 : decode cX1_leastBetween 11 = .ok (.if_icmp .ge 42, 3) := by decide +kernel
theorem dX1_leastBetween_14 : decode cX1_leastBetween 14 = .ok (.iload 4, 2) := by decide +kernel
theorem dX1_leastBetween_16 : decode cX1_leastBetween 16 = .ok (.iload_n 1, 1) := by decide +kernel
theorem dX1_leastBetween_17 : decode cX1_leastBetween 17 = .ok (.iload_n 2, 1) := by decide +kernel
theorem dX1_leastBetween_18 : decode cX1_leastBetween 18 = .ok (.invokestatic 72, 3) := by decide +kernel
theorem dX1_leastBetween_21 : decode cX1_leastBetween 21 = .ok (.ifCond .eq 26, 3) := by decide +kernel
theorem dX1_leastBetween_24 : decode cX1_leastBetween 24 = .ok (.iload_n 3, 1) := by decide +kernel
theorem dX1_leastBetween_25 : decode cX1_leastBetween 25 = .ok (.ifCond .eq 19, 3) := by decide +kernel
theorem dX1_leastBetween_28 : decode cX1_leastBetween 28 = .ok (.aload_n 0, 1) := by decide +kernel
theorem dX1_leastBetween_29 : decode cX1_leastBetween 29 = .ok (.getfield 18, 3) := by decide +kernel
theorem dX1_leastBetween_32 : decode cX1_leastBetween 32 = .ok (.iload 4, 2) := by decide +kernel
theorem dX1_leastBetween_34 : decode cX1_leastBetween 34 = .ok (.iaload, 1) := by decide +kernel
theorem dX1_leastBetween_35 : decode cX1_leastBetween 35 = .ok (.aload_n 0, 1) := by decide +kernel
theorem dX1_leastBetween_36 : decode cX1_leastBetween 36 = .ok (.getfield 18, 3) := by decide +kernel
theorem dX1_leastBetween_39 : decode cX1_leastBetween 39 = .ok (.iload_n 3, 1) := by decide +kernel
theorem dX1_leastBetween_40 : decode cX1_leastBetween 40 = .ok (.iaload, 1) := by decide +kernel
theorem dX1_leastBetween_41 : decode cX1_leastBetween 41 = .ok (.if_icmp .ge 6, 3) := by decide +kernel
theorem dX1_leastBetween_44 : decode cX1_leastBetween 44 = .ok (.iload 4, 2) := by decide +kernel
theorem dX1_leastBetween_46 : decode cX1_leastBetween 46 = .ok (.istore_n 3, 1) := by decide +kernel
theorem dX1_leastBetween_47 : decode cX1_leastBetween 47 = .ok (.iinc 4 2, 3) := by decide +kernel
theorem dX1_leastBetween_50 : decode cX1_leastBetween 50 = .ok (.goto (-45), 3) := by decide +kernel
theorem dX1_leastBetween_53 : decode cX1_leastBetween 53 = .ok (.iload_n 3, 1) := by decide +kernel
theorem dX1_leastBetween_54 : decode cX1_leastBetween 54 = .ok (.ireturn, 1) := by decide +kernel
theorem dX1_leastWeightWith_0 : decode cX1_leastWeightWith 0 = .ok (.iconst (-1), 1) := by decide +kernel
theorem dX1_leastWeightWith_1 : decode cX1_leastWeightWith 1 = .ok (.istore 4, 2) := by decide +kernel
theorem dX1_leastWeightWith_3 : decode cX1_leastWeightWith 3 = .ok (.iconst 2, 1) := by decide +kernel
theorem dX1_leastWeightWith_4 : decode cX1_leastWeightWith 4 = .ok (.istore 5, 2) := by decide +kernel
theorem dX1_leastWeightWith_6 : decode cX1_leastWeightWith 6 = .ok (.iload 5, 2) := by decide +kernel
theorem dX1_leastWeightWith_8 : decode cX1_leastWeightWith 8 = .ok (.aload_n 0, 1) := by decide +kernel
theorem dX1_leastWeightWith_9 : decode cX1_leastWeightWith 9 = .ok (.getfield 15, 3) := by decide +kernel
theorem dX1_leastWeightWith_12 : decode cX1_leastWeightWith 12 = .ok (.if_icmp .ge 56, 3) := by decide +kernel
theorem dX1_leastWeightWith_15 : decode cX1_leastWeightWith 15 = .ok (.iload 5, 2) := by decide +kernel
theorem dX1_leastWeightWith_17 : decode cX1_leastWeightWith 17 = .ok (.iload_n 1, 1) := by decide +kernel
theorem dX1_leastWeightWith_18 : decode cX1_leastWeightWith 18 = .ok (.iload_n 2, 1) := by decide +kernel
theorem dX1_leastWeightWith_19 : decode cX1_leastWeightWith 19 = .ok (.invokestatic 72, 3) := by decide +kernel
theorem dX1_leastWeightWith_22 : decode cX1_leastWeightWith 22 = .ok (.ifCond .eq 15, 3) := by decide +kernel
theorem dX1_leastWeightWith_25 : decode cX1_leastWeightWith 25 = .ok (.aload_n 0, 1) := by decide +kernel
theorem dX1_leastWeightWith_26 : decode cX1_leastWeightWith 26 = .ok (.getfield 18, 3) := by decide +kernel
theorem dX1_leastWeightWith_29 : decode cX1_leastWeightWith 29 = .ok (.iload 5, 2) := by decide +kernel
theorem dX1_leastWeightWith_31 : decode cX1_leastWeightWith 31 = .ok (.iaload, 1) := by decide +kernel
theorem dX1_leastWeightWith_32 : decode cX1_leastWeightWith 32 = .ok (.iload_n 3, 1) := by decide +kernel
theorem dX1_leastWeightWith_33 : decode cX1_leastWeightWith 33 = .ok (.iadd, 1) := by decide +kernel
theorem dX1_leastWeightWith_34 : decode cX1_leastWeightWith 34 = .ok (.goto 10, 3) := by decide +kernel
theorem dX1_leastWeightWith_37 : decode cX1_leastWeightWith 37 = .ok (.aload_n 0, 1) := by decide +kernel
theorem dX1_leastWeightWith_38 : decode cX1_leastWeightWith 38 = .ok (.getfield 18, 3) := by decide +kernel
theorem dX1_leastWeightWith_41 : decode cX1_leastWeightWith 41 = .ok (.iload 5, 2) := by decide +kernel
theorem dX1_leastWeightWith_43 : decode cX1_leastWeightWith 43 = .ok (.iaload, 1) := by decide +kernel
theorem dX1_leastWeightWith_44 : decode cX1_leastWeightWith 44 = .ok (.istore 6, 2) := by decide +kernel
theorem dX1_leastWeightWith_46 : decode cX1_leastWeightWith 46 = .ok (.iload 4, 2) := by decide +kernel
theorem dX1_leastWeightWith_48 : decode cX1_leastWeightWith 48 = .ok (.ifCond .lt 10, 3) := by decide +kernel
theorem dX1_leastWeightWith_51 : decode cX1_leastWeightWith 51 = .ok (.iload 6, 2) := by decide +kernel
theorem dX1_leastWeightWith_53 : decode cX1_leastWeightWith 53 = .ok (.iload 4, 2) := by decide +kernel
theorem dX1_leastWeightWith_55 : decode cX1_leastWeightWith 55 = .ok (.if_icmp .ge 7, 3) := by decide +kernel
theorem dX1_leastWeightWith_58 : decode cX1_leastWeightWith 58 = .ok (.iload 6, 2) := by decide +kernel
theorem dX1_leastWeightWith_60 : decode cX1_leastWeightWith 60 = .ok (.istore 4, 2) := by decide +kernel
theorem dX1_leastWeightWith_62 : decode cX1_leastWeightWith 62 = .ok (.iinc 5 2, 3) := by decide +kernel
theorem dX1_leastWeightWith_65 : decode cX1_leastWeightWith 65 = .ok (.goto (-59), 3) := by decide +kernel
theorem dX1_leastWeightWith_68 : decode cX1_leastWeightWith 68 = .ok (.iload 4, 2) := by decide +kernel
theorem dX1_leastWeightWith_70 : decode cX1_leastWeightWith 70 = .ok (.ireturn, 1) := by decide +kernel
theorem dX2_init_0 : decode cX2_init 0 = .ok (.aload_n 0, 1) := by decide +kernel
theorem dX2_init_1 : decode cX2_init 1 = .ok (.invokespecial 3, 3) := by decide +kernel
theorem dX2_init_4 : decode cX2_init 4 = .ok (.aload_n 0, 1) := by decide +kernel
theorem dX2_init_5 : decode cX2_init 5 = .ok (.iconst 0, 1) := by decide +kernel
theorem dX2_init_6 : decode cX2_init 6 = .ok (.putfield 9, 3) := by decide +kernel
theorem dX2_init_9 : decode cX2_init 9 = .ok (.aload_n 0, 1) := by decide +kernel
theorem dX2_init_10 : decode cX2_init 10 = .ok (.bipush 10, 2) := by decide +kernel
theorem dX2_init_12 : decode cX2_init 12 = .ok (.newarray .int, 2) := by decide +kernel
theorem dX2_init_14 : decode cX2_init 14 = .ok (.putfield 15, 3) := by decide +kernel
theorem dX2_init_17 : decode cX2_init 17 = .ok (.aload_n 0, 1) := by decide +kernel
theorem dX2_init_18 : decode cX2_init 18 = .ok (.bipush 100, 2) := by decide +kernel
theorem dX2_init_20 : decode cX2_init 20 = .ok (.newarray .int, 2) := by decide +kernel
theorem dX2_init_22 : decode cX2_init 22 = .ok (.putfield 19, 3) := by decide +kernel
theorem dX2_init_25 : decode cX2_init 25 = .ok (.aload_n 0, 1) := by decide +kernel
theorem dX2_init_26 : decode cX2_init 26 = .ok (.bipush 10, 2) := by decide +kernel
theorem dX2_init_28 : decode cX2_init 28 = .ok (.newarray .int, 2) := by decide +kernel
theorem dX2_init_30 : decode cX2_init 30 = .ok (.putfield 22, 3) := by decide +kernel
theorem dX2_init_33 : decode cX2_init 33 = .ok (.aload_n 0, 1) := by decide +kernel
theorem dX2_init_34 : decode cX2_init 34 = .ok (.bipush 90, 2) := by decide +kernel
theorem dX2_init_36 : decode cX2_init 36 = .ok (.newarray .int, 2) := by decide +kernel
theorem dX2_init_38 : decode cX2_init 38 = .ok (.putfield 25, 3) := by decide +kernel
theorem dX2_init_41 : decode cX2_init 41 = .ok (.aload_n 0, 1) := by decide +kernel
theorem dX2_init_42 : decode cX2_init 42 = .ok (.bipush 90, 2) := by decide +kernel
theorem dX2_init_44 : decode cX2_init 44 = .ok (.newarray .int, 2) := by decide +kernel
theorem dX2_init_46 : decode cX2_init 46 = .ok (.putfield 28, 3) := by decide +kernel
theorem dX2_init_49 : decode cX2_init 49 = .ok (.aload_n 0, 1) := by decide +kernel
theorem dX2_init_50 : decode cX2_init 50 = .ok (.bipush 9, 2) := by decide +kernel
theorem dX2_init_52 : decode cX2_init 52 = .ok (.newarray .int, 2) := by decide +kernel
theorem dX2_init_54 : decode cX2_init 54 = .ok (.putfield 31, 3) := by decide +kernel
theorem dX2_init_57 : decode cX2_init 57 = .ok (.aload_n 0, 1) := by decide +kernel
theorem dX2_init_58 : decode cX2_init 58 = .ok (.bipush 9, 2) := by decide +kernel
theorem dX2_init_60 : decode cX2_init 60 = .ok (.newarray .int, 2) := by decide +kernel
theorem dX2_init_62 : decode cX2_init 62 = .ok (.putfield 34, 3) := by decide +kernel
theorem dX2_init_65 : decode cX2_init 65 = .ok (.return_, 1) := by decide +kernel
theorem dX2_run_0 : decode cX2_run 0 = .ok (.aload_n 0, 1) := by decide +kernel
theorem dX2_run_1 : decode cX2_run 1 = .ok (.aload_n 1, 1) := by decide +kernel
theorem dX2_run_2 : decode cX2_run 2 = .ok (.invokevirtual 37, 3) := by decide +kernel
theorem dX2_run_5 : decode cX2_run 5 = .ok (.iconst 0, 1) := by decide +kernel
theorem dX2_run_6 : decode cX2_run 6 = .ok (.istore_n 2, 1) := by decide +kernel
theorem dX2_run_7 : decode cX2_run 7 = .ok (.iload_n 2, 1) := by decide +kernel
theorem dX2_run_8 : decode cX2_run 8 = .ok (.aload_n 0, 1) := by decide +kernel
theorem dX2_run_9 : decode cX2_run 9 = .ok (.getfield 9, 3) := by decide +kernel
theorem dX2_run_12 : decode cX2_run 12 = .ok (.iconst 1, 1) := by decide +kernel
theorem dX2_run_13 : decode cX2_run 13 = .ok (.isub, 1) := by decide +kernel
theorem dX2_run_14 : decode cX2_run 14 = .ok (.if_icmp .ge 27, 3) := by decide +kernel
theorem dX2_run_17 : decode cX2_run 17 = .ok (.aload_n 0, 1) := by decide +kernel
theorem dX2_run_18 : decode cX2_run 18 = .ok (.iload_n 2, 1) := by decide +kernel
theorem dX2_run_19 : decode cX2_run 19 = .ok (.aload_n 0, 1) := by decide +kernel
theorem dX2_run_20 : decode cX2_run 20 = .ok (.aload_n 1, 1) := by decide +kernel
theorem dX2_run_21 : decode cX2_run 21 = .ok (.getfield 41, 3) := by decide +kernel
theorem dX2_run_24 : decode cX2_run 24 = .ok (.invokevirtual 46, 3) := by decide +kernel
theorem dX2_run_27 : decode cX2_run 27 = .ok (.invokevirtual 50, 3) := by decide +kernel
theorem dX2_run_30 : decode cX2_run 30 = .ok (.aload_n 0, 1) := by decide +kernel
theorem dX2_run_31 : decode cX2_run 31 = .ok (.iload_n 2, 1) := by decide +kernel
theorem dX2_run_32 : decode cX2_run 32 = .ok (.invokevirtual 54, 3) := by decide +kernel
theorem dX2_run_35 : decode cX2_run 35 = .ok (.iinc 2 1, 3) := by decide +kernel
theorem dX2_run_38 : decode cX2_run 38 = .ok (.goto (-31), 3) := by decide +kernel
theorem dX2_run_41 : decode cX2_run 41 = .ok (.return_, 1) := by decide +kernel
theorem dX2_begin_0 : decode cX2_begin 0 = .ok (.aload_n 0, 1) := by decide +kernel
theorem dX2_begin_1 : decode cX2_begin 1 = .ok (.aload_n 1, 1) := by decide +kernel
theorem dX2_begin_2 : decode cX2_begin 2 = .ok (.getfield 58, 3) := by decide +kernel
theorem dX2_begin_5 : decode cX2_begin 5 = .ok (.putfield 9, 3) := by decide +kernel
theorem dX2_begin_8 : decode cX2_begin 8 = .ok (.iconst 0, 1) := by decide +kernel
theorem dX2_begin_9 : decode cX2_begin 9 = .ok (.istore_n 2, 1) := by decide +kernel
theorem dX2_begin_10 : decode cX2_begin 10 = .ok (.iload_n 2, 1) := by decide +kernel
theorem dX2_begin_11 : decode cX2_begin 11 = .ok (.aload_n 0, 1) := by decide +kernel
theorem dX2_begin_12 : decode cX2_begin 12 = .ok (.getfield 9, 3) := by decide +kernel
theorem dX2_begin_15 : decode cX2_begin 15 = .ok (.if_icmp .ge 51, 3) := by decide +kernel
theorem dX2_begin_18 : decode cX2_begin 18 = .ok (.aload_n 0, 1) := by decide +kernel
theorem dX2_begin_19 : decode cX2_begin 19 = .ok (.getfield 15, 3) := by decide +kernel
theorem dX2_begin_22 : decode cX2_begin 22 = .ok (.iload_n 2, 1) := by decide +kernel
theorem dX2_begin_23 : decode cX2_begin 23 = .ok (.iconst 1, 1) := by decide +kernel
theorem dX2_begin_24 : decode cX2_begin 24 = .ok (.iload_n 2, 1) := by decide +kernel
theorem dX2_begin_25 : decode cX2_begin 25 = .ok (.ishl, 1) := by decide +kernel
theorem dX2_begin_26 : decode cX2_begin 26 = .ok (.iastore, 1) := by decide +kernel
theorem dX2_begin_27 : decode cX2_begin 27 = .ok (.iconst 0, 1) := by decide +kernel
theorem dX2_begin_28 : decode cX2_begin 28 = .ok (.istore_n 3, 1) := by decide +kernel
theorem dX2_begin_29 : decode cX2_begin 29 = .ok (.iload_n 3, 1) := by decide +kernel
theorem dX2_begin_30 : decode cX2_begin 30 = .ok (.aload_n 0, 1) := by decide +kernel
theorem dX2_begin_31 : decode cX2_begin 31 = .ok (.getfield 9, 3) := by decide +kernel
theorem dX2_begin_34 : decode cX2_begin 34 = .ok (.if_icmp .ge 26, 3) := by decide +kernel
theorem dX2_begin_37 : decode cX2_begin 37 = .ok (.aload_n 0, 1) := by decide +kernel
theorem dX2_begin_38 : decode cX2_begin 38 = .ok (.getfield 19, 3) := by decide +kernel
theorem dX2_begin_41 : decode cX2_begin 41 = .ok (.iload_n 2, 1) := by decide +kernel
theorem dX2_begin_42 : decode cX2_begin 42 = .ok (.bipush 10, 2) := by decide +kernel
theorem dX2_begin_44 : decode cX2_begin 44 = .ok (.imul, 1) := by decide +kernel
theorem dX2_begin_45 : decode cX2_begin 45 = .ok (.iload_n 3, 1) := by decide +kernel
theorem dX2_begin_46 : decode cX2_begin 46 = .ok (.iadd, 1) := by decide +kernel
theorem dX2_begin_47 : decode cX2_begin 47 = .ok (.aload_n 1, 1) := by decide +kernel
theorem dX2_begin_48 : decode cX2_begin 48 = .ok (.iload_n 2, 1) := by decide +kernel
theorem dX2_begin_49 : decode cX2_begin 49 = .ok (.iload_n 3, 1) := by decide +kernel
theorem dX2_begin_50 : decode cX2_begin 50 = .ok (.invokevirtual 59, 3) := by decide +kernel
theorem dX2_begin_53 : decode cX2_begin 53 = .ok (.iastore, 1) := by decide +kernel
theorem dX2_begin_54 : decode cX2_begin 54 = .ok (.iinc 3 1, 3) := by decide +kernel
theorem dX2_begin_57 : decode cX2_begin 57 = .ok (.goto (-28), 3) := by decide +kernel
theorem dX2_begin_60 : decode cX2_begin 60 = .ok (.iinc 2 1, 3) := by decide +kernel
theorem dX2_begin_63 : decode cX2_begin 63 = .ok (.goto (-53), 3) := by decide +kernel
theorem dX2_begin_66 : decode cX2_begin 66 = .ok (.return_, 1) := by decide +kernel
theorem dX2_nameOfLumpWith_0 : decode cX2_nameOfLumpWith 0 = .ok (.iconst 0, 1) := by decide +kernel
theorem dX2_nameOfLumpWith_1 : decode cX2_nameOfLumpWith 1 = .ok (.istore_n 2, 1) := by decide +kernel
theorem dX2_nameOfLumpWith_2 : decode cX2_nameOfLumpWith 2 = .ok (.iload_n 2, 1) := by decide +kernel
theorem dX2_nameOfLumpWith_3 : decode cX2_nameOfLumpWith 3 = .ok (.aload_n 0, 1) := by decide +kernel
theorem dX2_nameOfLumpWith_4 : decode cX2_nameOfLumpWith 4 = .ok (.getfield 9, 3) := by decide +kernel
theorem dX2_nameOfLumpWith_7 : decode cX2_nameOfLumpWith 7 = .ok (.if_icmp .ge 24, 3) := by decide +kernel
theorem dX2_nameOfLumpWith_10 : decode cX2_nameOfLumpWith 10 = .ok (.aload_n 0, 1) := by decide +kernel
theorem dX2_nameOfLumpWith_11 : decode cX2_nameOfLumpWith 11 = .ok (.getfield 15, 3) := by decide +kernel
theorem dX2_nameOfLumpWith_14 : decode cX2_nameOfLumpWith 14 = .ok (.iload_n 2, 1) := by decide +kernel
theorem dX2_nameOfLumpWith_15 : decode cX2_nameOfLumpWith 15 = .ok (.iaload, 1) := by decide +kernel
theorem dX2_nameOfLumpWith_16 : decode cX2_nameOfLumpWith 16 = .ok (.iload_n 1, 1) := by decide +kernel
theorem dX2_nameOfLumpWith_17 : decode cX2_nameOfLumpWith 17 = .ok (.invokestatic 63, 3) := by decide +kernel
theorem dX2_nameOfLumpWith_20 : decode cX2_nameOfLumpWith 20 = .ok (.ifCond .eq 5, 3) := by decide +kernel
theorem dX2_nameOfLumpWith_23 : decode cX2_nameOfLumpWith 23 = .ok (.iload_n 2, 1) := by decide +kernel
theorem dX2_nameOfLumpWith_24 : decode cX2_nameOfLumpWith 24 = .ok (.ireturn, 1) := by decide +kernel
theorem dX2_nameOfLumpWith_25 : decode cX2_nameOfLumpWith 25 = .ok (.iinc 2 1, 3) := by decide +kernel
theorem dX2_nameOfLumpWith_28 : decode cX2_nameOfLumpWith 28 = .ok (.goto (-26), 3) := by decide +kernel
theorem dX2_nameOfLumpWith_31 : decode cX2_nameOfLumpWith 31 = .ok (.iconst 0, 1) := by decide +kernel
theorem dX2_nameOfLumpWith_32 : decode cX2_nameOfLumpWith 32 = .ok (.ireturn, 1) := by decide +kernel
theorem dX2_swallowAll_0 : decode cX2_swallowAll 0 = .ok (.iconst 0, 1) := by decide +kernel
theorem dX2_swallowAll_1 : decode cX2_swallowAll 1 = .ok (.istore_n 3, 1) := by decide +kernel
theorem dX2_swallowAll_2 : decode cX2_swallowAll 2 = .ok (.iconst 0, 1) := by decide +kernel
theorem dX2_swallowAll_3 : decode cX2_swallowAll 3 = .ok (.istore 4, 2) := by decide +kernel
theorem dX2_swallowAll_5 : decode cX2_swallowAll 5 = .ok (.iload 4, 2) := by decide +kernel
theorem dX2_swallowAll_7 : decode cX2_swallowAll 7 = .ok (.aload_n 0, 1) := by decide +kernel
theorem dX2_swallowAll_8 : decode cX2_swallowAll 8 = .ok (.getfield 9, 3) := by decide +kernel
theorem dX2_swallowAll_11 : decode cX2_swallowAll 11 = .ok (.if_icmp .ge 34, 3) := by decide +kernel
theorem dX2_swallowAll_14 : decode cX2_swallowAll 14 = .ok (.aload_n 0, 1) := by decide +kernel
theorem dX2_swallowAll_15 : decode cX2_swallowAll 15 = .ok (.getfield 22, 3) := by decide +kernel
theorem dX2_swallowAll_18 : decode cX2_swallowAll 18 = .ok (.iload 4, 2) := by decide +kernel
theorem dX2_swallowAll_20 : decode cX2_swallowAll 20 = .ok (.iconst 0, 1) := by decide +kernel
theorem dX2_swallowAll_21 : decode cX2_swallowAll 21 = .ok (.iastore, 1) := by decide +kernel
theorem dX2_swallowAll_22 : decode cX2_swallowAll 22 = .ok (.aload_n 0, 1) := by decide +kernel
theorem dX2_swallowAll_23 : decode cX2_swallowAll 23 = .ok (.getfield 15, 3) := by decide +kernel
theorem dX2_swallowAll_26 : decode cX2_swallowAll 26 = .ok (.iload 4, 2) := by decide +kernel
theorem dX2_swallowAll_28 : decode cX2_swallowAll 28 = .ok (.iaload, 1) := by decide +kernel
theorem dX2_swallowAll_29 : decode cX2_swallowAll 29 = .ok (.ifCond .eq 10, 3) := by decide +kernel
theorem dX2_swallowAll_32 : decode cX2_swallowAll 32 = .ok (.iload_n 3, 1) := by decide +kernel
theorem dX2_swallowAll_33 : decode cX2_swallowAll 33 = .ok (.iconst 1, 1) := by decide +kernel
theorem dX2_swallowAll_34 : decode cX2_swallowAll 34 = .ok (.iload 4, 2) := by decide +kernel
theorem dX2_swallowAll_36 : decode cX2_swallowAll 36 = .ok (.ishl, 1) := by decide +kernel
theorem dX2_swallowAll_37 : decode cX2_swallowAll 37 = .ok (.ior, 1) := by decide +kernel
theorem dX2_swallowAll_38 : decode cX2_swallowAll 38 = .ok (.istore_n 3, 1) := by decide +kernel
theorem dX2_swallowAll_39 : decode cX2_swallowAll 39 = .ok (.iinc 4 1, 3) := by decide +kernel
theorem dX2_swallowAll_42 : decode cX2_swallowAll 42 = .ok (.goto (-37), 3) := by decide +kernel
theorem dX2_swallowAll_45 : decode cX2_swallowAll 45 = .ok (.iload_n 2, 1) := by decide +kernel
theorem dX2_swallowAll_46 : decode cX2_swallowAll 46 = .ok (.istore 4, 2) := by decide +kernel
theorem dX2_swallowAll_48 : decode cX2_swallowAll 48 = .ok (.iconst 0, 1) := by decide +kernel
theorem dX2_swallowAll_49 : decode cX2_swallowAll 49 = .ok (.istore 5, 2) := by decide +kernel
theorem dX2_swallowAll_51 : decode cX2_swallowAll 51 = .ok (.iload 5, 2) := by decide +kernel
theorem dX2_swallowAll_53 : decode cX2_swallowAll 53 = .ok (.aload_n 0, 1) := by decide +kernel
theorem dX2_swallowAll_54 : decode cX2_swallowAll 54 = .ok (.iload_n 1, 1) := by decide +kernel
theorem dX2_swallowAll_55 : decode cX2_swallowAll 55 = .ok (.invokevirtual 67, 3) := by decide +kernel
theorem dX2_swallowAll_58 : decode cX2_swallowAll 58 = .ok (.if_icmp .ge 65, 3) := by decide +kernel
theorem dX2_swallowAll_61 : decode cX2_swallowAll 61 = .ok (.aload_n 0, 1) := by decide +kernel
theorem dX2_swallowAll_62 : decode cX2_swallowAll 62 = .ok (.getfield 25, 3) := by decide +kernel
theorem dX2_swallowAll_65 : decode cX2_swallowAll 65 = .ok (.iload_n 1, 1) := by decide +kernel
theorem dX2_swallowAll_66 : decode cX2_swallowAll 66 = .ok (.bipush 10, 2) := by decide +kernel
theorem dX2_swallowAll_68 : decode cX2_swallowAll 68 = .ok (.imul, 1) := by decide +kernel
theorem dX2_swallowAll_69 : decode cX2_swallowAll 69 = .ok (.iload 5, 2) := by decide +kernel
theorem dX2_swallowAll_71 : decode cX2_swallowAll 71 = .ok (.iadd, 1) := by decide +kernel
theorem dX2_swallowAll_72 : decode cX2_swallowAll 72 = .ok (.iload 4, 2) := by decide +kernel
theorem dX2_swallowAll_74 : decode cX2_swallowAll 74 = .ok (.iastore, 1) := by decide +kernel
theorem dX2_swallowAll_75 : decode cX2_swallowAll 75 = .ok (.aload_n 0, 1) := by decide +kernel
theorem dX2_swallowAll_76 : decode cX2_swallowAll 76 = .ok (.getfield 28, 3) := by decide +kernel
theorem dX2_swallowAll_79 : decode cX2_swallowAll 79 = .ok (.iload_n 1, 1) := by decide +kernel
theorem dX2_swallowAll_80 : decode cX2_swallowAll 80 = .ok (.bipush 10, 2) := by decide +kernel
theorem dX2_swallowAll_82 : decode cX2_swallowAll 82 = .ok (.imul, 1) := by decide +kernel
theorem dX2_swallowAll_83 : decode cX2_swallowAll 83 = .ok (.iload 5, 2) := by decide +kernel
theorem dX2_swallowAll_85 : decode cX2_swallowAll 85 = .ok (.iadd, 1) := by decide +kernel
theorem dX2_swallowAll_86 : decode cX2_swallowAll 86 = .ok (.aload_n 0, 1) := by decide +kernel
theorem dX2_swallowAll_87 : decode cX2_swallowAll 87 = .ok (.getfield 22, 3) := by decide +kernel
theorem dX2_swallowAll_90 : decode cX2_swallowAll 90 = .ok (.iload 4, 2) := by decide +kernel
theorem dX2_swallowAll_92 : decode cX2_swallowAll 92 = .ok (.iaload, 1) := by decide +kernel
theorem dX2_swallowAll_93 : decode cX2_swallowAll 93 = .ok (.iastore, 1) := by decide +kernel
theorem dX2_swallowAll_94 : decode cX2_swallowAll 94 = .ok (.iload_n 3, 1) := by decide +kernel
theorem dX2_swallowAll_95 : decode cX2_swallowAll 95 = .ok (.iconst 1, 1) := by decide +kernel
theorem dX2_swallowAll_96 : decode cX2_swallowAll 96 = .ok (.iload 4, 2) := by decide +kernel
theorem dX2_swallowAll_98 : decode cX2_swallowAll 98 = .ok (.ishl, 1) := by decide +kernel
theorem dX2_swallowAll_99 : decode cX2_swallowAll 99 = .ok (.iconst (-1), 1) := by decide +kernel
theorem dX2_swallowAll_100 : decode cX2_swallowAll 100 = .ok (.ixor, 1) := by decide +kernel
theorem dX2_swallowAll_101 : decode cX2_swallowAll 101 = .ok (.iand, 1) := by decide +kernel
theorem dX2_swallowAll_102 : decode cX2_swallowAll 102 = .ok (.istore_n 3, 1) := by decide +kernel
theorem dX2_swallowAll_103 : decode cX2_swallowAll 103 = .ok (.aload_n 0, 1) := by decide +kernel
theorem dX2_swallowAll_104 : decode cX2_swallowAll 104 = .ok (.iload_n 3, 1) := by decide +kernel
theorem dX2_swallowAll_105 : decode cX2_swallowAll 105 = .ok (.iload 4, 2) := by decide +kernel
theorem dX2_swallowAll_107 : decode cX2_swallowAll 107 = .ok (.invokevirtual 70, 3) := by decide +kernel
theorem dX2_swallowAll_110 : decode cX2_swallowAll 110 = .ok (.aload_n 0, 1) := by decide +kernel
theorem dX2_swallowAll_111 : decode cX2_swallowAll 111 = .ok (.iload_n 3, 1) := by decide +kernel
theorem dX2_swallowAll_112 : decode cX2_swallowAll 112 = .ok (.invokevirtual 73, 3) := by decide +kernel
theorem dX2_swallowAll_115 : decode cX2_swallowAll 115 = .ok (.istore 4, 2) := by decide +kernel
theorem dX2_swallowAll_117 : decode cX2_swallowAll 117 = .ok (.iinc 5 1, 3) := by decide +kernel
theorem dX2_swallowAll_120 : decode cX2_swallowAll 120 = .ok (.goto (-69), 3) := by decide +kernel
theorem dX2_swallowAll_123 : decode cX2_swallowAll 123 = .ok (.return_, 1) := by decide +kernel
theorem dX2_drawNearer_0 : decode cX2_drawNearer 0 = .ok (.iconst 0, 1) := by decide +kernel
theorem dX2_drawNearer_1 : decode cX2_drawNearer 1 = .ok (.istore_n 3, 1) := by decide +kernel
theorem dX2_drawNearer_2 : decode cX2_drawNearer 2 = .ok (.iload_n 3, 1) := by decide +kernel
theorem dX2_drawNearer_3 : decode cX2_drawNearer 3 = .ok (.aload_n 0, 1) := by decide +kernel
theorem dX2_drawNearer_4 : decode cX2_drawNearer 4 = .ok (.getfield 9, 3) := by decide +kernel
theorem dX2_drawNearer_7 : decode cX2_drawNearer 7 = .ok (.if_icmp .ge 37, 3) := by decide +kernel
theorem dX2_drawNearer_10 : decode cX2_drawNearer 10 = .ok (.iload_n 1, 1) := by decide +kernel
theorem dX2_drawNearer_11 : decode cX2_drawNearer 11 = .ok (.iload_n 3, 1) := by decide +kernel
theorem dX2_drawNearer_12 : decode cX2_drawNearer 12 = .ok (.invokestatic 63, 3) := by decide +kernel
theorem dX2_drawNearer_15 : decode cX2_drawNearer 15 = .ok (.ifCond .eq 23, 3) := by decide +kernel
theorem dX2_drawNearer_18 : decode cX2_drawNearer 18 = .ok (.aload_n 0, 1) := by decide +kernel
theorem dX2_drawNearer_19 : decode cX2_drawNearer 19 = .ok (.getfield 22, 3) := by decide +kernel
theorem dX2_drawNearer_22 : decode cX2_drawNearer 22 = .ok (.iload_n 3, 1) := by decide +kernel
theorem dX2_drawNearer_23 : decode cX2_drawNearer 23 = .ok (.dup2, 1) := by decide +kernel
theorem dX2_drawNearer_24 : decode cX2_drawNearer 24 = .ok (.iaload, 1) := by decide +kernel
theorem dX2_drawNearer_25 : decode cX2_drawNearer 25 = .ok (.aload_n 0, 1) := by decide +kernel
theorem dX2_drawNearer_26 : decode cX2_drawNearer 26 = .ok (.getfield 19, 3) := by decide +kernel
theorem dX2_drawNearer_29 : decode cX2_drawNearer 29 = .ok (.iload_n 2, 1) := by decide +kernel
theorem dX2_drawNearer_30 : decode cX2_drawNearer 30 = .ok (.bipush 10, 2) := by decide +kernel
theorem dX2_drawNearer_32 : decode cX2_drawNearer 32 = .ok (.imul, 1) := by decide +kernel
theorem dX2_drawNearer_33 : decode cX2_drawNearer 33 = .ok (.iload_n 3, 1) := by decide +kernel
theorem dX2_drawNearer_34 : decode cX2_drawNearer 34 = .ok (.iadd, 1) := by decide +kernel
theorem dX2_drawNearer_35 : decode cX2_drawNearer 35 = .ok (.iaload, 1) := by decide +kernel
theorem dX2_drawNearer_36 : decode cX2_drawNearer 36 = .ok (.iadd, 1) := by decide +kernel
theorem dX2_drawNearer_37 : decode cX2_drawNearer 37 = .ok (.iastore, 1) := by decide +kernel
theorem dX2_drawNearer_38 : decode cX2_drawNearer 38 = .ok (.iinc 3 1, 3) := by decide +kernel
theorem dX2_drawNearer_41 : decode cX2_drawNearer 41 = .ok (.goto (-39), 3) := by decide +kernel
theorem dX2_drawNearer_44 : decode cX2_drawNearer 44 = .ok (.return_, 1) := by decide +kernel
theorem dX2_nearestOf_0 : decode cX2_nearestOf 0 = .ok (.iconst 0, 1) := by decide +kernel
theorem dX2_nearestOf_1 : decode cX2_nearestOf 1 = .ok (.istore_n 2, 1) := by decide +kernel
theorem dX2_nearestOf_2 : decode cX2_nearestOf 2 = .ok (.iconst (-1), 1) := by decide +kernel
theorem dX2_nearestOf_3 : decode cX2_nearestOf 3 = .ok (.istore_n 3, 1) := by decide +kernel
theorem dX2_nearestOf_4 : decode cX2_nearestOf 4 = .ok (.iconst 0, 1) := by decide +kernel
theorem dX2_nearestOf_5 : decode cX2_nearestOf 5 = .ok (.istore 4, 2) := by decide +kernel
theorem dX2_nearestOf_7 : decode cX2_nearestOf 7 = .ok (.iload 4, 2) := by decide +kernel
theorem dX2_nearestOf_9 : decode cX2_nearestOf 9 = .ok (.aload_n 0, 1) := by decide +kernel
theorem dX2_nearestOf_10 : decode cX2_nearestOf 10 = .ok (.getfield 9, 3) := by decide +kernel
theorem dX2_nearestOf_13 : decode cX2_nearestOf 13 = .ok (.if_icmp .ge 40, 3) := by decide +kernel
theorem dX2_nearestOf_16 : decode cX2_nearestOf 16 = .ok (.iload_n 1, 1) := by decide +kernel
theorem dX2_nearestOf_17 : decode cX2_nearestOf 17 = .ok (.iload 4, 2) := by decide +kernel
theorem dX2_nearestOf_19 : decode cX2_nearestOf 19 = .ok (.invokestatic 63, 3) := by decide +kernel
theorem dX2_nearestOf_22 : decode cX2_nearestOf 22 = .ok (.ifCond .eq 25, 3) := by decide +kernel
theorem dX2_nearestOf_25 : decode cX2_nearestOf 25 = .ok (.aload_n 0, 1) := by decide +kernel
theorem dX2_nearestOf_26 : decode cX2_nearestOf 26 = .ok (.getfield 22, 3) := by decide +kernel
theorem dX2_nearestOf_29 : decode cX2_nearestOf 29 = .ok (.iload 4, 2) := by decide +kernel
theorem dX2_nearestOf_31 : decode cX2_nearestOf 31 = .ok (.iaload, 1) := by decide +kernel
theorem dX2_nearestOf_32 : decode cX2_nearestOf 32 = .ok (.iload_n 3, 1) := by decide +kernel
theorem dX2_nearestOf_33 : decode cX2_nearestOf 33 = .ok (.if_icmp .le 14, 3) := by decide +kernel
theorem dX2_nearestOf_36 : decode cX2_nearestOf 36 = .ok (.iload 4, 2) := by decide +kernel
theorem dX2_nearestOf_38 : decode cX2_nearestOf 38 = .ok (.istore_n 2, 1) := by decide +kernel
theorem dX2_nearestOf_39 : decode cX2_nearestOf 39 = .ok (.aload_n 0, 1) := by decide +kernel
theorem dX2_nearestOf_40 : decode cX2_nearestOf 40 = .ok (.getfield 22, 3) := by decide +kernel
theorem dX2_nearestOf_43 : decode cX2_nearestOf 43 = .ok (.iload 4, 2) := by decide +kernel
theorem dX2_nearestOf_45 : decode cX2_nearestOf 45 = .ok (.iaload, 1) := by decide +kernel
theorem dX2_nearestOf_46 : decode cX2_nearestOf 46 = .ok (.istore_n 3, 1) := by decide +kernel
theorem dX2_nearestOf_47 : decode cX2_nearestOf 47 = .ok (.iinc 4 1, 3) := by decide +kernel
theorem dX2_nearestOf_50 : decode cX2_nearestOf 50 = .ok (.goto (-43), 3) := by decide +kernel
theorem dX2_nearestOf_53 : decode cX2_nearestOf 53 = .ok (.iload_n 2, 1) := by decide +kernel
theorem dX2_nearestOf_54 : decode cX2_nearestOf 54 = .ok (.ireturn, 1) := by decide +kernel
theorem dX2_endPhase_0 : decode cX2_endPhase 0 = .ok (.aload_n 0, 1) := by decide +kernel
theorem dX2_endPhase_1 : decode cX2_endPhase 1 = .ok (.iload_n 1, 1) := by decide +kernel
theorem dX2_endPhase_2 : decode cX2_endPhase 2 = .ok (.aload_n 0, 1) := by decide +kernel
theorem dX2_endPhase_3 : decode cX2_endPhase 3 = .ok (.iload_n 1, 1) := by decide +kernel
theorem dX2_endPhase_4 : decode cX2_endPhase 4 = .ok (.invokevirtual 67, 3) := by decide +kernel
theorem dX2_endPhase_7 : decode cX2_endPhase 7 = .ok (.iconst 1, 1) := by decide +kernel
theorem dX2_endPhase_8 : decode cX2_endPhase 8 = .ok (.isub, 1) := by decide +kernel
theorem dX2_endPhase_9 : decode cX2_endPhase 9 = .ok (.invokevirtual 76, 3) := by decide +kernel
theorem dX2_endPhase_12 : decode cX2_endPhase 12 = .ok (.istore_n 2, 1) := by decide +kernel
theorem dX2_endPhase_13 : decode cX2_endPhase 13 = .ok (.aload_n 0, 1) := by decide +kernel
theorem dX2_endPhase_14 : decode cX2_endPhase 14 = .ok (.iload_n 1, 1) := by decide +kernel
theorem dX2_endPhase_15 : decode cX2_endPhase 15 = .ok (.aload_n 0, 1) := by decide +kernel
theorem dX2_endPhase_16 : decode cX2_endPhase 16 = .ok (.iload_n 1, 1) := by decide +kernel
theorem dX2_endPhase_17 : decode cX2_endPhase 17 = .ok (.invokevirtual 67, 3) := by decide +kernel
theorem dX2_endPhase_20 : decode cX2_endPhase 20 = .ok (.iconst 2, 1) := by decide +kernel
theorem dX2_endPhase_21 : decode cX2_endPhase 21 = .ok (.isub, 1) := by decide +kernel
theorem dX2_endPhase_22 : decode cX2_endPhase 22 = .ok (.invokevirtual 76, 3) := by decide +kernel
theorem dX2_endPhase_25 : decode cX2_endPhase 25 = .ok (.istore_n 3, 1) := by decide +kernel
theorem dX2_endPhase_26 : decode cX2_endPhase 26 = .ok (.iconst 1, 1) := by decide +kernel
theorem dX2_endPhase_27 : decode cX2_endPhase 27 = .ok (.aload_n 0, 1) := by decide +kernel
theorem dX2_endPhase_28 : decode cX2_endPhase 28 = .ok (.getfield 9, 3) := by decide +kernel
theorem dX2_endPhase_31 : decode cX2_endPhase 31 = .ok (.ishl, 1) := by decide +kernel
theorem dX2_endPhase_32 : decode cX2_endPhase 32 = .ok (.iconst 1, 1) := by decide +kernel
theorem dX2_endPhase_33 : decode cX2_endPhase 33 = .ok (.isub, 1) := by decide +kernel
theorem dX2_endPhase_34 : decode cX2_endPhase 34 = .ok (.istore 4, 2) := by decide +kernel
theorem dX2_endPhase_36 : decode cX2_endPhase 36 = .ok (.aload_n 0, 1) := by decide +kernel
theorem dX2_endPhase_37 : decode cX2_endPhase 37 = .ok (.getfield 31, 3) := by decide +kernel
theorem dX2_endPhase_40 : decode cX2_endPhase 40 = .ok (.iload_n 1, 1) := by decide +kernel
theorem dX2_endPhase_41 : decode cX2_endPhase 41 = .ok (.aload_n 0, 1) := by decide +kernel
theorem dX2_endPhase_42 : decode cX2_endPhase 42 = .ok (.getfield 15, 3) := by decide +kernel
theorem dX2_endPhase_45 : decode cX2_endPhase 45 = .ok (.iload_n 2, 1) := by decide +kernel
theorem dX2_endPhase_46 : decode cX2_endPhase 46 = .ok (.iaload, 1) := by decide +kernel
theorem dX2_endPhase_47 : decode cX2_endPhase 47 = .ok (.iconst 0, 1) := by decide +kernel
theorem dX2_endPhase_48 : decode cX2_endPhase 48 = .ok (.invokestatic 63, 3) := by decide +kernel
theorem dX2_endPhase_51 : decode cX2_endPhase 51 = .ok (.ifCond .eq 17, 3) := by decide +kernel
theorem dX2_endPhase_54 : decode cX2_endPhase 54 = .ok (.iload 4, 2) := by decide +kernel
theorem dX2_endPhase_56 : decode cX2_endPhase 56 = .ok (.aload_n 0, 1) := by decide +kernel
theorem dX2_endPhase_57 : decode cX2_endPhase 57 = .ok (.getfield 15, 3) := by decide +kernel
theorem dX2_endPhase_60 : decode cX2_endPhase 60 = .ok (.iload_n 2, 1) := by decide +kernel
theorem dX2_endPhase_61 : decode cX2_endPhase 61 = .ok (.iaload, 1) := by decide +kernel
theorem dX2_endPhase_62 : decode cX2_endPhase 62 = .ok (.iconst (-1), 1) := by decide +kernel
theorem dX2_endPhase_63 : decode cX2_endPhase 63 = .ok (.ixor, 1) := by decide +kernel
theorem dX2_endPhase_64 : decode cX2_endPhase 64 = .ok (.iand, 1) := by decide +kernel
theorem dX2_endPhase_65 : decode cX2_endPhase 65 = .ok (.goto 9, 3) := by decide +kernel
theorem dX2_endPhase_68 : decode cX2_endPhase 68 = .ok (.aload_n 0, 1) := by decide +kernel
theorem dX2_endPhase_69 : decode cX2_endPhase 69 = .ok (.getfield 15, 3) := by decide +kernel
theorem dX2_endPhase_72 : decode cX2_endPhase 72 = .ok (.iload_n 2, 1) := by decide +kernel
theorem dX2_endPhase_73 : decode cX2_endPhase 73 = .ok (.iaload, 1) := by decide +kernel
theorem dX2_endPhase_74 : decode cX2_endPhase 74 = .ok (.iastore, 1) := by decide +kernel
theorem dX2_endPhase_75 : decode cX2_endPhase 75 = .ok (.aload_n 0, 1) := by decide +kernel
theorem dX2_endPhase_76 : decode cX2_endPhase 76 = .ok (.iload_n 2, 1) := by decide +kernel
theorem dX2_endPhase_77 : decode cX2_endPhase 77 = .ok (.iload_n 3, 1) := by decide +kernel
theorem dX2_endPhase_78 : decode cX2_endPhase 78 = .ok (.invokestatic 79, 3) := by decide +kernel
theorem dX2_endPhase_81 : decode cX2_endPhase 81 = .ok (.iload_n 2, 1) := by decide +kernel
theorem dX2_endPhase_82 : decode cX2_endPhase 82 = .ok (.iload_n 3, 1) := by decide +kernel
theorem dX2_endPhase_83 : decode cX2_endPhase 83 = .ok (.invokestatic 84, 3) := by decide +kernel
theorem dX2_endPhase_86 : decode cX2_endPhase 86 = .ok (.invokevirtual 87, 3) := by decide +kernel
theorem dX2_endPhase_89 : decode cX2_endPhase 89 = .ok (.aload_n 0, 1) := by decide +kernel
theorem dX2_endPhase_90 : decode cX2_endPhase 90 = .ok (.getfield 34, 3) := by decide +kernel
theorem dX2_endPhase_93 : decode cX2_endPhase 93 = .ok (.iload_n 1, 1) := by decide +kernel
theorem dX2_endPhase_94 : decode cX2_endPhase 94 = .ok (.aload_n 0, 1) := by decide +kernel
theorem dX2_endPhase_95 : decode cX2_endPhase 95 = .ok (.getfield 15, 3) := by decide +kernel
theorem dX2_endPhase_98 : decode cX2_endPhase 98 = .ok (.iload_n 2, 1) := by decide +kernel
theorem dX2_endPhase_99 : decode cX2_endPhase 99 = .ok (.iload_n 3, 1) := by decide +kernel
theorem dX2_endPhase_100 : decode cX2_endPhase 100 = .ok (.invokestatic 79, 3) := by decide +kernel
theorem dX2_endPhase_103 : decode cX2_endPhase 103 = .ok (.iaload, 1) := by decide +kernel
theorem dX2_endPhase_104 : decode cX2_endPhase 104 = .ok (.iastore, 1) := by decide +kernel
theorem dX2_endPhase_105 : decode cX2_endPhase 105 = .ok (.return_, 1) := by decide +kernel
theorem dX2_unite_0 : decode cX2_unite 0 = .ok (.aload_n 0, 1) := by decide +kernel
theorem dX2_unite_1 : decode cX2_unite 1 = .ok (.getfield 15, 3) := by decide +kernel
theorem dX2_unite_4 : decode cX2_unite 4 = .ok (.iload_n 1, 1) := by decide +kernel
theorem dX2_unite_5 : decode cX2_unite 5 = .ok (.dup2, 1) := by decide +kernel
theorem dX2_unite_6 : decode cX2_unite 6 = .ok (.iaload, 1) := by decide +kernel
theorem dX2_unite_7 : decode cX2_unite 7 = .ok (.aload_n 0, 1) := by decide +kernel
theorem dX2_unite_8 : decode cX2_unite 8 = .ok (.getfield 15, 3) := by decide +kernel
theorem dX2_unite_11 : decode cX2_unite 11 = .ok (.iload_n 2, 1) := by decide +kernel
theorem dX2_unite_12 : decode cX2_unite 12 = .ok (.iaload, 1) := by decide +kernel
theorem dX2_unite_13 : decode cX2_unite 13 = .ok (.ior, 1) := by decide +kernel
theorem dX2_unite_14 : decode cX2_unite 14 = .ok (.iastore, 1) := by decide +kernel
theorem dX2_unite_15 : decode cX2_unite 15 = .ok (.aload_n 0, 1) := by decide +kernel
theorem dX2_unite_16 : decode cX2_unite 16 = .ok (.getfield 15, 3) := by decide +kernel
theorem dX2_unite_19 : decode cX2_unite 19 = .ok (.iload_n 2, 1) := by decide +kernel
theorem dX2_unite_20 : decode cX2_unite 20 = .ok (.iconst 0, 1) := by decide +kernel
theorem dX2_unite_21 : decode cX2_unite 21 = .ok (.iastore, 1) := by decide +kernel
theorem dX2_unite_22 : decode cX2_unite 22 = .ok (.iconst 0, 1) := by decide +kernel
theorem dX2_unite_23 : decode cX2_unite 23 = .ok (.istore_n 3, 1) := by decide +kernel
theorem dX2_unite_24 : decode cX2_unite 24 = .ok (.iload_n 3, 1) := by decide +kernel
theorem dX2_unite_25 : decode cX2_unite 25 = .ok (.aload_n 0, 1) := by decide +kernel
theorem dX2_unite_26 : decode cX2_unite 26 = .ok (.getfield 9, 3) := by decide +kernel
theorem dX2_unite_29 : decode cX2_unite 29 = .ok (.if_icmp .ge 60, 3) := by decide +kernel
theorem dX2_unite_32 : decode cX2_unite 32 = .ok (.aload_n 0, 1) := by decide +kernel
theorem dX2_unite_33 : decode cX2_unite 33 = .ok (.getfield 19, 3) := by decide +kernel
theorem dX2_unite_36 : decode cX2_unite 36 = .ok (.iload_n 1, 1) := by decide +kernel
theorem dX2_unite_37 : decode cX2_unite 37 = .ok (.bipush 10, 2) := by decide +kernel
theorem dX2_unite_39 : decode cX2_unite 39 = .ok (.imul, 1) := by decide +kernel
theorem dX2_unite_40 : decode cX2_unite 40 = .ok (.iload_n 3, 1) := by decide +kernel
theorem dX2_unite_41 : decode cX2_unite 41 = .ok (.iadd, 1) := by decide +kernel
theorem dX2_unite_42 : decode cX2_unite 42 = .ok (.iaload, 1) := by decide +kernel
theorem dX2_unite_43 : decode cX2_unite 43 = .ok (.aload_n 0, 1) := by decide +kernel
theorem dX2_unite_44 : decode cX2_unite 44 = .ok (.getfield 19, 3) := by decide +kernel
theorem dX2_unite_47 : decode cX2_unite 47 = .ok (.iload_n 2, 1) := by decide +kernel
theorem dX2_unite_48 : decode cX2_unite 48 = .ok (.bipush 10, 2) := by decide +kernel
theorem dX2_unite_50 : decode cX2_unite 50 = .ok (.imul, 1) := by decide +kernel
theorem dX2_unite_51 : decode cX2_unite 51 = .ok (.iload_n 3, 1) := by decide +kernel
theorem dX2_unite_52 : decode cX2_unite 52 = .ok (.iadd, 1) := by decide +kernel
theorem dX2_unite_53 : decode cX2_unite 53 = .ok (.iaload, 1) := by decide +kernel
theorem dX2_unite_54 : decode cX2_unite 54 = .ok (.iadd, 1) := by decide +kernel
theorem dX2_unite_55 : decode cX2_unite 55 = .ok (.istore 4, 2) := by decide +kernel
theorem dX2_unite_57 : decode cX2_unite 57 = .ok (.aload_n 0, 1) := by decide +kernel
theorem dX2_unite_58 : decode cX2_unite 58 = .ok (.getfield 19, 3) := by decide +kernel
theorem dX2_unite_61 : decode cX2_unite 61 = .ok (.iload_n 1, 1) := by decide +kernel
theorem dX2_unite_62 : decode cX2_unite 62 = .ok (.bipush 10, 2) := by decide +kernel
theorem dX2_unite_64 : decode cX2_unite 64 = .ok (.imul, 1) := by decide +kernel
theorem dX2_unite_65 : decode cX2_unite 65 = .ok (.iload_n 3, 1) := by decide +kernel
theorem dX2_unite_66 : decode cX2_unite 66 = .ok (.iadd, 1) := by decide +kernel
theorem dX2_unite_67 : decode cX2_unite 67 = .ok (.iload 4, 2) := by decide +kernel
theorem dX2_unite_69 : decode cX2_unite 69 = .ok (.iastore, 1) := by decide +kernel
theorem dX2_unite_70 : decode cX2_unite 70 = .ok (.aload_n 0, 1) := by decide +kernel
theorem dX2_unite_71 : decode cX2_unite 71 = .ok (.getfield 19, 3) := by decide +kernel
theorem dX2_unite_74 : decode cX2_unite 74 = .ok (.iload_n 3, 1) := by decide +kernel
theorem dX2_unite_75 : decode cX2_unite 75 = .ok (.bipush 10, 2) := by decide +kernel
theorem dX2_unite_77 : decode cX2_unite 77 = .ok (.imul, 1) := by decide +kernel
theorem dX2_unite_78 : decode cX2_unite 78 = .ok (.iload_n 1, 1) := by decide +kernel
theorem dX2_unite_79 : decode cX2_unite 79 = .ok (.iadd, 1) := by decide +kernel
theorem dX2_unite_80 : decode cX2_unite 80 = .ok (.iload 4, 2) := by decide +kernel
theorem dX2_unite_82 : decode cX2_unite 82 = .ok (.iastore, 1) := by decide +kernel
theorem dX2_unite_83 : decode cX2_unite 83 = .ok (.iinc 3 1, 3) := by decide +kernel
theorem dX2_unite_86 : decode cX2_unite 86 = .ok (.goto (-62), 3) := by decide +kernel
theorem dX2_unite_89 : decode cX2_unite 89 = .ok (.return_, 1) := by decide +kernel
theorem dX2_isPhase_0 : decode cX2_isPhase 0 = .ok (.iload_n 1, 1) := by decide +kernel
theorem dX2_isPhase_1 : decode cX2_isPhase 1 = .ok (.ifCond .lt 17, 3) := by decide +kernel
theorem dX2_isPhase_4 : decode cX2_isPhase 4 = .ok (.iload_n 1, 1) := by decide +kernel
theorem dX2_isPhase_5 : decode cX2_isPhase 5 = .ok (.aload_n 0, 1) := by decide +kernel
theorem dX2_isPhase_6 : decode cX2_isPhase 6 = .ok (.getfield 9, 3) := by decide +kernel
theorem dX2_isPhase_9 : decode cX2_isPhase 9 = .ok (.iconst 1, 1) := by decide +kernel
theorem dX2_isPhase_10 : decode cX2_isPhase 10 = .ok (.isub, 1) := by decide +kernel
theorem dX2_isPhase_11 : decode cX2_isPhase 11 = .ok (.if_icmp .ge 7, 3) := by decide +kernel
theorem dX2_isPhase_14 : decode cX2_isPhase 14 = .ok (.iconst 1, 1) := by decide +kernel
theorem dX2_isPhase_15 : decode cX2_isPhase 15 = .ok (.goto 4, 3) := by decide +kernel
theorem dX2_isPhase_18 : decode cX2_isPhase 18 = .ok (.iconst 0, 1) := by decide +kernel
theorem dX2_isPhase_19 : decode cX2_isPhase 19 = .ok (.ireturn, 1) := by decide +kernel
theorem dX2_lumpsIn_0 : decode cX2_lumpsIn 0 = .ok (.aload_n 0, 1) := by decide +kernel
theorem dX2_lumpsIn_1 : decode cX2_lumpsIn 1 = .ok (.getfield 9, 3) := by decide +kernel
theorem dX2_lumpsIn_4 : decode cX2_lumpsIn 4 = .ok (.iload_n 1, 1) := by decide +kernel
theorem dX2_lumpsIn_5 : decode cX2_lumpsIn 5 = .ok (.isub, 1) := by decide +kernel
theorem dX2_lumpsIn_6 : decode cX2_lumpsIn 6 = .ok (.ireturn, 1) := by decide +kernel
theorem dX2_partingOf_0 : decode cX2_partingOf 0 = .ok (.aload_n 0, 1) := by decide +kernel
theorem dX2_partingOf_1 : decode cX2_partingOf 1 = .ok (.iload_n 1, 1) := by decide +kernel
theorem dX2_partingOf_2 : decode cX2_partingOf 2 = .ok (.invokevirtual 90, 3) := by decide +kernel
theorem dX2_partingOf_5 : decode cX2_partingOf 5 = .ok (.ifCond .eq 12, 3) := by decide +kernel
theorem dX2_partingOf_8 : decode cX2_partingOf 8 = .ok (.aload_n 0, 1) := by decide +kernel
theorem dX2_partingOf_9 : decode cX2_partingOf 9 = .ok (.getfield 31, 3) := by decide +kernel
theorem dX2_partingOf_12 : decode cX2_partingOf 12 = .ok (.iload_n 1, 1) := by decide +kernel
theorem dX2_partingOf_13 : decode cX2_partingOf 13 = .ok (.iaload, 1) := by decide +kernel
theorem dX2_partingOf_14 : decode cX2_partingOf 14 = .ok (.goto 4, 3) := by decide +kernel
theorem dX2_partingOf_17 : decode cX2_partingOf 17 = .ok (.iconst 0, 1) := by decide +kernel
theorem dX2_partingOf_18 : decode cX2_partingOf 18 = .ok (.ireturn, 1) := by decide +kernel
theorem dX2_unionIn_0 : decode cX2_unionIn 0 = .ok (.aload_n 0, 1) := by decide +kernel
theorem dX2_unionIn_1 : decode cX2_unionIn 1 = .ok (.iload_n 1, 1) := by decide +kernel
theorem dX2_unionIn_2 : decode cX2_unionIn 2 = .ok (.invokevirtual 90, 3) := by decide +kernel
theorem dX2_unionIn_5 : decode cX2_unionIn 5 = .ok (.ifCond .eq 12, 3) := by decide +kernel
theorem dX2_unionIn_8 : decode cX2_unionIn 8 = .ok (.aload_n 0, 1) := by decide +kernel
theorem dX2_unionIn_9 : decode cX2_unionIn 9 = .ok (.getfield 34, 3) := by decide +kernel
theorem dX2_unionIn_12 : decode cX2_unionIn 12 = .ok (.iload_n 1, 1) := by decide +kernel
theorem dX2_unionIn_13 : decode cX2_unionIn 13 = .ok (.iaload, 1) := by decide +kernel
theorem dX2_unionIn_14 : decode cX2_unionIn 14 = .ok (.goto 4, 3) := by decide +kernel
theorem dX2_unionIn_17 : decode cX2_unionIn 17 = .ok (.iconst 0, 1) := by decide +kernel
theorem dX2_unionIn_18 : decode cX2_unionIn 18 = .ok (.ireturn, 1) := by decide +kernel
theorem dX2_weightIn_0 : decode cX2_weightIn 0 = .ok (.aload_n 0, 1) := by decide +kernel
theorem dX2_weightIn_1 : decode cX2_weightIn 1 = .ok (.iload_n 1, 1) := by decide +kernel
theorem dX2_weightIn_2 : decode cX2_weightIn 2 = .ok (.aload_n 0, 1) := by decide +kernel
theorem dX2_weightIn_3 : decode cX2_weightIn 3 = .ok (.iload_n 1, 1) := by decide +kernel
theorem dX2_weightIn_4 : decode cX2_weightIn 4 = .ok (.invokevirtual 67, 3) := by decide +kernel
theorem dX2_weightIn_7 : decode cX2_weightIn 7 = .ok (.iconst 1, 1) := by decide +kernel
theorem dX2_weightIn_8 : decode cX2_weightIn 8 = .ok (.isub, 1) := by decide +kernel
theorem dX2_weightIn_9 : decode cX2_weightIn 9 = .ok (.invokevirtual 94, 3) := by decide +kernel
theorem dX2_weightIn_12 : decode cX2_weightIn 12 = .ok (.ireturn, 1) := by decide +kernel
theorem dX2_nameAt_0 : decode cX2_nameAt 0 = .ok (.aload_n 0, 1) := by decide +kernel
theorem dX2_nameAt_1 : decode cX2_nameAt 1 = .ok (.iload_n 1, 1) := by decide +kernel
theorem dX2_nameAt_2 : decode cX2_nameAt 2 = .ok (.iload_n 2, 1) := by decide +kernel
theorem dX2_nameAt_3 : decode cX2_nameAt 3 = .ok (.invokevirtual 97, 3) := by decide +kernel
theorem dX2_nameAt_6 : decode cX2_nameAt 6 = .ok (.ifCond .eq 17, 3) := by decide +kernel
theorem dX2_nameAt_9 : decode cX2_nameAt 9 = .ok (.aload_n 0, 1) := by decide +kernel
theorem dX2_nameAt_10 : decode cX2_nameAt 10 = .ok (.getfield 25, 3) := by decide +kernel
theorem dX2_nameAt_13 : decode cX2_nameAt 13 = .ok (.iload_n 1, 1) := by decide +kernel
theorem dX2_nameAt_14 : decode cX2_nameAt 14 = .ok (.bipush 10, 2) := by decide +kernel
theorem dX2_nameAt_16 : decode cX2_nameAt 16 = .ok (.imul, 1) := by decide +kernel
theorem dX2_nameAt_17 : decode cX2_nameAt 17 = .ok (.iload_n 2, 1) := by decide +kernel
theorem dX2_nameAt_18 : decode cX2_nameAt 18 = .ok (.iadd, 1) := by decide +kernel
theorem dX2_nameAt_19 : decode cX2_nameAt 19 = .ok (.iaload, 1) := by decide +kernel
theorem dX2_nameAt_20 : decode cX2_nameAt 20 = .ok (.goto 4, 3) := by decide +kernel
theorem dX2_nameAt_23 : decode cX2_nameAt 23 = .ok (.iconst 0, 1) := by decide +kernel
theorem dX2_nameAt_24 : decode cX2_nameAt 24 = .ok (.ireturn, 1) := by decide +kernel
theorem dX2_nearnessAt_0 : decode cX2_nearnessAt 0 = .ok (.aload_n 0, 1) := by decide +kernel
theorem dX2_nearnessAt_1 : decode cX2_nearnessAt 1 = .ok (.iload_n 1, 1) := by decide +kernel
theorem dX2_nearnessAt_2 : decode cX2_nearnessAt 2 = .ok (.iload_n 2, 1) := by decide +kernel
theorem dX2_nearnessAt_3 : decode cX2_nearnessAt 3 = .ok (.invokevirtual 97, 3) := by decide +kernel
theorem dX2_nearnessAt_6 : decode cX2_nearnessAt 6 = .ok (.ifCond .eq 17, 3) := by decide +kernel
theorem dX2_nearnessAt_9 : decode cX2_nearnessAt 9 = .ok (.aload_n 0, 1) := by decide +kernel
theorem dX2_nearnessAt_10 : decode cX2_nearnessAt 10 = .ok (.getfield 28, 3) := by decide +kernel
theorem dX2_nearnessAt_13 : decode cX2_nearnessAt 13 = .ok (.iload_n 1, 1) := by decide +kernel
theorem dX2_nearnessAt_14 : decode cX2_nearnessAt 14 = .ok (.bipush 10, 2) := by decide +kernel
theorem dX2_nearnessAt_16 : decode cX2_nearnessAt 16 = .ok (.imul, 1) := by decide +kernel
theorem dX2_nearnessAt_17 : decode cX2_nearnessAt 17 = .ok (.iload_n 2, 1) := by decide +kernel
theorem dX2_nearnessAt_18 : decode cX2_nearnessAt 18 = .ok (.iadd, 1) := by decide +kernel
theorem dX2_nearnessAt_19 : decode cX2_nearnessAt 19 = .ok (.iaload, 1) := by decide +kernel
theorem dX2_nearnessAt_20 : decode cX2_nearnessAt 20 = .ok (.goto 4, 3) := by decide +kernel
theorem dX2_nearnessAt_23 : decode cX2_nearnessAt 23 = .ok (.iconst 0, 1) := by decide +kernel
theorem dX2_nearnessAt_24 : decode cX2_nearnessAt 24 = .ok (.ireturn, 1) := by decide +kernel
theorem dX2_isRank_0 : decode cX2_isRank 0 = .ok (.aload_n 0, 1) := by decide +kernel
theorem dX2_isRank_1 : decode cX2_isRank 1 = .ok (.iload_n 1, 1) := by decide +kernel
theorem dX2_isRank_2 : decode cX2_isRank 2 = .ok (.invokevirtual 90, 3) := by decide +kernel
theorem dX2_isRank_5 : decode cX2_isRank 5 = .ok (.ifCond .eq 20, 3) := by decide +kernel
theorem dX2_isRank_8 : decode cX2_isRank 8 = .ok (.iload_n 2, 1) := by decide +kernel
theorem dX2_isRank_9 : decode cX2_isRank 9 = .ok (.ifCond .lt 16, 3) := by decide +kernel
theorem dX2_isRank_12 : decode cX2_isRank 12 = .ok (.iload_n 2, 1) := by decide +kernel
theorem dX2_isRank_13 : decode cX2_isRank 13 = .ok (.aload_n 0, 1) := by decide +kernel
theorem dX2_isRank_14 : decode cX2_isRank 14 = .ok (.iload_n 1, 1) := by decide +kernel
theorem dX2_isRank_15 : decode cX2_isRank 15 = .ok (.invokevirtual 67, 3) := by decide +kernel
theorem dX2_isRank_18 : decode cX2_isRank 18 = .ok (.if_icmp .ge 7, 3) := by decide +kernel
theorem dX2_isRank_21 : decode cX2_isRank 21 = .ok (.iconst 1, 1) := by decide +kernel
theorem dX2_isRank_22 : decode cX2_isRank 22 = .ok (.goto 4, 3) := by decide +kernel
theorem dX2_isRank_25 : decode cX2_isRank 25 = .ok (.iconst 0, 1) := by decide +kernel
theorem dX2_isRank_26 : decode cX2_isRank 26 = .ok (.ireturn, 1) := by decide +kernel
theorem dX2_firstRankOf_0 : decode cX2_firstRankOf 0 = .ok (.iconst 0, 1) := by decide +kernel
theorem dX2_firstRankOf_1 : decode cX2_firstRankOf 1 = .ok (.istore_n 2, 1) := by decide +kernel
theorem dX2_firstRankOf_2 : decode cX2_firstRankOf 2 = .ok (.iconst 0, 1) := by decide +kernel
theorem dX2_firstRankOf_3 : decode cX2_firstRankOf 3 = .ok (.istore_n 3, 1) := by decide +kernel
theorem dX2_firstRankOf_4 : decode cX2_firstRankOf 4 = .ok (.iload_n 3, 1) := by decide +kernel
theorem dX2_firstRankOf_5 : decode cX2_firstRankOf 5 = .ok (.aload_n 0, 1) := by decide +kernel
theorem dX2_firstRankOf_6 : decode cX2_firstRankOf 6 = .ok (.getfield 9, 3) := by decide +kernel
theorem dX2_firstRankOf_9 : decode cX2_firstRankOf 9 = .ok (.if_icmp .ge 21, 3) := by decide +kernel
theorem dX2_firstRankOf_12 : decode cX2_firstRankOf 12 = .ok (.aload_n 0, 1) := by decide +kernel
theorem dX2_firstRankOf_13 : decode cX2_firstRankOf 13 = .ok (.iconst 0, 1) := by decide +kernel
theorem dX2_firstRankOf_14 : decode cX2_firstRankOf 14 = .ok (.iload_n 3, 1) := by decide +kernel
theorem dX2_firstRankOf_15 : decode cX2_firstRankOf 15 = .ok (.invokevirtual 76, 3) := by decide +kernel
theorem dX2_firstRankOf_18 : decode cX2_firstRankOf 18 = .ok (.iload_n 1, 1) := by decide +kernel
theorem dX2_firstRankOf_19 : decode cX2_firstRankOf 19 = .ok (.if_icmp .ne 5, 3) := by decide +kernel
theorem dX2_firstRankOf_22 : decode cX2_firstRankOf 22 = .ok (.iload_n 3, 1) := by decide +kernel
theorem dX2_firstRankOf_23 : decode cX2_firstRankOf 23 = .ok (.istore_n 2, 1) := by decide +kernel
theorem dX2_firstRankOf_24 : decode cX2_firstRankOf 24 = .ok (.iinc 3 1, 3) := by decide +kernel
theorem dX2_firstRankOf_27 : decode cX2_firstRankOf 27 = .ok (.goto (-23), 3) := by decide +kernel
theorem dX2_firstRankOf_30 : decode cX2_firstRankOf 30 = .ok (.iload_n 2, 1) := by decide +kernel
theorem dX2_firstRankOf_31 : decode cX2_firstRankOf 31 = .ok (.ireturn, 1) := by decide +kernel
theorem dX2_leastPhase_0 : decode cX2_leastPhase 0 = .ok (.iconst 0, 1) := by decide +kernel
theorem dX2_leastPhase_1 : decode cX2_leastPhase 1 = .ok (.istore_n 1, 1) := by decide +kernel
theorem dX2_leastPhase_2 : decode cX2_leastPhase 2 = .ok (.iconst 1, 1) := by decide +kernel
theorem dX2_leastPhase_3 : decode cX2_leastPhase 3 = .ok (.istore_n 2, 1) := by decide +kernel
theorem dX2_leastPhase_4 : decode cX2_leastPhase 4 = .ok (.iload_n 2, 1) := by decide +kernel
theorem dX2_leastPhase_5 : decode cX2_leastPhase 5 = .ok (.aload_n 0, 1) := by decide +kernel
theorem dX2_leastPhase_6 : decode cX2_leastPhase 6 = .ok (.getfield 9, 3) := by decide +kernel
theorem dX2_leastPhase_9 : decode cX2_leastPhase 9 = .ok (.iconst 1, 1) := by decide +kernel
theorem dX2_leastPhase_10 : decode cX2_leastPhase 10 = .ok (.isub, 1) := by decide +kernel
theorem dX2_leastPhase_11 : decode cX2_leastPhase 11 = .ok (.if_icmp .ge 24, 3) := by decide +kernel
theorem dX2_leastPhase_14 : decode cX2_leastPhase 14 = .ok (.aload_n 0, 1) := by decide +kernel
theorem dX2_leastPhase_15 : decode cX2_leastPhase 15 = .ok (.iload_n 2, 1) := by decide +kernel
theorem dX2_leastPhase_16 : decode cX2_leastPhase 16 = .ok (.invokevirtual 100, 3) := by decide +kernel
theorem dX2_leastPhase_19 : decode cX2_leastPhase 19 = .ok (.aload_n 0, 1) := by decide +kernel
theorem dX2_leastPhase_20 : decode cX2_leastPhase 20 = .ok (.iload_n 1, 1) := by decide +kernel
theorem dX2_leastPhase_21 : decode cX2_leastPhase 21 = .ok (.invokevirtual 100, 3) := by decide +kernel
theorem dX2_leastPhase_24 : decode cX2_leastPhase 24 = .ok (.if_icmp .ge 5, 3) := by decide +kernel
theorem dX2_leastPhase_27 : decode cX2_leastPhase 27 = .ok (.iload_n 2, 1) := by decide +kernel
theorem dX2_leastPhase_28 : decode cX2_leastPhase 28 = .ok (.istore_n 1, 1) := by decide +kernel
theorem dX2_leastPhase_29 : decode cX2_leastPhase 29 = .ok (.iinc 2 1, 3) := by decide +kernel
theorem dX2_leastPhase_32 : decode cX2_leastPhase 32 = .ok (.goto (-28), 3) := by decide +kernel
theorem dX2_leastPhase_35 : decode cX2_leastPhase 35 = .ok (.iload_n 1, 1) := by decide +kernel
theorem dX2_leastPhase_36 : decode cX2_leastPhase 36 = .ok (.ireturn, 1) := by decide +kernel
theorem dX3_init_0 : decode cX3_init 0 = .ok (.aload_n 0, 1) := by decide +kernel
theorem dX3_init_1 : decode cX3_init 1 = .ok (.invokespecial 3, 3) := by decide +kernel
theorem dX3_init_4 : decode cX3_init 4 = .ok (.aload_n 0, 1) := by decide +kernel
theorem dX3_init_5 : decode cX3_init 5 = .ok (.bipush 60, 2) := by decide +kernel
theorem dX3_init_7 : decode cX3_init 7 = .ok (.newarray .char, 2) := by decide +kernel
theorem dX3_init_9 : decode cX3_init 9 = .ok (.putfield 9, 3) := by decide +kernel
theorem dX3_init_12 : decode cX3_init 12 = .ok (.aload_n 0, 1) := by decide +kernel
theorem dX3_init_13 : decode cX3_init 13 = .ok (.iconst 0, 1) := by decide +kernel
theorem dX3_init_14 : decode cX3_init 14 = .ok (.putfield 15, 3) := by decide +kernel
theorem dX3_init_17 : decode cX3_init 17 = .ok (.aload_n 0, 1) := by decide +kernel
theorem dX3_init_18 : decode cX3_init 18 = .ok (.bipush 15, 2) := by decide +kernel
theorem dX3_init_20 : decode cX3_init 20 = .ok (.newarray .int, 2) := by decide +kernel
theorem dX3_init_22 : decode cX3_init 22 = .ok (.putfield 19, 3) := by decide +kernel
theorem dX3_init_25 : decode cX3_init 25 = .ok (.aload_n 0, 1) := by decide +kernel
theorem dX3_init_26 : decode cX3_init 26 = .ok (.bipush 15, 2) := by decide +kernel
theorem dX3_init_28 : decode cX3_init 28 = .ok (.newarray .int, 2) := by decide +kernel
theorem dX3_init_30 : decode cX3_init 30 = .ok (.putfield 23, 3) := by decide +kernel
theorem dX3_init_33 : decode cX3_init 33 = .ok (.aload_n 0, 1) := by decide +kernel
theorem dX3_init_34 : decode cX3_init 34 = .ok (.bipush 15, 2) := by decide +kernel
theorem dX3_init_36 : decode cX3_init 36 = .ok (.newarray .int, 2) := by decide +kernel
theorem dX3_init_38 : decode cX3_init 38 = .ok (.putfield 26, 3) := by decide +kernel
theorem dX3_init_41 : decode cX3_init 41 = .ok (.aload_n 0, 1) := by decide +kernel
theorem dX3_init_42 : decode cX3_init 42 = .ok (.iconst 0, 1) := by decide +kernel
theorem dX3_init_43 : decode cX3_init 43 = .ok (.putfield 29, 3) := by decide +kernel
theorem dX3_init_46 : decode cX3_init 46 = .ok (.aload_n 0, 1) := by decide +kernel
theorem dX3_init_47 : decode cX3_init 47 = .ok (.iconst 0, 1) := by decide +kernel
theorem dX3_init_48 : decode cX3_init 48 = .ok (.putfield 32, 3) := by decide +kernel
theorem dX3_init_51 : decode cX3_init 51 = .ok (.return_, 1) := by decide +kernel
theorem dX3_append_0 : decode cX3_append 0 = .ok (.aload_n 0, 1) := by decide +kernel
theorem dX3_append_1 : decode cX3_append 1 = .ok (.getfield 15, 3) := by decide +kernel
theorem dX3_append_4 : decode cX3_append 4 = .ok (.bipush 60, 2) := by decide +kernel
theorem dX3_append_6 : decode cX3_append 6 = .ok (.if_icmp .ge 23, 3) := by decide +kernel
theorem dX3_append_9 : decode cX3_append 9 = .ok (.aload_n 0, 1) := by decide +kernel
theorem dX3_append_10 : decode cX3_append 10 = .ok (.getfield 9, 3) := by decide +kernel
theorem dX3_append_13 : decode cX3_append 13 = .ok (.aload_n 0, 1) := by decide +kernel
theorem dX3_append_14 : decode cX3_append 14 = .ok (.getfield 15, 3) := by decide +kernel
theorem dX3_append_17 : decode cX3_append 17 = .ok (.iload_n 1, 1) := by decide +kernel
theorem dX3_append_18 : decode cX3_append 18 = .ok (.castore, 1) := by decide +kernel
theorem dX3_append_19 : decode cX3_append 19 = .ok (.aload_n 0, 1) := by decide +kernel
theorem dX3_append_20 : decode cX3_append 20 = .ok (.dup, 1) := by decide +kernel
theorem dX3_append_21 : decode cX3_append 21 = .ok (.getfield 15, 3) := by decide +kernel
theorem dX3_append_24 : decode cX3_append 24 = .ok (.iconst 1, 1) := by decide +kernel
theorem dX3_append_25 : decode cX3_append 25 = .ok (.iadd, 1) := by decide +kernel
theorem dX3_append_26 : decode cX3_append 26 = .ok (.putfield 15, 3) := by decide +kernel
theorem dX3_append_29 : decode cX3_append 29 = .ok (.return_, 1) := by decide +kernel
theorem dX3_read_0 : decode cX3_read 0 = .ok (.aload_n 0, 1) := by decide +kernel
theorem dX3_read_1 : decode cX3_read 1 = .ok (.iconst 0, 1) := by decide +kernel
theorem dX3_read_2 : decode cX3_read 2 = .ok (.putfield 29, 3) := by decide +kernel
theorem dX3_read_5 : decode cX3_read 5 = .ok (.aload_n 0, 1) := by decide +kernel
theorem dX3_read_6 : decode cX3_read 6 = .ok (.iconst 0, 1) := by decide +kernel
theorem dX3_read_7 : decode cX3_read 7 = .ok (.putfield 32, 3) := by decide +kernel
theorem dX3_read_10 : decode cX3_read 10 = .ok (.iconst 0, 1) := by decide +kernel
theorem dX3_read_11 : decode cX3_read 11 = .ok (.istore_n 1, 1) := by decide +kernel
theorem dX3_read_12 : decode cX3_read 12 = .ok (.iload_n 1, 1) := by decide +kernel
theorem dX3_read_13 : decode cX3_read 13 = .ok (.aload_n 0, 1) := by decide +kernel
theorem dX3_read_14 : decode cX3_read 14 = .ok (.getfield 15, 3) := by decide +kernel
theorem dX3_read_17 : decode cX3_read 17 = .ok (.if_icmp .ge 24, 3) := by decide +kernel
theorem dX3_read_20 : decode cX3_read 20 = .ok (.aload_n 0, 1) := by decide +kernel
theorem dX3_read_21 : decode cX3_read 21 = .ok (.aload_n 0, 1) := by decide +kernel
theorem dX3_read_22 : decode cX3_read 22 = .ok (.getfield 9, 3) := by decide +kernel
theorem dX3_read_25 : decode cX3_read 25 = .ok (.iload_n 1, 1) := by decide +kernel
theorem dX3_read_26 : decode cX3_read 26 = .ok (.caload, 1) := by decide +kernel
theorem dX3_read_27 : decode cX3_read 27 = .ok (.invokevirtual 35, 3) := by decide +kernel
theorem dX3_read_30 : decode cX3_read 30 = .ok (.ifCond .ne 5, 3) := by decide +kernel
theorem dX3_read_33 : decode cX3_read 33 = .ok (.iload_n 1, 1) := by decide +kernel
theorem dX3_read_34 : decode cX3_read 34 = .ok (.ireturn, 1) := by decide +kernel
theorem dX3_read_35 : decode cX3_read 35 = .ok (.iinc 1 1, 3) := by decide +kernel
theorem dX3_read_38 : decode cX3_read 38 = .ok (.goto (-26), 3) := by decide +kernel
theorem dX3_read_41 : decode cX3_read 41 = .ok (.aload_n 0, 1) := by decide +kernel
theorem dX3_read_42 : decode cX3_read 42 = .ok (.getfield 32, 3) := by decide +kernel
theorem dX3_read_45 : decode cX3_read 45 = .ok (.iconst 3, 1) := by decide +kernel
theorem dX3_read_46 : decode cX3_read 46 = .ok (.if_icmp .eq 11, 3) := by decide +kernel
theorem dX3_read_49 : decode cX3_read 49 = .ok (.aload_n 0, 1) := by decide +kernel
theorem dX3_read_50 : decode cX3_read 50 = .ok (.getfield 32, 3) := by decide +kernel
theorem dX3_read_53 : decode cX3_read 53 = .ok (.iconst 4, 1) := by decide +kernel
theorem dX3_read_54 : decode cX3_read 54 = .ok (.if_icmp .ne 7, 3) := by decide +kernel
theorem dX3_read_57 : decode cX3_read 57 = .ok (.iconst (-1), 1) := by decide +kernel
theorem dX3_read_58 : decode cX3_read 58 = .ok (.goto 7, 3) := by decide +kernel
theorem dX3_read_61 : decode cX3_read 61 = .ok (.aload_n 0, 1) := by decide +kernel
theorem dX3_read_62 : decode cX3_read 62 = .ok (.getfield 15, 3) := by decide +kernel
theorem dX3_read_65 : decode cX3_read 65 = .ok (.ireturn, 1) := by decide +kernel
theorem dX3_takes_0 : decode cX3_takes 0 = .ok (.aload_n 0, 1) := by decide +kernel
theorem dX3_takes_1 : decode cX3_takes 1 = .ok (.getfield 32, 3) := by decide +kernel
theorem dX3_takes_4 : decode cX3_takes 4 = .ok (.tableswitch 72 0 3 #[32, 38, 44, 50], 32) := by decide +kernel
theorem dX3_takes_36 : decode cX3_takes 36 = .ok (.aload_n 0, 1) := by decide +kernel
theorem dX3_takes_37 : decode cX3_takes 37 = .ok (.iload_n 1, 1) := by decide +kernel
theorem dX3_takes_38 : decode cX3_takes 38 = .ok (.invokevirtual 39, 3) := by decide +kernel
theorem dX3_takes_41 : decode cX3_takes 41 = .ok (.ireturn, 1) := by decide +kernel
theorem dX3_takes_42 : decode cX3_takes 42 = .ok (.aload_n 0, 1) := by decide +kernel
theorem dX3_takes_43 : decode cX3_takes 43 = .ok (.iload_n 1, 1) := by decide +kernel
theorem dX3_takes_44 : decode cX3_takes 44 = .ok (.invokevirtual 42, 3) := by decide +kernel
theorem dX3_takes_47 : decode cX3_takes 47 = .ok (.ireturn, 1) := by decide +kernel
theorem dX3_takes_48 : decode cX3_takes 48 = .ok (.aload_n 0, 1) := by decide +kernel
theorem dX3_takes_49 : decode cX3_takes 49 = .ok (.iload_n 1, 1) := by decide +kernel
theorem dX3_takes_50 : decode cX3_takes 50 = .ok (.invokevirtual 45, 3) := by decide +kernel
theorem dX3_takes_53 : decode cX3_takes 53 = .ok (.ireturn, 1) := by decide +kernel
theorem dX3_takes_54 : decode cX3_takes 54 = .ok (.aload_n 0, 1) := by decide +kernel
theorem dX3_takes_55 : decode cX3_takes 55 = .ok (.iload_n 1, 1) := by decide +kernel
theorem dX3_takes_56 : decode cX3_takes 56 = .ok (.invokevirtual 48, 3) := by decide +kernel
theorem dX3_takes_59 : decode cX3_takes 59 = .ok (.ifCond .ne 11, 3) := by decide +kernel
theorem dX3_takes_62 : decode cX3_takes 62 = .ok (.aload_n 0, 1) := by decide +kernel
theorem dX3_takes_63 : decode cX3_takes 63 = .ok (.iload_n 1, 1) := by decide +kernel
theorem dX3_takes_64 : decode cX3_takes 64 = .ok (.invokevirtual 51, 3) := by decide +kernel
theorem dX3_takes_67 : decode cX3_takes 67 = .ok (.ifCond .eq 7, 3) := by decide +kernel
theorem dX3_takes_70 : decode cX3_takes 70 = .ok (.iconst 1, 1) := by decide +kernel
theorem dX3_takes_71 : decode cX3_takes 71 = .ok (.goto 4, 3) := by decide +kernel
theorem dX3_takes_74 : decode cX3_takes 74 = .ok (.iconst 0, 1) := by decide +kernel
theorem dX3_takes_75 : decode cX3_takes 75 = .ok (.ireturn, 1) := by decide +kernel
theorem dX3_takes_76 : decode cX3_takes 76 = .ok (.aload_n 0, 1) := by decide +kernel
theorem dX3_takes_77 : decode cX3_takes 77 = .ok (.iload_n 1, 1) := by decide +kernel
theorem dX3_takes_78 : decode cX3_takes 78 = .ok (.invokevirtual 51, 3) := by decide +kernel
theorem dX3_takes_81 : decode cX3_takes 81 = .ok (.ireturn, 1) := by decide +kernel
theorem dX3_takesFirstLetter_0 : decode cX3_takesFirstLetter 0 = .ok (.aload_n 0, 1) := by decide +kernel
theorem dX3_takesFirstLetter_1 : decode cX3_takesFirstLetter 1 = .ok (.iload_n 1, 1) := by decide +kernel
theorem dX3_takesFirstLetter_2 : decode cX3_takesFirstLetter 2 = .ok (.bipush 97, 2) := by decide +kernel
theorem dX3_takesFirstLetter_4 : decode cX3_takesFirstLetter 4 = .ok (.isub, 1) := by decide +kernel
theorem dX3_takesFirstLetter_5 : decode cX3_takesFirstLetter 5 = .ok (.putfield 54, 3) := by decide +kernel
theorem dX3_takesFirstLetter_8 : decode cX3_takesFirstLetter 8 = .ok (.aload_n 0, 1) := by decide +kernel
theorem dX3_takesFirstLetter_9 : decode cX3_takesFirstLetter 9 = .ok (.iconst 1, 1) := by decide +kernel
theorem dX3_takesFirstLetter_10 : decode cX3_takesFirstLetter 10 = .ok (.putfield 32, 3) := by decide +kernel
theorem dX3_takesFirstLetter_13 : decode cX3_takesFirstLetter 13 = .ok (.aload_n 0, 1) := by decide +kernel
theorem dX3_takesFirstLetter_14 : decode cX3_takesFirstLetter 14 = .ok (.getfield 54, 3) := by decide +kernel
theorem dX3_takesFirstLetter_17 : decode cX3_takesFirstLetter 17 = .ok (.ifCond .lt 16, 3) := by decide +kernel
theorem dX3_takesFirstLetter_20 : decode cX3_takesFirstLetter 20 = .ok (.aload_n 0, 1) := by decide +kernel
theorem dX3_takesFirstLetter_21 : decode cX3_takesFirstLetter 21 = .ok (.getfield 54, 3) := by decide +kernel
theorem dX3_takesFirstLetter_24 : decode cX3_takesFirstLetter 24 = .ok (.bipush 9, 2) := by decide +kernel
theorem dX3_takesFirstLetter_26 : decode cX3_takesFirstLetter 26 = .ok (.if_icmp .ge 7, 3) := by decide +kernel
theorem dX3_takesFirstLetter_29 : decode cX3_takesFirstLetter 29 = .ok (.iconst 1, 1) := by decide +kernel
theorem dX3_takesFirstLetter_30 : decode cX3_takesFirstLetter 30 = .ok (.goto 4, 3) := by decide +kernel
theorem dX3_takesFirstLetter_33 : decode cX3_takesFirstLetter 33 = .ok (.iconst 0, 1) := by decide +kernel
theorem dX3_takesFirstLetter_34 : decode cX3_takesFirstLetter 34 = .ok (.ireturn, 1) := by decide +kernel
theorem dX3_takesSecondLetter_0 : decode cX3_takesSecondLetter 0 = .ok (.aload_n 0, 1) := by decide +kernel
theorem dX3_takesSecondLetter_1 : decode cX3_takesSecondLetter 1 = .ok (.iload_n 1, 1) := by decide +kernel
theorem dX3_takesSecondLetter_2 : decode cX3_takesSecondLetter 2 = .ok (.bipush 97, 2) := by decide +kernel
theorem dX3_takesSecondLetter_4 : decode cX3_takesSecondLetter 4 = .ok (.isub, 1) := by decide +kernel
theorem dX3_takesSecondLetter_5 : decode cX3_takesSecondLetter 5 = .ok (.putfield 57, 3) := by decide +kernel
theorem dX3_takesSecondLetter_8 : decode cX3_takesSecondLetter 8 = .ok (.aload_n 0, 1) := by decide +kernel
theorem dX3_takesSecondLetter_9 : decode cX3_takesSecondLetter 9 = .ok (.iconst 2, 1) := by decide +kernel
theorem dX3_takesSecondLetter_10 : decode cX3_takesSecondLetter 10 = .ok (.putfield 32, 3) := by decide +kernel
theorem dX3_takesSecondLetter_13 : decode cX3_takesSecondLetter 13 = .ok (.aload_n 0, 1) := by decide +kernel
theorem dX3_takesSecondLetter_14 : decode cX3_takesSecondLetter 14 = .ok (.getfield 57, 3) := by decide +kernel
theorem dX3_takesSecondLetter_17 : decode cX3_takesSecondLetter 17 = .ok (.aload_n 0, 1) := by decide +kernel
theorem dX3_takesSecondLetter_18 : decode cX3_takesSecondLetter 18 = .ok (.getfield 54, 3) := by decide +kernel
theorem dX3_takesSecondLetter_21 : decode cX3_takesSecondLetter 21 = .ok (.if_icmp .le 16, 3) := by decide +kernel
theorem dX3_takesSecondLetter_24 : decode cX3_takesSecondLetter 24 = .ok (.aload_n 0, 1) := by decide +kernel
theorem dX3_takesSecondLetter_25 : decode cX3_takesSecondLetter 25 = .ok (.getfield 57, 3) := by decide +kernel
theorem dX3_takesSecondLetter_28 : decode cX3_takesSecondLetter 28 = .ok (.bipush 10, 2) := by decide +kernel
theorem dX3_takesSecondLetter_30 : decode cX3_takesSecondLetter 30 = .ok (.if_icmp .ge 7, 3) := by decide +kernel
theorem dX3_takesSecondLetter_33 : decode cX3_takesSecondLetter 33 = .ok (.iconst 1, 1) := by decide +kernel
theorem dX3_takesSecondLetter_34 : decode cX3_takesSecondLetter 34 = .ok (.goto 4, 3) := by decide +kernel
theorem dX3_takesSecondLetter_37 : decode cX3_takesSecondLetter 37 = .ok (.iconst 0, 1) := by decide +kernel
theorem dX3_takesSecondLetter_38 : decode cX3_takesSecondLetter 38 = .ok (.ireturn, 1) := by decide +kernel
theorem dX3_takesFirstDigit_0 : decode cX3_takesFirstDigit 0 = .ok (.iload_n 1, 1) := by decide +kernel
theorem dX3_takesFirstDigit_1 : decode cX3_takesFirstDigit 1 = .ok (.invokestatic 60, 3) := by decide +kernel
theorem dX3_takesFirstDigit_4 : decode cX3_takesFirstDigit 4 = .ok (.ifCond .eq 12, 3) := by decide +kernel
theorem dX3_takesFirstDigit_7 : decode cX3_takesFirstDigit 7 = .ok (.aload_n 0, 1) := by decide +kernel
theorem dX3_takesFirstDigit_8 : decode cX3_takesFirstDigit 8 = .ok (.getfield 29, 3) := by decide +kernel
theorem dX3_takesFirstDigit_11 : decode cX3_takesFirstDigit 11 = .ok (.bipush 15, 2) := by decide +kernel
theorem dX3_takesFirstDigit_13 : decode cX3_takesFirstDigit 13 = .ok (.if_icmp .lt 5, 3) := by decide +kernel
theorem dX3_takesFirstDigit_16 : decode cX3_takesFirstDigit 16 = .ok (.iconst 0, 1) := by decide +kernel
theorem dX3_takesFirstDigit_17 : decode cX3_takesFirstDigit 17 = .ok (.ireturn, 1) := by decide +kernel
theorem dX3_takesFirstDigit_18 : decode cX3_takesFirstDigit 18 = .ok (.aload_n 0, 1) := by decide +kernel
theorem dX3_takesFirstDigit_19 : decode cX3_takesFirstDigit 19 = .ok (.getfield 19, 3) := by decide +kernel
theorem dX3_takesFirstDigit_22 : decode cX3_takesFirstDigit 22 = .ok (.aload_n 0, 1) := by decide +kernel
theorem dX3_takesFirstDigit_23 : decode cX3_takesFirstDigit 23 = .ok (.getfield 29, 3) := by decide +kernel
theorem dX3_takesFirstDigit_26 : decode cX3_takesFirstDigit 26 = .ok (.aload_n 0, 1) := by decide +kernel
theorem dX3_takesFirstDigit_27 : decode cX3_takesFirstDigit 27 = .ok (.getfield 54, 3) := by decide +kernel
theorem dX3_takesFirstDigit_30 : decode cX3_takesFirstDigit 30 = .ok (.iastore, 1) := by decide +kernel
theorem dX3_takesFirstDigit_31 : decode cX3_takesFirstDigit 31 = .ok (.aload_n 0, 1) := by decide +kernel
theorem dX3_takesFirstDigit_32 : decode cX3_takesFirstDigit 32 = .ok (.getfield 23, 3) := by decide +kernel
theorem dX3_takesFirstDigit_35 : decode cX3_takesFirstDigit 35 = .ok (.aload_n 0, 1) := by decide +kernel
theorem dX3_takesFirstDigit_36 : decode cX3_takesFirstDigit 36 = .ok (.getfield 29, 3) := by decide +kernel
theorem dX3_takesFirstDigit_39 : decode cX3_takesFirstDigit 39 = .ok (.aload_n 0, 1) := by decide +kernel
theorem dX3_takesFirstDigit_40 : decode cX3_takesFirstDigit 40 = .ok (.getfield 57, 3) := by decide +kernel
theorem dX3_takesFirstDigit_43 : decode cX3_takesFirstDigit 43 = .ok (.iastore, 1) := by decide +kernel
theorem dX3_takesFirstDigit_44 : decode cX3_takesFirstDigit 44 = .ok (.aload_n 0, 1) := by decide +kernel
theorem dX3_takesFirstDigit_45 : decode cX3_takesFirstDigit 45 = .ok (.getfield 26, 3) := by decide +kernel
theorem dX3_takesFirstDigit_48 : decode cX3_takesFirstDigit 48 = .ok (.aload_n 0, 1) := by decide +kernel
theorem dX3_takesFirstDigit_49 : decode cX3_takesFirstDigit 49 = .ok (.getfield 29, 3) := by decide +kernel
theorem dX3_takesFirstDigit_52 : decode cX3_takesFirstDigit 52 = .ok (.iload_n 1, 1) := by decide +kernel
theorem dX3_takesFirstDigit_53 : decode cX3_takesFirstDigit 53 = .ok (.bipush 48, 2) := by decide +kernel
theorem dX3_takesFirstDigit_55 : decode cX3_takesFirstDigit 55 = .ok (.isub, 1) := by decide +kernel
theorem dX3_takesFirstDigit_56 : decode cX3_takesFirstDigit 56 = .ok (.iastore, 1) := by decide +kernel
theorem dX3_takesFirstDigit_57 : decode cX3_takesFirstDigit 57 = .ok (.aload_n 0, 1) := by decide +kernel
theorem dX3_takesFirstDigit_58 : decode cX3_takesFirstDigit 58 = .ok (.dup, 1) := by decide +kernel
theorem dX3_takesFirstDigit_59 : decode cX3_takesFirstDigit 59 = .ok (.getfield 29, 3) := by decide +kernel
theorem dX3_takesFirstDigit_62 : decode cX3_takesFirstDigit 62 = .ok (.iconst 1, 1) := by decide +kernel
theorem dX3_takesFirstDigit_63 : decode cX3_takesFirstDigit 63 = .ok (.iadd, 1) := by decide +kernel
theorem dX3_takesFirstDigit_64 : decode cX3_takesFirstDigit 64 = .ok (.putfield 29, 3) := by decide +kernel
theorem dX3_takesFirstDigit_67 : decode cX3_takesFirstDigit 67 = .ok (.aload_n 0, 1) := by decide +kernel
theorem dX3_takesFirstDigit_68 : decode cX3_takesFirstDigit 68 = .ok (.iload_n 1, 1) := by decide +kernel
theorem dX3_takesFirstDigit_69 : decode cX3_takesFirstDigit 69 = .ok (.bipush 48, 2) := by decide +kernel
theorem dX3_takesFirstDigit_71 : decode cX3_takesFirstDigit 71 = .ok (.if_icmp .ne 7, 3) := by decide +kernel
theorem dX3_takesFirstDigit_74 : decode cX3_takesFirstDigit 74 = .ok (.iconst 4, 1) := by decide +kernel
theorem dX3_takesFirstDigit_75 : decode cX3_takesFirstDigit 75 = .ok (.goto 4, 3) := by decide +kernel
theorem dX3_takesFirstDigit_78 : decode cX3_takesFirstDigit 78 = .ok (.iconst 3, 1) := by decide +kernel
theorem dX3_takesFirstDigit_79 : decode cX3_takesFirstDigit 79 = .ok (.putfield 32, 3) := by decide +kernel
theorem dX3_takesFirstDigit_82 : decode cX3_takesFirstDigit 82 = .ok (.iconst 1, 1) := by decide +kernel
theorem dX3_takesFirstDigit_83 : decode cX3_takesFirstDigit 83 = .ok (.ireturn, 1) := by decide +kernel
theorem dX3_takesSecondDigit_0 : decode cX3_takesSecondDigit 0 = .ok (.iload_n 1, 1) := by decide +kernel
theorem dX3_takesSecondDigit_1 : decode cX3_takesSecondDigit 1 = .ok (.invokestatic 60, 3) := by decide +kernel
theorem dX3_takesSecondDigit_4 : decode cX3_takesSecondDigit 4 = .ok (.ifCond .eq 11, 3) := by decide +kernel
theorem dX3_takesSecondDigit_7 : decode cX3_takesSecondDigit 7 = .ok (.aload_n 0, 1) := by decide +kernel
theorem dX3_takesSecondDigit_8 : decode cX3_takesSecondDigit 8 = .ok (.getfield 29, 3) := by decide +kernel
theorem dX3_takesSecondDigit_11 : decode cX3_takesSecondDigit 11 = .ok (.iconst 1, 1) := by decide +kernel
theorem dX3_takesSecondDigit_12 : decode cX3_takesSecondDigit 12 = .ok (.if_icmp .ge 5, 3) := by decide +kernel
theorem dX3_takesSecondDigit_15 : decode cX3_takesSecondDigit 15 = .ok (.iconst 0, 1) := by decide +kernel
theorem dX3_takesSecondDigit_16 : decode cX3_takesSecondDigit 16 = .ok (.ireturn, 1) := by decide +kernel
theorem dX3_takesSecondDigit_17 : decode cX3_takesSecondDigit 17 = .ok (.aload_n 0, 1) := by decide +kernel
theorem dX3_takesSecondDigit_18 : decode cX3_takesSecondDigit 18 = .ok (.getfield 26, 3) := by decide +kernel
theorem dX3_takesSecondDigit_21 : decode cX3_takesSecondDigit 21 = .ok (.aload_n 0, 1) := by decide +kernel
theorem dX3_takesSecondDigit_22 : decode cX3_takesSecondDigit 22 = .ok (.getfield 29, 3) := by decide +kernel
theorem dX3_takesSecondDigit_25 : decode cX3_takesSecondDigit 25 = .ok (.iconst 1, 1) := by decide +kernel
theorem dX3_takesSecondDigit_26 : decode cX3_takesSecondDigit 26 = .ok (.isub, 1) := by decide +kernel
theorem dX3_takesSecondDigit_27 : decode cX3_takesSecondDigit 27 = .ok (.bipush 10, 2) := by decide +kernel
theorem dX3_takesSecondDigit_29 : decode cX3_takesSecondDigit 29 = .ok (.aload_n 0, 1) := by decide +kernel
theorem dX3_takesSecondDigit_30 : decode cX3_takesSecondDigit 30 = .ok (.getfield 26, 3) := by decide +kernel
theorem dX3_takesSecondDigit_33 : decode cX3_takesSecondDigit 33 = .ok (.aload_n 0, 1) := by decide +kernel
theorem dX3_takesSecondDigit_34 : decode cX3_takesSecondDigit 34 = .ok (.getfield 29, 3) := by decide +kernel
theorem dX3_takesSecondDigit_37 : decode cX3_takesSecondDigit 37 = .ok (.iconst 1, 1) := by decide +kernel
theorem dX3_takesSecondDigit_38 : decode cX3_takesSecondDigit 38 = .ok (.isub, 1) := by decide +kernel
theorem dX3_takesSecondDigit_39 : decode cX3_takesSecondDigit 39 = .ok (.iaload, 1) := by decide +kernel
theorem dX3_takesSecondDigit_40 : decode cX3_takesSecondDigit 40 = .ok (.imul, 1) := by decide +kernel
theorem dX3_takesSecondDigit_41 : decode cX3_takesSecondDigit 41 = .ok (.iload_n 1, 1) := by decide +kernel
theorem dX3_takesSecondDigit_42 : decode cX3_takesSecondDigit 42 = .ok (.bipush 48, 2) := by decide +kernel
theorem dX3_takesSecondDigit_44 : decode cX3_takesSecondDigit 44 = .ok (.isub, 1) := by decide +kernel
theorem dX3_takesSecondDigit_45 : decode cX3_takesSecondDigit 45 = .ok (.iadd, 1) := by decide +kernel
theorem dX3_takesSecondDigit_46 : decode cX3_takesSecondDigit 46 = .ok (.iastore, 1) := by decide +kernel
theorem dX3_takesSecondDigit_47 : decode cX3_takesSecondDigit 47 = .ok (.aload_n 0, 1) := by decide +kernel
theorem dX3_takesSecondDigit_48 : decode cX3_takesSecondDigit 48 = .ok (.iconst 4, 1) := by decide +kernel
theorem dX3_takesSecondDigit_49 : decode cX3_takesSecondDigit 49 = .ok (.putfield 32, 3) := by decide +kernel
theorem dX3_takesSecondDigit_52 : decode cX3_takesSecondDigit 52 = .ok (.iconst 1, 1) := by decide +kernel
theorem dX3_takesSecondDigit_53 : decode cX3_takesSecondDigit 53 = .ok (.ireturn, 1) := by decide +kernel
theorem dX3_takesComma_0 : decode cX3_takesComma 0 = .ok (.aload_n 0, 1) := by decide +kernel
theorem dX3_takesComma_1 : decode cX3_takesComma 1 = .ok (.iconst 0, 1) := by decide +kernel
theorem dX3_takesComma_2 : decode cX3_takesComma 2 = .ok (.putfield 32, 3) := by decide +kernel
theorem dX3_takesComma_5 : decode cX3_takesComma 5 = .ok (.iload_n 1, 1) := by decide +kernel
theorem dX3_takesComma_6 : decode cX3_takesComma 6 = .ok (.bipush 44, 2) := by decide +kernel
theorem dX3_takesComma_8 : decode cX3_takesComma 8 = .ok (.if_icmp .ne 7, 3) := by decide +kernel
theorem dX3_takesComma_11 : decode cX3_takesComma 11 = .ok (.iconst 1, 1) := by decide +kernel
theorem dX3_takesComma_12 : decode cX3_takesComma 12 = .ok (.goto 4, 3) := by decide +kernel
theorem dX3_takesComma_15 : decode cX3_takesComma 15 = .ok (.iconst 0, 1) := by decide +kernel
theorem dX3_takesComma_16 : decode cX3_takesComma 16 = .ok (.ireturn, 1) := by decide +kernel
theorem dX3_isDigit_0 : decode cX3_isDigit 0 = .ok (.iload_n 0, 1) := by decide +kernel
theorem dX3_isDigit_1 : decode cX3_isDigit 1 = .ok (.bipush 48, 2) := by decide +kernel
theorem dX3_isDigit_3 : decode cX3_isDigit 3 = .ok (.if_icmp .lt 13, 3) := by decide +kernel
theorem dX3_isDigit_6 : decode cX3_isDigit 6 = .ok (.iload_n 0, 1) := by decide +kernel
theorem dX3_isDigit_7 : decode cX3_isDigit 7 = .ok (.bipush 57, 2) := by decide +kernel
theorem dX3_isDigit_9 : decode cX3_isDigit 9 = .ok (.if_icmp .gt 7, 3) := by decide +kernel
theorem dX3_isDigit_12 : decode cX3_isDigit 12 = .ok (.iconst 1, 1) := by decide +kernel
theorem dX3_isDigit_13 : decode cX3_isDigit 13 = .ok (.goto 4, 3) := by decide +kernel
theorem dX3_isDigit_16 : decode cX3_isDigit 16 = .ok (.iconst 0, 1) := by decide +kernel
theorem dX3_isDigit_17 : decode cX3_isDigit 17 = .ok (.ireturn, 1) := by decide +kernel
theorem dX3_fits_0 : decode cX3_fits 0 = .ok (.iconst 0, 1) := by decide +kernel
theorem dX3_fits_1 : decode cX3_fits 1 = .ok (.istore_n 2, 1) := by decide +kernel
theorem dX3_fits_2 : decode cX3_fits 2 = .ok (.iload_n 2, 1) := by decide +kernel
theorem dX3_fits_3 : decode cX3_fits 3 = .ok (.aload_n 0, 1) := by decide +kernel
theorem dX3_fits_4 : decode cX3_fits 4 = .ok (.getfield 29, 3) := by decide +kernel
theorem dX3_fits_7 : decode cX3_fits 7 = .ok (.if_icmp .ge 24, 3) := by decide +kernel
theorem dX3_fits_10 : decode cX3_fits 10 = .ok (.aload_n 1, 1) := by decide +kernel
theorem dX3_fits_11 : decode cX3_fits 11 = .ok (.aload_n 0, 1) := by decide +kernel
theorem dX3_fits_12 : decode cX3_fits 12 = .ok (.getfield 23, 3) := by decide +kernel
theorem dX3_fits_15 : decode cX3_fits 15 = .ok (.iload_n 2, 1) := by decide +kernel
theorem dX3_fits_16 : decode cX3_fits 16 = .ok (.iaload, 1) := by decide +kernel
theorem dX3_fits_17 : decode cX3_fits 17 = .ok (.invokevirtual 63, 3) := by decide +kernel
theorem dX3_fits_20 : decode cX3_fits 20 = .ok (.ifCond .ne 5, 3) := by decide +kernel
theorem dX3_fits_23 : decode cX3_fits 23 = .ok (.iconst 0, 1) := by decide +kernel
theorem dX3_fits_24 : decode cX3_fits 24 = .ok (.ireturn, 1) := by decide +kernel
theorem dX3_fits_25 : decode cX3_fits 25 = .ok (.iinc 2 1, 3) := by decide +kernel
theorem dX3_fits_28 : decode cX3_fits 28 = .ok (.goto (-26), 3) := by decide +kernel
theorem dX3_fits_31 : decode cX3_fits 31 = .ok (.iconst 1, 1) := by decide +kernel
theorem dX3_fits_32 : decode cX3_fits 32 = .ok (.ireturn, 1) := by decide +kernel
theorem dX3_bindAll_0 : decode cX3_bindAll 0 = .ok (.iconst 0, 1) := by decide +kernel
theorem dX3_bindAll_1 : decode cX3_bindAll 1 = .ok (.istore_n 2, 1) := by decide +kernel
theorem dX3_bindAll_2 : decode cX3_bindAll 2 = .ok (.iload_n 2, 1) := by decide +kernel
theorem dX3_bindAll_3 : decode cX3_bindAll 3 = .ok (.aload_n 0, 1) := by decide +kernel
theorem dX3_bindAll_4 : decode cX3_bindAll 4 = .ok (.getfield 29, 3) := by decide +kernel
theorem dX3_bindAll_7 : decode cX3_bindAll 7 = .ok (.if_icmp .ge 31, 3) := by decide +kernel
theorem dX3_bindAll_10 : decode cX3_bindAll 10 = .ok (.aload_n 1, 1) := by decide +kernel
theorem dX3_bindAll_11 : decode cX3_bindAll 11 = .ok (.aload_n 0, 1) := by decide +kernel
theorem dX3_bindAll_12 : decode cX3_bindAll 12 = .ok (.getfield 19, 3) := by decide +kernel
theorem dX3_bindAll_15 : decode cX3_bindAll 15 = .ok (.iload_n 2, 1) := by decide +kernel
theorem dX3_bindAll_16 : decode cX3_bindAll 16 = .ok (.iaload, 1) := by decide +kernel
theorem dX3_bindAll_17 : decode cX3_bindAll 17 = .ok (.aload_n 0, 1) := by decide +kernel
theorem dX3_bindAll_18 : decode cX3_bindAll 18 = .ok (.getfield 23, 3) := by decide +kernel
theorem dX3_bindAll_21 : decode cX3_bindAll 21 = .ok (.iload_n 2, 1) := by decide +kernel
theorem dX3_bindAll_22 : decode cX3_bindAll 22 = .ok (.iaload, 1) := by decide +kernel
theorem dX3_bindAll_23 : decode cX3_bindAll 23 = .ok (.aload_n 0, 1) := by decide +kernel
theorem dX3_bindAll_24 : decode cX3_bindAll 24 = .ok (.getfield 26, 3) := by decide +kernel
theorem dX3_bindAll_27 : decode cX3_bindAll 27 = .ok (.iload_n 2, 1) := by decide +kernel
theorem dX3_bindAll_28 : decode cX3_bindAll 28 = .ok (.iaload, 1) := by decide +kernel
theorem dX3_bindAll_29 : decode cX3_bindAll 29 = .ok (.invokevirtual 69, 3) := by decide +kernel
theorem dX3_bindAll_32 : decode cX3_bindAll 32 = .ok (.iinc 2 1, 3) := by decide +kernel
theorem dX3_bindAll_35 : decode cX3_bindAll 35 = .ok (.goto (-33), 3) := by decide +kernel
theorem dX3_bindAll_38 : decode cX3_bindAll 38 = .ok (.return_, 1) := by decide +kernel
theorem dX4_init_0 : decode cX4_init 0 = .ok (.aload_n 0, 1) := by decide +kernel
theorem dX4_init_1 : decode cX4_init 1 = .ok (.invokespecial 3, 3) := by decide +kernel
theorem dX4_init_4 : decode cX4_init 4 = .ok (.aload_n 0, 1) := by decide +kernel
theorem dX4_init_5 : decode cX4_init 5 = .ok (.iconst 4, 1) := by decide +kernel
theorem dX4_init_6 : decode cX4_init 6 = .ok (.putfield 9, 3) := by decide +kernel
theorem dX4_init_9 : decode cX4_init 9 = .ok (.aload_n 0, 1) := by decide +kernel
theorem dX4_init_10 : decode cX4_init 10 = .ok (.iconst 0, 1) := by decide +kernel
theorem dX4_init_11 : decode cX4_init 11 = .ok (.putfield 15, 3) := by decide +kernel
theorem dX4_init_14 : decode cX4_init 14 = .ok (.aload_n 0, 1) := by decide +kernel
theorem dX4_init_15 : decode cX4_init 15 = .ok (.iconst 1, 1) := by decide +kernel
theorem dX4_init_16 : decode cX4_init 16 = .ok (.putfield 18, 3) := by decide +kernel
theorem dX4_init_19 : decode cX4_init 19 = .ok (.aload_n 0, 1) := by decide +kernel
theorem dX4_init_20 : decode cX4_init 20 = .ok (.bipush 100, 2) := by decide +kernel
theorem dX4_init_22 : decode cX4_init 22 = .ok (.newarray .int, 2) := by decide +kernel
theorem dX4_init_24 : decode cX4_init 24 = .ok (.putfield 21, 3) := by decide +kernel
theorem dX4_init_27 : decode cX4_init 27 = .ok (.return_, 1) := by decide +kernel
theorem dX4_copyFrom_0 : decode cX4_copyFrom 0 = .ok (.aload_n 0, 1) := by decide +kernel
theorem dX4_copyFrom_1 : decode cX4_copyFrom 1 = .ok (.aload_n 1, 1) := by decide +kernel
theorem dX4_copyFrom_2 : decode cX4_copyFrom 2 = .ok (.getfield 9, 3) := by decide +kernel
theorem dX4_copyFrom_5 : decode cX4_copyFrom 5 = .ok (.putfield 9, 3) := by decide +kernel
theorem dX4_copyFrom_8 : decode cX4_copyFrom 8 = .ok (.aload_n 0, 1) := by decide +kernel
theorem dX4_copyFrom_9 : decode cX4_copyFrom 9 = .ok (.aload_n 1, 1) := by decide +kernel
theorem dX4_copyFrom_10 : decode cX4_copyFrom 10 = .ok (.getfield 15, 3) := by decide +kernel
theorem dX4_copyFrom_13 : decode cX4_copyFrom 13 = .ok (.putfield 15, 3) := by decide +kernel
theorem dX4_copyFrom_16 : decode cX4_copyFrom 16 = .ok (.aload_n 0, 1) := by decide +kernel
theorem dX4_copyFrom_17 : decode cX4_copyFrom 17 = .ok (.aload_n 1, 1) := by decide +kernel
theorem dX4_copyFrom_18 : decode cX4_copyFrom 18 = .ok (.getfield 18, 3) := by decide +kernel
theorem dX4_copyFrom_21 : decode cX4_copyFrom 21 = .ok (.putfield 18, 3) := by decide +kernel
theorem dX4_copyFrom_24 : decode cX4_copyFrom 24 = .ok (.aload_n 1, 1) := by decide +kernel
theorem dX4_copyFrom_25 : decode cX4_copyFrom 25 = .ok (.getfield 21, 3) := by decide +kernel
theorem dX4_copyFrom_28 : decode cX4_copyFrom 28 = .ok (.iconst 0, 1) := by decide +kernel
theorem dX4_copyFrom_29 : decode cX4_copyFrom 29 = .ok (.aload_n 0, 1) := by decide +kernel
theorem dX4_copyFrom_30 : decode cX4_copyFrom 30 = .ok (.getfield 21, 3) := by decide +kernel
theorem dX4_copyFrom_33 : decode cX4_copyFrom 33 = .ok (.iconst 0, 1) := by decide +kernel
theorem dX4_copyFrom_34 : decode cX4_copyFrom 34 = .ok (.aload_n 0, 1) := by decide +kernel
theorem dX4_copyFrom_35 : decode cX4_copyFrom 35 = .ok (.getfield 21, 3) := by decide +kernel
theorem dX4_copyFrom_38 : decode cX4_copyFrom 38 = .ok (.arraylength, 1) := by decide +kernel
theorem dX4_copyFrom_39 : decode cX4_copyFrom 39 = .ok (.invokestatic 25, 3) := by decide +kernel
theorem dX4_copyFrom_42 : decode cX4_copyFrom 42 = .ok (.return_, 1) := by decide +kernel
theorem dX4_has_0 : decode cX4_has 0 = .ok (.iload_n 1, 1) := by decide +kernel
theorem dX4_has_1 : decode cX4_has 1 = .ok (.ifCond .lt 15, 3) := by decide +kernel
theorem dX4_has_4 : decode cX4_has 4 = .ok (.iload_n 1, 1) := by decide +kernel
theorem dX4_has_5 : decode cX4_has 5 = .ok (.aload_n 0, 1) := by decide +kernel
theorem dX4_has_6 : decode cX4_has 6 = .ok (.getfield 9, 3) := by decide +kernel
theorem dX4_has_9 : decode cX4_has 9 = .ok (.if_icmp .ge 7, 3) := by decide +kernel
theorem dX4_has_12 : decode cX4_has 12 = .ok (.iconst 1, 1) := by decide +kernel
theorem dX4_has_13 : decode cX4_has 13 = .ok (.goto 4, 3) := by decide +kernel
theorem dX4_has_16 : decode cX4_has 16 = .ok (.iconst 0, 1) := by decide +kernel
theorem dX4_has_17 : decode cX4_has 17 = .ok (.ireturn, 1) := by decide +kernel
theorem dX4_tieOf_0 : decode cX4_tieOf 0 = .ok (.aload_n 0, 1) := by decide +kernel
theorem dX4_tieOf_1 : decode cX4_tieOf 1 = .ok (.iload_n 1, 1) := by decide +kernel
theorem dX4_tieOf_2 : decode cX4_tieOf 2 = .ok (.invokevirtual 31, 3) := by decide +kernel
theorem dX4_tieOf_5 : decode cX4_tieOf 5 = .ok (.ifCond .eq 25, 3) := by decide +kernel
theorem dX4_tieOf_8 : decode cX4_tieOf 8 = .ok (.aload_n 0, 1) := by decide +kernel
theorem dX4_tieOf_9 : decode cX4_tieOf 9 = .ok (.iload_n 2, 1) := by decide +kernel
theorem dX4_tieOf_10 : decode cX4_tieOf 10 = .ok (.invokevirtual 31, 3) := by decide +kernel
theorem dX4_tieOf_13 : decode cX4_tieOf 13 = .ok (.ifCond .eq 17, 3) := by decide +kernel
theorem dX4_tieOf_16 : decode cX4_tieOf 16 = .ok (.aload_n 0, 1) := by decide +kernel
theorem dX4_tieOf_17 : decode cX4_tieOf 17 = .ok (.getfield 21, 3) := by decide +kernel
theorem dX4_tieOf_20 : decode cX4_tieOf 20 = .ok (.iload_n 1, 1) := by decide +kernel
theorem dX4_tieOf_21 : decode cX4_tieOf 21 = .ok (.bipush 10, 2) := by decide +kernel
theorem dX4_tieOf_23 : decode cX4_tieOf 23 = .ok (.imul, 1) := by decide +kernel
theorem dX4_tieOf_24 : decode cX4_tieOf 24 = .ok (.iload_n 2, 1) := by decide +kernel
theorem dX4_tieOf_25 : decode cX4_tieOf 25 = .ok (.iadd, 1) := by decide +kernel
theorem dX4_tieOf_26 : decode cX4_tieOf 26 = .ok (.iaload, 1) := by decide +kernel
theorem dX4_tieOf_27 : decode cX4_tieOf 27 = .ok (.goto 4, 3) := by decide +kernel
theorem dX4_tieOf_30 : decode cX4_tieOf 30 = .ok (.iconst 0, 1) := by decide +kernel
theorem dX4_tieOf_31 : decode cX4_tieOf 31 = .ok (.ireturn, 1) := by decide +kernel
theorem dX4_bind_0 : decode cX4_bind 0 = .ok (.aload_n 0, 1) := by decide +kernel
theorem dX4_bind_1 : decode cX4_bind 1 = .ok (.iload_n 1, 1) := by decide +kernel
theorem dX4_bind_2 : decode cX4_bind 2 = .ok (.invokevirtual 31, 3) := by decide +kernel
theorem dX4_bind_5 : decode cX4_bind 5 = .ok (.ifCond .eq 35, 3) := by decide +kernel
theorem dX4_bind_8 : decode cX4_bind 8 = .ok (.aload_n 0, 1) := by decide +kernel
theorem dX4_bind_9 : decode cX4_bind 9 = .ok (.iload_n 2, 1) := by decide +kernel
theorem dX4_bind_10 : decode cX4_bind 10 = .ok (.invokevirtual 31, 3) := by decide +kernel
theorem dX4_bind_13 : decode cX4_bind 13 = .ok (.ifCond .eq 27, 3) := by decide +kernel
theorem dX4_bind_16 : decode cX4_bind 16 = .ok (.aload_n 0, 1) := by decide +kernel
theorem dX4_bind_17 : decode cX4_bind 17 = .ok (.getfield 21, 3) := by decide +kernel
theorem dX4_bind_20 : decode cX4_bind 20 = .ok (.iload_n 1, 1) := by decide +kernel
theorem dX4_bind_21 : decode cX4_bind 21 = .ok (.bipush 10, 2) := by decide +kernel
theorem dX4_bind_23 : decode cX4_bind 23 = .ok (.imul, 1) := by decide +kernel
theorem dX4_bind_24 : decode cX4_bind 24 = .ok (.iload_n 2, 1) := by decide +kernel
theorem dX4_bind_25 : decode cX4_bind 25 = .ok (.iadd, 1) := by decide +kernel
theorem dX4_bind_26 : decode cX4_bind 26 = .ok (.iload_n 3, 1) := by decide +kernel
theorem dX4_bind_27 : decode cX4_bind 27 = .ok (.iastore, 1) := by decide +kernel
theorem dX4_bind_28 : decode cX4_bind 28 = .ok (.aload_n 0, 1) := by decide +kernel
theorem dX4_bind_29 : decode cX4_bind 29 = .ok (.getfield 21, 3) := by decide +kernel
theorem dX4_bind_32 : decode cX4_bind 32 = .ok (.iload_n 2, 1) := by decide +kernel
theorem dX4_bind_33 : decode cX4_bind 33 = .ok (.bipush 10, 2) := by decide +kernel
theorem dX4_bind_35 : decode cX4_bind 35 = .ok (.imul, 1) := by decide +kernel
theorem dX4_bind_36 : decode cX4_bind 36 = .ok (.iload_n 1, 1) := by decide +kernel
theorem dX4_bind_37 : decode cX4_bind 37 = .ok (.iadd, 1) := by decide +kernel
theorem dX4_bind_38 : decode cX4_bind 38 = .ok (.iload_n 3, 1) := by decide +kernel
theorem dX4_bind_39 : decode cX4_bind 39 = .ok (.iastore, 1) := by decide +kernel
theorem dX4_bind_40 : decode cX4_bind 40 = .ok (.return_, 1) := by decide +kernel
theorem dX4_addPlace_0 : decode cX4_addPlace 0 = .ok (.aload_n 0, 1) := by decide +kernel
theorem dX4_addPlace_1 : decode cX4_addPlace 1 = .ok (.getfield 9, 3) := by decide +kernel
theorem dX4_addPlace_4 : decode cX4_addPlace 4 = .ok (.bipush 10, 2) := by decide +kernel
theorem dX4_addPlace_6 : decode cX4_addPlace 6 = .ok (.if_icmp .lt 4, 3) := by decide +kernel
theorem dX4_addPlace_9 : decode cX4_addPlace 9 = .ok (.return_, 1) := by decide +kernel
theorem dX4_addPlace_10 : decode cX4_addPlace 10 = .ok (.aload_n 0, 1) := by decide +kernel
theorem dX4_addPlace_11 : decode cX4_addPlace 11 = .ok (.dup, 1) := by decide +kernel
theorem dX4_addPlace_12 : decode cX4_addPlace 12 = .ok (.getfield 9, 3) := by decide +kernel
theorem dX4_addPlace_15 : decode cX4_addPlace 15 = .ok (.iconst 1, 1) := by decide +kernel
theorem dX4_addPlace_16 : decode cX4_addPlace 16 = .ok (.iadd, 1) := by decide +kernel
theorem dX4_addPlace_17 : decode cX4_addPlace 17 = .ok (.putfield 9, 3) := by decide +kernel
theorem dX4_addPlace_20 : decode cX4_addPlace 20 = .ok (.iconst 0, 1) := by decide +kernel
theorem dX4_addPlace_21 : decode cX4_addPlace 21 = .ok (.istore_n 1, 1) := by decide +kernel
theorem dX4_addPlace_22 : decode cX4_addPlace 22 = .ok (.iload_n 1, 1) := by decide +kernel
theorem dX4_addPlace_23 : decode cX4_addPlace 23 = .ok (.aload_n 0, 1) := by decide +kernel
theorem dX4_addPlace_24 : decode cX4_addPlace 24 = .ok (.getfield 9, 3) := by decide +kernel
theorem dX4_addPlace_27 : decode cX4_addPlace 27 = .ok (.if_icmp .ge 21, 3) := by decide +kernel
theorem dX4_addPlace_30 : decode cX4_addPlace 30 = .ok (.aload_n 0, 1) := by decide +kernel
theorem dX4_addPlace_31 : decode cX4_addPlace 31 = .ok (.aload_n 0, 1) := by decide +kernel
theorem dX4_addPlace_32 : decode cX4_addPlace 32 = .ok (.getfield 9, 3) := by decide +kernel
theorem dX4_addPlace_35 : decode cX4_addPlace 35 = .ok (.iconst 1, 1) := by decide +kernel
theorem dX4_addPlace_36 : decode cX4_addPlace 36 = .ok (.isub, 1) := by decide +kernel
theorem dX4_addPlace_37 : decode cX4_addPlace 37 = .ok (.iload_n 1, 1) := by decide +kernel
theorem dX4_addPlace_38 : decode cX4_addPlace 38 = .ok (.iconst 0, 1) := by decide +kernel
theorem dX4_addPlace_39 : decode cX4_addPlace 39 = .ok (.invokevirtual 35, 3) := by decide +kernel
theorem dX4_addPlace_42 : decode cX4_addPlace 42 = .ok (.iinc 1 1, 3) := by decide +kernel
theorem dX4_addPlace_45 : decode cX4_addPlace 45 = .ok (.goto (-23), 3) := by decide +kernel
theorem dX4_addPlace_48 : decode cX4_addPlace 48 = .ok (.return_, 1) := by decide +kernel
theorem dX4_dropPlace_0 : decode cX4_dropPlace 0 = .ok (.iconst 0, 1) := by decide +kernel
theorem dX4_dropPlace_1 : decode cX4_dropPlace 1 = .ok (.istore_n 2, 1) := by decide +kernel
theorem dX4_dropPlace_2 : decode cX4_dropPlace 2 = .ok (.iload_n 2, 1) := by decide +kernel
theorem dX4_dropPlace_3 : decode cX4_dropPlace 3 = .ok (.aload_n 0, 1) := by decide +kernel
theorem dX4_dropPlace_4 : decode cX4_dropPlace 4 = .ok (.getfield 9, 3) := by decide +kernel
theorem dX4_dropPlace_7 : decode cX4_dropPlace 7 = .ok (.iconst 1, 1) := by decide +kernel
theorem dX4_dropPlace_8 : decode cX4_dropPlace 8 = .ok (.isub, 1) := by decide +kernel
theorem dX4_dropPlace_9 : decode cX4_dropPlace 9 = .ok (.if_icmp .ge 64, 3) := by decide +kernel
theorem dX4_dropPlace_12 : decode cX4_dropPlace 12 = .ok (.iconst 0, 1) := by decide +kernel
theorem dX4_dropPlace_13 : decode cX4_dropPlace 13 = .ok (.istore_n 3, 1) := by decide +kernel
theorem dX4_dropPlace_14 : decode cX4_dropPlace 14 = .ok (.iload_n 3, 1) := by decide +kernel
theorem dX4_dropPlace_15 : decode cX4_dropPlace 15 = .ok (.iload_n 2, 1) := by decide +kernel
theorem dX4_dropPlace_16 : decode cX4_dropPlace 16 = .ok (.if_icmp .ge 51, 3) := by decide +kernel
theorem dX4_dropPlace_19 : decode cX4_dropPlace 19 = .ok (.iload_n 2, 1) := by decide +kernel
theorem dX4_dropPlace_20 : decode cX4_dropPlace 20 = .ok (.iload_n 1, 1) := by decide +kernel
theorem dX4_dropPlace_21 : decode cX4_dropPlace 21 = .ok (.if_icmp .ge 7, 3) := by decide +kernel
theorem dX4_dropPlace_24 : decode cX4_dropPlace 24 = .ok (.iload_n 2, 1) := by decide +kernel
theorem dX4_dropPlace_25 : decode cX4_dropPlace 25 = .ok (.goto 6, 3) := by decide +kernel
theorem dX4_dropPlace_28 : decode cX4_dropPlace 28 = .ok (.iload_n 2, 1) := by decide +kernel
theorem dX4_dropPlace_29 : decode cX4_dropPlace 29 = .ok (.iconst 1, 1) := by decide +kernel
theorem dX4_dropPlace_30 : decode cX4_dropPlace 30 = .ok (.iadd, 1) := by decide +kernel
theorem dX4_dropPlace_31 : decode cX4_dropPlace 31 = .ok (.istore 4, 2) := by decide +kernel
theorem dX4_dropPlace_33 : decode cX4_dropPlace 33 = .ok (.iload_n 3, 1) := by decide +kernel
theorem dX4_dropPlace_34 : decode cX4_dropPlace 34 = .ok (.iload_n 1, 1) := by decide +kernel
theorem dX4_dropPlace_35 : decode cX4_dropPlace 35 = .ok (.if_icmp .ge 7, 3) := by decide +kernel
theorem dX4_dropPlace_38 : decode cX4_dropPlace 38 = .ok (.iload_n 3, 1) := by decide +kernel
theorem dX4_dropPlace_39 : decode cX4_dropPlace 39 = .ok (.goto 6, 3) := by decide +kernel
theorem dX4_dropPlace_42 : decode cX4_dropPlace 42 = .ok (.iload_n 3, 1) := by decide +kernel
theorem dX4_dropPlace_43 : decode cX4_dropPlace 43 = .ok (.iconst 1, 1) := by decide +kernel
theorem dX4_dropPlace_44 : decode cX4_dropPlace 44 = .ok (.iadd, 1) := by decide +kernel
theorem dX4_dropPlace_45 : decode cX4_dropPlace 45 = .ok (.istore 5, 2) := by decide +kernel
theorem dX4_dropPlace_47 : decode cX4_dropPlace 47 = .ok (.aload_n 0, 1) := by decide +kernel
theorem dX4_dropPlace_48 : decode cX4_dropPlace 48 = .ok (.iload_n 2, 1) := by decide +kernel
theorem dX4_dropPlace_49 : decode cX4_dropPlace 49 = .ok (.iload_n 3, 1) := by decide +kernel
theorem dX4_dropPlace_50 : decode cX4_dropPlace 50 = .ok (.aload_n 0, 1) := by decide +kernel
theorem dX4_dropPlace_51 : decode cX4_dropPlace 51 = .ok (.iload 4, 2) := by decide +kernel
theorem dX4_dropPlace_53 : decode cX4_dropPlace 53 = .ok (.iload 5, 2) := by decide +kernel
theorem dX4_dropPlace_55 : decode cX4_dropPlace 55 = .ok (.invokevirtual 39, 3) := by decide +kernel
theorem dX4_dropPlace_58 : decode cX4_dropPlace 58 = .ok (.invokevirtual 35, 3) := by decide +kernel
theorem dX4_dropPlace_61 : decode cX4_dropPlace 61 = .ok (.iinc 3 1, 3) := by decide +kernel
theorem dX4_dropPlace_64 : decode cX4_dropPlace 64 = .ok (.goto (-50), 3) := by decide +kernel
theorem dX4_dropPlace_67 : decode cX4_dropPlace 67 = .ok (.iinc 2 1, 3) := by decide +kernel
theorem dX4_dropPlace_70 : decode cX4_dropPlace 70 = .ok (.goto (-68), 3) := by decide +kernel
theorem dX4_dropPlace_73 : decode cX4_dropPlace 73 = .ok (.aload_n 0, 1) := by decide +kernel
theorem dX4_dropPlace_74 : decode cX4_dropPlace 74 = .ok (.dup, 1) := by decide +kernel
theorem dX4_dropPlace_75 : decode cX4_dropPlace 75 = .ok (.getfield 9, 3) := by decide +kernel
theorem dX4_dropPlace_78 : decode cX4_dropPlace 78 = .ok (.iconst 1, 1) := by decide +kernel
theorem dX4_dropPlace_79 : decode cX4_dropPlace 79 = .ok (.isub, 1) := by decide +kernel
theorem dX4_dropPlace_80 : decode cX4_dropPlace 80 = .ok (.putfield 9, 3) := by decide +kernel
theorem dX4_dropPlace_83 : decode cX4_dropPlace 83 = .ok (.aload_n 0, 1) := by decide +kernel
theorem dX4_dropPlace_84 : decode cX4_dropPlace 84 = .ok (.getfield 15, 3) := by decide +kernel
theorem dX4_dropPlace_87 : decode cX4_dropPlace 87 = .ok (.iload_n 1, 1) := by decide +kernel
theorem dX4_dropPlace_88 : decode cX4_dropPlace 88 = .ok (.if_icmp .ne 11, 3) := by decide +kernel
theorem dX4_dropPlace_91 : decode cX4_dropPlace 91 = .ok (.aload_n 0, 1) := by decide +kernel
theorem dX4_dropPlace_92 : decode cX4_dropPlace 92 = .ok (.iconst 0, 1) := by decide +kernel
theorem dX4_dropPlace_93 : decode cX4_dropPlace 93 = .ok (.putfield 15, 3) := by decide +kernel
theorem dX4_dropPlace_96 : decode cX4_dropPlace 96 = .ok (.goto 21, 3) := by decide +kernel
theorem dX4_dropPlace_99 : decode cX4_dropPlace 99 = .ok (.aload_n 0, 1) := by decide +kernel
theorem dX4_dropPlace_100 : decode cX4_dropPlace 100 = .ok (.getfield 15, 3) := by decide +kernel
theorem dX4_dropPlace_103 : decode cX4_dropPlace 103 = .ok (.iload_n 1, 1) := by decide +kernel
theorem dX4_dropPlace_104 : decode cX4_dropPlace 104 = .ok (.if_icmp .le 13, 3) := by decide +kernel
theorem dX4_dropPlace_107 : decode cX4_dropPlace 107 = .ok (.aload_n 0, 1) := by decide +kernel
theorem dX4_dropPlace_108 : decode cX4_dropPlace 108 = .ok (.dup, 1) := by decide +kernel
theorem dX4_dropPlace_109 : decode cX4_dropPlace 109 = .ok (.getfield 15, 3) := by decide +kernel
theorem dX4_dropPlace_112 : decode cX4_dropPlace 112 = .ok (.iconst 1, 1) := by decide +kernel
theorem dX4_dropPlace_113 : decode cX4_dropPlace 113 = .ok (.isub, 1) := by decide +kernel
theorem dX4_dropPlace_114 : decode cX4_dropPlace 114 = .ok (.putfield 15, 3) := by decide +kernel
theorem dX4_dropPlace_117 : decode cX4_dropPlace 117 = .ok (.return_, 1) := by decide +kernel
theorem dX4_mergePlaces_0 : decode cX4_mergePlaces 0 = .ok (.iconst 0, 1) := by decide +kernel
theorem dX4_mergePlaces_1 : decode cX4_mergePlaces 1 = .ok (.istore_n 3, 1) := by decide +kernel
theorem dX4_mergePlaces_2 : decode cX4_mergePlaces 2 = .ok (.iload_n 3, 1) := by decide +kernel
theorem dX4_mergePlaces_3 : decode cX4_mergePlaces 3 = .ok (.aload_n 0, 1) := by decide +kernel
theorem dX4_mergePlaces_4 : decode cX4_mergePlaces 4 = .ok (.getfield 9, 3) := by decide +kernel
theorem dX4_mergePlaces_7 : decode cX4_mergePlaces 7 = .ok (.if_icmp .ge 47, 3) := by decide +kernel
theorem dX4_mergePlaces_10 : decode cX4_mergePlaces 10 = .ok (.iload_n 3, 1) := by decide +kernel
theorem dX4_mergePlaces_11 : decode cX4_mergePlaces 11 = .ok (.iload_n 1, 1) := by decide +kernel
theorem dX4_mergePlaces_12 : decode cX4_mergePlaces 12 = .ok (.if_icmp .eq 36, 3) := by decide +kernel
theorem dX4_mergePlaces_15 : decode cX4_mergePlaces 15 = .ok (.iload_n 3, 1) := by decide +kernel
theorem dX4_mergePlaces_16 : decode cX4_mergePlaces 16 = .ok (.iload_n 2, 1) := by decide +kernel
theorem dX4_mergePlaces_17 : decode cX4_mergePlaces 17 = .ok (.if_icmp .eq 31, 3) := by decide +kernel
theorem dX4_mergePlaces_20 : decode cX4_mergePlaces 20 = .ok (.aload_n 0, 1) := by decide +kernel
theorem dX4_mergePlaces_21 : decode cX4_mergePlaces 21 = .ok (.iload_n 1, 1) := by decide +kernel
theorem dX4_mergePlaces_22 : decode cX4_mergePlaces 22 = .ok (.iload_n 3, 1) := by decide +kernel
theorem dX4_mergePlaces_23 : decode cX4_mergePlaces 23 = .ok (.invokevirtual 39, 3) := by decide +kernel
theorem dX4_mergePlaces_26 : decode cX4_mergePlaces 26 = .ok (.aload_n 0, 1) := by decide +kernel
theorem dX4_mergePlaces_27 : decode cX4_mergePlaces 27 = .ok (.iload_n 2, 1) := by decide +kernel
theorem dX4_mergePlaces_28 : decode cX4_mergePlaces 28 = .ok (.iload_n 3, 1) := by decide +kernel
theorem dX4_mergePlaces_29 : decode cX4_mergePlaces 29 = .ok (.invokevirtual 39, 3) := by decide +kernel
theorem dX4_mergePlaces_32 : decode cX4_mergePlaces 32 = .ok (.iadd, 1) := by decide +kernel
theorem dX4_mergePlaces_33 : decode cX4_mergePlaces 33 = .ok (.istore 4, 2) := by decide +kernel
theorem dX4_mergePlaces_35 : decode cX4_mergePlaces 35 = .ok (.aload_n 0, 1) := by decide +kernel
theorem dX4_mergePlaces_36 : decode cX4_mergePlaces 36 = .ok (.iload_n 1, 1) := by decide +kernel
theorem dX4_mergePlaces_37 : decode cX4_mergePlaces 37 = .ok (.iload_n 3, 1) := by decide +kernel
theorem dX4_mergePlaces_38 : decode cX4_mergePlaces 38 = .ok (.iload 4, 2) := by decide +kernel
theorem dX4_mergePlaces_40 : decode cX4_mergePlaces 40 = .ok (.bipush 99, 2) := by decide +kernel
theorem dX4_mergePlaces_42 : decode cX4_mergePlaces 42 = .ok (.invokestatic 43, 3) := by decide +kernel
theorem dX4_mergePlaces_45 : decode cX4_mergePlaces 45 = .ok (.invokevirtual 35, 3) := by decide +kernel
theorem dX4_mergePlaces_48 : decode cX4_mergePlaces 48 = .ok (.iinc 3 1, 3) := by decide +kernel
theorem dX4_mergePlaces_51 : decode cX4_mergePlaces 51 = .ok (.goto (-49), 3) := by decide +kernel
theorem dX4_mergePlaces_54 : decode cX4_mergePlaces 54 = .ok (.aload_n 0, 1) := by decide +kernel
theorem dX4_mergePlaces_55 : decode cX4_mergePlaces 55 = .ok (.getfield 15, 3) := by decide +kernel
theorem dX4_mergePlaces_58 : decode cX4_mergePlaces 58 = .ok (.iload_n 2, 1) := by decide +kernel
theorem dX4_mergePlaces_59 : decode cX4_mergePlaces 59 = .ok (.if_icmp .ne 8, 3) := by decide +kernel
theorem dX4_mergePlaces_62 : decode cX4_mergePlaces 62 = .ok (.aload_n 0, 1) := by decide +kernel
theorem dX4_mergePlaces_63 : decode cX4_mergePlaces 63 = .ok (.iload_n 1, 1) := by decide +kernel
theorem dX4_mergePlaces_64 : decode cX4_mergePlaces 64 = .ok (.putfield 15, 3) := by decide +kernel
theorem dX4_mergePlaces_67 : decode cX4_mergePlaces 67 = .ok (.aload_n 0, 1) := by decide +kernel
theorem dX4_mergePlaces_68 : decode cX4_mergePlaces 68 = .ok (.iload_n 2, 1) := by decide +kernel
theorem dX4_mergePlaces_69 : decode cX4_mergePlaces 69 = .ok (.invokevirtual 48, 3) := by decide +kernel
theorem dX4_mergePlaces_72 : decode cX4_mergePlaces 72 = .ok (.return_, 1) := by decide +kernel
theorem dX4_weightsOf_0 : decode cX4_weightsOf 0 = .ok (.iconst 0, 1) := by decide +kernel
theorem dX4_weightsOf_1 : decode cX4_weightsOf 1 = .ok (.istore_n 2, 1) := by decide +kernel
theorem dX4_weightsOf_2 : decode cX4_weightsOf 2 = .ok (.iconst 0, 1) := by decide +kernel
theorem dX4_weightsOf_3 : decode cX4_weightsOf 3 = .ok (.istore_n 3, 1) := by decide +kernel
theorem dX4_weightsOf_4 : decode cX4_weightsOf 4 = .ok (.iload_n 3, 1) := by decide +kernel
theorem dX4_weightsOf_5 : decode cX4_weightsOf 5 = .ok (.aload_n 0, 1) := by decide +kernel
theorem dX4_weightsOf_6 : decode cX4_weightsOf 6 = .ok (.getfield 9, 3) := by decide +kernel
theorem dX4_weightsOf_9 : decode cX4_weightsOf 9 = .ok (.if_icmp .ge 18, 3) := by decide +kernel
theorem dX4_weightsOf_12 : decode cX4_weightsOf 12 = .ok (.iload_n 2, 1) := by decide +kernel
theorem dX4_weightsOf_13 : decode cX4_weightsOf 13 = .ok (.aload_n 0, 1) := by decide +kernel
theorem dX4_weightsOf_14 : decode cX4_weightsOf 14 = .ok (.iload_n 1, 1) := by decide +kernel
theorem dX4_weightsOf_15 : decode cX4_weightsOf 15 = .ok (.iload_n 3, 1) := by decide +kernel
theorem dX4_weightsOf_16 : decode cX4_weightsOf 16 = .ok (.invokevirtual 39, 3) := by decide +kernel
theorem dX4_weightsOf_19 : decode cX4_weightsOf 19 = .ok (.iadd, 1) := by decide +kernel
theorem dX4_weightsOf_20 : decode cX4_weightsOf 20 = .ok (.istore_n 2, 1) := by decide +kernel
theorem dX4_weightsOf_21 : decode cX4_weightsOf 21 = .ok (.iinc 3 1, 3) := by decide +kernel
theorem dX4_weightsOf_24 : decode cX4_weightsOf 24 = .ok (.goto (-20), 3) := by decide +kernel
theorem dX4_weightsOf_27 : decode cX4_weightsOf 27 = .ok (.iload_n 2, 1) := by decide +kernel
theorem dX4_weightsOf_28 : decode cX4_weightsOf 28 = .ok (.ireturn, 1) := by decide +kernel
theorem dX4_neighboursOf_0 : decode cX4_neighboursOf 0 = .ok (.iconst 0, 1) := by decide +kernel
theorem dX4_neighboursOf_1 : decode cX4_neighboursOf 1 = .ok (.istore_n 2, 1) := by decide +kernel
theorem dX4_neighboursOf_2 : decode cX4_neighboursOf 2 = .ok (.iconst 0, 1) := by decide +kernel
theorem dX4_neighboursOf_3 : decode cX4_neighboursOf 3 = .ok (.istore_n 3, 1) := by decide +kernel
theorem dX4_neighboursOf_4 : decode cX4_neighboursOf 4 = .ok (.iload_n 3, 1) := by decide +kernel
theorem dX4_neighboursOf_5 : decode cX4_neighboursOf 5 = .ok (.aload_n 0, 1) := by decide +kernel
theorem dX4_neighboursOf_6 : decode cX4_neighboursOf 6 = .ok (.getfield 9, 3) := by decide +kernel
theorem dX4_neighboursOf_9 : decode cX4_neighboursOf 9 = .ok (.if_icmp .ge 24, 3) := by decide +kernel
theorem dX4_neighboursOf_12 : decode cX4_neighboursOf 12 = .ok (.aload_n 0, 1) := by decide +kernel
theorem dX4_neighboursOf_13 : decode cX4_neighboursOf 13 = .ok (.iload_n 1, 1) := by decide +kernel
theorem dX4_neighboursOf_14 : decode cX4_neighboursOf 14 = .ok (.iload_n 3, 1) := by decide +kernel
theorem dX4_neighboursOf_15 : decode cX4_neighboursOf 15 = .ok (.invokevirtual 39, 3) := by decide +kernel
theorem dX4_neighboursOf_18 : decode cX4_neighboursOf 18 = .ok (.ifCond .le 9, 3) := by decide +kernel
theorem dX4_neighboursOf_21 : decode cX4_neighboursOf 21 = .ok (.iload_n 2, 1) := by decide +kernel
theorem dX4_neighboursOf_22 : decode cX4_neighboursOf 22 = .ok (.iconst 1, 1) := by decide +kernel
theorem dX4_neighboursOf_23 : decode cX4_neighboursOf 23 = .ok (.iload_n 3, 1) := by decide +kernel
theorem dX4_neighboursOf_24 : decode cX4_neighboursOf 24 = .ok (.ishl, 1) := by decide +kernel
theorem dX4_neighboursOf_25 : decode cX4_neighboursOf 25 = .ok (.ior, 1) := by decide +kernel
theorem dX4_neighboursOf_26 : decode cX4_neighboursOf 26 = .ok (.istore_n 2, 1) := by decide +kernel
theorem dX4_neighboursOf_27 : decode cX4_neighboursOf 27 = .ok (.iinc 3 1, 3) := by decide +kernel
theorem dX4_neighboursOf_30 : decode cX4_neighboursOf 30 = .ok (.goto (-26), 3) := by decide +kernel
theorem dX4_neighboursOf_33 : decode cX4_neighboursOf 33 = .ok (.iload_n 2, 1) := by decide +kernel
theorem dX4_neighboursOf_34 : decode cX4_neighboursOf 34 = .ok (.ireturn, 1) := by decide +kernel
theorem dX4_reachedFrom_0 : decode cX4_reachedFrom 0 = .ok (.iconst 1, 1) := by decide +kernel
theorem dX4_reachedFrom_1 : decode cX4_reachedFrom 1 = .ok (.iload_n 1, 1) := by decide +kernel
theorem dX4_reachedFrom_2 : decode cX4_reachedFrom 2 = .ok (.ishl, 1) := by decide +kernel
theorem dX4_reachedFrom_3 : decode cX4_reachedFrom 3 = .ok (.istore_n 2, 1) := by decide +kernel
theorem dX4_reachedFrom_4 : decode cX4_reachedFrom 4 = .ok (.iconst 0, 1) := by decide +kernel
theorem dX4_reachedFrom_5 : decode cX4_reachedFrom 5 = .ok (.istore_n 3, 1) := by decide +kernel
theorem dX4_reachedFrom_6 : decode cX4_reachedFrom 6 = .ok (.iload_n 3, 1) := by decide +kernel
theorem dX4_reachedFrom_7 : decode cX4_reachedFrom 7 = .ok (.aload_n 0, 1) := by decide +kernel
theorem dX4_reachedFrom_8 : decode cX4_reachedFrom 8 = .ok (.getfield 9, 3) := by decide +kernel
theorem dX4_reachedFrom_11 : decode cX4_reachedFrom 11 = .ok (.if_icmp .ge 45, 3) := by decide +kernel
theorem dX4_reachedFrom_14 : decode cX4_reachedFrom 14 = .ok (.iconst 0, 1) := by decide +kernel
theorem dX4_reachedFrom_15 : decode cX4_reachedFrom 15 = .ok (.istore 4, 2) := by decide +kernel
theorem dX4_reachedFrom_17 : decode cX4_reachedFrom 17 = .ok (.iload 4, 2) := by decide +kernel
theorem dX4_reachedFrom_19 : decode cX4_reachedFrom 19 = .ok (.aload_n 0, 1) := by decide +kernel
theorem dX4_reachedFrom_20 : decode cX4_reachedFrom 20 = .ok (.getfield 9, 3) := by decide +kernel
theorem dX4_reachedFrom_23 : decode cX4_reachedFrom 23 = .ok (.if_icmp .ge 27, 3) := by decide +kernel
theorem dX4_reachedFrom_26 : decode cX4_reachedFrom 26 = .ok (.iload_n 2, 1) := by decide +kernel
theorem dX4_reachedFrom_27 : decode cX4_reachedFrom 27 = .ok (.iload 4, 2) := by decide +kernel
theorem dX4_reachedFrom_29 : decode cX4_reachedFrom 29 = .ok (.invokestatic 52, 3) := by decide +kernel
theorem dX4_reachedFrom_32 : decode cX4_reachedFrom 32 = .ok (.ifCond .eq 12, 3) := by decide +kernel
theorem dX4_reachedFrom_35 : decode cX4_reachedFrom 35 = .ok (.iload_n 2, 1) := by decide +kernel
theorem dX4_reachedFrom_36 : decode cX4_reachedFrom 36 = .ok (.aload_n 0, 1) := by decide +kernel
theorem dX4_reachedFrom_37 : decode cX4_reachedFrom 37 = .ok (.iload 4, 2) := by decide +kernel
theorem dX4_reachedFrom_39 : decode cX4_reachedFrom 39 = .ok (.invokevirtual 56, 3) := by decide +kernel
theorem dX4_reachedFrom_42 : decode cX4_reachedFrom 42 = .ok (.ior, 1) := by decide +kernel
theorem dX4_reachedFrom_43 : decode cX4_reachedFrom 43 = .ok (.istore_n 2, 1) := by decide +kernel
theorem dX4_reachedFrom_44 : decode cX4_reachedFrom 44 = .ok (.iinc 4 1, 3) := by decide +kernel
theorem dX4_reachedFrom_47 : decode cX4_reachedFrom 47 = .ok (.goto (-30), 3) := by decide +kernel
theorem dX4_reachedFrom_50 : decode cX4_reachedFrom 50 = .ok (.iinc 3 1, 3) := by decide +kernel
theorem dX4_reachedFrom_53 : decode cX4_reachedFrom 53 = .ok (.goto (-47), 3) := by decide +kernel
theorem dX4_reachedFrom_56 : decode cX4_reachedFrom 56 = .ok (.iload_n 2, 1) := by decide +kernel
theorem dX4_reachedFrom_57 : decode cX4_reachedFrom 57 = .ok (.ireturn, 1) := by decide +kernel
theorem dX4_partCount_0 : decode cX4_partCount 0 = .ok (.iconst 0, 1) := by decide +kernel
theorem dX4_partCount_1 : decode cX4_partCount 1 = .ok (.istore_n 1, 1) := by decide +kernel
theorem dX4_partCount_2 : decode cX4_partCount 2 = .ok (.iconst 0, 1) := by decide +kernel
theorem dX4_partCount_3 : decode cX4_partCount 3 = .ok (.istore_n 2, 1) := by decide +kernel
theorem dX4_partCount_4 : decode cX4_partCount 4 = .ok (.iconst 0, 1) := by decide +kernel
theorem dX4_partCount_5 : decode cX4_partCount 5 = .ok (.istore_n 3, 1) := by decide +kernel
theorem dX4_partCount_6 : decode cX4_partCount 6 = .ok (.iload_n 3, 1) := by decide +kernel
theorem dX4_partCount_7 : decode cX4_partCount 7 = .ok (.aload_n 0, 1) := by decide +kernel
theorem dX4_partCount_8 : decode cX4_partCount 8 = .ok (.getfield 9, 3) := by decide +kernel
theorem dX4_partCount_11 : decode cX4_partCount 11 = .ok (.if_icmp .ge 28, 3) := by decide +kernel
theorem dX4_partCount_14 : decode cX4_partCount 14 = .ok (.iload_n 1, 1) := by decide +kernel
theorem dX4_partCount_15 : decode cX4_partCount 15 = .ok (.iload_n 3, 1) := by decide +kernel
theorem dX4_partCount_16 : decode cX4_partCount 16 = .ok (.invokestatic 52, 3) := by decide +kernel
theorem dX4_partCount_19 : decode cX4_partCount 19 = .ok (.ifCond .ne 14, 3) := by decide +kernel
theorem dX4_partCount_22 : decode cX4_partCount 22 = .ok (.iload_n 1, 1) := by decide +kernel
theorem dX4_partCount_23 : decode cX4_partCount 23 = .ok (.aload_n 0, 1) := by decide +kernel
theorem dX4_partCount_24 : decode cX4_partCount 24 = .ok (.iload_n 3, 1) := by decide +kernel
theorem dX4_partCount_25 : decode cX4_partCount 25 = .ok (.invokevirtual 60, 3) := by decide +kernel
theorem dX4_partCount_28 : decode cX4_partCount 28 = .ok (.ior, 1) := by decide +kernel
theorem dX4_partCount_29 : decode cX4_partCount 29 = .ok (.istore_n 1, 1) := by decide +kernel
theorem dX4_partCount_30 : decode cX4_partCount 30 = .ok (.iinc 2 1, 3) := by decide +kernel
theorem dX4_partCount_33 : decode cX4_partCount 33 = .ok (.iinc 3 1, 3) := by decide +kernel
theorem dX4_partCount_36 : decode cX4_partCount 36 = .ok (.goto (-30), 3) := by decide +kernel
theorem dX4_partCount_39 : decode cX4_partCount 39 = .ok (.iload_n 2, 1) := by decide +kernel
theorem dX4_partCount_40 : decode cX4_partCount 40 = .ok (.ireturn, 1) := by decide +kernel
theorem dX4_tieCount_0 : decode cX4_tieCount 0 = .ok (.iconst 0, 1) := by decide +kernel
theorem dX4_tieCount_1 : decode cX4_tieCount 1 = .ok (.istore_n 1, 1) := by decide +kernel
theorem dX4_tieCount_2 : decode cX4_tieCount 2 = .ok (.iconst 0, 1) := by decide +kernel
theorem dX4_tieCount_3 : decode cX4_tieCount 3 = .ok (.istore_n 2, 1) := by decide +kernel
theorem dX4_tieCount_4 : decode cX4_tieCount 4 = .ok (.iload_n 2, 1) := by decide +kernel
theorem dX4_tieCount_5 : decode cX4_tieCount 5 = .ok (.aload_n 0, 1) := by decide +kernel
theorem dX4_tieCount_6 : decode cX4_tieCount 6 = .ok (.getfield 9, 3) := by decide +kernel
theorem dX4_tieCount_9 : decode cX4_tieCount 9 = .ok (.if_icmp .ge 20, 3) := by decide +kernel
theorem dX4_tieCount_12 : decode cX4_tieCount 12 = .ok (.iload_n 1, 1) := by decide +kernel
theorem dX4_tieCount_13 : decode cX4_tieCount 13 = .ok (.aload_n 0, 1) := by decide +kernel
theorem dX4_tieCount_14 : decode cX4_tieCount 14 = .ok (.iload_n 2, 1) := by decide +kernel
theorem dX4_tieCount_15 : decode cX4_tieCount 15 = .ok (.invokevirtual 56, 3) := by decide +kernel
theorem dX4_tieCount_18 : decode cX4_tieCount 18 = .ok (.invokestatic 63, 3) := by decide +kernel
theorem dX4_tieCount_21 : decode cX4_tieCount 21 = .ok (.iadd, 1) := by decide +kernel
theorem dX4_tieCount_22 : decode cX4_tieCount 22 = .ok (.istore_n 1, 1) := by decide +kernel
theorem dX4_tieCount_23 : decode cX4_tieCount 23 = .ok (.iinc 2 1, 3) := by decide +kernel
theorem dX4_tieCount_26 : decode cX4_tieCount 26 = .ok (.goto (-22), 3) := by decide +kernel
theorem dX4_tieCount_29 : decode cX4_tieCount 29 = .ok (.iload_n 1, 1) := by decide +kernel
theorem dX4_tieCount_30 : decode cX4_tieCount 30 = .ok (.iconst 2, 1) := by decide +kernel
theorem dX4_tieCount_31 : decode cX4_tieCount 31 = .ok (.idiv, 1) := by decide +kernel
theorem dX4_tieCount_32 : decode cX4_tieCount 32 = .ok (.ireturn, 1) := by decide +kernel
theorem dX4_allWeights_0 : decode cX4_allWeights 0 = .ok (.iconst 0, 1) := by decide +kernel
theorem dX4_allWeights_1 : decode cX4_allWeights 1 = .ok (.istore_n 1, 1) := by decide +kernel
theorem dX4_allWeights_2 : decode cX4_allWeights 2 = .ok (.iconst 0, 1) := by decide +kernel
theorem dX4_allWeights_3 : decode cX4_allWeights 3 = .ok (.istore_n 2, 1) := by decide +kernel
theorem dX4_allWeights_4 : decode cX4_allWeights 4 = .ok (.iload_n 2, 1) := by decide +kernel
theorem dX4_allWeights_5 : decode cX4_allWeights 5 = .ok (.aload_n 0, 1) := by decide +kernel
theorem dX4_allWeights_6 : decode cX4_allWeights 6 = .ok (.getfield 9, 3) := by decide +kernel
theorem dX4_allWeights_9 : decode cX4_allWeights 9 = .ok (.if_icmp .ge 17, 3) := by decide +kernel
theorem dX4_allWeights_12 : decode cX4_allWeights 12 = .ok (.iload_n 1, 1) := by decide +kernel
theorem dX4_allWeights_13 : decode cX4_allWeights 13 = .ok (.aload_n 0, 1) := by decide +kernel
theorem dX4_allWeights_14 : decode cX4_allWeights 14 = .ok (.iload_n 2, 1) := by decide +kernel
theorem dX4_allWeights_15 : decode cX4_allWeights 15 = .ok (.invokevirtual 68, 3) := by decide +kernel
theorem dX4_allWeights_18 : decode cX4_allWeights 18 = .ok (.iadd, 1) := by decide +kernel
theorem dX4_allWeights_19 : decode cX4_allWeights 19 = .ok (.istore_n 1, 1) := by decide +kernel
theorem dX4_allWeights_20 : decode cX4_allWeights 20 = .ok (.iinc 2 1, 3) := by decide +kernel
theorem dX4_allWeights_23 : decode cX4_allWeights 23 = .ok (.goto (-19), 3) := by decide +kernel
theorem dX4_allWeights_26 : decode cX4_allWeights 26 = .ok (.iload_n 1, 1) := by decide +kernel
theorem dX4_allWeights_27 : decode cX4_allWeights 27 = .ok (.iconst 2, 1) := by decide +kernel
theorem dX4_allWeights_28 : decode cX4_allWeights 28 = .ok (.idiv, 1) := by decide +kernel
theorem dX4_allWeights_29 : decode cX4_allWeights 29 = .ok (.ireturn, 1) := by decide +kernel
