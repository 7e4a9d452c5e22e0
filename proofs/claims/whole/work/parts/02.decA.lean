theorem dX0_init_0 : decode cX0_init 0 = .ok (.aload_n 0, 1) := by decide +kernel
theorem dX0_init_1 : decode cX0_init 1 = .ok (.invokespecial 3, 3) := by decide +kernel
theorem dX0_init_4 : decode cX0_init 4 = .ok (.aload_n 0, 1) := by decide +kernel
theorem dX0_init_5 : decode cX0_init 5 = .ok (.aload_n 1, 1) := by decide +kernel
theorem dX0_init_6 : decode cX0_init 6 = .ok (.putfield 9, 3) := by decide +kernel
theorem dX0_init_9 : decode cX0_init 9 = .ok (.aload_n 0, 1) := by decide +kernel
theorem dX0_init_10 : decode cX0_init 10 = .ok (.new 15, 3) := by decide +kernel
theorem dX0_init_13 : decode cX0_init 13 = .ok (.dup, 1) := by decide +kernel
theorem dX0_init_14 : decode cX0_init 14 = .ok (.invokespecial 17, 3) := by decide +kernel
theorem dX0_init_17 : decode cX0_init 17 = .ok (.putfield 18, 3) := by decide +kernel
theorem dX0_init_20 : decode cX0_init 20 = .ok (.return_, 1) := by decide +kernel
theorem dX0_rutBehind_0 : decode cX0_rutBehind 0 = .ok (.aload_n 0, 1) := by decide +kernel
theorem dX0_rutBehind_1 : decode cX0_rutBehind 1 = .ok (.getfield 18, 3) := by decide +kernel
theorem dX0_rutBehind_4 : decode cX0_rutBehind 4 = .ok (.aload_n 0, 1) := by decide +kernel
theorem dX0_rutBehind_5 : decode cX0_rutBehind 5 = .ok (.getfield 9, 3) := by decide +kernel
theorem dX0_rutBehind_8 : decode cX0_rutBehind 8 = .ok (.invokevirtual 21, 3) := by decide +kernel
theorem dX0_rutBehind_11 : decode cX0_rutBehind 11 = .ok (.aload_n 0, 1) := by decide +kernel
theorem dX0_rutBehind_12 : decode cX0_rutBehind 12 = .ok (.aload_n 0, 1) := by decide +kernel
theorem dX0_rutBehind_13 : decode cX0_rutBehind 13 = .ok (.getfield 18, 3) := by decide +kernel
theorem dX0_rutBehind_16 : decode cX0_rutBehind 16 = .ok (.iload_n 1, 1) := by decide +kernel
theorem dX0_rutBehind_17 : decode cX0_rutBehind 17 = .ok (.invokevirtual 25, 3) := by decide +kernel
theorem dX0_rutBehind_20 : decode cX0_rutBehind 20 = .ok (.putfield 29, 3) := by decide +kernel
theorem dX0_rutBehind_23 : decode cX0_rutBehind 23 = .ok (.aload_n 0, 1) := by decide +kernel
theorem dX0_rutBehind_24 : decode cX0_rutBehind 24 = .ok (.getfield 18, 3) := by decide +kernel
theorem dX0_rutBehind_27 : decode cX0_rutBehind 27 = .ok (.getfield 33, 3) := by decide +kernel
theorem dX0_rutBehind_30 : decode cX0_rutBehind 30 = .ok (.ireturn, 1) := by decide +kernel
theorem dX0_rutOver_0 : decode cX0_rutOver 0 = .ok (.aload_n 0, 1) := by decide +kernel
theorem dX0_rutOver_1 : decode cX0_rutOver 1 = .ok (.getfield 18, 3) := by decide +kernel
theorem dX0_rutOver_4 : decode cX0_rutOver 4 = .ok (.aload_n 0, 1) := by decide +kernel
theorem dX0_rutOver_5 : decode cX0_rutOver 5 = .ok (.getfield 9, 3) := by decide +kernel
theorem dX0_rutOver_8 : decode cX0_rutOver 8 = .ok (.invokevirtual 21, 3) := by decide +kernel
theorem dX0_rutOver_11 : decode cX0_rutOver 11 = .ok (.aload_n 0, 1) := by decide +kernel
theorem dX0_rutOver_12 : decode cX0_rutOver 12 = .ok (.getfield 18, 3) := by decide +kernel
theorem dX0_rutOver_15 : decode cX0_rutOver 15 = .ok (.bipush 60, 2) := by decide +kernel
theorem dX0_rutOver_17 : decode cX0_rutOver 17 = .ok (.invokevirtual 25, 3) := by decide +kernel
theorem dX0_rutOver_20 : decode cX0_rutOver 20 = .ok (.pop, 1) := by decide +kernel
theorem dX0_rutOver_21 : decode cX0_rutOver 21 = .ok (.aload_n 0, 1) := by decide +kernel
theorem dX0_rutOver_22 : decode cX0_rutOver 22 = .ok (.getfield 18, 3) := by decide +kernel
theorem dX0_rutOver_25 : decode cX0_rutOver 25 = .ok (.invokevirtual 36, 3) := by decide +kernel
theorem dX0_rutOver_28 : decode cX0_rutOver 28 = .ok (.ifCond .ne 6, 3) := by decide +kernel
theorem dX0_rutOver_31 : decode cX0_rutOver 31 = .ok (.bipush (-9), 2) := by decide +kernel
theorem dX0_rutOver_33 : decode cX0_rutOver 33 = .ok (.ireturn, 1) := by decide +kernel
theorem dX0_rutOver_34 : decode cX0_rutOver 34 = .ok (.aload_n 0, 1) := by decide +kernel
theorem dX0_rutOver_35 : decode cX0_rutOver 35 = .ok (.aload_n 0, 1) := by decide +kernel
theorem dX0_rutOver_36 : decode cX0_rutOver 36 = .ok (.getfield 18, 3) := by decide +kernel
theorem dX0_rutOver_39 : decode cX0_rutOver 39 = .ok (.invokevirtual 40, 3) := by decide +kernel
theorem dX0_rutOver_42 : decode cX0_rutOver 42 = .ok (.putfield 29, 3) := by decide +kernel
theorem dX0_rutOver_45 : decode cX0_rutOver 45 = .ok (.aload_n 0, 1) := by decide +kernel
theorem dX0_rutOver_46 : decode cX0_rutOver 46 = .ok (.getfield 18, 3) := by decide +kernel
theorem dX0_rutOver_49 : decode cX0_rutOver 49 = .ok (.getfield 33, 3) := by decide +kernel
theorem dX0_rutOver_52 : decode cX0_rutOver 52 = .ok (.ireturn, 1) := by decide +kernel
theorem dX0_writeLimps_0 : decode cX0_writeLimps 0 = .ok (.aload_n 0, 1) := by decide +kernel
theorem dX0_writeLimps_1 : decode cX0_writeLimps 1 = .ok (.getfield 18, 3) := by decide +kernel
theorem dX0_writeLimps_4 : decode cX0_writeLimps 4 = .ok (.aload_n 0, 1) := by decide +kernel
theorem dX0_writeLimps_5 : decode cX0_writeLimps 5 = .ok (.getfield 9, 3) := by decide +kernel
theorem dX0_writeLimps_8 : decode cX0_writeLimps 8 = .ok (.invokevirtual 21, 3) := by decide +kernel
theorem dX0_writeLimps_11 : decode cX0_writeLimps 11 = .ok (.iconst 0, 1) := by decide +kernel
theorem dX0_writeLimps_12 : decode cX0_writeLimps 12 = .ok (.istore_n 3, 1) := by decide +kernel
theorem dX0_writeLimps_13 : decode cX0_writeLimps 13 = .ok (.iconst 0, 1) := by decide +kernel
theorem dX0_writeLimps_14 : decode cX0_writeLimps 14 = .ok (.istore 4, 2) := by decide +kernel
theorem dX0_writeLimps_16 : decode cX0_writeLimps 16 = .ok (.iload 4, 2) := by decide +kernel
theorem dX0_writeLimps_18 : decode cX0_writeLimps 18 = .ok (.iload_n 2, 1) := by decide +kernel
theorem dX0_writeLimps_19 : decode cX0_writeLimps 19 = .ok (.if_icmp .ge 45, 3) := by decide +kernel
theorem dX0_writeLimps_22 : decode cX0_writeLimps 22 = .ok (.aload_n 1, 1) := by decide +kernel
theorem dX0_writeLimps_23 : decode cX0_writeLimps 23 = .ok (.iload 4, 2) := by decide +kernel
theorem dX0_writeLimps_25 : decode cX0_writeLimps 25 = .ok (.aload_n 0, 1) := by decide +kernel
theorem dX0_writeLimps_26 : decode cX0_writeLimps 26 = .ok (.getfield 18, 3) := by decide +kernel
theorem dX0_writeLimps_29 : decode cX0_writeLimps 29 = .ok (.invokevirtual 36, 3) := by decide +kernel
theorem dX0_writeLimps_32 : decode cX0_writeLimps 32 = .ok (.ifCond .ne 17, 3) := by decide +kernel
theorem dX0_writeLimps_35 : decode cX0_writeLimps 35 = .ok (.aload_n 0, 1) := by decide +kernel
theorem dX0_writeLimps_36 : decode cX0_writeLimps 36 = .ok (.getfield 18, 3) := by decide +kernel
theorem dX0_writeLimps_39 : decode cX0_writeLimps 39 = .ok (.invokevirtual 44, 3) := by decide +kernel
theorem dX0_writeLimps_42 : decode cX0_writeLimps 42 = .ok (.ifCond .eq 7, 3) := by decide +kernel
theorem dX0_writeLimps_45 : decode cX0_writeLimps 45 = .ok (.iconst 1, 1) := by decide +kernel
theorem dX0_writeLimps_46 : decode cX0_writeLimps 46 = .ok (.goto 4, 3) := by decide +kernel
theorem dX0_writeLimps_49 : decode cX0_writeLimps 49 = .ok (.iconst 0, 1) := by decide +kernel
theorem dX0_writeLimps_50 : decode cX0_writeLimps 50 = .ok (.iastore, 1) := by decide +kernel
theorem dX0_writeLimps_51 : decode cX0_writeLimps 51 = .ok (.iload_n 3, 1) := by decide +kernel
theorem dX0_writeLimps_52 : decode cX0_writeLimps 52 = .ok (.aload_n 1, 1) := by decide +kernel
theorem dX0_writeLimps_53 : decode cX0_writeLimps 53 = .ok (.iload 4, 2) := by decide +kernel
theorem dX0_writeLimps_55 : decode cX0_writeLimps 55 = .ok (.iaload, 1) := by decide +kernel
theorem dX0_writeLimps_56 : decode cX0_writeLimps 56 = .ok (.iadd, 1) := by decide +kernel
theorem dX0_writeLimps_57 : decode cX0_writeLimps 57 = .ok (.istore_n 3, 1) := by decide +kernel
theorem dX0_writeLimps_58 : decode cX0_writeLimps 58 = .ok (.iinc 4 1, 3) := by decide +kernel
theorem dX0_writeLimps_61 : decode cX0_writeLimps 61 = .ok (.goto (-45), 3) := by decide +kernel
theorem dX0_writeLimps_64 : decode cX0_writeLimps 64 = .ok (.iload_n 3, 1) := by decide +kernel
theorem dX0_writeLimps_65 : decode cX0_writeLimps 65 = .ok (.ireturn, 1) := by decide +kernel
theorem dX0_fewestToGate_0 : decode cX0_fewestToGate 0 = .ok (.bipush (-9), 2) := by decide +kernel
theorem dX0_fewestToGate_2 : decode cX0_fewestToGate 2 = .ok (.istore_n 1, 1) := by decide +kernel
theorem dX0_fewestToGate_3 : decode cX0_fewestToGate 3 = .ok (.iconst 0, 1) := by decide +kernel
theorem dX0_fewestToGate_4 : decode cX0_fewestToGate 4 = .ok (.istore_n 2, 1) := by decide +kernel
theorem dX0_fewestToGate_5 : decode cX0_fewestToGate 5 = .ok (.iload_n 2, 1) := by decide +kernel
theorem dX0_fewestToGate_6 : decode cX0_fewestToGate 6 = .ok (.iconst 1, 1) := by decide +kernel
theorem dX0_fewestToGate_7 : decode cX0_fewestToGate 7 = .ok (.aload_n 0, 1) := by decide +kernel
theorem dX0_fewestToGate_8 : decode cX0_fewestToGate 8 = .ok (.getfield 9, 3) := by decide +kernel
theorem dX0_fewestToGate_11 : decode cX0_fewestToGate 11 = .ok (.getfield 47, 3) := by decide +kernel
theorem dX0_fewestToGate_14 : decode cX0_fewestToGate 14 = .ok (.ishl, 1) := by decide +kernel
theorem dX0_fewestToGate_15 : decode cX0_fewestToGate 15 = .ok (.if_icmp .ge 40, 3) := by decide +kernel
theorem dX0_fewestToGate_18 : decode cX0_fewestToGate 18 = .ok (.iload_n 2, 1) := by decide +kernel
theorem dX0_fewestToGate_19 : decode cX0_fewestToGate 19 = .ok (.invokestatic 50, 3) := by decide +kernel
theorem dX0_fewestToGate_22 : decode cX0_fewestToGate 22 = .ok (.istore_n 3, 1) := by decide +kernel
theorem dX0_fewestToGate_23 : decode cX0_fewestToGate 23 = .ok (.iload_n 1, 1) := by decide +kernel
theorem dX0_fewestToGate_24 : decode cX0_fewestToGate 24 = .ok (.bipush (-9), 2) := by decide +kernel
theorem dX0_fewestToGate_26 : decode cX0_fewestToGate 26 = .ok (.if_icmp .eq 8, 3) := by decide +kernel
theorem dX0_fewestToGate_29 : decode cX0_fewestToGate 29 = .ok (.iload_n 3, 1) := by decide +kernel
theorem dX0_fewestToGate_30 : decode cX0_fewestToGate 30 = .ok (.iload_n 1, 1) := by decide +kernel
theorem dX0_fewestToGate_31 : decode cX0_fewestToGate 31 = .ok (.if_icmp .ge 18, 3) := by decide +kernel
theorem dX0_fewestToGate_34 : decode cX0_fewestToGate 34 = .ok (.aload_n 0, 1) := by decide +kernel
theorem dX0_fewestToGate_35 : decode cX0_fewestToGate 35 = .ok (.iload_n 2, 1) := by decide +kernel
theorem dX0_fewestToGate_36 : decode cX0_fewestToGate 36 = .ok (.invokevirtual 55, 3) := by decide +kernel
theorem dX0_fewestToGate_39 : decode cX0_fewestToGate 39 = .ok (.ifCond .eq 10, 3) := by decide +kernel
theorem dX0_fewestToGate_42 : decode cX0_fewestToGate 42 = .ok (.iload_n 3, 1) := by decide +kernel
theorem dX0_fewestToGate_43 : decode cX0_fewestToGate 43 = .ok (.istore_n 1, 1) := by decide +kernel
theorem dX0_fewestToGate_44 : decode cX0_fewestToGate 44 = .ok (.aload_n 0, 1) := by decide +kernel
theorem dX0_fewestToGate_45 : decode cX0_fewestToGate 45 = .ok (.iload_n 2, 1) := by decide +kernel
theorem dX0_fewestToGate_46 : decode cX0_fewestToGate 46 = .ok (.putfield 29, 3) := by decide +kernel
theorem dX0_fewestToGate_49 : decode cX0_fewestToGate 49 = .ok (.iinc 2 1, 3) := by decide +kernel
theorem dX0_fewestToGate_52 : decode cX0_fewestToGate 52 = .ok (.goto (-47), 3) := by decide +kernel
theorem dX0_fewestToGate_55 : decode cX0_fewestToGate 55 = .ok (.iload_n 1, 1) := by decide +kernel
theorem dX0_fewestToGate_56 : decode cX0_fewestToGate 56 = .ok (.ireturn, 1) := by decide +kernel
theorem dX0_reachesGateWith_0 : decode cX0_reachesGateWith 0 = .ok (.aload_n 0, 1) := by decide +kernel
theorem dX0_reachesGateWith_1 : decode cX0_reachesGateWith 1 = .ok (.getfield 18, 3) := by decide +kernel
theorem dX0_reachesGateWith_4 : decode cX0_reachesGateWith 4 = .ok (.aload_n 0, 1) := by decide +kernel
theorem dX0_reachesGateWith_5 : decode cX0_reachesGateWith 5 = .ok (.getfield 9, 3) := by decide +kernel
theorem dX0_reachesGateWith_8 : decode cX0_reachesGateWith 8 = .ok (.invokevirtual 21, 3) := by decide +kernel
theorem dX0_reachesGateWith_11 : decode cX0_reachesGateWith 11 = .ok (.aload_n 0, 1) := by decide +kernel
theorem dX0_reachesGateWith_12 : decode cX0_reachesGateWith 12 = .ok (.getfield 18, 3) := by decide +kernel
theorem dX0_reachesGateWith_15 : decode cX0_reachesGateWith 15 = .ok (.iload_n 1, 1) := by decide +kernel
theorem dX0_reachesGateWith_16 : decode cX0_reachesGateWith 16 = .ok (.invokevirtual 59, 3) := by decide +kernel
theorem dX0_reachesGateWith_19 : decode cX0_reachesGateWith 19 = .ok (.aload_n 0, 1) := by decide +kernel
theorem dX0_reachesGateWith_20 : decode cX0_reachesGateWith 20 = .ok (.getfield 18, 3) := by decide +kernel
theorem dX0_reachesGateWith_23 : decode cX0_reachesGateWith 23 = .ok (.invokevirtual 63, 3) := by decide +kernel
theorem dX0_reachesGateWith_26 : decode cX0_reachesGateWith 26 = .ok (.ireturn, 1) := by decide +kernel
theorem dX0_bestStand_0 : decode cX0_bestStand 0 = .ok (.iconst 0, 1) := by decide +kernel
theorem dX0_bestStand_1 : decode cX0_bestStand 1 = .ok (.istore_n 1, 1) := by decide +kernel
theorem dX0_bestStand_2 : decode cX0_bestStand 2 = .ok (.aload_n 0, 1) := by decide +kernel
theorem dX0_bestStand_3 : decode cX0_bestStand 3 = .ok (.bipush 21, 2) := by decide +kernel
theorem dX0_bestStand_5 : decode cX0_bestStand 5 = .ok (.putfield 29, 3) := by decide +kernel
theorem dX0_bestStand_8 : decode cX0_bestStand 8 = .ok (.iconst 0, 1) := by decide +kernel
theorem dX0_bestStand_9 : decode cX0_bestStand 9 = .ok (.istore_n 2, 1) := by decide +kernel
theorem dX0_bestStand_10 : decode cX0_bestStand 10 = .ok (.iload_n 2, 1) := by decide +kernel
theorem dX0_bestStand_11 : decode cX0_bestStand 11 = .ok (.aload_n 0, 1) := by decide +kernel
theorem dX0_bestStand_12 : decode cX0_bestStand 12 = .ok (.getfield 9, 3) := by decide +kernel
theorem dX0_bestStand_15 : decode cX0_bestStand 15 = .ok (.getfield 47, 3) := by decide +kernel
theorem dX0_bestStand_18 : decode cX0_bestStand 18 = .ok (.if_icmp .ge 53, 3) := by decide +kernel
theorem dX0_bestStand_21 : decode cX0_bestStand 21 = .ok (.aload_n 0, 1) := by decide +kernel
theorem dX0_bestStand_22 : decode cX0_bestStand 22 = .ok (.getfield 18, 3) := by decide +kernel
theorem dX0_bestStand_25 : decode cX0_bestStand 25 = .ok (.aload_n 0, 1) := by decide +kernel
theorem dX0_bestStand_26 : decode cX0_bestStand 26 = .ok (.getfield 9, 3) := by decide +kernel
theorem dX0_bestStand_29 : decode cX0_bestStand 29 = .ok (.invokevirtual 21, 3) := by decide +kernel
theorem dX0_bestStand_32 : decode cX0_bestStand 32 = .ok (.aload_n 0, 1) := by decide +kernel
theorem dX0_bestStand_33 : decode cX0_bestStand 33 = .ok (.getfield 18, 3) := by decide +kernel
theorem dX0_bestStand_36 : decode cX0_bestStand 36 = .ok (.iload_n 2, 1) := by decide +kernel
theorem dX0_bestStand_37 : decode cX0_bestStand 37 = .ok (.putfield 66, 3) := by decide +kernel
theorem dX0_bestStand_40 : decode cX0_bestStand 40 = .ok (.aload_n 0, 1) := by decide +kernel
theorem dX0_bestStand_41 : decode cX0_bestStand 41 = .ok (.getfield 18, 3) := by decide +kernel
theorem dX0_bestStand_44 : decode cX0_bestStand 44 = .ok (.bipush 20, 2) := by decide +kernel
theorem dX0_bestStand_46 : decode cX0_bestStand 46 = .ok (.invokevirtual 69, 3) := by decide +kernel
theorem dX0_bestStand_49 : decode cX0_bestStand 49 = .ok (.istore_n 3, 1) := by decide +kernel
theorem dX0_bestStand_50 : decode cX0_bestStand 50 = .ok (.iload_n 3, 1) := by decide +kernel
theorem dX0_bestStand_51 : decode cX0_bestStand 51 = .ok (.aload_n 0, 1) := by decide +kernel
theorem dX0_bestStand_52 : decode cX0_bestStand 52 = .ok (.getfield 29, 3) := by decide +kernel
theorem dX0_bestStand_55 : decode cX0_bestStand 55 = .ok (.if_icmp .ge 10, 3) := by decide +kernel
theorem dX0_bestStand_58 : decode cX0_bestStand 58 = .ok (.aload_n 0, 1) := by decide +kernel
theorem dX0_bestStand_59 : decode cX0_bestStand 59 = .ok (.iload_n 3, 1) := by decide +kernel
theorem dX0_bestStand_60 : decode cX0_bestStand 60 = .ok (.putfield 29, 3) := by decide +kernel
theorem dX0_bestStand_63 : decode cX0_bestStand 63 = .ok (.iload_n 2, 1) := by decide +kernel
theorem dX0_bestStand_64 : decode cX0_bestStand 64 = .ok (.istore_n 1, 1) := by decide +kernel
theorem dX0_bestStand_65 : decode cX0_bestStand 65 = .ok (.iinc 2 1, 3) := by decide +kernel
theorem dX0_bestStand_68 : decode cX0_bestStand 68 = .ok (.goto (-58), 3) := by decide +kernel
theorem dX0_bestStand_71 : decode cX0_bestStand 71 = .ok (.iload_n 1, 1) := by decide +kernel
theorem dX0_bestStand_72 : decode cX0_bestStand 72 = .ok (.ireturn, 1) := by decide +kernel
theorem dX0_bestChange_0 : decode cX0_bestChange 0 = .ok (.aload_n 0, 1) := by decide +kernel
theorem dX0_bestChange_1 : decode cX0_bestChange 1 = .ok (.getfield 18, 3) := by decide +kernel
theorem dX0_bestChange_4 : decode cX0_bestChange 4 = .ok (.aload_n 0, 1) := by decide +kernel
theorem dX0_bestChange_5 : decode cX0_bestChange 5 = .ok (.getfield 9, 3) := by decide +kernel
theorem dX0_bestChange_8 : decode cX0_bestChange 8 = .ok (.invokevirtual 21, 3) := by decide +kernel
theorem dX0_bestChange_11 : decode cX0_bestChange 11 = .ok (.aload_n 0, 1) := by decide +kernel
theorem dX0_bestChange_12 : decode cX0_bestChange 12 = .ok (.aload_n 0, 1) := by decide +kernel
theorem dX0_bestChange_13 : decode cX0_bestChange 13 = .ok (.getfield 18, 3) := by decide +kernel
theorem dX0_bestChange_16 : decode cX0_bestChange 16 = .ok (.bipush 20, 2) := by decide +kernel
theorem dX0_bestChange_18 : decode cX0_bestChange 18 = .ok (.invokevirtual 69, 3) := by decide +kernel
theorem dX0_bestChange_21 : decode cX0_bestChange 21 = .ok (.putfield 29, 3) := by decide +kernel
theorem dX0_bestChange_24 : decode cX0_bestChange 24 = .ok (.bipush (-9), 2) := by decide +kernel
theorem dX0_bestChange_26 : decode cX0_bestChange 26 = .ok (.istore_n 1, 1) := by decide +kernel
theorem dX0_bestChange_27 : decode cX0_bestChange 27 = .ok (.iconst 0, 1) := by decide +kernel
theorem dX0_bestChange_28 : decode cX0_bestChange 28 = .ok (.istore_n 2, 1) := by decide +kernel
theorem dX0_bestChange_29 : decode cX0_bestChange 29 = .ok (.iload_n 2, 1) := by decide +kernel
theorem dX0_bestChange_30 : decode cX0_bestChange 30 = .ok (.aload_n 0, 1) := by decide +kernel
theorem dX0_bestChange_31 : decode cX0_bestChange 31 = .ok (.getfield 9, 3) := by decide +kernel
theorem dX0_bestChange_34 : decode cX0_bestChange 34 = .ok (.getfield 47, 3) := by decide +kernel
theorem dX0_bestChange_37 : decode cX0_bestChange 37 = .ok (.if_icmp .ge 83, 3) := by decide +kernel
theorem dX0_bestChange_40 : decode cX0_bestChange 40 = .ok (.iload_n 2, 1) := by decide +kernel
theorem dX0_bestChange_41 : decode cX0_bestChange 41 = .ok (.iconst 1, 1) := by decide +kernel
theorem dX0_bestChange_42 : decode cX0_bestChange 42 = .ok (.iadd, 1) := by decide +kernel
theorem dX0_bestChange_43 : decode cX0_bestChange 43 = .ok (.istore_n 3, 1) := by decide +kernel
theorem dX0_bestChange_44 : decode cX0_bestChange 44 = .ok (.iload_n 3, 1) := by decide +kernel
theorem dX0_bestChange_45 : decode cX0_bestChange 45 = .ok (.aload_n 0, 1) := by decide +kernel
theorem dX0_bestChange_46 : decode cX0_bestChange 46 = .ok (.getfield 9, 3) := by decide +kernel
theorem dX0_bestChange_49 : decode cX0_bestChange 49 = .ok (.getfield 47, 3) := by decide +kernel
theorem dX0_bestChange_52 : decode cX0_bestChange 52 = .ok (.if_icmp .ge 62, 3) := by decide +kernel
theorem dX0_bestChange_55 : decode cX0_bestChange 55 = .ok (.aload_n 0, 1) := by decide +kernel
theorem dX0_bestChange_56 : decode cX0_bestChange 56 = .ok (.getfield 18, 3) := by decide +kernel
theorem dX0_bestChange_59 : decode cX0_bestChange 59 = .ok (.aload_n 0, 1) := by decide +kernel
theorem dX0_bestChange_60 : decode cX0_bestChange 60 = .ok (.getfield 9, 3) := by decide +kernel
theorem dX0_bestChange_63 : decode cX0_bestChange 63 = .ok (.invokevirtual 21, 3) := by decide +kernel
theorem dX0_bestChange_66 : decode cX0_bestChange 66 = .ok (.aload_n 0, 1) := by decide +kernel
theorem dX0_bestChange_67 : decode cX0_bestChange 67 = .ok (.getfield 18, 3) := by decide +kernel
theorem dX0_bestChange_70 : decode cX0_bestChange 70 = .ok (.iload_n 2, 1) := by decide +kernel
theorem dX0_bestChange_71 : decode cX0_bestChange 71 = .ok (.iload_n 3, 1) := by decide +kernel
theorem dX0_bestChange_72 : decode cX0_bestChange 72 = .ok (.invokevirtual 72, 3) := by decide +kernel
theorem dX0_bestChange_75 : decode cX0_bestChange 75 = .ok (.aload_n 0, 1) := by decide +kernel
theorem dX0_bestChange_76 : decode cX0_bestChange 76 = .ok (.getfield 18, 3) := by decide +kernel
theorem dX0_bestChange_79 : decode cX0_bestChange 79 = .ok (.bipush 20, 2) := by decide +kernel
theorem dX0_bestChange_81 : decode cX0_bestChange 81 = .ok (.invokevirtual 69, 3) := by decide +kernel
theorem dX0_bestChange_84 : decode cX0_bestChange 84 = .ok (.istore 4, 2) := by decide +kernel
theorem dX0_bestChange_86 : decode cX0_bestChange 86 = .ok (.iload 4, 2) := by decide +kernel
theorem dX0_bestChange_88 : decode cX0_bestChange 88 = .ok (.aload_n 0, 1) := by decide +kernel
theorem dX0_bestChange_89 : decode cX0_bestChange 89 = .ok (.getfield 29, 3) := by decide +kernel
theorem dX0_bestChange_92 : decode cX0_bestChange 92 = .ok (.if_icmp .ge 16, 3) := by decide +kernel
theorem dX0_bestChange_95 : decode cX0_bestChange 95 = .ok (.aload_n 0, 1) := by decide +kernel
theorem dX0_bestChange_96 : decode cX0_bestChange 96 = .ok (.iload 4, 2) := by decide +kernel
theorem dX0_bestChange_98 : decode cX0_bestChange 98 = .ok (.putfield 29, 3) := by decide +kernel
theorem dX0_bestChange_101 : decode cX0_bestChange 101 = .ok (.bipush 10, 2) := by decide +kernel
theorem dX0_bestChange_103 : decode cX0_bestChange 103 = .ok (.iload_n 2, 1) := by decide +kernel
theorem dX0_bestChange_104 : decode cX0_bestChange 104 = .ok (.imul, 1) := by decide +kernel
theorem dX0_bestChange_105 : decode cX0_bestChange 105 = .ok (.iload_n 3, 1) := by decide +kernel
theorem dX0_bestChange_106 : decode cX0_bestChange 106 = .ok (.iadd, 1) := by decide +kernel
theorem dX0_bestChange_107 : decode cX0_bestChange 107 = .ok (.istore_n 1, 1) := by decide +kernel
theorem dX0_bestChange_108 : decode cX0_bestChange 108 = .ok (.iinc 3 1, 3) := by decide +kernel
theorem dX0_bestChange_111 : decode cX0_bestChange 111 = .ok (.goto (-67), 3) := by decide +kernel
theorem dX0_bestChange_114 : decode cX0_bestChange 114 = .ok (.iinc 2 1, 3) := by decide +kernel
theorem dX0_bestChange_117 : decode cX0_bestChange 117 = .ok (.goto (-88), 3) := by decide +kernel
theorem dX0_bestChange_120 : decode cX0_bestChange 120 = .ok (.iload_n 1, 1) := by decide +kernel
theorem dX0_bestChange_121 : decode cX0_bestChange 121 = .ok (.ireturn, 1) := by decide +kernel
theorem dX0_goneSets_0 : decode cX0_goneSets 0 = .ok (.iconst 1, 1) := by decide +kernel
theorem dX0_goneSets_1 : decode cX0_goneSets 1 = .ok (.aload_n 0, 1) := by decide +kernel
theorem dX0_goneSets_2 : decode cX0_goneSets 2 = .ok (.getfield 9, 3) := by decide +kernel
theorem dX0_goneSets_5 : decode cX0_goneSets 5 = .ok (.getfield 47, 3) := by decide +kernel
theorem dX0_goneSets_8 : decode cX0_goneSets 8 = .ok (.ishl, 1) := by decide +kernel
theorem dX0_goneSets_9 : decode cX0_goneSets 9 = .ok (.iconst 1, 1) := by decide +kernel
theorem dX0_goneSets_10 : decode cX0_goneSets 10 = .ok (.isub, 1) := by decide +kernel
theorem dX0_goneSets_11 : decode cX0_goneSets 11 = .ok (.istore_n 3, 1) := by decide +kernel
theorem dX0_goneSets_12 : decode cX0_goneSets 12 = .ok (.iconst 0, 1) := by decide +kernel
theorem dX0_goneSets_13 : decode cX0_goneSets 13 = .ok (.istore 4, 2) := by decide +kernel
theorem dX0_goneSets_15 : decode cX0_goneSets 15 = .ok (.iconst 0, 1) := by decide +kernel
theorem dX0_goneSets_16 : decode cX0_goneSets 16 = .ok (.istore 5, 2) := by decide +kernel
theorem dX0_goneSets_18 : decode cX0_goneSets 18 = .ok (.iload 5, 2) := by decide +kernel
theorem dX0_goneSets_20 : decode cX0_goneSets 20 = .ok (.iload_n 3, 1) := by decide +kernel
theorem dX0_goneSets_21 : decode cX0_goneSets 21 = .ok (.if_icmp .gt 59, 3) := by decide +kernel
theorem dX0_goneSets_24 : decode cX0_goneSets 24 = .ok (.aload_n 0, 1) := by decide +kernel
theorem dX0_goneSets_25 : decode cX0_goneSets 25 = .ok (.getfield 18, 3) := by decide +kernel
theorem dX0_goneSets_28 : decode cX0_goneSets 28 = .ok (.aload_n 0, 1) := by decide +kernel
theorem dX0_goneSets_29 : decode cX0_goneSets 29 = .ok (.getfield 9, 3) := by decide +kernel
theorem dX0_goneSets_32 : decode cX0_goneSets 32 = .ok (.invokevirtual 21, 3) := by decide +kernel
theorem dX0_goneSets_35 : decode cX0_goneSets 35 = .ok (.aload_n 0, 1) := by decide +kernel
theorem dX0_goneSets_36 : decode cX0_goneSets 36 = .ok (.getfield 18, 3) := by decide +kernel
theorem dX0_goneSets_39 : decode cX0_goneSets 39 = .ok (.iload_n 3, 1) := by decide +kernel
theorem dX0_goneSets_40 : decode cX0_goneSets 40 = .ok (.iload 5, 2) := by decide +kernel
theorem dX0_goneSets_42 : decode cX0_goneSets 42 = .ok (.iconst (-1), 1) := by decide +kernel
theorem dX0_goneSets_43 : decode cX0_goneSets 43 = .ok (.ixor, 1) := by decide +kernel
theorem dX0_goneSets_44 : decode cX0_goneSets 44 = .ok (.iand, 1) := by decide +kernel
theorem dX0_goneSets_45 : decode cX0_goneSets 45 = .ok (.putfield 76, 3) := by decide +kernel
theorem dX0_goneSets_48 : decode cX0_goneSets 48 = .ok (.aload_n 0, 1) := by decide +kernel
theorem dX0_goneSets_49 : decode cX0_goneSets 49 = .ok (.getfield 18, 3) := by decide +kernel
theorem dX0_goneSets_52 : decode cX0_goneSets 52 = .ok (.aload_n 1, 1) := by decide +kernel
theorem dX0_goneSets_53 : decode cX0_goneSets 53 = .ok (.iload_n 2, 1) := by decide +kernel
theorem dX0_goneSets_54 : decode cX0_goneSets 54 = .ok (.invokevirtual 79, 3) := by decide +kernel
theorem dX0_goneSets_57 : decode cX0_goneSets 57 = .ok (.ifCond .eq 17, 3) := by decide +kernel
theorem dX0_goneSets_60 : decode cX0_goneSets 60 = .ok (.iload 4, 2) := by decide +kernel
theorem dX0_goneSets_62 : decode cX0_goneSets 62 = .ok (.ifCond .ne 9, 3) := by decide +kernel
theorem dX0_goneSets_65 : decode cX0_goneSets 65 = .ok (.aload_n 0, 1) := by decide +kernel
theorem dX0_goneSets_66 : decode cX0_goneSets 66 = .ok (.iload 5, 2) := by decide +kernel
theorem dX0_goneSets_68 : decode cX0_goneSets 68 = .ok (.putfield 29, 3) := by decide +kernel
theorem dX0_goneSets_71 : decode cX0_goneSets 71 = .ok (.iinc 4 1, 3) := by decide +kernel
theorem dX0_goneSets_74 : decode cX0_goneSets 74 = .ok (.iinc 5 1, 3) := by decide +kernel
theorem dX0_goneSets_77 : decode cX0_goneSets 77 = .ok (.goto (-59), 3) := by decide +kernel
theorem dX0_goneSets_80 : decode cX0_goneSets 80 = .ok (.iload 4, 2) := by decide +kernel
theorem dX0_goneSets_82 : decode cX0_goneSets 82 = .ok (.ifCond .ne 8, 3) := by decide +kernel
theorem dX0_goneSets_85 : decode cX0_goneSets 85 = .ok (.bipush (-9), 2) := by decide +kernel
theorem dX0_goneSets_87 : decode cX0_goneSets 87 = .ok (.goto 5, 3) := by decide +kernel
theorem dX0_goneSets_90 : decode cX0_goneSets 90 = .ok (.iload 4, 2) := by decide +kernel
theorem dX0_goneSets_92 : decode cX0_goneSets 92 = .ok (.ireturn, 1) := by decide +kernel
theorem dX0_likelyStrengths_0 : decode cX0_likelyStrengths 0 = .ok (.iconst 0, 1) := by decide +kernel
theorem dX0_likelyStrengths_1 : decode cX0_likelyStrengths 1 = .ok (.istore 4, 2) := by decide +kernel
theorem dX0_likelyStrengths_3 : decode cX0_likelyStrengths 3 = .ok (.iconst 0, 1) := by decide +kernel
theorem dX0_likelyStrengths_4 : decode cX0_likelyStrengths 4 = .ok (.istore 5, 2) := by decide +kernel
theorem dX0_likelyStrengths_6 : decode cX0_likelyStrengths 6 = .ok (.iload 5, 2) := by decide +kernel
theorem dX0_likelyStrengths_8 : decode cX0_likelyStrengths 8 = .ok (.bipush 9, 2) := by decide +kernel
theorem dX0_likelyStrengths_10 : decode cX0_likelyStrengths 10 = .ok (.if_icmp .gt 52, 3) := by decide +kernel
theorem dX0_likelyStrengths_13 : decode cX0_likelyStrengths 13 = .ok (.aload_n 0, 1) := by decide +kernel
theorem dX0_likelyStrengths_14 : decode cX0_likelyStrengths 14 = .ok (.getfield 18, 3) := by decide +kernel
theorem dX0_likelyStrengths_17 : decode cX0_likelyStrengths 17 = .ok (.aload_n 0, 1) := by decide +kernel
theorem dX0_likelyStrengths_18 : decode cX0_likelyStrengths 18 = .ok (.getfield 9, 3) := by decide +kernel
theorem dX0_likelyStrengths_21 : decode cX0_likelyStrengths 21 = .ok (.invokevirtual 21, 3) := by decide +kernel
theorem dX0_likelyStrengths_24 : decode cX0_likelyStrengths 24 = .ok (.aload_n 0, 1) := by decide +kernel
theorem dX0_likelyStrengths_25 : decode cX0_likelyStrengths 25 = .ok (.getfield 18, 3) := by decide +kernel
theorem dX0_likelyStrengths_28 : decode cX0_likelyStrengths 28 = .ok (.getfield 83, 3) := by decide +kernel
theorem dX0_likelyStrengths_31 : decode cX0_likelyStrengths 31 = .ok (.iload_n 1, 1) := by decide +kernel
theorem dX0_likelyStrengths_32 : decode cX0_likelyStrengths 32 = .ok (.iload 5, 2) := by decide +kernel
theorem dX0_likelyStrengths_34 : decode cX0_likelyStrengths 34 = .ok (.iastore, 1) := by decide +kernel
theorem dX0_likelyStrengths_35 : decode cX0_likelyStrengths 35 = .ok (.aload_n 0, 1) := by decide +kernel
theorem dX0_likelyStrengths_36 : decode cX0_likelyStrengths 36 = .ok (.getfield 18, 3) := by decide +kernel
theorem dX0_likelyStrengths_39 : decode cX0_likelyStrengths 39 = .ok (.aload_n 2, 1) := by decide +kernel
theorem dX0_likelyStrengths_40 : decode cX0_likelyStrengths 40 = .ok (.iload_n 3, 1) := by decide +kernel
theorem dX0_likelyStrengths_41 : decode cX0_likelyStrengths 41 = .ok (.invokevirtual 79, 3) := by decide +kernel
theorem dX0_likelyStrengths_44 : decode cX0_likelyStrengths 44 = .ok (.ifCond .eq 12, 3) := by decide +kernel
theorem dX0_likelyStrengths_47 : decode cX0_likelyStrengths 47 = .ok (.iload 4, 2) := by decide +kernel
theorem dX0_likelyStrengths_49 : decode cX0_likelyStrengths 49 = .ok (.iconst 1, 1) := by decide +kernel
theorem dX0_likelyStrengths_50 : decode cX0_likelyStrengths 50 = .ok (.iload 5, 2) := by decide +kernel
theorem dX0_likelyStrengths_52 : decode cX0_likelyStrengths 52 = .ok (.ishl, 1) := by decide +kernel
theorem dX0_likelyStrengths_53 : decode cX0_likelyStrengths 53 = .ok (.ior, 1) := by decide +kernel
theorem dX0_likelyStrengths_54 : decode cX0_likelyStrengths 54 = .ok (.istore 4, 2) := by decide +kernel
theorem dX0_likelyStrengths_56 : decode cX0_likelyStrengths 56 = .ok (.iinc 5 1, 3) := by decide +kernel
theorem dX0_likelyStrengths_59 : decode cX0_likelyStrengths 59 = .ok (.goto (-53), 3) := by decide +kernel
theorem dX0_likelyStrengths_62 : decode cX0_likelyStrengths 62 = .ok (.iload 4, 2) := by decide +kernel
theorem dX0_likelyStrengths_64 : decode cX0_likelyStrengths 64 = .ok (.ireturn, 1) := by decide +kernel
theorem dX0_likelyKinds_0 : decode cX0_likelyKinds 0 = .ok (.iconst 0, 1) := by decide +kernel
theorem dX0_likelyKinds_1 : decode cX0_likelyKinds 1 = .ok (.istore 4, 2) := by decide +kernel
theorem dX0_likelyKinds_3 : decode cX0_likelyKinds 3 = .ok (.iconst 0, 1) := by decide +kernel
theorem dX0_likelyKinds_4 : decode cX0_likelyKinds 4 = .ok (.istore 5, 2) := by decide +kernel
theorem dX0_likelyKinds_6 : decode cX0_likelyKinds 6 = .ok (.iload 5, 2) := by decide +kernel
theorem dX0_likelyKinds_8 : decode cX0_likelyKinds 8 = .ok (.bipush 6, 2) := by decide +kernel
theorem dX0_likelyKinds_10 : decode cX0_likelyKinds 10 = .ok (.if_icmp .ge 52, 3) := by decide +kernel
theorem dX0_likelyKinds_13 : decode cX0_likelyKinds 13 = .ok (.aload_n 0, 1) := by decide +kernel
theorem dX0_likelyKinds_14 : decode cX0_likelyKinds 14 = .ok (.getfield 18, 3) := by decide +kernel
theorem dX0_likelyKinds_17 : decode cX0_likelyKinds 17 = .ok (.aload_n 0, 1) := by decide +kernel
theorem dX0_likelyKinds_18 : decode cX0_likelyKinds 18 = .ok (.getfield 9, 3) := by decide +kernel
theorem dX0_likelyKinds_21 : decode cX0_likelyKinds 21 = .ok (.invokevirtual 21, 3) := by decide +kernel
theorem dX0_likelyKinds_24 : decode cX0_likelyKinds 24 = .ok (.aload_n 0, 1) := by decide +kernel
theorem dX0_likelyKinds_25 : decode cX0_likelyKinds 25 = .ok (.getfield 18, 3) := by decide +kernel
theorem dX0_likelyKinds_28 : decode cX0_likelyKinds 28 = .ok (.getfield 87, 3) := by decide +kernel
theorem dX0_likelyKinds_31 : decode cX0_likelyKinds 31 = .ok (.iload_n 1, 1) := by decide +kernel
theorem dX0_likelyKinds_32 : decode cX0_likelyKinds 32 = .ok (.iload 5, 2) := by decide +kernel
theorem dX0_likelyKinds_34 : decode cX0_likelyKinds 34 = .ok (.iastore, 1) := by decide +kernel
theorem dX0_likelyKinds_35 : decode cX0_likelyKinds 35 = .ok (.aload_n 0, 1) := by decide +kernel
theorem dX0_likelyKinds_36 : decode cX0_likelyKinds 36 = .ok (.getfield 18, 3) := by decide +kernel
theorem dX0_likelyKinds_39 : decode cX0_likelyKinds 39 = .ok (.aload_n 2, 1) := by decide +kernel
theorem dX0_likelyKinds_40 : decode cX0_likelyKinds 40 = .ok (.iload_n 3, 1) := by decide +kernel
theorem dX0_likelyKinds_41 : decode cX0_likelyKinds 41 = .ok (.invokevirtual 79, 3) := by decide +kernel
theorem dX0_likelyKinds_44 : decode cX0_likelyKinds 44 = .ok (.ifCond .eq 12, 3) := by decide +kernel
theorem dX0_likelyKinds_47 : decode cX0_likelyKinds 47 = .ok (.iload 4, 2) := by decide +kernel
theorem dX0_likelyKinds_49 : decode cX0_likelyKinds 49 = .ok (.iconst 1, 1) := by decide +kernel
theorem dX0_likelyKinds_50 : decode cX0_likelyKinds 50 = .ok (.iload 5, 2) := by decide +kernel
theorem dX0_likelyKinds_52 : decode cX0_likelyKinds 52 = .ok (.ishl, 1) := by decide +kernel
theorem dX0_likelyKinds_53 : decode cX0_likelyKinds 53 = .ok (.ior, 1) := by decide +kernel
theorem dX0_likelyKinds_54 : decode cX0_likelyKinds 54 = .ok (.istore 4, 2) := by decide +kernel
theorem dX0_likelyKinds_56 : decode cX0_likelyKinds 56 = .ok (.iinc 5 1, 3) := by decide +kernel
theorem dX0_likelyKinds_59 : decode cX0_likelyKinds 59 = .ok (.goto (-53), 3) := by decide +kernel
theorem dX0_likelyKinds_62 : decode cX0_likelyKinds 62 = .ok (.iload 4, 2) := by decide +kernel
theorem dX0_likelyKinds_64 : decode cX0_likelyKinds 64 = .ok (.ireturn, 1) := by decide +kernel
theorem dX0_bestDepth_0 : decode cX0_bestDepth 0 = .ok (.iconst 0, 1) := by decide +kernel
theorem dX0_bestDepth_1 : decode cX0_bestDepth 1 = .ok (.istore_n 2, 1) := by decide +kernel
theorem dX0_bestDepth_2 : decode cX0_bestDepth 2 = .ok (.aload_n 0, 1) := by decide +kernel
theorem dX0_bestDepth_3 : decode cX0_bestDepth 3 = .ok (.bipush 7, 2) := by decide +kernel
theorem dX0_bestDepth_5 : decode cX0_bestDepth 5 = .ok (.putfield 29, 3) := by decide +kernel
theorem dX0_bestDepth_8 : decode cX0_bestDepth 8 = .ok (.iconst 0, 1) := by decide +kernel
theorem dX0_bestDepth_9 : decode cX0_bestDepth 9 = .ok (.istore_n 3, 1) := by decide +kernel
theorem dX0_bestDepth_10 : decode cX0_bestDepth 10 = .ok (.iload_n 3, 1) := by decide +kernel
theorem dX0_bestDepth_11 : decode cX0_bestDepth 11 = .ok (.bipush 9, 2) := by decide +kernel
theorem dX0_bestDepth_13 : decode cX0_bestDepth 13 = .ok (.if_icmp .gt 46, 3) := by decide +kernel
theorem dX0_bestDepth_16 : decode cX0_bestDepth 16 = .ok (.aload_n 0, 1) := by decide +kernel
theorem dX0_bestDepth_17 : decode cX0_bestDepth 17 = .ok (.iload_n 1, 1) := by decide +kernel
theorem dX0_bestDepth_18 : decode cX0_bestDepth 18 = .ok (.iload_n 3, 1) := by decide +kernel
theorem dX0_bestDepth_19 : decode cX0_bestDepth 19 = .ok (.invokevirtual 90, 3) := by decide +kernel
theorem dX0_bestDepth_22 : decode cX0_bestDepth 22 = .ok (.istore 4, 2) := by decide +kernel
theorem dX0_bestDepth_24 : decode cX0_bestDepth 24 = .ok (.iload 4, 2) := by decide +kernel
theorem dX0_bestDepth_26 : decode cX0_bestDepth 26 = .ok (.bipush 6, 2) := by decide +kernel
theorem dX0_bestDepth_28 : decode cX0_bestDepth 28 = .ok (.iload 4, 2) := by decide +kernel
theorem dX0_bestDepth_30 : decode cX0_bestDepth 30 = .ok (.isub, 1) := by decide +kernel
theorem dX0_bestDepth_31 : decode cX0_bestDepth 31 = .ok (.invokestatic 94, 3) := by decide +kernel
theorem dX0_bestDepth_34 : decode cX0_bestDepth 34 = .ok (.istore 5, 2) := by decide +kernel
theorem dX0_bestDepth_36 : decode cX0_bestDepth 36 = .ok (.iload 5, 2) := by decide +kernel
theorem dX0_bestDepth_38 : decode cX0_bestDepth 38 = .ok (.aload_n 0, 1) := by decide +kernel
theorem dX0_bestDepth_39 : decode cX0_bestDepth 39 = .ok (.getfield 29, 3) := by decide +kernel
theorem dX0_bestDepth_42 : decode cX0_bestDepth 42 = .ok (.if_icmp .ge 11, 3) := by decide +kernel
theorem dX0_bestDepth_45 : decode cX0_bestDepth 45 = .ok (.aload_n 0, 1) := by decide +kernel
theorem dX0_bestDepth_46 : decode cX0_bestDepth 46 = .ok (.iload 5, 2) := by decide +kernel
theorem dX0_bestDepth_48 : decode cX0_bestDepth 48 = .ok (.putfield 29, 3) := by decide +kernel
theorem dX0_bestDepth_51 : decode cX0_bestDepth 51 = .ok (.iload_n 3, 1) := by decide +kernel
theorem dX0_bestDepth_52 : decode cX0_bestDepth 52 = .ok (.istore_n 2, 1) := by decide +kernel
theorem dX0_bestDepth_53 : decode cX0_bestDepth 53 = .ok (.iinc 3 1, 3) := by decide +kernel
theorem dX0_bestDepth_56 : decode cX0_bestDepth 56 = .ok (.goto (-46), 3) := by decide +kernel
theorem dX0_bestDepth_59 : decode cX0_bestDepth 59 = .ok (.iload_n 2, 1) := by decide +kernel
theorem dX0_bestDepth_60 : decode cX0_bestDepth 60 = .ok (.ireturn, 1) := by decide +kernel
theorem dX0_kindsBearing_0 : decode cX0_kindsBearing 0 = .ok (.iconst 0, 1) := by decide +kernel
theorem dX0_kindsBearing_1 : decode cX0_kindsBearing 1 = .ok (.istore_n 3, 1) := by decide +kernel
theorem dX0_kindsBearing_2 : decode cX0_kindsBearing 2 = .ok (.iconst 0, 1) := by decide +kernel
theorem dX0_kindsBearing_3 : decode cX0_kindsBearing 3 = .ok (.istore 4, 2) := by decide +kernel
theorem dX0_kindsBearing_5 : decode cX0_kindsBearing 5 = .ok (.iload 4, 2) := by decide +kernel
theorem dX0_kindsBearing_7 : decode cX0_kindsBearing 7 = .ok (.bipush 6, 2) := by decide +kernel
theorem dX0_kindsBearing_9 : decode cX0_kindsBearing 9 = .ok (.if_icmp .ge 47, 3) := by decide +kernel
theorem dX0_kindsBearing_12 : decode cX0_kindsBearing 12 = .ok (.iload 4, 2) := by decide +kernel
theorem dX0_kindsBearing_14 : decode cX0_kindsBearing 14 = .ok (.aload_n 0, 1) := by decide +kernel
theorem dX0_kindsBearing_15 : decode cX0_kindsBearing 15 = .ok (.getfield 9, 3) := by decide +kernel
theorem dX0_kindsBearing_18 : decode cX0_kindsBearing 18 = .ok (.getfield 83, 3) := by decide +kernel
theorem dX0_kindsBearing_21 : decode cX0_kindsBearing 21 = .ok (.iload_n 1, 1) := by decide +kernel
theorem dX0_kindsBearing_22 : decode cX0_kindsBearing 22 = .ok (.iaload, 1) := by decide +kernel
theorem dX0_kindsBearing_23 : decode cX0_kindsBearing 23 = .ok (.aload_n 0, 1) := by decide +kernel
theorem dX0_kindsBearing_24 : decode cX0_kindsBearing 24 = .ok (.getfield 9, 3) := by decide +kernel
theorem dX0_kindsBearing_27 : decode cX0_kindsBearing 27 = .ok (.getfield 99, 3) := by decide +kernel
theorem dX0_kindsBearing_30 : decode cX0_kindsBearing 30 = .ok (.iload_n 1, 1) := by decide +kernel
theorem dX0_kindsBearing_31 : decode cX0_kindsBearing 31 = .ok (.iaload, 1) := by decide +kernel
theorem dX0_kindsBearing_32 : decode cX0_kindsBearing 32 = .ok (.iload_n 2, 1) := by decide +kernel
theorem dX0_kindsBearing_33 : decode cX0_kindsBearing 33 = .ok (.aload_n 0, 1) := by decide +kernel
theorem dX0_kindsBearing_34 : decode cX0_kindsBearing 34 = .ok (.getfield 9, 3) := by decide +kernel
theorem dX0_kindsBearing_37 : decode cX0_kindsBearing 37 = .ok (.getfield 102, 3) := by decide +kernel
theorem dX0_kindsBearing_40 : decode cX0_kindsBearing 40 = .ok (.invokestatic 106, 3) := by decide +kernel
theorem dX0_kindsBearing_43 : decode cX0_kindsBearing 43 = .ok (.iload_n 2, 1) := by decide +kernel
theorem dX0_kindsBearing_44 : decode cX0_kindsBearing 44 = .ok (.if_icmp .lt 6, 3) := by decide +kernel
theorem dX0_kindsBearing_47 : decode cX0_kindsBearing 47 = .ok (.iinc 3 1, 3) := by decide +kernel
theorem dX0_kindsBearing_50 : decode cX0_kindsBearing 50 = .ok (.iinc 4 1, 3) := by decide +kernel
theorem dX0_kindsBearing_53 : decode cX0_kindsBearing 53 = .ok (.goto (-48), 3) := by decide +kernel
theorem dX0_kindsBearing_56 : decode cX0_kindsBearing 56 = .ok (.iload_n 3, 1) := by decide +kernel
theorem dX0_kindsBearing_57 : decode cX0_kindsBearing 57 = .ok (.ireturn, 1) := by decide +kernel
theorem dX0_fight_0 : decode cX0_fight 0 = .ok (.iload_n 1, 1) := by decide +kernel
theorem dX0_fight_1 : decode cX0_fight 1 = .ok (.ifCond .gt 11, 3) := by decide +kernel
theorem dX0_fight_4 : decode cX0_fight 4 = .ok (.aload_n 0, 1) := by decide +kernel
theorem dX0_fight_5 : decode cX0_fight 5 = .ok (.iload_n 3, 1) := by decide +kernel
theorem dX0_fight_6 : decode cX0_fight 6 = .ok (.iload 4, 2) := by decide +kernel
theorem dX0_fight_8 : decode cX0_fight 8 = .ok (.invokevirtual 110, 3) := by decide +kernel
theorem dX0_fight_11 : decode cX0_fight 11 = .ok (.ireturn, 1) := by decide +kernel
theorem dX0_fight_12 : decode cX0_fight 12 = .ok (.aload_n 0, 1) := by decide +kernel
theorem dX0_fight_13 : decode cX0_fight 13 = .ok (.iload_n 1, 1) := by decide +kernel
theorem dX0_fight_14 : decode cX0_fight 14 = .ok (.iconst 1, 1) := by decide +kernel
theorem dX0_fight_15 : decode cX0_fight 15 = .ok (.isub, 1) := by decide +kernel
theorem dX0_fight_16 : decode cX0_fight 16 = .ok (.iload_n 2, 1) := by decide +kernel
theorem dX0_fight_17 : decode cX0_fight 17 = .ok (.ifCond .ne 7, 3) := by decide +kernel
theorem dX0_fight_20 : decode cX0_fight 20 = .ok (.iconst 1, 1) := by decide +kernel
theorem dX0_fight_21 : decode cX0_fight 21 = .ok (.goto 4, 3) := by decide +kernel
theorem dX0_fight_24 : decode cX0_fight 24 = .ok (.iconst 0, 1) := by decide +kernel
theorem dX0_fight_25 : decode cX0_fight 25 = .ok (.iload_n 3, 1) := by decide +kernel
theorem dX0_fight_26 : decode cX0_fight 26 = .ok (.iload 4, 2) := by decide +kernel
theorem dX0_fight_28 : decode cX0_fight 28 = .ok (.iload 5, 2) := by decide +kernel
theorem dX0_fight_30 : decode cX0_fight 30 = .ok (.iload 6, 2) := by decide +kernel
theorem dX0_fight_32 : decode cX0_fight 32 = .ok (.invokevirtual 113, 3) := by decide +kernel
theorem dX0_fight_35 : decode cX0_fight 35 = .ok (.istore 7, 2) := by decide +kernel
theorem dX0_fight_37 : decode cX0_fight 37 = .ok (.iload_n 2, 1) := by decide +kernel
theorem dX0_fight_38 : decode cX0_fight 38 = .ok (.ifCond .eq 13, 3) := by decide +kernel
theorem dX0_fight_41 : decode cX0_fight 41 = .ok (.iload 5, 2) := by decide +kernel
theorem dX0_fight_43 : decode cX0_fight 43 = .ok (.iload 7, 2) := by decide +kernel
theorem dX0_fight_45 : decode cX0_fight 45 = .ok (.invokestatic 94, 3) := by decide +kernel
theorem dX0_fight_48 : decode cX0_fight 48 = .ok (.goto 5, 3) := by decide +kernel
theorem dX0_fight_51 : decode cX0_fight 51 = .ok (.iload 5, 2) := by decide +kernel
theorem dX0_fight_53 : decode cX0_fight 53 = .ok (.istore 8, 2) := by decide +kernel
theorem dX0_fight_55 : decode cX0_fight 55 = .ok (.iload_n 2, 1) := by decide +kernel
theorem dX0_fight_56 : decode cX0_fight 56 = .ok (.ifCond .eq 8, 3) := by decide +kernel
theorem dX0_fight_59 : decode cX0_fight 59 = .ok (.iload 6, 2) := by decide +kernel
theorem dX0_fight_61 : decode cX0_fight 61 = .ok (.goto 10, 3) := by decide +kernel
theorem dX0_fight_64 : decode cX0_fight 64 = .ok (.iload 6, 2) := by decide +kernel
theorem dX0_fight_66 : decode cX0_fight 66 = .ok (.iload 7, 2) := by decide +kernel
theorem dX0_fight_68 : decode cX0_fight 68 = .ok (.invokestatic 117, 3) := by decide +kernel
theorem dX0_fight_71 : decode cX0_fight 71 = .ok (.istore 9, 2) := by decide +kernel
theorem dX0_fight_73 : decode cX0_fight 73 = .ok (.iconst 0, 1) := by decide +kernel
theorem dX0_fight_74 : decode cX0_fight 74 = .ok (.istore 10, 2) := by decide +kernel
theorem dX0_fight_76 : decode cX0_fight 76 = .ok (.iload 10, 2) := by decide +kernel
theorem dX0_fight_78 : decode cX0_fight 78 = .ok (.aload_n 0, 1) := by decide +kernel
theorem dX0_fight_79 : decode cX0_fight 79 = .ok (.getfield 9, 3) := by decide +kernel
theorem dX0_fight_82 : decode cX0_fight 82 = .ok (.getfield 47, 3) := by decide +kernel
theorem dX0_fight_85 : decode cX0_fight 85 = .ok (.if_icmp .ge 130, 3) := by decide +kernel
theorem dX0_fight_88 : decode cX0_fight 88 = .ok (.iload 8, 2) := by decide +kernel
theorem dX0_fight_90 : decode cX0_fight 90 = .ok (.iload 9, 2) := by decide +kernel
theorem dX0_fight_92 : decode cX0_fight 92 = .ok (.if_icmp .ge 123, 3) := by decide +kernel
theorem dX0_fight_95 : decode cX0_fight 95 = .ok (.iconst 1, 1) := by decide +kernel
theorem dX0_fight_96 : decode cX0_fight 96 = .ok (.iload 10, 2) := by decide +kernel
theorem dX0_fight_98 : decode cX0_fight 98 = .ok (.ishl, 1) := by decide +kernel
theorem dX0_fight_99 : decode cX0_fight 99 = .ok (.istore 11, 2) := by decide +kernel
theorem dX0_fight_101 : decode cX0_fight 101 = .ok (.iload_n 3, 1) := by decide +kernel
theorem dX0_fight_102 : decode cX0_fight 102 = .ok (.iload 11, 2) := by decide +kernel
theorem dX0_fight_104 : decode cX0_fight 104 = .ok (.iand, 1) := by decide +kernel
theorem dX0_fight_105 : decode cX0_fight 105 = .ok (.ifCond .eq 7, 3) := by decide +kernel
theorem dX0_fight_108 : decode cX0_fight 108 = .ok (.iconst 1, 1) := by decide +kernel
theorem dX0_fight_109 : decode cX0_fight 109 = .ok (.goto 4, 3) := by decide +kernel
theorem dX0_fight_112 : decode cX0_fight 112 = .ok (.iconst 0, 1) := by decide +kernel
theorem dX0_fight_113 : decode cX0_fight 113 = .ok (.istore 12, 2) := by decide +kernel
theorem dX0_fight_115 : decode cX0_fight 115 = .ok (.iload_n 2, 1) := by decide +kernel
theorem dX0_fight_116 : decode cX0_fight 116 = .ok (.ifCond .eq 47, 3) := by decide +kernel
theorem dX0_fight_119 : decode cX0_fight 119 = .ok (.iload 12, 2) := by decide +kernel
theorem dX0_fight_121 : decode cX0_fight 121 = .ok (.ifCond .eq 42, 3) := by decide +kernel
theorem dX0_fight_124 : decode cX0_fight 124 = .ok (.iload 7, 2) := by decide +kernel
theorem dX0_fight_126 : decode cX0_fight 126 = .ok (.aload_n 0, 1) := by decide +kernel
theorem dX0_fight_127 : decode cX0_fight 127 = .ok (.iload_n 1, 1) := by decide +kernel
theorem dX0_fight_128 : decode cX0_fight 128 = .ok (.iconst 1, 1) := by decide +kernel
theorem dX0_fight_129 : decode cX0_fight 129 = .ok (.isub, 1) := by decide +kernel
theorem dX0_fight_130 : decode cX0_fight 130 = .ok (.iconst 0, 1) := by decide +kernel
theorem dX0_fight_131 : decode cX0_fight 131 = .ok (.iload_n 3, 1) := by decide +kernel
theorem dX0_fight_132 : decode cX0_fight 132 = .ok (.iload 11, 2) := by decide +kernel
theorem dX0_fight_134 : decode cX0_fight 134 = .ok (.iconst (-1), 1) := by decide +kernel
theorem dX0_fight_135 : decode cX0_fight 135 = .ok (.ixor, 1) := by decide +kernel
theorem dX0_fight_136 : decode cX0_fight 136 = .ok (.iand, 1) := by decide +kernel
theorem dX0_fight_137 : decode cX0_fight 137 = .ok (.iload 4, 2) := by decide +kernel
theorem dX0_fight_139 : decode cX0_fight 139 = .ok (.iload 8, 2) := by decide +kernel
theorem dX0_fight_141 : decode cX0_fight 141 = .ok (.iload 9, 2) := by decide +kernel
theorem dX0_fight_143 : decode cX0_fight 143 = .ok (.invokevirtual 113, 3) := by decide +kernel
theorem dX0_fight_146 : decode cX0_fight 146 = .ok (.invokestatic 94, 3) := by decide +kernel
theorem dX0_fight_149 : decode cX0_fight 149 = .ok (.istore 7, 2) := by decide +kernel
theorem dX0_fight_151 : decode cX0_fight 151 = .ok (.iload 8, 2) := by decide +kernel
theorem dX0_fight_153 : decode cX0_fight 153 = .ok (.iload 7, 2) := by decide +kernel
theorem dX0_fight_155 : decode cX0_fight 155 = .ok (.invokestatic 94, 3) := by decide +kernel
theorem dX0_fight_158 : decode cX0_fight 158 = .ok (.istore 8, 2) := by decide +kernel
theorem dX0_fight_160 : decode cX0_fight 160 = .ok (.goto 49, 3) := by decide +kernel
theorem dX0_fight_163 : decode cX0_fight 163 = .ok (.iload_n 2, 1) := by decide +kernel
theorem dX0_fight_164 : decode cX0_fight 164 = .ok (.ifCond .ne 45, 3) := by decide +kernel
theorem dX0_fight_167 : decode cX0_fight 167 = .ok (.iload 12, 2) := by decide +kernel
theorem dX0_fight_169 : decode cX0_fight 169 = .ok (.ifCond .ne 40, 3) := by decide +kernel
theorem dX0_fight_172 : decode cX0_fight 172 = .ok (.iload 7, 2) := by decide +kernel
theorem dX0_fight_174 : decode cX0_fight 174 = .ok (.aload_n 0, 1) := by decide +kernel
theorem dX0_fight_175 : decode cX0_fight 175 = .ok (.iload_n 1, 1) := by decide +kernel
theorem dX0_fight_176 : decode cX0_fight 176 = .ok (.iconst 1, 1) := by decide +kernel
theorem dX0_fight_177 : decode cX0_fight 177 = .ok (.isub, 1) := by decide +kernel
theorem dX0_fight_178 : decode cX0_fight 178 = .ok (.iconst 1, 1) := by decide +kernel
theorem dX0_fight_179 : decode cX0_fight 179 = .ok (.iload_n 3, 1) := by decide +kernel
theorem dX0_fight_180 : decode cX0_fight 180 = .ok (.iload 11, 2) := by decide +kernel
theorem dX0_fight_182 : decode cX0_fight 182 = .ok (.ior, 1) := by decide +kernel
theorem dX0_fight_183 : decode cX0_fight 183 = .ok (.iload 4, 2) := by decide +kernel
theorem dX0_fight_185 : decode cX0_fight 185 = .ok (.iload 11, 2) := by decide +kernel
theorem dX0_fight_187 : decode cX0_fight 187 = .ok (.ior, 1) := by decide +kernel
theorem dX0_fight_188 : decode cX0_fight 188 = .ok (.iload 8, 2) := by decide +kernel
theorem dX0_fight_190 : decode cX0_fight 190 = .ok (.iload 9, 2) := by decide +kernel
theorem dX0_fight_192 : decode cX0_fight 192 = .ok (.invokevirtual 113, 3) := by decide +kernel
theorem dX0_fight_195 : decode cX0_fight 195 = .ok (.invokestatic 117, 3) := by decide +kernel
theorem dX0_fight_198 : decode cX0_fight 198 = .ok (.istore 7, 2) := by decide +kernel
theorem dX0_fight_200 : decode cX0_fight 200 = .ok (.iload 9, 2) := by decide +kernel
theorem dX0_fight_202 : decode cX0_fight 202 = .ok (.iload 7, 2) := by decide +kernel
theorem dX0_fight_204 : decode cX0_fight 204 = .ok (.invokestatic 117, 3) := by decide +kernel
theorem dX0_fight_207 : decode cX0_fight 207 = .ok (.istore 9, 2) := by decide +kernel
theorem dX0_fight_209 : decode cX0_fight 209 = .ok (.iinc 10 1, 3) := by decide +kernel
theorem dX0_fight_212 : decode cX0_fight 212 = .ok (.goto (-136), 3) := by decide +kernel
theorem dX0_fight_215 : decode cX0_fight 215 = .ok (.iload 7, 2) := by decide +kernel
theorem dX0_fight_217 : decode cX0_fight 217 = .ok (.ireturn, 1) := by decide +kernel
theorem dX0_limpsWith_0 : decode cX0_limpsWith 0 = .ok (.aload_n 0, 1) := by decide +kernel
theorem dX0_limpsWith_1 : decode cX0_limpsWith 1 = .ok (.getfield 18, 3) := by decide +kernel
theorem dX0_limpsWith_4 : decode cX0_limpsWith 4 = .ok (.aload_n 0, 1) := by decide +kernel
theorem dX0_limpsWith_5 : decode cX0_limpsWith 5 = .ok (.getfield 9, 3) := by decide +kernel
theorem dX0_limpsWith_8 : decode cX0_limpsWith 8 = .ok (.invokevirtual 21, 3) := by decide +kernel
theorem dX0_limpsWith_11 : decode cX0_limpsWith 11 = .ok (.aload_n 0, 1) := by decide +kernel
theorem dX0_limpsWith_12 : decode cX0_limpsWith 12 = .ok (.getfield 18, 3) := by decide +kernel
theorem dX0_limpsWith_15 : decode cX0_limpsWith 15 = .ok (.iload_n 2, 1) := by decide +kernel
theorem dX0_limpsWith_16 : decode cX0_limpsWith 16 = .ok (.invokevirtual 59, 3) := by decide +kernel
theorem dX0_limpsWith_19 : decode cX0_limpsWith 19 = .ok (.aload_n 0, 1) := by decide +kernel
theorem dX0_limpsWith_20 : decode cX0_limpsWith 20 = .ok (.getfield 18, 3) := by decide +kernel
theorem dX0_limpsWith_23 : decode cX0_limpsWith 23 = .ok (.iload_n 1, 1) := by decide +kernel
theorem dX0_limpsWith_24 : decode cX0_limpsWith 24 = .ok (.putfield 76, 3) := by decide +kernel
theorem dX0_limpsWith_27 : decode cX0_limpsWith 27 = .ok (.aload_n 0, 1) := by decide +kernel
theorem dX0_limpsWith_28 : decode cX0_limpsWith 28 = .ok (.getfield 18, 3) := by decide +kernel
theorem dX0_limpsWith_31 : decode cX0_limpsWith 31 = .ok (.bipush 12, 2) := by decide +kernel
theorem dX0_limpsWith_33 : decode cX0_limpsWith 33 = .ok (.invokevirtual 69, 3) := by decide +kernel
theorem dX0_limpsWith_36 : decode cX0_limpsWith 36 = .ok (.ireturn, 1) := by decide +kernel
theorem dX0_waysUpTo_0 : decode cX0_waysUpTo 0 = .ok (.lconst 0, 1) := by decide +kernel
theorem dX0_waysUpTo_1 : decode cX0_waysUpTo 1 = .ok (.lstore_n 3, 1) := by decide +kernel
theorem dX0_waysUpTo_2 : decode cX0_waysUpTo 2 = .ok (.iconst 0, 1) := by decide +kernel
theorem dX0_waysUpTo_3 : decode cX0_waysUpTo 3 = .ok (.istore 5, 2) := by decide +kernel
theorem dX0_waysUpTo_5 : decode cX0_waysUpTo 5 = .ok (.iload 5, 2) := by decide +kernel
theorem dX0_waysUpTo_7 : decode cX0_waysUpTo 7 = .ok (.iconst 1, 1) := by decide +kernel
theorem dX0_waysUpTo_8 : decode cX0_waysUpTo 8 = .ok (.aload_n 0, 1) := by decide +kernel
theorem dX0_waysUpTo_9 : decode cX0_waysUpTo 9 = .ok (.getfield 9, 3) := by decide +kernel
theorem dX0_waysUpTo_12 : decode cX0_waysUpTo 12 = .ok (.getfield 47, 3) := by decide +kernel
theorem dX0_waysUpTo_15 : decode cX0_waysUpTo 15 = .ok (.ishl, 1) := by decide +kernel
theorem dX0_waysUpTo_16 : decode cX0_waysUpTo 16 = .ok (.if_icmp .ge 51, 3) := by decide +kernel
theorem dX0_waysUpTo_19 : decode cX0_waysUpTo 19 = .ok (.aload_n 0, 1) := by decide +kernel
theorem dX0_waysUpTo_20 : decode cX0_waysUpTo 20 = .ok (.iload 5, 2) := by decide +kernel
theorem dX0_waysUpTo_22 : decode cX0_waysUpTo 22 = .ok (.iload_n 2, 1) := by decide +kernel
theorem dX0_waysUpTo_23 : decode cX0_waysUpTo 23 = .ok (.invokevirtual 120, 3) := by decide +kernel
theorem dX0_waysUpTo_26 : decode cX0_waysUpTo 26 = .ok (.lstore 6, 2) := by decide +kernel
theorem dX0_waysUpTo_28 : decode cX0_waysUpTo 28 = .ok (.lload 6, 2) := by decide +kernel
theorem dX0_waysUpTo_30 : decode cX0_waysUpTo 30 = .ok (.lconst 0, 1) := by decide +kernel
theorem dX0_waysUpTo_31 : decode cX0_waysUpTo 31 = .ok (.lcmp, 1) := by decide +kernel
theorem dX0_waysUpTo_32 : decode cX0_waysUpTo 32 = .ok (.ifCond .eq 29, 3) := by decide +kernel
theorem dX0_waysUpTo_35 : decode cX0_waysUpTo 35 = .ok (.aload_n 0, 1) := by decide +kernel
theorem dX0_waysUpTo_36 : decode cX0_waysUpTo 36 = .ok (.aload_n 0, 1) := by decide +kernel
theorem dX0_waysUpTo_37 : decode cX0_waysUpTo 37 = .ok (.getfield 9, 3) := by decide +kernel
theorem dX0_waysUpTo_40 : decode cX0_waysUpTo 40 = .ok (.getfield 76, 3) := by decide +kernel
theorem dX0_waysUpTo_43 : decode cX0_waysUpTo 43 = .ok (.iload 5, 2) := by decide +kernel
theorem dX0_waysUpTo_45 : decode cX0_waysUpTo 45 = .ok (.iconst (-1), 1) := by decide +kernel
theorem dX0_waysUpTo_46 : decode cX0_waysUpTo 46 = .ok (.ixor, 1) := by decide +kernel
theorem dX0_waysUpTo_47 : decode cX0_waysUpTo 47 = .ok (.iand, 1) := by decide +kernel
theorem dX0_waysUpTo_48 : decode cX0_waysUpTo 48 = .ok (.iconst 0, 1) := by decide +kernel
theorem dX0_waysUpTo_49 : decode cX0_waysUpTo 49 = .ok (.invokevirtual 110, 3) := by decide +kernel
theorem dX0_waysUpTo_52 : decode cX0_waysUpTo 52 = .ok (.iload_n 1, 1) := by decide +kernel
theorem dX0_waysUpTo_53 : decode cX0_waysUpTo 53 = .ok (.if_icmp .gt 8, 3) := by decide +kernel
theorem dX0_waysUpTo_56 : decode cX0_waysUpTo 56 = .ok (.lload_n 3, 1) := by decide +kernel
theorem dX0_waysUpTo_57 : decode cX0_waysUpTo 57 = .ok (.lload 6, 2) := by decide +kernel
theorem dX0_waysUpTo_59 : decode cX0_waysUpTo 59 = .ok (.ladd, 1) := by decide +kernel
theorem dX0_waysUpTo_60 : decode cX0_waysUpTo 60 = .ok (.lstore_n 3, 1) := by decide +kernel
theorem dX0_waysUpTo_61 : decode cX0_waysUpTo 61 = .ok (.iinc 5 1, 3) := by decide +kernel
theorem dX0_waysUpTo_64 : decode cX0_waysUpTo 64 = .ok (.goto (-59), 3) := by decide +kernel
theorem dX0_waysUpTo_67 : decode cX0_waysUpTo 67 = .ok (.lload_n 3, 1) := by decide +kernel
theorem dX0_waysUpTo_68 : decode cX0_waysUpTo 68 = .ok (.lreturn, 1) := by decide +kernel
theorem dX0_limpsOverWays_0 : decode cX0_limpsOverWays 0 = .ok (.lconst 0, 1) := by decide +kernel
theorem dX0_limpsOverWays_1 : decode cX0_limpsOverWays 1 = .ok (.lstore_n 2, 1) := by decide +kernel
theorem dX0_limpsOverWays_2 : decode cX0_limpsOverWays 2 = .ok (.iconst 0, 1) := by decide +kernel
theorem dX0_limpsOverWays_3 : decode cX0_limpsOverWays 3 = .ok (.istore 4, 2) := by decide +kernel
theorem dX0_limpsOverWays_5 : decode cX0_limpsOverWays 5 = .ok (.iload 4, 2) := by decide +kernel
theorem dX0_limpsOverWays_7 : decode cX0_limpsOverWays 7 = .ok (.iconst 1, 1) := by decide +kernel
theorem dX0_limpsOverWays_8 : decode cX0_limpsOverWays 8 = .ok (.aload_n 0, 1) := by decide +kernel
theorem dX0_limpsOverWays_9 : decode cX0_limpsOverWays 9 = .ok (.getfield 9, 3) := by decide +kernel
theorem dX0_limpsOverWays_12 : decode cX0_limpsOverWays 12 = .ok (.getfield 47, 3) := by decide +kernel
theorem dX0_limpsOverWays_15 : decode cX0_limpsOverWays 15 = .ok (.ishl, 1) := by decide +kernel
theorem dX0_limpsOverWays_16 : decode cX0_limpsOverWays 16 = .ok (.if_icmp .ge 49, 3) := by decide +kernel
theorem dX0_limpsOverWays_19 : decode cX0_limpsOverWays 19 = .ok (.aload_n 0, 1) := by decide +kernel
theorem dX0_limpsOverWays_20 : decode cX0_limpsOverWays 20 = .ok (.iload 4, 2) := by decide +kernel
theorem dX0_limpsOverWays_22 : decode cX0_limpsOverWays 22 = .ok (.iload_n 1, 1) := by decide +kernel
theorem dX0_limpsOverWays_23 : decode cX0_limpsOverWays 23 = .ok (.invokevirtual 120, 3) := by decide +kernel
theorem dX0_limpsOverWays_26 : decode cX0_limpsOverWays 26 = .ok (.lstore 5, 2) := by decide +kernel
theorem dX0_limpsOverWays_28 : decode cX0_limpsOverWays 28 = .ok (.lload 5, 2) := by decide +kernel
theorem dX0_limpsOverWays_30 : decode cX0_limpsOverWays 30 = .ok (.lconst 0, 1) := by decide +kernel
theorem dX0_limpsOverWays_31 : decode cX0_limpsOverWays 31 = .ok (.lcmp, 1) := by decide +kernel
theorem dX0_limpsOverWays_32 : decode cX0_limpsOverWays 32 = .ok (.ifCond .eq 27, 3) := by decide +kernel
theorem dX0_limpsOverWays_35 : decode cX0_limpsOverWays 35 = .ok (.lload_n 2, 1) := by decide +kernel
theorem dX0_limpsOverWays_36 : decode cX0_limpsOverWays 36 = .ok (.lload 5, 2) := by decide +kernel
theorem dX0_limpsOverWays_38 : decode cX0_limpsOverWays 38 = .ok (.aload_n 0, 1) := by decide +kernel
theorem dX0_limpsOverWays_39 : decode cX0_limpsOverWays 39 = .ok (.aload_n 0, 1) := by decide +kernel
theorem dX0_limpsOverWays_40 : decode cX0_limpsOverWays 40 = .ok (.getfield 9, 3) := by decide +kernel
theorem dX0_limpsOverWays_43 : decode cX0_limpsOverWays 43 = .ok (.getfield 76, 3) := by decide +kernel
theorem dX0_limpsOverWays_46 : decode cX0_limpsOverWays 46 = .ok (.iload 4, 2) := by decide +kernel
theorem dX0_limpsOverWays_48 : decode cX0_limpsOverWays 48 = .ok (.iconst (-1), 1) := by decide +kernel
theorem dX0_limpsOverWays_49 : decode cX0_limpsOverWays 49 = .ok (.ixor, 1) := by decide +kernel
theorem dX0_limpsOverWays_50 : decode cX0_limpsOverWays 50 = .ok (.iand, 1) := by decide +kernel
theorem dX0_limpsOverWays_51 : decode cX0_limpsOverWays 51 = .ok (.iconst 0, 1) := by decide +kernel
theorem dX0_limpsOverWays_52 : decode cX0_limpsOverWays 52 = .ok (.invokevirtual 110, 3) := by decide +kernel
theorem dX0_limpsOverWays_55 : decode cX0_limpsOverWays 55 = .ok (.i2l, 1) := by decide +kernel
theorem dX0_limpsOverWays_56 : decode cX0_limpsOverWays 56 = .ok (.lmul, 1) := by decide +kernel
theorem dX0_limpsOverWays_57 : decode cX0_limpsOverWays 57 = .ok (.ladd, 1) := by decide +kernel
theorem dX0_limpsOverWays_58 : decode cX0_limpsOverWays 58 = .ok (.lstore_n 2, 1) := by decide +kernel
theorem dX0_limpsOverWays_59 : decode cX0_limpsOverWays 59 = .ok (.iinc 4 1, 3) := by decide +kernel
theorem dX0_limpsOverWays_62 : decode cX0_limpsOverWays 62 = .ok (.goto (-57), 3) := by decide +kernel
theorem dX0_limpsOverWays_65 : decode cX0_limpsOverWays 65 = .ok (.lload_n 2, 1) := by decide +kernel
theorem dX0_limpsOverWays_66 : decode cX0_limpsOverWays 66 = .ok (.lreturn, 1) := by decide +kernel
theorem dX0_waysToLose_0 : decode cX0_waysToLose 0 = .ok (.iload_n 1, 1) := by decide +kernel
theorem dX0_waysToLose_1 : decode cX0_waysToLose 1 = .ok (.aload_n 0, 1) := by decide +kernel
theorem dX0_waysToLose_2 : decode cX0_waysToLose 2 = .ok (.getfield 9, 3) := by decide +kernel
theorem dX0_waysToLose_5 : decode cX0_waysToLose 5 = .ok (.getfield 76, 3) := by decide +kernel
theorem dX0_waysToLose_8 : decode cX0_waysToLose 8 = .ok (.iconst (-1), 1) := by decide +kernel
theorem dX0_waysToLose_9 : decode cX0_waysToLose 9 = .ok (.ixor, 1) := by decide +kernel
theorem dX0_waysToLose_10 : decode cX0_waysToLose 10 = .ok (.iand, 1) := by decide +kernel
theorem dX0_waysToLose_11 : decode cX0_waysToLose 11 = .ok (.ifCond .eq 5, 3) := by decide +kernel
theorem dX0_waysToLose_14 : decode cX0_waysToLose 14 = .ok (.lconst 0, 1) := by decide +kernel
theorem dX0_waysToLose_15 : decode cX0_waysToLose 15 = .ok (.lreturn, 1) := by decide +kernel
theorem dX0_waysToLose_16 : decode cX0_waysToLose 16 = .ok (.iload_n 1, 1) := by decide +kernel
theorem dX0_waysToLose_17 : decode cX0_waysToLose 17 = .ok (.invokestatic 50, 3) := by decide +kernel
theorem dX0_waysToLose_20 : decode cX0_waysToLose 20 = .ok (.istore_n 3, 1) := by decide +kernel
theorem dX0_waysToLose_21 : decode cX0_waysToLose 21 = .ok (.aload_n 0, 1) := by decide +kernel
theorem dX0_waysToLose_22 : decode cX0_waysToLose 22 = .ok (.getfield 9, 3) := by decide +kernel
theorem dX0_waysToLose_25 : decode cX0_waysToLose 25 = .ok (.getfield 76, 3) := by decide +kernel
theorem dX0_waysToLose_28 : decode cX0_waysToLose 28 = .ok (.invokestatic 50, 3) := by decide +kernel
theorem dX0_waysToLose_31 : decode cX0_waysToLose 31 = .ok (.iload_n 3, 1) := by decide +kernel
theorem dX0_waysToLose_32 : decode cX0_waysToLose 32 = .ok (.isub, 1) := by decide +kernel
theorem dX0_waysToLose_33 : decode cX0_waysToLose 33 = .ok (.istore 4, 2) := by decide +kernel
theorem dX0_waysToLose_35 : decode cX0_waysToLose 35 = .ok (.iload_n 2, 1) := by decide +kernel
theorem dX0_waysToLose_36 : decode cX0_waysToLose 36 = .ok (.i2l, 1) := by decide +kernel
theorem dX0_waysToLose_37 : decode cX0_waysToLose 37 = .ok (.iload_n 3, 1) := by decide +kernel
theorem dX0_waysToLose_38 : decode cX0_waysToLose 38 = .ok (.invokestatic 124, 3) := by decide +kernel
theorem dX0_waysToLose_41 : decode cX0_waysToLose 41 = .ok (.bipush 12, 2) := by decide +kernel
theorem dX0_waysToLose_43 : decode cX0_waysToLose 43 = .ok (.iload_n 2, 1) := by decide +kernel
theorem dX0_waysToLose_44 : decode cX0_waysToLose 44 = .ok (.isub, 1) := by decide +kernel
theorem dX0_waysToLose_45 : decode cX0_waysToLose 45 = .ok (.i2l, 1) := by decide +kernel
theorem dX0_waysToLose_46 : decode cX0_waysToLose 46 = .ok (.iload 4, 2) := by decide +kernel
theorem dX0_waysToLose_48 : decode cX0_waysToLose 48 = .ok (.invokestatic 124, 3) := by decide +kernel
theorem dX0_waysToLose_51 : decode cX0_waysToLose 51 = .ok (.lmul, 1) := by decide +kernel
theorem dX0_waysToLose_52 : decode cX0_waysToLose 52 = .ok (.lreturn, 1) := by decide +kernel
theorem dX1_init_0 : decode cX1_init 0 = .ok (.aload_n 0, 1) := by decide +kernel
theorem dX1_init_1 : decode cX1_init 1 = .ok (.invokespecial 3, 3) := by decide +kernel
theorem dX1_init_4 : decode cX1_init 4 = .ok (.aload_n 0, 1) := by decide +kernel
theorem dX1_init_5 : decode cX1_init 5 = .ok (.new 9, 3) := by decide +kernel
theorem dX1_init_8 : decode cX1_init 8 = .ok (.dup, 1) := by decide +kernel
theorem dX1_init_9 : decode cX1_init 9 = .ok (.invokespecial 11, 3) := by decide +kernel
theorem dX1_init_12 : decode cX1_init 12 = .ok (.putfield 12, 3) := by decide +kernel
theorem dX1_init_15 : decode cX1_init 15 = .ok (.aload_n 0, 1) := by decide +kernel
theorem dX1_init_16 : decode cX1_init 16 = .ok (.bipush 40, 2) := by decide +kernel
theorem dX1_init_18 : decode cX1_init 18 = .ok (.newarray .int, 2) := by decide +kernel
theorem dX1_init_20 : decode cX1_init 20 = .ok (.putfield 18, 3) := by decide +kernel
theorem dX1_init_23 : decode cX1_init 23 = .ok (.aload_n 0, 1) := by decide +kernel
theorem dX1_init_24 : decode cX1_init 24 = .ok (.bipush 40, 2) := by decide +kernel
theorem dX1_init_26 : decode cX1_init 26 = .ok (.newarray .int, 2) := by decide +kernel
theorem dX1_init_28 : decode cX1_init 28 = .ok (.putfield 22, 3) := by decide +kernel
theorem dX1_init_31 : decode cX1_init 31 = .ok (.return_, 1) := by decide +kernel
theorem dX1_begin_0 : decode cX1_begin 0 = .ok (.aload_n 0, 1) := by decide +kernel
theorem dX1_begin_1 : decode cX1_begin 1 = .ok (.getfield 12, 3) := by decide +kernel
theorem dX1_begin_4 : decode cX1_begin 4 = .ok (.aload_n 1, 1) := by decide +kernel
theorem dX1_begin_5 : decode cX1_begin 5 = .ok (.invokevirtual 25, 3) := by decide +kernel
theorem dX1_begin_8 : decode cX1_begin 8 = .ok (.aload_n 0, 1) := by decide +kernel
theorem dX1_begin_9 : decode cX1_begin 9 = .ok (.getfield 12, 3) := by decide +kernel
theorem dX1_begin_12 : decode cX1_begin 12 = .ok (.invokevirtual 29, 3) := by decide +kernel
theorem dX1_begin_15 : decode cX1_begin 15 = .ok (.aload_n 0, 1) := by decide +kernel
theorem dX1_begin_16 : decode cX1_begin 16 = .ok (.iconst 0, 1) := by decide +kernel
theorem dX1_begin_17 : decode cX1_begin 17 = .ok (.putfield 32, 3) := by decide +kernel
theorem dX1_begin_20 : decode cX1_begin 20 = .ok (.return_, 1) := by decide +kernel
theorem dX1_take_0 : decode cX1_take 0 = .ok (.aload_n 0, 1) := by decide +kernel
theorem dX1_take_1 : decode cX1_take 1 = .ok (.getfield 12, 3) := by decide +kernel
theorem dX1_take_4 : decode cX1_take 4 = .ok (.aload_n 1, 1) := by decide +kernel
theorem dX1_take_5 : decode cX1_take 5 = .ok (.getfield 12, 3) := by decide +kernel
theorem dX1_take_8 : decode cX1_take 8 = .ok (.invokevirtual 25, 3) := by decide +kernel
theorem dX1_take_11 : decode cX1_take 11 = .ok (.aload_n 1, 1) := by decide +kernel
theorem dX1_take_12 : decode cX1_take 12 = .ok (.getfield 18, 3) := by decide +kernel
theorem dX1_take_15 : decode cX1_take 15 = .ok (.iconst 0, 1) := by decide +kernel
theorem dX1_take_16 : decode cX1_take 16 = .ok (.aload_n 0, 1) := by decide +kernel
theorem dX1_take_17 : decode cX1_take 17 = .ok (.getfield 18, 3) := by decide +kernel
theorem dX1_take_20 : decode cX1_take 20 = .ok (.iconst 0, 1) := by decide +kernel
theorem dX1_take_21 : decode cX1_take 21 = .ok (.bipush 40, 2) := by decide +kernel
theorem dX1_take_23 : decode cX1_take 23 = .ok (.invokestatic 36, 3) := by decide +kernel
theorem dX1_take_26 : decode cX1_take 26 = .ok (.aload_n 1, 1) := by decide +kernel
theorem dX1_take_27 : decode cX1_take 27 = .ok (.getfield 22, 3) := by decide +kernel
theorem dX1_take_30 : decode cX1_take 30 = .ok (.iconst 0, 1) := by decide +kernel
theorem dX1_take_31 : decode cX1_take 31 = .ok (.aload_n 0, 1) := by decide +kernel
theorem dX1_take_32 : decode cX1_take 32 = .ok (.getfield 22, 3) := by decide +kernel
theorem dX1_take_35 : decode cX1_take 35 = .ok (.iconst 0, 1) := by decide +kernel
theorem dX1_take_36 : decode cX1_take 36 = .ok (.bipush 40, 2) := by decide +kernel
theorem dX1_take_38 : decode cX1_take 38 = .ok (.invokestatic 36, 3) := by decide +kernel
theorem dX1_take_41 : decode cX1_take 41 = .ok (.aload_n 0, 1) := by decide +kernel
theorem dX1_take_42 : decode cX1_take 42 = .ok (.aload_n 1, 1) := by decide +kernel
theorem dX1_take_43 : decode cX1_take 43 = .ok (.getfield 32, 3) := by decide +kernel
theorem dX1_take_46 : decode cX1_take 46 = .ok (.putfield 32, 3) := by decide +kernel
theorem dX1_take_49 : decode cX1_take 49 = .ok (.return_, 1) := by decide +kernel
theorem dX1_add_0 : decode cX1_add 0 = .ok (.aload_n 0, 1) := by decide +kernel
theorem dX1_add_1 : decode cX1_add 1 = .ok (.getfield 32, 3) := by decide +kernel
theorem dX1_add_4 : decode cX1_add 4 = .ok (.ifCond .lt 12, 3) := by decide +kernel
theorem dX1_add_7 : decode cX1_add 7 = .ok (.aload_n 0, 1) := by decide +kernel
theorem dX1_add_8 : decode cX1_add 8 = .ok (.getfield 32, 3) := by decide +kernel
theorem dX1_add_11 : decode cX1_add 11 = .ok (.bipush 40, 2) := by decide +kernel
theorem dX1_add_13 : decode cX1_add 13 = .ok (.if_icmp .lt 6, 3) := by decide +kernel
theorem dX1_add_16 : decode cX1_add 16 = .ok (.bipush (-2), 2) := by decide +kernel
theorem dX1_add_18 : decode cX1_add 18 = .ok (.ireturn, 1) := by decide +kernel
theorem dX1_add_19 : decode cX1_add 19 = .ok (.aload_n 0, 1) := by decide +kernel
theorem dX1_add_20 : decode cX1_add 20 = .ok (.getfield 18, 3) := by decide +kernel
theorem dX1_add_23 : decode cX1_add 23 = .ok (.aload_n 0, 1) := by decide +kernel
theorem dX1_add_24 : decode cX1_add 24 = .ok (.getfield 32, 3) := by decide +kernel
theorem dX1_add_27 : decode cX1_add 27 = .ok (.iload_n 1, 1) := by decide +kernel
theorem dX1_add_28 : decode cX1_add 28 = .ok (.iastore, 1) := by decide +kernel
theorem dX1_add_29 : decode cX1_add 29 = .ok (.aload_n 0, 1) := by decide +kernel
theorem dX1_add_30 : decode cX1_add 30 = .ok (.getfield 22, 3) := by decide +kernel
theorem dX1_add_33 : decode cX1_add 33 = .ok (.aload_n 0, 1) := by decide +kernel
theorem dX1_add_34 : decode cX1_add 34 = .ok (.getfield 32, 3) := by decide +kernel
theorem dX1_add_37 : decode cX1_add 37 = .ok (.iload_n 2, 1) := by decide +kernel
theorem dX1_add_38 : decode cX1_add 38 = .ok (.iastore, 1) := by decide +kernel
theorem dX1_add_39 : decode cX1_add 39 = .ok (.aload_n 0, 1) := by decide +kernel
theorem dX1_add_40 : decode cX1_add 40 = .ok (.dup, 1) := by decide +kernel
theorem dX1_add_41 : decode cX1_add 41 = .ok (.getfield 32, 3) := by decide +kernel
theorem dX1_add_44 : decode cX1_add 44 = .ok (.iconst 1, 1) := by decide +kernel
theorem dX1_add_45 : decode cX1_add 45 = .ok (.iadd, 1) := by decide +kernel
theorem dX1_add_46 : decode cX1_add 46 = .ok (.putfield 32, 3) := by decide +kernel
theorem dX1_add_49 : decode cX1_add 49 = .ok (.aload_n 0, 1) := by decide +kernel
theorem dX1_add_50 : decode cX1_add 50 = .ok (.getfield 12, 3) := by decide +kernel
theorem dX1_add_53 : decode cX1_add 53 = .ok (.iload_n 1, 1) := by decide +kernel
theorem dX1_add_54 : decode cX1_add 54 = .ok (.iload_n 2, 1) := by decide +kernel
theorem dX1_add_55 : decode cX1_add 55 = .ok (.invokevirtual 42, 3) := by decide +kernel
theorem dX1_add_58 : decode cX1_add 58 = .ok (.ireturn, 1) := by decide +kernel
theorem dX1_goBack_0 : decode cX1_goBack 0 = .ok (.aload_n 0, 1) := by decide +kernel
theorem dX1_goBack_1 : decode cX1_goBack 1 = .ok (.getfield 12, 3) := by decide +kernel
theorem dX1_goBack_4 : decode cX1_goBack 4 = .ok (.invokevirtual 29, 3) := by decide +kernel
theorem dX1_goBack_7 : decode cX1_goBack 7 = .ok (.iconst 0, 1) := by decide +kernel
theorem dX1_goBack_8 : decode cX1_goBack 8 = .ok (.istore_n 2, 1) := by decide +kernel
theorem dX1_goBack_9 : decode cX1_goBack 9 = .ok (.iload_n 2, 1) := by decide +kernel
theorem dX1_goBack_10 : decode cX1_goBack 10 = .ok (.iload_n 1, 1) := by decide +kernel
theorem dX1_goBack_11 : decode cX1_goBack 11 = .ok (.if_icmp .ge 35, 3) := by decide +kernel
theorem dX1_goBack_14 : decode cX1_goBack 14 = .ok (.iload_n 2, 1) := by decide +kernel
theorem dX1_goBack_15 : decode cX1_goBack 15 = .ok (.bipush 40, 2) := by decide +kernel
theorem dX1_goBack_17 : decode cX1_goBack 17 = .ok (.if_icmp .ge 29, 3) := by decide +kernel
theorem dX1_goBack_20 : decode cX1_goBack 20 = .ok (.aload_n 0, 1) := by decide +kernel
theorem dX1_goBack_21 : decode cX1_goBack 21 = .ok (.getfield 12, 3) := by decide +kernel
theorem dX1_goBack_24 : decode cX1_goBack 24 = .ok (.aload_n 0, 1) := by decide +kernel
theorem dX1_goBack_25 : decode cX1_goBack 25 = .ok (.getfield 18, 3) := by decide +kernel
theorem dX1_goBack_28 : decode cX1_goBack 28 = .ok (.iload_n 2, 1) := by decide +kernel
theorem dX1_goBack_29 : decode cX1_goBack 29 = .ok (.iaload, 1) := by decide +kernel
theorem dX1_goBack_30 : decode cX1_goBack 30 = .ok (.aload_n 0, 1) := by decide +kernel
theorem dX1_goBack_31 : decode cX1_goBack 31 = .ok (.getfield 22, 3) := by decide +kernel
theorem dX1_goBack_34 : decode cX1_goBack 34 = .ok (.iload_n 2, 1) := by decide +kernel
theorem dX1_goBack_35 : decode cX1_goBack 35 = .ok (.iaload, 1) := by decide +kernel
theorem dX1_goBack_36 : decode cX1_goBack 36 = .ok (.invokevirtual 42, 3) := by decide +kernel
theorem dX1_goBack_39 : decode cX1_goBack 39 = .ok (.pop, 1) := by decide +kernel
theorem dX1_goBack_40 : decode cX1_goBack 40 = .ok (.iinc 2 1, 3) := by decide +kernel
theorem dX1_goBack_43 : decode cX1_goBack 43 = .ok (.goto (-34), 3) := by decide +kernel
theorem dX1_goBack_46 : decode cX1_goBack 46 = .ok (.aload_n 0, 1) := by decide +kernel
theorem dX1_goBack_47 : decode cX1_goBack 47 = .ok (.iload_n 1, 1) := by decide +kernel
theorem dX1_goBack_48 : decode cX1_goBack 48 = .ok (.putfield 32, 3) := by decide +kernel
theorem dX1_goBack_51 : decode cX1_goBack 51 = .ok (.return_, 1) := by decide +kernel
theorem dX2_init_0 : decode cX2_init 0 = .ok (.aload_n 0, 1) := by decide +kernel
theorem dX2_init_1 : decode cX2_init 1 = .ok (.invokespecial 3, 3) := by decide +kernel
theorem dX2_init_4 : decode cX2_init 4 = .ok (.aload_n 0, 1) := by decide +kernel
theorem dX2_init_5 : decode cX2_init 5 = .ok (.new 9, 3) := by decide +kernel
theorem dX2_init_8 : decode cX2_init 8 = .ok (.dup, 1) := by decide +kernel
theorem dX2_init_9 : decode cX2_init 9 = .ok (.invokespecial 11, 3) := by decide +kernel
theorem dX2_init_12 : decode cX2_init 12 = .ok (.putfield 12, 3) := by decide +kernel
theorem dX2_init_15 : decode cX2_init 15 = .ok (.aload_n 0, 1) := by decide +kernel
theorem dX2_init_16 : decode cX2_init 16 = .ok (.bipush 60, 2) := by decide +kernel
theorem dX2_init_18 : decode cX2_init 18 = .ok (.newarray .int, 2) := by decide +kernel
theorem dX2_init_20 : decode cX2_init 20 = .ok (.putfield 18, 3) := by decide +kernel
theorem dX2_init_23 : decode cX2_init 23 = .ok (.return_, 1) := by decide +kernel
theorem dX2_read_0 : decode cX2_read 0 = .ok (.aload_n 1, 1) := by decide +kernel
theorem dX2_read_1 : decode cX2_read 1 = .ok (.iconst 0, 1) := by decide +kernel
theorem dX2_read_2 : decode cX2_read 2 = .ok (.aload_n 0, 1) := by decide +kernel
theorem dX2_read_3 : decode cX2_read 3 = .ok (.getfield 18, 3) := by decide +kernel
theorem dX2_read_6 : decode cX2_read 6 = .ok (.iconst 0, 1) := by decide +kernel
theorem dX2_read_7 : decode cX2_read 7 = .ok (.bipush 60, 2) := by decide +kernel
theorem dX2_read_9 : decode cX2_read 9 = .ok (.invokestatic 22, 3) := by decide +kernel
theorem dX2_read_12 : decode cX2_read 12 = .ok (.aload_n 0, 1) := by decide +kernel
theorem dX2_read_13 : decode cX2_read 13 = .ok (.iload_n 2, 1) := by decide +kernel
theorem dX2_read_14 : decode cX2_read 14 = .ok (.putfield 28, 3) := by decide +kernel
theorem dX2_read_17 : decode cX2_read 17 = .ok (.aload_n 0, 1) := by decide +kernel
theorem dX2_read_18 : decode cX2_read 18 = .ok (.iconst 0, 1) := by decide +kernel
theorem dX2_read_19 : decode cX2_read 19 = .ok (.putfield 32, 3) := by decide +kernel
theorem dX2_read_22 : decode cX2_read 22 = .ok (.aload_n 0, 1) := by decide +kernel
theorem dX2_read_23 : decode cX2_read 23 = .ok (.getfield 12, 3) := by decide +kernel
theorem dX2_read_26 : decode cX2_read 26 = .ok (.iconst 0, 1) := by decide +kernel
theorem dX2_read_27 : decode cX2_read 27 = .ok (.putfield 35, 3) := by decide +kernel
theorem dX2_read_30 : decode cX2_read 30 = .ok (.aload_n 0, 1) := by decide +kernel
theorem dX2_read_31 : decode cX2_read 31 = .ok (.invokevirtual 38, 3) := by decide +kernel
theorem dX2_read_34 : decode cX2_read 34 = .ok (.aload_n 0, 1) := by decide +kernel
theorem dX2_read_35 : decode cX2_read 35 = .ok (.invokevirtual 41, 3) := by decide +kernel
theorem dX2_read_38 : decode cX2_read 38 = .ok (.ifCond .ne 8, 3) := by decide +kernel
theorem dX2_read_41 : decode cX2_read 41 = .ok (.aload_n 0, 1) := by decide +kernel
theorem dX2_read_42 : decode cX2_read 42 = .ok (.getfield 32, 3) := by decide +kernel
theorem dX2_read_45 : decode cX2_read 45 = .ok (.ireturn, 1) := by decide +kernel
theorem dX2_read_46 : decode cX2_read 46 = .ok (.aload_n 0, 1) := by decide +kernel
theorem dX2_read_47 : decode cX2_read 47 = .ok (.invokevirtual 38, 3) := by decide +kernel
theorem dX2_read_50 : decode cX2_read 50 = .ok (.iconst 0, 1) := by decide +kernel
theorem dX2_read_51 : decode cX2_read 51 = .ok (.istore_n 3, 1) := by decide +kernel
theorem dX2_read_52 : decode cX2_read 52 = .ok (.iload_n 3, 1) := by decide +kernel
theorem dX2_read_53 : decode cX2_read 53 = .ok (.bipush 60, 2) := by decide +kernel
theorem dX2_read_55 : decode cX2_read 55 = .ok (.if_icmp .ge 36, 3) := by decide +kernel
theorem dX2_read_58 : decode cX2_read 58 = .ok (.aload_n 0, 1) := by decide +kernel
theorem dX2_read_59 : decode cX2_read 59 = .ok (.getfield 32, 3) := by decide +kernel
theorem dX2_read_62 : decode cX2_read 62 = .ok (.aload_n 0, 1) := by decide +kernel
theorem dX2_read_63 : decode cX2_read 63 = .ok (.getfield 28, 3) := by decide +kernel
theorem dX2_read_66 : decode cX2_read 66 = .ok (.if_icmp .ge 25, 3) := by decide +kernel
theorem dX2_read_69 : decode cX2_read 69 = .ok (.aload_n 0, 1) := by decide +kernel
theorem dX2_read_70 : decode cX2_read 70 = .ok (.invokevirtual 45, 3) := by decide +kernel
theorem dX2_read_73 : decode cX2_read 73 = .ok (.ifCond .ne 8, 3) := by decide +kernel
theorem dX2_read_76 : decode cX2_read 76 = .ok (.aload_n 0, 1) := by decide +kernel
theorem dX2_read_77 : decode cX2_read 77 = .ok (.getfield 32, 3) := by decide +kernel
theorem dX2_read_80 : decode cX2_read 80 = .ok (.ireturn, 1) := by decide +kernel
theorem dX2_read_81 : decode cX2_read 81 = .ok (.aload_n 0, 1) := by decide +kernel
theorem dX2_read_82 : decode cX2_read 82 = .ok (.invokevirtual 38, 3) := by decide +kernel
theorem dX2_read_85 : decode cX2_read 85 = .ok (.iinc 3 1, 3) := by decide +kernel
theorem dX2_read_88 : decode cX2_read 88 = .ok (.goto (-36), 3) := by decide +kernel
theorem dX2_read_91 : decode cX2_read 91 = .ok (.aload_n 0, 1) := by decide +kernel
theorem dX2_read_92 : decode cX2_read 92 = .ok (.getfield 12, 3) := by decide +kernel
theorem dX2_read_95 : decode cX2_read 95 = .ok (.getfield 35, 3) := by decide +kernel
theorem dX2_read_98 : decode cX2_read 98 = .ok (.iconst 3, 1) := by decide +kernel
theorem dX2_read_99 : decode cX2_read 99 = .ok (.if_icmp .ge 10, 3) := by decide +kernel
theorem dX2_read_102 : decode cX2_read 102 = .ok (.aload_n 0, 1) := by decide +kernel
theorem dX2_read_103 : decode cX2_read 103 = .ok (.getfield 28, 3) := by decide +kernel
theorem dX2_read_106 : decode cX2_read 106 = .ok (.goto 5, 3) := by decide +kernel
theorem dX2_read_109 : decode cX2_read 109 = .ok (.bipush (-9), 2) := by decide +kernel
theorem dX2_read_111 : decode cX2_read 111 = .ok (.ireturn, 1) := by decide +kernel
theorem dX2_skipBlanks_0 : decode cX2_skipBlanks 0 = .ok (.aload_n 0, 1) := by decide +kernel
theorem dX2_skipBlanks_1 : decode cX2_skipBlanks 1 = .ok (.getfield 32, 3) := by decide +kernel
theorem dX2_skipBlanks_4 : decode cX2_skipBlanks 4 = .ok (.aload_n 0, 1) := by decide +kernel
theorem dX2_skipBlanks_5 : decode cX2_skipBlanks 5 = .ok (.getfield 28, 3) := by decide +kernel
theorem dX2_skipBlanks_8 : decode cX2_skipBlanks 8 = .ok (.if_icmp .ge 30, 3) := by decide +kernel
theorem dX2_skipBlanks_11 : decode cX2_skipBlanks 11 = .ok (.aload_n 0, 1) := by decide +kernel
theorem dX2_skipBlanks_12 : decode cX2_skipBlanks 12 = .ok (.getfield 18, 3) := by decide +kernel
theorem dX2_skipBlanks_15 : decode cX2_skipBlanks 15 = .ok (.aload_n 0, 1) := by decide +kernel
theorem dX2_skipBlanks_16 : decode cX2_skipBlanks 16 = .ok (.getfield 32, 3) := by decide +kernel
theorem dX2_skipBlanks_19 : decode cX2_skipBlanks 19 = .ok (.iaload, 1) := by decide +kernel
theorem dX2_skipBlanks_20 : decode cX2_skipBlanks 20 = .ok (.bipush 32, 2) := by decide +kernel
theorem dX2_skipBlanks_22 : decode cX2_skipBlanks 22 = .ok (.if_icmp .ne 16, 3) := by decide +kernel
theorem dX2_skipBlanks_25 : decode cX2_skipBlanks 25 = .ok (.aload_n 0, 1) := by decide +kernel
theorem dX2_skipBlanks_26 : decode cX2_skipBlanks 26 = .ok (.dup, 1) := by decide +kernel
theorem dX2_skipBlanks_27 : decode cX2_skipBlanks 27 = .ok (.getfield 32, 3) := by decide +kernel
theorem dX2_skipBlanks_30 : decode cX2_skipBlanks 30 = .ok (.iconst 1, 1) := by decide +kernel
theorem dX2_skipBlanks_31 : decode cX2_skipBlanks 31 = .ok (.iadd, 1) := by decide +kernel
theorem dX2_skipBlanks_32 : decode cX2_skipBlanks 32 = .ok (.putfield 32, 3) := by decide +kernel
theorem dX2_skipBlanks_35 : decode cX2_skipBlanks 35 = .ok (.goto (-35), 3) := by decide +kernel
theorem dX2_skipBlanks_38 : decode cX2_skipBlanks 38 = .ok (.return_, 1) := by decide +kernel
theorem dX2_readRoad_0 : decode cX2_readRoad 0 = .ok (.aload_n 0, 1) := by decide +kernel
theorem dX2_readRoad_1 : decode cX2_readRoad 1 = .ok (.getfield 32, 3) := by decide +kernel
theorem dX2_readRoad_4 : decode cX2_readRoad 4 = .ok (.aload_n 0, 1) := by decide +kernel
theorem dX2_readRoad_5 : decode cX2_readRoad 5 = .ok (.getfield 28, 3) := by decide +kernel
theorem dX2_readRoad_8 : decode cX2_readRoad 8 = .ok (.if_icmp .ge 17, 3) := by decide +kernel
theorem dX2_readRoad_11 : decode cX2_readRoad 11 = .ok (.aload_n 0, 1) := by decide +kernel
theorem dX2_readRoad_12 : decode cX2_readRoad 12 = .ok (.getfield 18, 3) := by decide +kernel
theorem dX2_readRoad_15 : decode cX2_readRoad 15 = .ok (.aload_n 0, 1) := by decide +kernel
theorem dX2_readRoad_16 : decode cX2_readRoad 16 = .ok (.getfield 32, 3) := by decide +kernel
theorem dX2_readRoad_19 : decode cX2_readRoad 19 = .ok (.iaload, 1) := by decide +kernel
theorem dX2_readRoad_20 : decode cX2_readRoad 20 = .ok (.bipush 114, 2) := by decide +kernel
theorem dX2_readRoad_22 : decode cX2_readRoad 22 = .ok (.if_icmp .eq 5, 3) := by decide +kernel
theorem dX2_readRoad_25 : decode cX2_readRoad 25 = .ok (.iconst 0, 1) := by decide +kernel
theorem dX2_readRoad_26 : decode cX2_readRoad 26 = .ok (.ireturn, 1) := by decide +kernel
theorem dX2_readRoad_27 : decode cX2_readRoad 27 = .ok (.aload_n 0, 1) := by decide +kernel
theorem dX2_readRoad_28 : decode cX2_readRoad 28 = .ok (.dup, 1) := by decide +kernel
theorem dX2_readRoad_29 : decode cX2_readRoad 29 = .ok (.getfield 32, 3) := by decide +kernel
theorem dX2_readRoad_32 : decode cX2_readRoad 32 = .ok (.iconst 1, 1) := by decide +kernel
theorem dX2_readRoad_33 : decode cX2_readRoad 33 = .ok (.iadd, 1) := by decide +kernel
theorem dX2_readRoad_34 : decode cX2_readRoad 34 = .ok (.putfield 32, 3) := by decide +kernel
theorem dX2_readRoad_37 : decode cX2_readRoad 37 = .ok (.iconst 0, 1) := by decide +kernel
theorem dX2_readRoad_38 : decode cX2_readRoad 38 = .ok (.istore_n 1, 1) := by decide +kernel
theorem dX2_readRoad_39 : decode cX2_readRoad 39 = .ok (.iload_n 1, 1) := by decide +kernel
theorem dX2_readRoad_40 : decode cX2_readRoad 40 = .ok (.bipush 8, 2) := by decide +kernel
theorem dX2_readRoad_42 : decode cX2_readRoad 42 = .ok (.if_icmp .ge 31, 3) := by decide +kernel
theorem dX2_readRoad_45 : decode cX2_readRoad 45 = .ok (.aload_n 0, 1) := by decide +kernel
theorem dX2_readRoad_46 : decode cX2_readRoad 46 = .ok (.iconst 0, 1) := by decide +kernel
theorem dX2_readRoad_47 : decode cX2_readRoad 47 = .ok (.invokevirtual 48, 3) := by decide +kernel
theorem dX2_readRoad_50 : decode cX2_readRoad 50 = .ok (.istore_n 2, 1) := by decide +kernel
theorem dX2_readRoad_51 : decode cX2_readRoad 51 = .ok (.iload_n 2, 1) := by decide +kernel
theorem dX2_readRoad_52 : decode cX2_readRoad 52 = .ok (.ifCond .ge 5, 3) := by decide +kernel
theorem dX2_readRoad_55 : decode cX2_readRoad 55 = .ok (.iconst 0, 1) := by decide +kernel
theorem dX2_readRoad_56 : decode cX2_readRoad 56 = .ok (.ireturn, 1) := by decide +kernel
theorem dX2_readRoad_57 : decode cX2_readRoad 57 = .ok (.aload_n 0, 1) := by decide +kernel
theorem dX2_readRoad_58 : decode cX2_readRoad 58 = .ok (.getfield 12, 3) := by decide +kernel
theorem dX2_readRoad_61 : decode cX2_readRoad 61 = .ok (.getfield 52, 3) := by decide +kernel
theorem dX2_readRoad_64 : decode cX2_readRoad 64 = .ok (.iload_n 1, 1) := by decide +kernel
theorem dX2_readRoad_65 : decode cX2_readRoad 65 = .ok (.iload_n 2, 1) := by decide +kernel
theorem dX2_readRoad_66 : decode cX2_readRoad 66 = .ok (.iastore, 1) := by decide +kernel
theorem dX2_readRoad_67 : decode cX2_readRoad 67 = .ok (.iinc 1 1, 3) := by decide +kernel
theorem dX2_readRoad_70 : decode cX2_readRoad 70 = .ok (.goto (-31), 3) := by decide +kernel
theorem dX2_readRoad_73 : decode cX2_readRoad 73 = .ok (.aload_n 0, 1) := by decide +kernel
theorem dX2_readRoad_74 : decode cX2_readRoad 74 = .ok (.invokevirtual 55, 3) := by decide +kernel
theorem dX2_readRoad_77 : decode cX2_readRoad 77 = .ok (.ireturn, 1) := by decide +kernel
theorem dX2_readGate_0 : decode cX2_readGate 0 = .ok (.aload_n 0, 1) := by decide +kernel
theorem dX2_readGate_1 : decode cX2_readGate 1 = .ok (.getfield 32, 3) := by decide +kernel
theorem dX2_readGate_4 : decode cX2_readGate 4 = .ok (.istore_n 1, 1) := by decide +kernel
theorem dX2_readGate_5 : decode cX2_readGate 5 = .ok (.aload_n 0, 1) := by decide +kernel
theorem dX2_readGate_6 : decode cX2_readGate 6 = .ok (.iconst 0, 1) := by decide +kernel
theorem dX2_readGate_7 : decode cX2_readGate 7 = .ok (.invokevirtual 48, 3) := by decide +kernel
theorem dX2_readGate_10 : decode cX2_readGate 10 = .ok (.istore_n 2, 1) := by decide +kernel
theorem dX2_readGate_11 : decode cX2_readGate 11 = .ok (.iload_n 2, 1) := by decide +kernel
theorem dX2_readGate_12 : decode cX2_readGate 12 = .ok (.ifCond .ge 7, 3) := by decide +kernel
theorem dX2_readGate_15 : decode cX2_readGate 15 = .ok (.iload_n 2, 1) := by decide +kernel
theorem dX2_readGate_16 : decode cX2_readGate 16 = .ok (.goto 8, 3) := by decide +kernel
theorem dX2_readGate_19 : decode cX2_readGate 19 = .ok (.aload_n 0, 1) := by decide +kernel
theorem dX2_readGate_20 : decode cX2_readGate 20 = .ok (.iconst 0, 1) := by decide +kernel
theorem dX2_readGate_21 : decode cX2_readGate 21 = .ok (.invokevirtual 48, 3) := by decide +kernel
theorem dX2_readGate_24 : decode cX2_readGate 24 = .ok (.istore_n 3, 1) := by decide +kernel
theorem dX2_readGate_25 : decode cX2_readGate 25 = .ok (.iload_n 3, 1) := by decide +kernel
theorem dX2_readGate_26 : decode cX2_readGate 26 = .ok (.ifCond .ge 5, 3) := by decide +kernel
theorem dX2_readGate_29 : decode cX2_readGate 29 = .ok (.iconst 0, 1) := by decide +kernel
theorem dX2_readGate_30 : decode cX2_readGate 30 = .ok (.ireturn, 1) := by decide +kernel
theorem dX2_readGate_31 : decode cX2_readGate 31 = .ok (.aload_n 0, 1) := by decide +kernel
theorem dX2_readGate_32 : decode cX2_readGate 32 = .ok (.getfield 12, 3) := by decide +kernel
theorem dX2_readGate_35 : decode cX2_readGate 35 = .ok (.bipush 10, 2) := by decide +kernel
theorem dX2_readGate_37 : decode cX2_readGate 37 = .ok (.iload_n 2, 1) := by decide +kernel
theorem dX2_readGate_38 : decode cX2_readGate 38 = .ok (.imul, 1) := by decide +kernel
theorem dX2_readGate_39 : decode cX2_readGate 39 = .ok (.iload_n 3, 1) := by decide +kernel
theorem dX2_readGate_40 : decode cX2_readGate 40 = .ok (.iadd, 1) := by decide +kernel
theorem dX2_readGate_41 : decode cX2_readGate 41 = .ok (.putfield 58, 3) := by decide +kernel
theorem dX2_readGate_44 : decode cX2_readGate 44 = .ok (.aload_n 0, 1) := by decide +kernel
theorem dX2_readGate_45 : decode cX2_readGate 45 = .ok (.getfield 12, 3) := by decide +kernel
theorem dX2_readGate_48 : decode cX2_readGate 48 = .ok (.getfield 58, 3) := by decide +kernel
theorem dX2_readGate_51 : decode cX2_readGate 51 = .ok (.bipush 60, 2) := by decide +kernel
theorem dX2_readGate_53 : decode cX2_readGate 53 = .ok (.if_icmp .le 10, 3) := by decide +kernel
theorem dX2_readGate_56 : decode cX2_readGate 56 = .ok (.aload_n 0, 1) := by decide +kernel
theorem dX2_readGate_57 : decode cX2_readGate 57 = .ok (.iload_n 1, 1) := by decide +kernel
theorem dX2_readGate_58 : decode cX2_readGate 58 = .ok (.putfield 32, 3) := by decide +kernel
theorem dX2_readGate_61 : decode cX2_readGate 61 = .ok (.iconst 0, 1) := by decide +kernel
theorem dX2_readGate_62 : decode cX2_readGate 62 = .ok (.ireturn, 1) := by decide +kernel
theorem dX2_readGate_63 : decode cX2_readGate 63 = .ok (.iconst 1, 1) := by decide +kernel
theorem dX2_readGate_64 : decode cX2_readGate 64 = .ok (.ireturn, 1) := by decide +kernel
theorem dX2_readSpoke_0 : decode cX2_readSpoke 0 = .ok (.aload_n 0, 1) := by decide +kernel
theorem dX2_readSpoke_1 : decode cX2_readSpoke 1 = .ok (.getfield 12, 3) := by decide +kernel
theorem dX2_readSpoke_4 : decode cX2_readSpoke 4 = .ok (.getfield 35, 3) := by decide +kernel
theorem dX2_readSpoke_7 : decode cX2_readSpoke 7 = .ok (.istore_n 1, 1) := by decide +kernel
theorem dX2_readSpoke_8 : decode cX2_readSpoke 8 = .ok (.aload_n 0, 1) := by decide +kernel
theorem dX2_readSpoke_9 : decode cX2_readSpoke 9 = .ok (.getfield 18, 3) := by decide +kernel
theorem dX2_readSpoke_12 : decode cX2_readSpoke 12 = .ok (.aload_n 0, 1) := by decide +kernel
theorem dX2_readSpoke_13 : decode cX2_readSpoke 13 = .ok (.getfield 32, 3) := by decide +kernel
theorem dX2_readSpoke_16 : decode cX2_readSpoke 16 = .ok (.iaload, 1) := by decide +kernel
theorem dX2_readSpoke_17 : decode cX2_readSpoke 17 = .ok (.invokestatic 61, 3) := by decide +kernel
theorem dX2_readSpoke_20 : decode cX2_readSpoke 20 = .ok (.istore_n 2, 1) := by decide +kernel
theorem dX2_readSpoke_21 : decode cX2_readSpoke 21 = .ok (.iload_n 1, 1) := by decide +kernel
theorem dX2_readSpoke_22 : decode cX2_readSpoke 22 = .ok (.bipush 8, 2) := by decide +kernel
theorem dX2_readSpoke_24 : decode cX2_readSpoke 24 = .ok (.if_icmp .ge 7, 3) := by decide +kernel
theorem dX2_readSpoke_27 : decode cX2_readSpoke 27 = .ok (.iload_n 2, 1) := by decide +kernel
theorem dX2_readSpoke_28 : decode cX2_readSpoke 28 = .ok (.ifCond .ge 5, 3) := by decide +kernel
theorem dX2_readSpoke_31 : decode cX2_readSpoke 31 = .ok (.iconst 0, 1) := by decide +kernel
theorem dX2_readSpoke_32 : decode cX2_readSpoke 32 = .ok (.ireturn, 1) := by decide +kernel
theorem dX2_readSpoke_33 : decode cX2_readSpoke 33 = .ok (.aload_n 0, 1) := by decide +kernel
theorem dX2_readSpoke_34 : decode cX2_readSpoke 34 = .ok (.dup, 1) := by decide +kernel
theorem dX2_readSpoke_35 : decode cX2_readSpoke 35 = .ok (.getfield 32, 3) := by decide +kernel
theorem dX2_readSpoke_38 : decode cX2_readSpoke 38 = .ok (.iconst 1, 1) := by decide +kernel
theorem dX2_readSpoke_39 : decode cX2_readSpoke 39 = .ok (.iadd, 1) := by decide +kernel
theorem dX2_readSpoke_40 : decode cX2_readSpoke 40 = .ok (.putfield 32, 3) := by decide +kernel
theorem dX2_readSpoke_43 : decode cX2_readSpoke 43 = .ok (.aload_n 0, 1) := by decide +kernel
theorem dX2_readSpoke_44 : decode cX2_readSpoke 44 = .ok (.iconst 1, 1) := by decide +kernel
theorem dX2_readSpoke_45 : decode cX2_readSpoke 45 = .ok (.invokevirtual 48, 3) := by decide +kernel
theorem dX2_readSpoke_48 : decode cX2_readSpoke 48 = .ok (.istore_n 3, 1) := by decide +kernel
theorem dX2_readSpoke_49 : decode cX2_readSpoke 49 = .ok (.iload_n 3, 1) := by decide +kernel
theorem dX2_readSpoke_50 : decode cX2_readSpoke 50 = .ok (.ifCond .ge 7, 3) := by decide +kernel
theorem dX2_readSpoke_53 : decode cX2_readSpoke 53 = .ok (.iload_n 3, 1) := by decide +kernel
theorem dX2_readSpoke_54 : decode cX2_readSpoke 54 = .ok (.goto 8, 3) := by decide +kernel
theorem dX2_readSpoke_57 : decode cX2_readSpoke 57 = .ok (.aload_n 0, 1) := by decide +kernel
theorem dX2_readSpoke_58 : decode cX2_readSpoke 58 = .ok (.iconst 0, 1) := by decide +kernel
theorem dX2_readSpoke_59 : decode cX2_readSpoke 59 = .ok (.invokevirtual 48, 3) := by decide +kernel
theorem dX2_readSpoke_62 : decode cX2_readSpoke 62 = .ok (.istore 4, 2) := by decide +kernel
theorem dX2_readSpoke_64 : decode cX2_readSpoke 64 = .ok (.iload 4, 2) := by decide +kernel
theorem dX2_readSpoke_66 : decode cX2_readSpoke 66 = .ok (.ifCond .ge 5, 3) := by decide +kernel
theorem dX2_readSpoke_69 : decode cX2_readSpoke 69 = .ok (.iconst 0, 1) := by decide +kernel
theorem dX2_readSpoke_70 : decode cX2_readSpoke 70 = .ok (.ireturn, 1) := by decide +kernel
theorem dX2_readSpoke_71 : decode cX2_readSpoke 71 = .ok (.aload_n 0, 1) := by decide +kernel
theorem dX2_readSpoke_72 : decode cX2_readSpoke 72 = .ok (.getfield 12, 3) := by decide +kernel
theorem dX2_readSpoke_75 : decode cX2_readSpoke 75 = .ok (.getfield 64, 3) := by decide +kernel
theorem dX2_readSpoke_78 : decode cX2_readSpoke 78 = .ok (.iload_n 1, 1) := by decide +kernel
theorem dX2_readSpoke_79 : decode cX2_readSpoke 79 = .ok (.iload_n 2, 1) := by decide +kernel
theorem dX2_readSpoke_80 : decode cX2_readSpoke 80 = .ok (.iastore, 1) := by decide +kernel
theorem dX2_readSpoke_81 : decode cX2_readSpoke 81 = .ok (.aload_n 0, 1) := by decide +kernel
theorem dX2_readSpoke_82 : decode cX2_readSpoke 82 = .ok (.getfield 12, 3) := by decide +kernel
theorem dX2_readSpoke_85 : decode cX2_readSpoke 85 = .ok (.getfield 67, 3) := by decide +kernel
theorem dX2_readSpoke_88 : decode cX2_readSpoke 88 = .ok (.iload_n 1, 1) := by decide +kernel
theorem dX2_readSpoke_89 : decode cX2_readSpoke 89 = .ok (.iload_n 3, 1) := by decide +kernel
theorem dX2_readSpoke_90 : decode cX2_readSpoke 90 = .ok (.iastore, 1) := by decide +kernel
theorem dX2_readSpoke_91 : decode cX2_readSpoke 91 = .ok (.aload_n 0, 1) := by decide +kernel
theorem dX2_readSpoke_92 : decode cX2_readSpoke 92 = .ok (.getfield 12, 3) := by decide +kernel
theorem dX2_readSpoke_95 : decode cX2_readSpoke 95 = .ok (.getfield 70, 3) := by decide +kernel
theorem dX2_readSpoke_98 : decode cX2_readSpoke 98 = .ok (.iload_n 1, 1) := by decide +kernel
theorem dX2_readSpoke_99 : decode cX2_readSpoke 99 = .ok (.iload 4, 2) := by decide +kernel
theorem dX2_readSpoke_101 : decode cX2_readSpoke 101 = .ok (.iastore, 1) := by decide +kernel
theorem dX2_readSpoke_102 : decode cX2_readSpoke 102 = .ok (.aload_n 0, 1) := by decide +kernel
theorem dX2_readSpoke_103 : decode cX2_readSpoke 103 = .ok (.getfield 12, 3) := by decide +kernel
theorem dX2_readSpoke_106 : decode cX2_readSpoke 106 = .ok (.iload_n 1, 1) := by decide +kernel
theorem dX2_readSpoke_107 : decode cX2_readSpoke 107 = .ok (.iconst 1, 1) := by decide +kernel
theorem dX2_readSpoke_108 : decode cX2_readSpoke 108 = .ok (.iadd, 1) := by decide +kernel
theorem dX2_readSpoke_109 : decode cX2_readSpoke 109 = .ok (.putfield 35, 3) := by decide +kernel
theorem dX2_readSpoke_112 : decode cX2_readSpoke 112 = .ok (.iconst 1, 1) := by decide +kernel
theorem dX2_readSpoke_113 : decode cX2_readSpoke 113 = .ok (.ireturn, 1) := by decide +kernel
theorem dX2_readFigure_0 : decode cX2_readFigure 0 = .ok (.aload_n 0, 1) := by decide +kernel
theorem dX2_readFigure_1 : decode cX2_readFigure 1 = .ok (.getfield 32, 3) := by decide +kernel
theorem dX2_readFigure_4 : decode cX2_readFigure 4 = .ok (.aload_n 0, 1) := by decide +kernel
theorem dX2_readFigure_5 : decode cX2_readFigure 5 = .ok (.getfield 28, 3) := by decide +kernel
theorem dX2_readFigure_8 : decode cX2_readFigure 8 = .ok (.if_icmp .lt 5, 3) := by decide +kernel
theorem dX2_readFigure_11 : decode cX2_readFigure 11 = .ok (.iconst (-1), 1) := by decide +kernel
theorem dX2_readFigure_12 : decode cX2_readFigure 12 = .ok (.ireturn, 1) := by decide +kernel
theorem dX2_readFigure_13 : decode cX2_readFigure 13 = .ok (.aload_n 0, 1) := by decide +kernel
theorem dX2_readFigure_14 : decode cX2_readFigure 14 = .ok (.getfield 18, 3) := by decide +kernel
theorem dX2_readFigure_17 : decode cX2_readFigure 17 = .ok (.aload_n 0, 1) := by decide +kernel
theorem dX2_readFigure_18 : decode cX2_readFigure 18 = .ok (.getfield 32, 3) := by decide +kernel
theorem dX2_readFigure_21 : decode cX2_readFigure 21 = .ok (.iaload, 1) := by decide +kernel
theorem dX2_readFigure_22 : decode cX2_readFigure 22 = .ok (.bipush 48, 2) := by decide +kernel
theorem dX2_readFigure_24 : decode cX2_readFigure 24 = .ok (.isub, 1) := by decide +kernel
theorem dX2_readFigure_25 : decode cX2_readFigure 25 = .ok (.istore_n 2, 1) := by decide +kernel
theorem dX2_readFigure_26 : decode cX2_readFigure 26 = .ok (.iload_n 2, 1) := by decide +kernel
theorem dX2_readFigure_27 : decode cX2_readFigure 27 = .ok (.iload_n 1, 1) := by decide +kernel
theorem dX2_readFigure_28 : decode cX2_readFigure 28 = .ok (.if_icmp .lt 9, 3) := by decide +kernel
theorem dX2_readFigure_31 : decode cX2_readFigure 31 = .ok (.iload_n 2, 1) := by decide +kernel
theorem dX2_readFigure_32 : decode cX2_readFigure 32 = .ok (.bipush 9, 2) := by decide +kernel
theorem dX2_readFigure_34 : decode cX2_readFigure 34 = .ok (.if_icmp .le 5, 3) := by decide +kernel
theorem dX2_readFigure_37 : decode cX2_readFigure 37 = .ok (.iconst (-1), 1) := by decide +kernel
theorem dX2_readFigure_38 : decode cX2_readFigure 38 = .ok (.ireturn, 1) := by decide +kernel
theorem dX2_readFigure_39 : decode cX2_readFigure 39 = .ok (.aload_n 0, 1) := by decide +kernel
theorem dX2_readFigure_40 : decode cX2_readFigure 40 = .ok (.dup, 1) := by decide +kernel
theorem dX2_readFigure_41 : decode cX2_readFigure 41 = .ok (.getfield 32, 3) := by decide +kernel
theorem dX2_readFigure_44 : decode cX2_readFigure 44 = .ok (.iconst 1, 1) := by decide +kernel
theorem dX2_readFigure_45 : decode cX2_readFigure 45 = .ok (.iadd, 1) := by decide +kernel
theorem dX2_readFigure_46 : decode cX2_readFigure 46 = .ok (.putfield 32, 3) := by decide +kernel
theorem dX2_readFigure_49 : decode cX2_readFigure 49 = .ok (.iload_n 2, 1) := by decide +kernel
theorem dX2_readFigure_50 : decode cX2_readFigure 50 = .ok (.ireturn, 1) := by decide +kernel
theorem dX2_kindOf_0 : decode cX2_kindOf 0 = .ok (.iconst 0, 1) := by decide +kernel
theorem dX2_kindOf_1 : decode cX2_kindOf 1 = .ok (.istore_n 1, 1) := by decide +kernel
theorem dX2_kindOf_2 : decode cX2_kindOf 2 = .ok (.iload_n 1, 1) := by decide +kernel
theorem dX2_kindOf_3 : decode cX2_kindOf 3 = .ok (.bipush 6, 2) := by decide +kernel
theorem dX2_kindOf_5 : decode cX2_kindOf 5 = .ok (.if_icmp .ge 20, 3) := by decide +kernel
theorem dX2_kindOf_8 : decode cX2_kindOf 8 = .ok (.getstatic 73, 3) := by decide +kernel
theorem dX2_kindOf_11 : decode cX2_kindOf 11 = .ok (.iload_n 1, 1) := by decide +kernel
theorem dX2_kindOf_12 : decode cX2_kindOf 12 = .ok (.iaload, 1) := by decide +kernel
theorem dX2_kindOf_13 : decode cX2_kindOf 13 = .ok (.iload_n 0, 1) := by decide +kernel
theorem dX2_kindOf_14 : decode cX2_kindOf 14 = .ok (.if_icmp .ne 5, 3) := by decide +kernel
theorem dX2_kindOf_17 : decode cX2_kindOf 17 = .ok (.iload_n 1, 1) := by decide +kernel
theorem dX2_kindOf_18 : decode cX2_kindOf 18 = .ok (.ireturn, 1) := by decide +kernel
theorem dX2_kindOf_19 : decode cX2_kindOf 19 = .ok (.iinc 1 1, 3) := by decide +kernel
theorem dX2_kindOf_22 : decode cX2_kindOf 22 = .ok (.goto (-20), 3) := by decide +kernel
theorem dX2_kindOf_25 : decode cX2_kindOf 25 = .ok (.iconst (-1), 1) := by decide +kernel
theorem dX2_kindOf_26 : decode cX2_kindOf 26 = .ok (.ireturn, 1) := by decide +kernel
theorem dX3_init_0 : decode cX3_init 0 = .ok (.aload_n 0, 1) := by decide +kernel
theorem dX3_init_1 : decode cX3_init 1 = .ok (.invokespecial 3, 3) := by decide +kernel
theorem dX3_init_4 : decode cX3_init 4 = .ok (.aload_n 0, 1) := by decide +kernel
theorem dX3_init_5 : decode cX3_init 5 = .ok (.iload_n 2, 1) := by decide +kernel
theorem dX3_init_6 : decode cX3_init 6 = .ok (.putfield 9, 3) := by decide +kernel
theorem dX3_init_9 : decode cX3_init 9 = .ok (.aload_n 0, 1) := by decide +kernel
theorem dX3_init_10 : decode cX3_init 10 = .ok (.iload_n 1, 1) := by decide +kernel
theorem dX3_init_11 : decode cX3_init 11 = .ok (.iload_n 2, 1) := by decide +kernel
theorem dX3_init_12 : decode cX3_init 12 = .ok (.multianewarray 15 2, 4) := by decide +kernel
theorem dX3_init_16 : decode cX3_init 16 = .ok (.putfield 17, 3) := by decide +kernel
theorem dX3_init_19 : decode cX3_init 19 = .ok (.aload_n 0, 1) := by decide +kernel
theorem dX3_init_20 : decode cX3_init 20 = .ok (.iload_n 1, 1) := by decide +kernel
theorem dX3_init_21 : decode cX3_init 21 = .ok (.newarray .int, 2) := by decide +kernel
theorem dX3_init_23 : decode cX3_init 23 = .ok (.putfield 20, 3) := by decide +kernel
theorem dX3_init_26 : decode cX3_init 26 = .ok (.aload_n 0, 1) := by decide +kernel
theorem dX3_init_27 : decode cX3_init 27 = .ok (.getfield 20, 3) := by decide +kernel
theorem dX3_init_30 : decode cX3_init 30 = .ok (.iconst (-1), 1) := by decide +kernel
theorem dX3_init_31 : decode cX3_init 31 = .ok (.invokestatic 24, 3) := by decide +kernel
theorem dX3_init_34 : decode cX3_init 34 = .ok (.return_, 1) := by decide +kernel
theorem dX3_isNumber_0 : decode cX3_isNumber 0 = .ok (.iload_n 1, 1) := by decide +kernel
theorem dX3_isNumber_1 : decode cX3_isNumber 1 = .ok (.ifCond .lt 16, 3) := by decide +kernel
theorem dX3_isNumber_4 : decode cX3_isNumber 4 = .ok (.iload_n 1, 1) := by decide +kernel
theorem dX3_isNumber_5 : decode cX3_isNumber 5 = .ok (.aload_n 0, 1) := by decide +kernel
theorem dX3_isNumber_6 : decode cX3_isNumber 6 = .ok (.getfield 20, 3) := by decide +kernel
theorem dX3_isNumber_9 : decode cX3_isNumber 9 = .ok (.arraylength, 1) := by decide +kernel
theorem dX3_isNumber_10 : decode cX3_isNumber 10 = .ok (.if_icmp .ge 7, 3) := by decide +kernel
theorem dX3_isNumber_13 : decode cX3_isNumber 13 = .ok (.iconst 1, 1) := by decide +kernel
theorem dX3_isNumber_14 : decode cX3_isNumber 14 = .ok (.goto 4, 3) := by decide +kernel
theorem dX3_isNumber_17 : decode cX3_isNumber 17 = .ok (.iconst 0, 1) := by decide +kernel
theorem dX3_isNumber_18 : decode cX3_isNumber 18 = .ok (.ireturn, 1) := by decide +kernel
theorem dX3_isMissing_0 : decode cX3_isMissing 0 = .ok (.aload_n 0, 1) := by decide +kernel
theorem dX3_isMissing_1 : decode cX3_isMissing 1 = .ok (.getfield 20, 3) := by decide +kernel
theorem dX3_isMissing_4 : decode cX3_isMissing 4 = .ok (.iload_n 1, 1) := by decide +kernel
theorem dX3_isMissing_5 : decode cX3_isMissing 5 = .ok (.iaload, 1) := by decide +kernel
theorem dX3_isMissing_6 : decode cX3_isMissing 6 = .ok (.iconst (-1), 1) := by decide +kernel
theorem dX3_isMissing_7 : decode cX3_isMissing 7 = .ok (.if_icmp .ne 7, 3) := by decide +kernel
theorem dX3_isMissing_10 : decode cX3_isMissing 10 = .ok (.iconst 1, 1) := by decide +kernel
theorem dX3_isMissing_11 : decode cX3_isMissing 11 = .ok (.goto 4, 3) := by decide +kernel
theorem dX3_isMissing_14 : decode cX3_isMissing 14 = .ok (.iconst 0, 1) := by decide +kernel
theorem dX3_isMissing_15 : decode cX3_isMissing 15 = .ok (.ireturn, 1) := by decide +kernel
theorem dX3_isPlace_0 : decode cX3_isPlace 0 = .ok (.iload_n 2, 1) := by decide +kernel
theorem dX3_isPlace_1 : decode cX3_isPlace 1 = .ok (.ifCond .lt 17, 3) := by decide +kernel
theorem dX3_isPlace_4 : decode cX3_isPlace 4 = .ok (.iload_n 2, 1) := by decide +kernel
theorem dX3_isPlace_5 : decode cX3_isPlace 5 = .ok (.aload_n 0, 1) := by decide +kernel
theorem dX3_isPlace_6 : decode cX3_isPlace 6 = .ok (.getfield 20, 3) := by decide +kernel
theorem dX3_isPlace_9 : decode cX3_isPlace 9 = .ok (.iload_n 1, 1) := by decide +kernel
theorem dX3_isPlace_10 : decode cX3_isPlace 10 = .ok (.iaload, 1) := by decide +kernel
theorem dX3_isPlace_11 : decode cX3_isPlace 11 = .ok (.if_icmp .ge 7, 3) := by decide +kernel
theorem dX3_isPlace_14 : decode cX3_isPlace 14 = .ok (.iconst 1, 1) := by decide +kernel
theorem dX3_isPlace_15 : decode cX3_isPlace 15 = .ok (.goto 4, 3) := by decide +kernel
theorem dX3_isPlace_18 : decode cX3_isPlace 18 = .ok (.iconst 0, 1) := by decide +kernel
theorem dX3_isPlace_19 : decode cX3_isPlace 19 = .ok (.ireturn, 1) := by decide +kernel
theorem dX3_hasPart_0 : decode cX3_hasPart 0 = .ok (.iload_n 2, 1) := by decide +kernel
theorem dX3_hasPart_1 : decode cX3_hasPart 1 = .ok (.ifCond .lt 19, 3) := by decide +kernel
theorem dX3_hasPart_4 : decode cX3_hasPart 4 = .ok (.iload_n 2, 1) := by decide +kernel
theorem dX3_hasPart_5 : decode cX3_hasPart 5 = .ok (.aload_n 0, 1) := by decide +kernel
theorem dX3_hasPart_6 : decode cX3_hasPart 6 = .ok (.getfield 20, 3) := by decide +kernel
theorem dX3_hasPart_9 : decode cX3_hasPart 9 = .ok (.iload_n 1, 1) := by decide +kernel
theorem dX3_hasPart_10 : decode cX3_hasPart 10 = .ok (.iaload, 1) := by decide +kernel
theorem dX3_hasPart_11 : decode cX3_hasPart 11 = .ok (.iload_n 3, 1) := by decide +kernel
theorem dX3_hasPart_12 : decode cX3_hasPart 12 = .ok (.isub, 1) := by decide +kernel
theorem dX3_hasPart_13 : decode cX3_hasPart 13 = .ok (.if_icmp .gt 7, 3) := by decide +kernel
theorem dX3_hasPart_16 : decode cX3_hasPart 16 = .ok (.iconst 1, 1) := by decide +kernel
theorem dX3_hasPart_17 : decode cX3_hasPart 17 = .ok (.goto 4, 3) := by decide +kernel
theorem dX3_hasPart_20 : decode cX3_hasPart 20 = .ok (.iconst 0, 1) := by decide +kernel
theorem dX3_hasPart_21 : decode cX3_hasPart 21 = .ok (.ireturn, 1) := by decide +kernel
theorem dX3_holdsBits_0 : decode cX3_holdsBits 0 = .ok (.iconst 0, 1) := by decide +kernel
theorem dX3_holdsBits_1 : decode cX3_holdsBits 1 = .ok (.istore_n 2, 1) := by decide +kernel
theorem dX3_holdsBits_2 : decode cX3_holdsBits 2 = .ok (.iload_n 2, 1) := by decide +kernel
theorem dX3_holdsBits_3 : decode cX3_holdsBits 3 = .ok (.aload_n 0, 1) := by decide +kernel
theorem dX3_holdsBits_4 : decode cX3_holdsBits 4 = .ok (.getfield 20, 3) := by decide +kernel
theorem dX3_holdsBits_7 : decode cX3_holdsBits 7 = .ok (.iload_n 1, 1) := by decide +kernel
theorem dX3_holdsBits_8 : decode cX3_holdsBits 8 = .ok (.iaload, 1) := by decide +kernel
theorem dX3_holdsBits_9 : decode cX3_holdsBits 9 = .ok (.if_icmp .ge 34, 3) := by decide +kernel
theorem dX3_holdsBits_12 : decode cX3_holdsBits 12 = .ok (.aload_n 0, 1) := by decide +kernel
theorem dX3_holdsBits_13 : decode cX3_holdsBits 13 = .ok (.getfield 17, 3) := by decide +kernel
theorem dX3_holdsBits_16 : decode cX3_holdsBits 16 = .ok (.iload_n 1, 1) := by decide +kernel
theorem dX3_holdsBits_17 : decode cX3_holdsBits 17 = .ok (.aaload, 1) := by decide +kernel
theorem dX3_holdsBits_18 : decode cX3_holdsBits 18 = .ok (.iload_n 2, 1) := by decide +kernel
theorem dX3_holdsBits_19 : decode cX3_holdsBits 19 = .ok (.iaload, 1) := by decide +kernel
theorem dX3_holdsBits_20 : decode cX3_holdsBits 20 = .ok (.ifCond .eq 17, 3) := by decide +kernel
theorem dX3_holdsBits_23 : decode cX3_holdsBits 23 = .ok (.aload_n 0, 1) := by decide +kernel
theorem dX3_holdsBits_24 : decode cX3_holdsBits 24 = .ok (.getfield 17, 3) := by decide +kernel
theorem dX3_holdsBits_27 : decode cX3_holdsBits 27 = .ok (.iload_n 1, 1) := by decide +kernel
theorem dX3_holdsBits_28 : decode cX3_holdsBits 28 = .ok (.aaload, 1) := by decide +kernel
theorem dX3_holdsBits_29 : decode cX3_holdsBits 29 = .ok (.iload_n 2, 1) := by decide +kernel
theorem dX3_holdsBits_30 : decode cX3_holdsBits 30 = .ok (.iaload, 1) := by decide +kernel
theorem dX3_holdsBits_31 : decode cX3_holdsBits 31 = .ok (.iconst 1, 1) := by decide +kernel
theorem dX3_holdsBits_32 : decode cX3_holdsBits 32 = .ok (.if_icmp .eq 5, 3) := by decide +kernel
theorem dX3_holdsBits_35 : decode cX3_holdsBits 35 = .ok (.iconst 0, 1) := by decide +kernel
theorem dX3_holdsBits_36 : decode cX3_holdsBits 36 = .ok (.ireturn, 1) := by decide +kernel
theorem dX3_holdsBits_37 : decode cX3_holdsBits 37 = .ok (.iinc 2 1, 3) := by decide +kernel
theorem dX3_holdsBits_40 : decode cX3_holdsBits 40 = .ok (.goto (-38), 3) := by decide +kernel
theorem dX3_holdsBits_43 : decode cX3_holdsBits 43 = .ok (.iconst 1, 1) := by decide +kernel
theorem dX3_holdsBits_44 : decode cX3_holdsBits 44 = .ok (.ireturn, 1) := by decide +kernel
theorem dX3_sizeOf_0 : decode cX3_sizeOf 0 = .ok (.aload_n 0, 1) := by decide +kernel
theorem dX3_sizeOf_1 : decode cX3_sizeOf 1 = .ok (.getfield 20, 3) := by decide +kernel
theorem dX3_sizeOf_4 : decode cX3_sizeOf 4 = .ok (.iload_n 1, 1) := by decide +kernel
theorem dX3_sizeOf_5 : decode cX3_sizeOf 5 = .ok (.iaload, 1) := by decide +kernel
theorem dX3_sizeOf_6 : decode cX3_sizeOf 6 = .ok (.ireturn, 1) := by decide +kernel
theorem dX3_placesOf_0 : decode cX3_placesOf 0 = .ok (.aload_n 0, 1) := by decide +kernel
theorem dX3_placesOf_1 : decode cX3_placesOf 1 = .ok (.getfield 17, 3) := by decide +kernel
theorem dX3_placesOf_4 : decode cX3_placesOf 4 = .ok (.iload_n 1, 1) := by decide +kernel
theorem dX3_placesOf_5 : decode cX3_placesOf 5 = .ok (.aaload, 1) := by decide +kernel
theorem dX3_placesOf_6 : decode cX3_placesOf 6 = .ok (.areturn, 1) := by decide +kernel
theorem dX3_get_0 : decode cX3_get 0 = .ok (.aload_n 0, 1) := by decide +kernel
theorem dX3_get_1 : decode cX3_get 1 = .ok (.getfield 17, 3) := by decide +kernel
theorem dX3_get_4 : decode cX3_get 4 = .ok (.iload_n 1, 1) := by decide +kernel
theorem dX3_get_5 : decode cX3_get 5 = .ok (.aaload, 1) := by decide +kernel
theorem dX3_get_6 : decode cX3_get 6 = .ok (.iload_n 2, 1) := by decide +kernel
theorem dX3_get_7 : decode cX3_get 7 = .ok (.iaload, 1) := by decide +kernel
theorem dX3_get_8 : decode cX3_get 8 = .ok (.ireturn, 1) := by decide +kernel
theorem dX3_set_0 : decode cX3_set 0 = .ok (.aload_n 0, 1) := by decide +kernel
theorem dX3_set_1 : decode cX3_set 1 = .ok (.getfield 17, 3) := by decide +kernel
theorem dX3_set_4 : decode cX3_set 4 = .ok (.iload_n 1, 1) := by decide +kernel
theorem dX3_set_5 : decode cX3_set 5 = .ok (.aaload, 1) := by decide +kernel
theorem dX3_set_6 : decode cX3_set 6 = .ok (.iload_n 2, 1) := by decide +kernel
theorem dX3_set_7 : decode cX3_set 7 = .ok (.iaload, 1) := by decide +kernel
theorem dX3_set_8 : decode cX3_set 8 = .ok (.istore 4, 2) := by decide +kernel
theorem dX3_set_10 : decode cX3_set 10 = .ok (.aload_n 0, 1) := by decide +kernel
theorem dX3_set_11 : decode cX3_set 11 = .ok (.getfield 17, 3) := by decide +kernel
theorem dX3_set_14 : decode cX3_set 14 = .ok (.iload_n 1, 1) := by decide +kernel
theorem dX3_set_15 : decode cX3_set 15 = .ok (.aaload, 1) := by decide +kernel
theorem dX3_set_16 : decode cX3_set 16 = .ok (.iload_n 2, 1) := by decide +kernel
theorem dX3_set_17 : decode cX3_set 17 = .ok (.iload_n 3, 1) := by decide +kernel
theorem dX3_set_18 : decode cX3_set 18 = .ok (.iastore, 1) := by decide +kernel
theorem dX3_set_19 : decode cX3_set 19 = .ok (.iload 4, 2) := by decide +kernel
theorem dX3_set_21 : decode cX3_set 21 = .ok (.ireturn, 1) := by decide +kernel
theorem dX3_makeOne_0 : decode cX3_makeOne 0 = .ok (.aload_n 0, 1) := by decide +kernel
theorem dX3_makeOne_1 : decode cX3_makeOne 1 = .ok (.getfield 20, 3) := by decide +kernel
theorem dX3_makeOne_4 : decode cX3_makeOne 4 = .ok (.iload_n 1, 1) := by decide +kernel
theorem dX3_makeOne_5 : decode cX3_makeOne 5 = .ok (.iload_n 2, 1) := by decide +kernel
theorem dX3_makeOne_6 : decode cX3_makeOne 6 = .ok (.iastore, 1) := by decide +kernel
theorem dX3_makeOne_7 : decode cX3_makeOne 7 = .ok (.aload_n 0, 1) := by decide +kernel
theorem dX3_makeOne_8 : decode cX3_makeOne 8 = .ok (.getfield 17, 3) := by decide +kernel
theorem dX3_makeOne_11 : decode cX3_makeOne 11 = .ok (.iload_n 1, 1) := by decide +kernel
theorem dX3_makeOne_12 : decode cX3_makeOne 12 = .ok (.aaload, 1) := by decide +kernel
theorem dX3_makeOne_13 : decode cX3_makeOne 13 = .ok (.iload_n 3, 1) := by decide +kernel
theorem dX3_makeOne_14 : decode cX3_makeOne 14 = .ok (.invokestatic 24, 3) := by decide +kernel
theorem dX3_makeOne_17 : decode cX3_makeOne 17 = .ok (.return_, 1) := by decide +kernel
theorem dX3_drop_0 : decode cX3_drop 0 = .ok (.aload_n 0, 1) := by decide +kernel
theorem dX3_drop_1 : decode cX3_drop 1 = .ok (.getfield 20, 3) := by decide +kernel
theorem dX3_drop_4 : decode cX3_drop 4 = .ok (.iload_n 1, 1) := by decide +kernel
theorem dX3_drop_5 : decode cX3_drop 5 = .ok (.iconst (-1), 1) := by decide +kernel
theorem dX3_drop_6 : decode cX3_drop 6 = .ok (.iastore, 1) := by decide +kernel
theorem dX3_drop_7 : decode cX3_drop 7 = .ok (.return_, 1) := by decide +kernel
theorem dX3_move_0 : decode cX3_move 0 = .ok (.aload_n 0, 1) := by decide +kernel
theorem dX3_move_1 : decode cX3_move 1 = .ok (.getfield 17, 3) := by decide +kernel
theorem dX3_move_4 : decode cX3_move 4 = .ok (.iload_n 1, 1) := by decide +kernel
theorem dX3_move_5 : decode cX3_move 5 = .ok (.aaload, 1) := by decide +kernel
theorem dX3_move_6 : decode cX3_move 6 = .ok (.iload_n 2, 1) := by decide +kernel
theorem dX3_move_7 : decode cX3_move 7 = .ok (.aload_n 0, 1) := by decide +kernel
theorem dX3_move_8 : decode cX3_move 8 = .ok (.getfield 17, 3) := by decide +kernel
theorem dX3_move_11 : decode cX3_move 11 = .ok (.iload_n 3, 1) := by decide +kernel
theorem dX3_move_12 : decode cX3_move 12 = .ok (.aaload, 1) := by decide +kernel
theorem dX3_move_13 : decode cX3_move 13 = .ok (.iload 4, 2) := by decide +kernel
theorem dX3_move_15 : decode cX3_move 15 = .ok (.iload 5, 2) := by decide +kernel
theorem dX3_move_17 : decode cX3_move 17 = .ok (.invokestatic 30, 3) := by decide +kernel
theorem dX3_move_20 : decode cX3_move 20 = .ok (.return_, 1) := by decide +kernel
theorem dX3_sum_0 : decode cX3_sum 0 = .ok (.lconst 0, 1) := by decide +kernel
theorem dX3_sum_1 : decode cX3_sum 1 = .ok (.lstore_n 2, 1) := by decide +kernel
theorem dX3_sum_2 : decode cX3_sum 2 = .ok (.iconst 0, 1) := by decide +kernel
theorem dX3_sum_3 : decode cX3_sum 3 = .ok (.istore 4, 2) := by decide +kernel
theorem dX3_sum_5 : decode cX3_sum 5 = .ok (.iload 4, 2) := by decide +kernel
theorem dX3_sum_7 : decode cX3_sum 7 = .ok (.aload_n 0, 1) := by decide +kernel
theorem dX3_sum_8 : decode cX3_sum 8 = .ok (.getfield 20, 3) := by decide +kernel
theorem dX3_sum_11 : decode cX3_sum 11 = .ok (.iload_n 1, 1) := by decide +kernel
theorem dX3_sum_12 : decode cX3_sum 12 = .ok (.iaload, 1) := by decide +kernel
theorem dX3_sum_13 : decode cX3_sum 13 = .ok (.if_icmp .ge 22, 3) := by decide +kernel
theorem dX3_sum_16 : decode cX3_sum 16 = .ok (.lload_n 2, 1) := by decide +kernel
theorem dX3_sum_17 : decode cX3_sum 17 = .ok (.aload_n 0, 1) := by decide +kernel
theorem dX3_sum_18 : decode cX3_sum 18 = .ok (.getfield 17, 3) := by decide +kernel
theorem dX3_sum_21 : decode cX3_sum 21 = .ok (.iload_n 1, 1) := by decide +kernel
theorem dX3_sum_22 : decode cX3_sum 22 = .ok (.aaload, 1) := by decide +kernel
theorem dX3_sum_23 : decode cX3_sum 23 = .ok (.iload 4, 2) := by decide +kernel
theorem dX3_sum_25 : decode cX3_sum 25 = .ok (.iaload, 1) := by decide +kernel
theorem dX3_sum_26 : decode cX3_sum 26 = .ok (.i2l, 1) := by decide +kernel
theorem dX3_sum_27 : decode cX3_sum 27 = .ok (.ladd, 1) := by decide +kernel
theorem dX3_sum_28 : decode cX3_sum 28 = .ok (.lstore_n 2, 1) := by decide +kernel
theorem dX3_sum_29 : decode cX3_sum 29 = .ok (.iinc 4 1, 3) := by decide +kernel
theorem dX3_sum_32 : decode cX3_sum 32 = .ok (.goto (-27), 3) := by decide +kernel
theorem dX3_sum_35 : decode cX3_sum 35 = .ok (.lload_n 2, 1) := by decide +kernel
theorem dX3_sum_36 : decode cX3_sum 36 = .ok (.lreturn, 1) := by decide +kernel
theorem dX3_howMany_0 : decode cX3_howMany 0 = .ok (.iconst 0, 1) := by decide +kernel
theorem dX3_howMany_1 : decode cX3_howMany 1 = .ok (.istore_n 1, 1) := by decide +kernel
theorem dX3_howMany_2 : decode cX3_howMany 2 = .ok (.iconst 0, 1) := by decide +kernel
theorem dX3_howMany_3 : decode cX3_howMany 3 = .ok (.istore_n 2, 1) := by decide +kernel
theorem dX3_howMany_4 : decode cX3_howMany 4 = .ok (.iload_n 2, 1) := by decide +kernel
theorem dX3_howMany_5 : decode cX3_howMany 5 = .ok (.aload_n 0, 1) := by decide +kernel
theorem dX3_howMany_6 : decode cX3_howMany 6 = .ok (.getfield 20, 3) := by decide +kernel
theorem dX3_howMany_9 : decode cX3_howMany 9 = .ok (.arraylength, 1) := by decide +kernel
theorem dX3_howMany_10 : decode cX3_howMany 10 = .ok (.if_icmp .ge 22, 3) := by decide +kernel
theorem dX3_howMany_13 : decode cX3_howMany 13 = .ok (.aload_n 0, 1) := by decide +kernel
theorem dX3_howMany_14 : decode cX3_howMany 14 = .ok (.getfield 20, 3) := by decide +kernel
theorem dX3_howMany_17 : decode cX3_howMany 17 = .ok (.iload_n 2, 1) := by decide +kernel
theorem dX3_howMany_18 : decode cX3_howMany 18 = .ok (.iaload, 1) := by decide +kernel
theorem dX3_howMany_19 : decode cX3_howMany 19 = .ok (.iconst (-1), 1) := by decide +kernel
theorem dX3_howMany_20 : decode cX3_howMany 20 = .ok (.if_icmp .eq 6, 3) := by decide +kernel
theorem dX3_howMany_23 : decode cX3_howMany 23 = .ok (.iinc 1 1, 3) := by decide +kernel
theorem dX3_howMany_26 : decode cX3_howMany 26 = .ok (.iinc 2 1, 3) := by decide +kernel
theorem dX3_howMany_29 : decode cX3_howMany 29 = .ok (.goto (-25), 3) := by decide +kernel
theorem dX3_howMany_32 : decode cX3_howMany 32 = .ok (.iload_n 1, 1) := by decide +kernel
theorem dX3_howMany_33 : decode cX3_howMany 33 = .ok (.ireturn, 1) := by decide +kernel
theorem dX3_mix_0 : decode cX3_mix 0 = .ok (.lload_n 1, 1) := by decide +kernel
theorem dX3_mix_1 : decode cX3_mix 1 = .ok (.lstore_n 3, 1) := by decide +kernel
theorem dX3_mix_2 : decode cX3_mix 2 = .ok (.iconst 0, 1) := by decide +kernel
theorem dX3_mix_3 : decode cX3_mix 3 = .ok (.istore 5, 2) := by decide +kernel
theorem dX3_mix_5 : decode cX3_mix 5 = .ok (.iload 5, 2) := by decide +kernel
theorem dX3_mix_7 : decode cX3_mix 7 = .ok (.aload_n 0, 1) := by decide +kernel
theorem dX3_mix_8 : decode cX3_mix 8 = .ok (.getfield 20, 3) := by decide +kernel
theorem dX3_mix_11 : decode cX3_mix 11 = .ok (.arraylength, 1) := by decide +kernel
theorem dX3_mix_12 : decode cX3_mix 12 = .ok (.if_icmp .ge 63, 3) := by decide +kernel
theorem dX3_mix_15 : decode cX3_mix 15 = .ok (.ldc2_w 36, 3) := by decide +kernel
theorem dX3_mix_18 : decode cX3_mix 18 = .ok (.lload_n 3, 1) := by decide +kernel
theorem dX3_mix_19 : decode cX3_mix 19 = .ok (.lmul, 1) := by decide +kernel
theorem dX3_mix_20 : decode cX3_mix 20 = .ok (.aload_n 0, 1) := by decide +kernel
theorem dX3_mix_21 : decode cX3_mix 21 = .ok (.getfield 20, 3) := by decide +kernel
theorem dX3_mix_24 : decode cX3_mix 24 = .ok (.iload 5, 2) := by decide +kernel
theorem dX3_mix_26 : decode cX3_mix 26 = .ok (.iaload, 1) := by decide +kernel
theorem dX3_mix_27 : decode cX3_mix 27 = .ok (.i2l, 1) := by decide +kernel
theorem dX3_mix_28 : decode cX3_mix 28 = .ok (.ladd, 1) := by decide +kernel
theorem dX3_mix_29 : decode cX3_mix 29 = .ok (.lstore_n 3, 1) := by decide +kernel
theorem dX3_mix_30 : decode cX3_mix 30 = .ok (.iconst 0, 1) := by decide +kernel
theorem dX3_mix_31 : decode cX3_mix 31 = .ok (.istore 6, 2) := by decide +kernel
theorem dX3_mix_33 : decode cX3_mix 33 = .ok (.iload 6, 2) := by decide +kernel
theorem dX3_mix_35 : decode cX3_mix 35 = .ok (.aload_n 0, 1) := by decide +kernel
theorem dX3_mix_36 : decode cX3_mix 36 = .ok (.getfield 20, 3) := by decide +kernel
theorem dX3_mix_39 : decode cX3_mix 39 = .ok (.iload 5, 2) := by decide +kernel
theorem dX3_mix_41 : decode cX3_mix 41 = .ok (.iaload, 1) := by decide +kernel
theorem dX3_mix_42 : decode cX3_mix 42 = .ok (.if_icmp .ge 27, 3) := by decide +kernel
theorem dX3_mix_45 : decode cX3_mix 45 = .ok (.ldc2_w 36, 3) := by decide +kernel
theorem dX3_mix_48 : decode cX3_mix 48 = .ok (.lload_n 3, 1) := by decide +kernel
theorem dX3_mix_49 : decode cX3_mix 49 = .ok (.lmul, 1) := by decide +kernel
theorem dX3_mix_50 : decode cX3_mix 50 = .ok (.aload_n 0, 1) := by decide +kernel
theorem dX3_mix_51 : decode cX3_mix 51 = .ok (.getfield 17, 3) := by decide +kernel
theorem dX3_mix_54 : decode cX3_mix 54 = .ok (.iload 5, 2) := by decide +kernel
theorem dX3_mix_56 : decode cX3_mix 56 = .ok (.aaload, 1) := by decide +kernel
theorem dX3_mix_57 : decode cX3_mix 57 = .ok (.iload 6, 2) := by decide +kernel
theorem dX3_mix_59 : decode cX3_mix 59 = .ok (.iaload, 1) := by decide +kernel
theorem dX3_mix_60 : decode cX3_mix 60 = .ok (.i2l, 1) := by decide +kernel
theorem dX3_mix_61 : decode cX3_mix 61 = .ok (.ladd, 1) := by decide +kernel
theorem dX3_mix_62 : decode cX3_mix 62 = .ok (.lstore_n 3, 1) := by decide +kernel
theorem dX3_mix_63 : decode cX3_mix 63 = .ok (.iinc 6 1, 3) := by decide +kernel
theorem dX3_mix_66 : decode cX3_mix 66 = .ok (.goto (-33), 3) := by decide +kernel
theorem dX3_mix_69 : decode cX3_mix 69 = .ok (.iinc 5 1, 3) := by decide +kernel
theorem dX3_mix_72 : decode cX3_mix 72 = .ok (.goto (-67), 3) := by decide +kernel
theorem dX3_mix_75 : decode cX3_mix 75 = .ok (.lload_n 3, 1) := by decide +kernel
theorem dX3_mix_76 : decode cX3_mix 76 = .ok (.lreturn, 1) := by decide +kernel
theorem dX4_init_0 : decode cX4_init 0 = .ok (.aload_n 0, 1) := by decide +kernel
theorem dX4_init_1 : decode cX4_init 1 = .ok (.invokespecial 3, 3) := by decide +kernel
theorem dX4_init_4 : decode cX4_init 4 = .ok (.aload_n 0, 1) := by decide +kernel
theorem dX4_init_5 : decode cX4_init 5 = .ok (.bipush 8, 2) := by decide +kernel
theorem dX4_init_7 : decode cX4_init 7 = .ok (.newarray .int, 2) := by decide +kernel
theorem dX4_init_9 : decode cX4_init 9 = .ok (.putfield 9, 3) := by decide +kernel
theorem dX4_init_12 : decode cX4_init 12 = .ok (.aload_n 0, 1) := by decide +kernel
theorem dX4_init_13 : decode cX4_init 13 = .ok (.bipush 8, 2) := by decide +kernel
theorem dX4_init_15 : decode cX4_init 15 = .ok (.newarray .int, 2) := by decide +kernel
theorem dX4_init_17 : decode cX4_init 17 = .ok (.putfield 15, 3) := by decide +kernel
theorem dX4_init_20 : decode cX4_init 20 = .ok (.aload_n 0, 1) := by decide +kernel
theorem dX4_init_21 : decode cX4_init 21 = .ok (.bipush 8, 2) := by decide +kernel
theorem dX4_init_23 : decode cX4_init 23 = .ok (.newarray .int, 2) := by decide +kernel
theorem dX4_init_25 : decode cX4_init 25 = .ok (.putfield 18, 3) := by decide +kernel
theorem dX4_init_28 : decode cX4_init 28 = .ok (.aload_n 0, 1) := by decide +kernel
theorem dX4_init_29 : decode cX4_init 29 = .ok (.bipush 8, 2) := by decide +kernel
theorem dX4_init_31 : decode cX4_init 31 = .ok (.newarray .int, 2) := by decide +kernel
theorem dX4_init_33 : decode cX4_init 33 = .ok (.putfield 21, 3) := by decide +kernel
theorem dX4_init_36 : decode cX4_init 36 = .ok (.aload_n 0, 1) := by decide +kernel
theorem dX4_init_37 : decode cX4_init 37 = .ok (.bipush 8, 2) := by decide +kernel
theorem dX4_init_39 : decode cX4_init 39 = .ok (.newarray .int, 2) := by decide +kernel
theorem dX4_init_41 : decode cX4_init 41 = .ok (.putfield 24, 3) := by decide +kernel
theorem dX4_init_44 : decode cX4_init 44 = .ok (.return_, 1) := by decide +kernel
theorem dX4_take_0 : decode cX4_take 0 = .ok (.aload_n 1, 1) := by decide +kernel
theorem dX4_take_1 : decode cX4_take 1 = .ok (.getfield 9, 3) := by decide +kernel
theorem dX4_take_4 : decode cX4_take 4 = .ok (.iconst 0, 1) := by decide +kernel
theorem dX4_take_5 : decode cX4_take 5 = .ok (.aload_n 0, 1) := by decide +kernel
theorem dX4_take_6 : decode cX4_take 6 = .ok (.getfield 9, 3) := by decide +kernel
theorem dX4_take_9 : decode cX4_take 9 = .ok (.iconst 0, 1) := by decide +kernel
theorem dX4_take_10 : decode cX4_take 10 = .ok (.bipush 8, 2) := by decide +kernel
theorem dX4_take_12 : decode cX4_take 12 = .ok (.invokestatic 27, 3) := by decide +kernel
theorem dX4_take_15 : decode cX4_take 15 = .ok (.aload_n 1, 1) := by decide +kernel
theorem dX4_take_16 : decode cX4_take 16 = .ok (.getfield 15, 3) := by decide +kernel
theorem dX4_take_19 : decode cX4_take 19 = .ok (.iconst 0, 1) := by decide +kernel
theorem dX4_take_20 : decode cX4_take 20 = .ok (.aload_n 0, 1) := by decide +kernel
theorem dX4_take_21 : decode cX4_take 21 = .ok (.getfield 15, 3) := by decide +kernel
theorem dX4_take_24 : decode cX4_take 24 = .ok (.iconst 0, 1) := by decide +kernel
theorem dX4_take_25 : decode cX4_take 25 = .ok (.bipush 8, 2) := by decide +kernel
theorem dX4_take_27 : decode cX4_take 27 = .ok (.invokestatic 27, 3) := by decide +kernel
theorem dX4_take_30 : decode cX4_take 30 = .ok (.aload_n 1, 1) := by decide +kernel
theorem dX4_take_31 : decode cX4_take 31 = .ok (.getfield 18, 3) := by decide +kernel
theorem dX4_take_34 : decode cX4_take 34 = .ok (.iconst 0, 1) := by decide +kernel
theorem dX4_take_35 : decode cX4_take 35 = .ok (.aload_n 0, 1) := by decide +kernel
theorem dX4_take_36 : decode cX4_take 36 = .ok (.getfield 18, 3) := by decide +kernel
theorem dX4_take_39 : decode cX4_take 39 = .ok (.iconst 0, 1) := by decide +kernel
theorem dX4_take_40 : decode cX4_take 40 = .ok (.bipush 8, 2) := by decide +kernel
theorem dX4_take_42 : decode cX4_take 42 = .ok (.invokestatic 27, 3) := by decide +kernel
theorem dX4_take_45 : decode cX4_take 45 = .ok (.aload_n 1, 1) := by decide +kernel
theorem dX4_take_46 : decode cX4_take 46 = .ok (.getfield 21, 3) := by decide +kernel
theorem dX4_take_49 : decode cX4_take 49 = .ok (.iconst 0, 1) := by decide +kernel
theorem dX4_take_50 : decode cX4_take 50 = .ok (.aload_n 0, 1) := by decide +kernel
theorem dX4_take_51 : decode cX4_take 51 = .ok (.getfield 21, 3) := by decide +kernel
theorem dX4_take_54 : decode cX4_take 54 = .ok (.iconst 0, 1) := by decide +kernel
theorem dX4_take_55 : decode cX4_take 55 = .ok (.bipush 8, 2) := by decide +kernel
theorem dX4_take_57 : decode cX4_take 57 = .ok (.invokestatic 27, 3) := by decide +kernel
theorem dX4_take_60 : decode cX4_take 60 = .ok (.aload_n 1, 1) := by decide +kernel
theorem dX4_take_61 : decode cX4_take 61 = .ok (.getfield 24, 3) := by decide +kernel
theorem dX4_take_64 : decode cX4_take 64 = .ok (.iconst 0, 1) := by decide +kernel
theorem dX4_take_65 : decode cX4_take 65 = .ok (.aload_n 0, 1) := by decide +kernel
theorem dX4_take_66 : decode cX4_take 66 = .ok (.getfield 24, 3) := by decide +kernel
theorem dX4_take_69 : decode cX4_take 69 = .ok (.iconst 0, 1) := by decide +kernel
theorem dX4_take_70 : decode cX4_take 70 = .ok (.bipush 8, 2) := by decide +kernel
theorem dX4_take_72 : decode cX4_take 72 = .ok (.invokestatic 27, 3) := by decide +kernel
theorem dX4_take_75 : decode cX4_take 75 = .ok (.aload_n 0, 1) := by decide +kernel
theorem dX4_take_76 : decode cX4_take 76 = .ok (.aload_n 1, 1) := by decide +kernel
theorem dX4_take_77 : decode cX4_take 77 = .ok (.getfield 33, 3) := by decide +kernel
theorem dX4_take_80 : decode cX4_take 80 = .ok (.putfield 33, 3) := by decide +kernel
theorem dX4_take_83 : decode cX4_take 83 = .ok (.aload_n 0, 1) := by decide +kernel
theorem dX4_take_84 : decode cX4_take 84 = .ok (.aload_n 1, 1) := by decide +kernel
theorem dX4_take_85 : decode cX4_take 85 = .ok (.getfield 37, 3) := by decide +kernel
theorem dX4_take_88 : decode cX4_take 88 = .ok (.putfield 37, 3) := by decide +kernel
theorem dX4_take_91 : decode cX4_take 91 = .ok (.aload_n 0, 1) := by decide +kernel
theorem dX4_take_92 : decode cX4_take 92 = .ok (.aload_n 1, 1) := by decide +kernel
theorem dX4_take_93 : decode cX4_take 93 = .ok (.getfield 40, 3) := by decide +kernel
theorem dX4_take_96 : decode cX4_take 96 = .ok (.putfield 40, 3) := by decide +kernel
theorem dX4_take_99 : decode cX4_take 99 = .ok (.aload_n 0, 1) := by decide +kernel
theorem dX4_take_100 : decode cX4_take 100 = .ok (.aload_n 1, 1) := by decide +kernel
theorem dX4_take_101 : decode cX4_take 101 = .ok (.getfield 43, 3) := by decide +kernel
theorem dX4_take_104 : decode cX4_take 104 = .ok (.putfield 43, 3) := by decide +kernel
theorem dX4_take_107 : decode cX4_take 107 = .ok (.aload_n 0, 1) := by decide +kernel
theorem dX4_take_108 : decode cX4_take 108 = .ok (.aload_n 1, 1) := by decide +kernel
theorem dX4_take_109 : decode cX4_take 109 = .ok (.getfield 46, 3) := by decide +kernel
theorem dX4_take_112 : decode cX4_take 112 = .ok (.putfield 46, 3) := by decide +kernel
theorem dX4_take_115 : decode cX4_take 115 = .ok (.aload_n 0, 1) := by decide +kernel
theorem dX4_take_116 : decode cX4_take 116 = .ok (.aload_n 1, 1) := by decide +kernel
theorem dX4_take_117 : decode cX4_take 117 = .ok (.getfield 49, 3) := by decide +kernel
theorem dX4_take_120 : decode cX4_take 120 = .ok (.putfield 49, 3) := by decide +kernel
theorem dX4_take_123 : decode cX4_take 123 = .ok (.return_, 1) := by decide +kernel
theorem dX4_start_0 : decode cX4_start 0 = .ok (.aload_n 0, 1) := by decide +kernel
theorem dX4_start_1 : decode cX4_start 1 = .ok (.getfield 24, 3) := by decide +kernel
theorem dX4_start_4 : decode cX4_start 4 = .ok (.iconst 0, 1) := by decide +kernel
theorem dX4_start_5 : decode cX4_start 5 = .ok (.invokestatic 53, 3) := by decide +kernel
theorem dX4_start_8 : decode cX4_start 8 = .ok (.aload_n 0, 1) := by decide +kernel
theorem dX4_start_9 : decode cX4_start 9 = .ok (.iconst 0, 1) := by decide +kernel
theorem dX4_start_10 : decode cX4_start 10 = .ok (.putfield 40, 3) := by decide +kernel
theorem dX4_start_13 : decode cX4_start 13 = .ok (.aload_n 0, 1) := by decide +kernel
theorem dX4_start_14 : decode cX4_start 14 = .ok (.iconst 0, 1) := by decide +kernel
theorem dX4_start_15 : decode cX4_start 15 = .ok (.putfield 43, 3) := by decide +kernel
theorem dX4_start_18 : decode cX4_start 18 = .ok (.aload_n 0, 1) := by decide +kernel
theorem dX4_start_19 : decode cX4_start 19 = .ok (.iconst 1, 1) := by decide +kernel
theorem dX4_start_20 : decode cX4_start 20 = .ok (.aload_n 0, 1) := by decide +kernel
theorem dX4_start_21 : decode cX4_start 21 = .ok (.getfield 33, 3) := by decide +kernel
theorem dX4_start_24 : decode cX4_start 24 = .ok (.ishl, 1) := by decide +kernel
theorem dX4_start_25 : decode cX4_start 25 = .ok (.iconst 1, 1) := by decide +kernel
theorem dX4_start_26 : decode cX4_start 26 = .ok (.isub, 1) := by decide +kernel
theorem dX4_start_27 : decode cX4_start 27 = .ok (.putfield 46, 3) := by decide +kernel
theorem dX4_start_30 : decode cX4_start 30 = .ok (.aload_n 0, 1) := by decide +kernel
theorem dX4_start_31 : decode cX4_start 31 = .ok (.iconst 0, 1) := by decide +kernel
theorem dX4_start_32 : decode cX4_start 32 = .ok (.putfield 49, 3) := by decide +kernel
theorem dX4_start_35 : decode cX4_start 35 = .ok (.return_, 1) := by decide +kernel
theorem dX4_isEmpty_0 : decode cX4_isEmpty 0 = .ok (.aload_n 0, 1) := by decide +kernel
theorem dX4_isEmpty_1 : decode cX4_isEmpty 1 = .ok (.getfield 33, 3) := by decide +kernel
theorem dX4_isEmpty_4 : decode cX4_isEmpty 4 = .ok (.ifCond .ne 7, 3) := by decide +kernel
theorem dX4_isEmpty_7 : decode cX4_isEmpty 7 = .ok (.iconst 1, 1) := by decide +kernel
theorem dX4_isEmpty_8 : decode cX4_isEmpty 8 = .ok (.goto 4, 3) := by decide +kernel
theorem dX4_isEmpty_11 : decode cX4_isEmpty 11 = .ok (.iconst 0, 1) := by decide +kernel
theorem dX4_isEmpty_12 : decode cX4_isEmpty 12 = .ok (.ireturn, 1) := by decide +kernel
theorem dX4_isSpoke_0 : decode cX4_isSpoke 0 = .ok (.iload_n 1, 1) := by decide +kernel
theorem dX4_isSpoke_1 : decode cX4_isSpoke 1 = .ok (.ifCond .lt 15, 3) := by decide +kernel
theorem dX4_isSpoke_4 : decode cX4_isSpoke 4 = .ok (.iload_n 1, 1) := by decide +kernel
theorem dX4_isSpoke_5 : decode cX4_isSpoke 5 = .ok (.aload_n 0, 1) := by decide +kernel
theorem dX4_isSpoke_6 : decode cX4_isSpoke 6 = .ok (.getfield 33, 3) := by decide +kernel
theorem dX4_isSpoke_9 : decode cX4_isSpoke 9 = .ok (.if_icmp .ge 7, 3) := by decide +kernel
theorem dX4_isSpoke_12 : decode cX4_isSpoke 12 = .ok (.iconst 1, 1) := by decide +kernel
theorem dX4_isSpoke_13 : decode cX4_isSpoke 13 = .ok (.goto 4, 3) := by decide +kernel
theorem dX4_isSpoke_16 : decode cX4_isSpoke 16 = .ok (.iconst 0, 1) := by decide +kernel
theorem dX4_isSpoke_17 : decode cX4_isSpoke 17 = .ok (.ireturn, 1) := by decide +kernel
theorem dX4_isThere_0 : decode cX4_isThere 0 = .ok (.aload_n 0, 1) := by decide +kernel
theorem dX4_isThere_1 : decode cX4_isThere 1 = .ok (.getfield 46, 3) := by decide +kernel
theorem dX4_isThere_4 : decode cX4_isThere 4 = .ok (.iload_n 1, 1) := by decide +kernel
theorem dX4_isThere_5 : decode cX4_isThere 5 = .ok (.ishr, 1) := by decide +kernel
theorem dX4_isThere_6 : decode cX4_isThere 6 = .ok (.iconst 1, 1) := by decide +kernel
theorem dX4_isThere_7 : decode cX4_isThere 7 = .ok (.iand, 1) := by decide +kernel
theorem dX4_isThere_8 : decode cX4_isThere 8 = .ok (.iconst 1, 1) := by decide +kernel
theorem dX4_isThere_9 : decode cX4_isThere 9 = .ok (.if_icmp .ne 7, 3) := by decide +kernel
theorem dX4_isThere_12 : decode cX4_isThere 12 = .ok (.iconst 1, 1) := by decide +kernel
theorem dX4_isThere_13 : decode cX4_isThere 13 = .ok (.goto 4, 3) := by decide +kernel
theorem dX4_isThere_16 : decode cX4_isThere 16 = .ok (.iconst 0, 1) := by decide +kernel
theorem dX4_isThere_17 : decode cX4_isThere 17 = .ok (.ireturn, 1) := by decide +kernel
theorem dX4_goneOnes_0 : decode cX4_goneOnes 0 = .ok (.iconst 1, 1) := by decide +kernel
theorem dX4_goneOnes_1 : decode cX4_goneOnes 1 = .ok (.aload_n 0, 1) := by decide +kernel
theorem dX4_goneOnes_2 : decode cX4_goneOnes 2 = .ok (.getfield 33, 3) := by decide +kernel
theorem dX4_goneOnes_5 : decode cX4_goneOnes 5 = .ok (.ishl, 1) := by decide +kernel
theorem dX4_goneOnes_6 : decode cX4_goneOnes 6 = .ok (.iconst 1, 1) := by decide +kernel
theorem dX4_goneOnes_7 : decode cX4_goneOnes 7 = .ok (.isub, 1) := by decide +kernel
theorem dX4_goneOnes_8 : decode cX4_goneOnes 8 = .ok (.aload_n 0, 1) := by decide +kernel
theorem dX4_goneOnes_9 : decode cX4_goneOnes 9 = .ok (.getfield 46, 3) := by decide +kernel
theorem dX4_goneOnes_12 : decode cX4_goneOnes 12 = .ok (.iconst (-1), 1) := by decide +kernel
theorem dX4_goneOnes_13 : decode cX4_goneOnes 13 = .ok (.ixor, 1) := by decide +kernel
theorem dX4_goneOnes_14 : decode cX4_goneOnes 14 = .ok (.iand, 1) := by decide +kernel
theorem dX4_goneOnes_15 : decode cX4_goneOnes 15 = .ok (.ireturn, 1) := by decide +kernel
theorem dX4_isOver_0 : decode cX4_isOver 0 = .ok (.aload_n 0, 1) := by decide +kernel
theorem dX4_isOver_1 : decode cX4_isOver 1 = .ok (.invokevirtual 59, 3) := by decide +kernel
theorem dX4_isOver_4 : decode cX4_isOver 4 = .ok (.istore_n 1, 1) := by decide +kernel
theorem dX4_isOver_5 : decode cX4_isOver 5 = .ok (.iload_n 1, 1) := by decide +kernel
theorem dX4_isOver_6 : decode cX4_isOver 6 = .ok (.ifCond .ne 5, 3) := by decide +kernel
theorem dX4_isOver_9 : decode cX4_isOver 9 = .ok (.iconst 0, 1) := by decide +kernel
theorem dX4_isOver_10 : decode cX4_isOver 10 = .ok (.ireturn, 1) := by decide +kernel
theorem dX4_isOver_11 : decode cX4_isOver 11 = .ok (.iload_n 1, 1) := by decide +kernel
theorem dX4_isOver_12 : decode cX4_isOver 12 = .ok (.iconst 1, 1) := by decide +kernel
theorem dX4_isOver_13 : decode cX4_isOver 13 = .ok (.ishl, 1) := by decide +kernel
theorem dX4_isOver_14 : decode cX4_isOver 14 = .ok (.iload_n 1, 1) := by decide +kernel
theorem dX4_isOver_15 : decode cX4_isOver 15 = .ok (.aload_n 0, 1) := by decide +kernel
theorem dX4_isOver_16 : decode cX4_isOver 16 = .ok (.getfield 33, 3) := by decide +kernel
theorem dX4_isOver_19 : decode cX4_isOver 19 = .ok (.iconst 1, 1) := by decide +kernel
theorem dX4_isOver_20 : decode cX4_isOver 20 = .ok (.isub, 1) := by decide +kernel
theorem dX4_isOver_21 : decode cX4_isOver 21 = .ok (.ishr, 1) := by decide +kernel
theorem dX4_isOver_22 : decode cX4_isOver 22 = .ok (.ior, 1) := by decide +kernel
theorem dX4_isOver_23 : decode cX4_isOver 23 = .ok (.istore_n 2, 1) := by decide +kernel
theorem dX4_isOver_24 : decode cX4_isOver 24 = .ok (.iload_n 1, 1) := by decide +kernel
theorem dX4_isOver_25 : decode cX4_isOver 25 = .ok (.iload_n 2, 1) := by decide +kernel
theorem dX4_isOver_26 : decode cX4_isOver 26 = .ok (.iand, 1) := by decide +kernel
theorem dX4_isOver_27 : decode cX4_isOver 27 = .ok (.ifCond .eq 7, 3) := by decide +kernel
theorem dX4_isOver_30 : decode cX4_isOver 30 = .ok (.iconst 1, 1) := by decide +kernel
theorem dX4_isOver_31 : decode cX4_isOver 31 = .ok (.goto 4, 3) := by decide +kernel
theorem dX4_isOver_34 : decode cX4_isOver 34 = .ok (.iconst 0, 1) := by decide +kernel
theorem dX4_isOver_35 : decode cX4_isOver 35 = .ok (.ireturn, 1) := by decide +kernel
theorem dX4_depth_0 : decode cX4_depth 0 = .ok (.aload_n 0, 1) := by decide +kernel
theorem dX4_depth_1 : decode cX4_depth 1 = .ok (.getfield 9, 3) := by decide +kernel
theorem dX4_depth_4 : decode cX4_depth 4 = .ok (.aload_n 0, 1) := by decide +kernel
theorem dX4_depth_5 : decode cX4_depth 5 = .ok (.getfield 43, 3) := by decide +kernel
theorem dX4_depth_8 : decode cX4_depth 8 = .ok (.bipush 7, 2) := by decide +kernel
theorem dX4_depth_10 : decode cX4_depth 10 = .ok (.iand, 1) := by decide +kernel
theorem dX4_depth_11 : decode cX4_depth 11 = .ok (.iaload, 1) := by decide +kernel
theorem dX4_depth_12 : decode cX4_depth 12 = .ok (.ireturn, 1) := by decide +kernel
theorem dX4_bearingAs_0 : decode cX4_bearingAs 0 = .ok (.iload_n 1, 1) := by decide +kernel
theorem dX4_bearingAs_1 : decode cX4_bearingAs 1 = .ok (.aload_n 0, 1) := by decide +kernel
theorem dX4_bearingAs_2 : decode cX4_bearingAs 2 = .ok (.getfield 21, 3) := by decide +kernel
theorem dX4_bearingAs_5 : decode cX4_bearingAs 5 = .ok (.iload_n 2, 1) := by decide +kernel
theorem dX4_bearingAs_6 : decode cX4_bearingAs 6 = .ok (.iaload, 1) := by decide +kernel
theorem dX4_bearingAs_7 : decode cX4_bearingAs 7 = .ok (.aload_n 0, 1) := by decide +kernel
theorem dX4_bearingAs_8 : decode cX4_bearingAs 8 = .ok (.getfield 24, 3) := by decide +kernel
theorem dX4_bearingAs_11 : decode cX4_bearingAs 11 = .ok (.iload_n 2, 1) := by decide +kernel
theorem dX4_bearingAs_12 : decode cX4_bearingAs 12 = .ok (.iaload, 1) := by decide +kernel
theorem dX4_bearingAs_13 : decode cX4_bearingAs 13 = .ok (.aload_n 0, 1) := by decide +kernel
theorem dX4_bearingAs_14 : decode cX4_bearingAs 14 = .ok (.invokevirtual 63, 3) := by decide +kernel
theorem dX4_bearingAs_17 : decode cX4_bearingAs 17 = .ok (.aload_n 0, 1) := by decide +kernel
theorem dX4_bearingAs_18 : decode cX4_bearingAs 18 = .ok (.getfield 49, 3) := by decide +kernel
theorem dX4_bearingAs_21 : decode cX4_bearingAs 21 = .ok (.invokestatic 66, 3) := by decide +kernel
theorem dX4_bearingAs_24 : decode cX4_bearingAs 24 = .ok (.ireturn, 1) := by decide +kernel
theorem dX4_facet_0 : decode cX4_facet 0 = .ok (.iload_n 2, 1) := by decide +kernel
theorem dX4_facet_1 : decode cX4_facet 1 = .ok (.tableswitch 77 0 4 #[35, 42, 49, 56, 63], 35) := by decide +kernel
theorem dX4_facet_36 : decode cX4_facet 36 = .ok (.aload_n 0, 1) := by decide +kernel
theorem dX4_facet_37 : decode cX4_facet 37 = .ok (.getfield 15, 3) := by decide +kernel
theorem dX4_facet_40 : decode cX4_facet 40 = .ok (.iload_n 1, 1) := by decide +kernel
theorem dX4_facet_41 : decode cX4_facet 41 = .ok (.iaload, 1) := by decide +kernel
theorem dX4_facet_42 : decode cX4_facet 42 = .ok (.ireturn, 1) := by decide +kernel
theorem dX4_facet_43 : decode cX4_facet 43 = .ok (.aload_n 0, 1) := by decide +kernel
theorem dX4_facet_44 : decode cX4_facet 44 = .ok (.getfield 18, 3) := by decide +kernel
theorem dX4_facet_47 : decode cX4_facet 47 = .ok (.iload_n 1, 1) := by decide +kernel
theorem dX4_facet_48 : decode cX4_facet 48 = .ok (.iaload, 1) := by decide +kernel
theorem dX4_facet_49 : decode cX4_facet 49 = .ok (.ireturn, 1) := by decide +kernel
theorem dX4_facet_50 : decode cX4_facet 50 = .ok (.aload_n 0, 1) := by decide +kernel
theorem dX4_facet_51 : decode cX4_facet 51 = .ok (.getfield 21, 3) := by decide +kernel
theorem dX4_facet_54 : decode cX4_facet 54 = .ok (.iload_n 1, 1) := by decide +kernel
theorem dX4_facet_55 : decode cX4_facet 55 = .ok (.iaload, 1) := by decide +kernel
theorem dX4_facet_56 : decode cX4_facet 56 = .ok (.ireturn, 1) := by decide +kernel
theorem dX4_facet_57 : decode cX4_facet 57 = .ok (.aload_n 0, 1) := by decide +kernel
theorem dX4_facet_58 : decode cX4_facet 58 = .ok (.getfield 24, 3) := by decide +kernel
theorem dX4_facet_61 : decode cX4_facet 61 = .ok (.iload_n 1, 1) := by decide +kernel
theorem dX4_facet_62 : decode cX4_facet 62 = .ok (.iaload, 1) := by decide +kernel
theorem dX4_facet_63 : decode cX4_facet 63 = .ok (.ireturn, 1) := by decide +kernel
theorem dX4_facet_64 : decode cX4_facet 64 = .ok (.aload_n 0, 1) := by decide +kernel
theorem dX4_facet_65 : decode cX4_facet 65 = .ok (.iload_n 1, 1) := by decide +kernel
theorem dX4_facet_66 : decode cX4_facet 66 = .ok (.invokevirtual 70, 3) := by decide +kernel
theorem dX4_facet_69 : decode cX4_facet 69 = .ok (.ifCond .eq 7, 3) := by decide +kernel
theorem dX4_facet_72 : decode cX4_facet 72 = .ok (.iconst 1, 1) := by decide +kernel
theorem dX4_facet_73 : decode cX4_facet 73 = .ok (.goto 4, 3) := by decide +kernel
theorem dX4_facet_76 : decode cX4_facet 76 = .ok (.iconst 0, 1) := by decide +kernel
theorem dX4_facet_77 : decode cX4_facet 77 = .ok (.ireturn, 1) := by decide +kernel
theorem dX4_facet_78 : decode cX4_facet 78 = .ok (.aload_n 0, 1) := by decide +kernel
theorem dX4_facet_79 : decode cX4_facet 79 = .ok (.aload_n 0, 1) := by decide +kernel
theorem dX4_facet_80 : decode cX4_facet 80 = .ok (.getfield 15, 3) := by decide +kernel
theorem dX4_facet_83 : decode cX4_facet 83 = .ok (.iload_n 1, 1) := by decide +kernel
theorem dX4_facet_84 : decode cX4_facet 84 = .ok (.iaload, 1) := by decide +kernel
theorem dX4_facet_85 : decode cX4_facet 85 = .ok (.iload_n 1, 1) := by decide +kernel
theorem dX4_facet_86 : decode cX4_facet 86 = .ok (.invokevirtual 74, 3) := by decide +kernel
theorem dX4_facet_89 : decode cX4_facet 89 = .ok (.ireturn, 1) := by decide +kernel
theorem dX4_differs_0 : decode cX4_differs 0 = .ok (.aload_n 0, 1) := by decide +kernel
theorem dX4_differs_1 : decode cX4_differs 1 = .ok (.aload_n 0, 1) := by decide +kernel
theorem dX4_differs_2 : decode cX4_differs 2 = .ok (.getfield 15, 3) := by decide +kernel
theorem dX4_differs_5 : decode cX4_differs 5 = .ok (.iload_n 1, 1) := by decide +kernel
theorem dX4_differs_6 : decode cX4_differs 6 = .ok (.iaload, 1) := by decide +kernel
theorem dX4_differs_7 : decode cX4_differs 7 = .ok (.iload_n 1, 1) := by decide +kernel
theorem dX4_differs_8 : decode cX4_differs 8 = .ok (.invokevirtual 74, 3) := by decide +kernel
theorem dX4_differs_11 : decode cX4_differs 11 = .ok (.istore_n 3, 1) := by decide +kernel
theorem dX4_differs_12 : decode cX4_differs 12 = .ok (.iload_n 2, 1) := by decide +kernel
theorem dX4_differs_13 : decode cX4_differs 13 = .ok (.tableswitch 62 1 5 #[35, 62, 44, 62, 53], 35) := by decide +kernel
theorem dX4_differs_48 : decode cX4_differs 48 = .ok (.aload_n 0, 1) := by decide +kernel
theorem dX4_differs_49 : decode cX4_differs 49 = .ok (.iconst 0, 1) := by decide +kernel
theorem dX4_differs_50 : decode cX4_differs 50 = .ok (.iload_n 1, 1) := by decide +kernel
theorem dX4_differs_51 : decode cX4_differs 51 = .ok (.invokevirtual 74, 3) := by decide +kernel
theorem dX4_differs_54 : decode cX4_differs 54 = .ok (.iload_n 3, 1) := by decide +kernel
theorem dX4_differs_55 : decode cX4_differs 55 = .ok (.isub, 1) := by decide +kernel
theorem dX4_differs_56 : decode cX4_differs 56 = .ok (.ireturn, 1) := by decide +kernel
theorem dX4_differs_57 : decode cX4_differs 57 = .ok (.iload_n 3, 1) := by decide +kernel
theorem dX4_differs_58 : decode cX4_differs 58 = .ok (.aload_n 0, 1) := by decide +kernel
theorem dX4_differs_59 : decode cX4_differs 59 = .ok (.iconst 2, 1) := by decide +kernel
theorem dX4_differs_60 : decode cX4_differs 60 = .ok (.iload_n 1, 1) := by decide +kernel
theorem dX4_differs_61 : decode cX4_differs 61 = .ok (.invokevirtual 74, 3) := by decide +kernel
theorem dX4_differs_64 : decode cX4_differs 64 = .ok (.isub, 1) := by decide +kernel
theorem dX4_differs_65 : decode cX4_differs 65 = .ok (.ireturn, 1) := by decide +kernel
theorem dX4_differs_66 : decode cX4_differs 66 = .ok (.aload_n 0, 1) := by decide +kernel
theorem dX4_differs_67 : decode cX4_differs 67 = .ok (.iconst 4, 1) := by decide +kernel
theorem dX4_differs_68 : decode cX4_differs 68 = .ok (.iload_n 1, 1) := by decide +kernel
theorem dX4_differs_69 : decode cX4_differs 69 = .ok (.invokevirtual 74, 3) := by decide +kernel
theorem dX4_differs_72 : decode cX4_differs 72 = .ok (.iload_n 3, 1) := by decide +kernel
theorem dX4_differs_73 : decode cX4_differs 73 = .ok (.isub, 1) := by decide +kernel
theorem dX4_differs_74 : decode cX4_differs 74 = .ok (.ireturn, 1) := by decide +kernel
theorem dX4_differs_75 : decode cX4_differs 75 = .ok (.iload_n 3, 1) := by decide +kernel
theorem dX4_differs_76 : decode cX4_differs 76 = .ok (.aload_n 0, 1) := by decide +kernel
theorem dX4_differs_77 : decode cX4_differs 77 = .ok (.iconst 0, 1) := by decide +kernel
theorem dX4_differs_78 : decode cX4_differs 78 = .ok (.iload_n 1, 1) := by decide +kernel
theorem dX4_differs_79 : decode cX4_differs 79 = .ok (.invokevirtual 74, 3) := by decide +kernel
theorem dX4_differs_82 : decode cX4_differs 82 = .ok (.isub, 1) := by decide +kernel
theorem dX4_differs_83 : decode cX4_differs 83 = .ok (.bipush 100, 2) := by decide +kernel
theorem dX4_differs_85 : decode cX4_differs 85 = .ok (.iadd, 1) := by decide +kernel
theorem dX4_differs_86 : decode cX4_differs 86 = .ok (.ireturn, 1) := by decide +kernel
theorem dX4_lengthThere_0 : decode cX4_lengthThere 0 = .ok (.iconst 0, 1) := by decide +kernel
theorem dX4_lengthThere_1 : decode cX4_lengthThere 1 = .ok (.istore_n 1, 1) := by decide +kernel
theorem dX4_lengthThere_2 : decode cX4_lengthThere 2 = .ok (.iconst 0, 1) := by decide +kernel
theorem dX4_lengthThere_3 : decode cX4_lengthThere 3 = .ok (.istore_n 2, 1) := by decide +kernel
theorem dX4_lengthThere_4 : decode cX4_lengthThere 4 = .ok (.iload_n 2, 1) := by decide +kernel
theorem dX4_lengthThere_5 : decode cX4_lengthThere 5 = .ok (.aload_n 0, 1) := by decide +kernel
theorem dX4_lengthThere_6 : decode cX4_lengthThere 6 = .ok (.getfield 33, 3) := by decide +kernel
theorem dX4_lengthThere_9 : decode cX4_lengthThere 9 = .ok (.if_icmp .ge 26, 3) := by decide +kernel
theorem dX4_lengthThere_12 : decode cX4_lengthThere 12 = .ok (.aload_n 0, 1) := by decide +kernel
theorem dX4_lengthThere_13 : decode cX4_lengthThere 13 = .ok (.iload_n 2, 1) := by decide +kernel
theorem dX4_lengthThere_14 : decode cX4_lengthThere 14 = .ok (.invokevirtual 70, 3) := by decide +kernel
theorem dX4_lengthThere_17 : decode cX4_lengthThere 17 = .ok (.ifCond .eq 12, 3) := by decide +kernel
theorem dX4_lengthThere_20 : decode cX4_lengthThere 20 = .ok (.iload_n 1, 1) := by decide +kernel
theorem dX4_lengthThere_21 : decode cX4_lengthThere 21 = .ok (.aload_n 0, 1) := by decide +kernel
theorem dX4_lengthThere_22 : decode cX4_lengthThere 22 = .ok (.getfield 18, 3) := by decide +kernel
theorem dX4_lengthThere_25 : decode cX4_lengthThere 25 = .ok (.iload_n 2, 1) := by decide +kernel
theorem dX4_lengthThere_26 : decode cX4_lengthThere 26 = .ok (.iaload, 1) := by decide +kernel
theorem dX4_lengthThere_27 : decode cX4_lengthThere 27 = .ok (.iadd, 1) := by decide +kernel
theorem dX4_lengthThere_28 : decode cX4_lengthThere 28 = .ok (.istore_n 1, 1) := by decide +kernel
theorem dX4_lengthThere_29 : decode cX4_lengthThere 29 = .ok (.iinc 2 1, 3) := by decide +kernel
theorem dX4_lengthThere_32 : decode cX4_lengthThere 32 = .ok (.goto (-28), 3) := by decide +kernel
theorem dX4_lengthThere_35 : decode cX4_lengthThere 35 = .ok (.iload_n 1, 1) := by decide +kernel
theorem dX4_lengthThere_36 : decode cX4_lengthThere 36 = .ok (.ireturn, 1) := by decide +kernel
theorem dX4_ironOnes_0 : decode cX4_ironOnes 0 = .ok (.iconst 0, 1) := by decide +kernel
theorem dX4_ironOnes_1 : decode cX4_ironOnes 1 = .ok (.istore_n 1, 1) := by decide +kernel
theorem dX4_ironOnes_2 : decode cX4_ironOnes 2 = .ok (.iconst 0, 1) := by decide +kernel
theorem dX4_ironOnes_3 : decode cX4_ironOnes 3 = .ok (.istore_n 2, 1) := by decide +kernel
theorem dX4_ironOnes_4 : decode cX4_ironOnes 4 = .ok (.iload_n 2, 1) := by decide +kernel
theorem dX4_ironOnes_5 : decode cX4_ironOnes 5 = .ok (.aload_n 0, 1) := by decide +kernel
theorem dX4_ironOnes_6 : decode cX4_ironOnes 6 = .ok (.getfield 33, 3) := by decide +kernel
theorem dX4_ironOnes_9 : decode cX4_ironOnes 9 = .ok (.if_icmp .ge 25, 3) := by decide +kernel
theorem dX4_ironOnes_12 : decode cX4_ironOnes 12 = .ok (.aload_n 0, 1) := by decide +kernel
theorem dX4_ironOnes_13 : decode cX4_ironOnes 13 = .ok (.getfield 15, 3) := by decide +kernel
theorem dX4_ironOnes_16 : decode cX4_ironOnes 16 = .ok (.iload_n 2, 1) := by decide +kernel
theorem dX4_ironOnes_17 : decode cX4_ironOnes 17 = .ok (.iaload, 1) := by decide +kernel
theorem dX4_ironOnes_18 : decode cX4_ironOnes 18 = .ok (.iconst 4, 1) := by decide +kernel
theorem dX4_ironOnes_19 : decode cX4_ironOnes 19 = .ok (.invokestatic 78, 3) := by decide +kernel
theorem dX4_ironOnes_22 : decode cX4_ironOnes 22 = .ok (.ifCond .eq 6, 3) := by decide +kernel
theorem dX4_ironOnes_25 : decode cX4_ironOnes 25 = .ok (.iinc 1 1, 3) := by decide +kernel
theorem dX4_ironOnes_28 : decode cX4_ironOnes 28 = .ok (.iinc 2 1, 3) := by decide +kernel
theorem dX4_ironOnes_31 : decode cX4_ironOnes 31 = .ok (.goto (-27), 3) := by decide +kernel
theorem dX4_ironOnes_34 : decode cX4_ironOnes 34 = .ok (.iload_n 1, 1) := by decide +kernel
theorem dX4_ironOnes_35 : decode cX4_ironOnes 35 = .ok (.ireturn, 1) := by decide +kernel
theorem dX4_act_0 : decode cX4_act 0 = .ok (.iload_n 1, 1) := by decide +kernel
theorem dX4_act_1 : decode cX4_act 1 = .ok (.tableswitch 60 0 3 #[31, 44, 49, 54], 31) := by decide +kernel
theorem dX4_act_32 : decode cX4_act 32 = .ok (.aload_n 0, 1) := by decide +kernel
theorem dX4_act_33 : decode cX4_act 33 = .ok (.invokevirtual 82, 3) := by decide +kernel
theorem dX4_act_36 : decode cX4_act 36 = .ok (.ifCond .eq 7, 3) := by decide +kernel
theorem dX4_act_39 : decode cX4_act 39 = .ok (.iconst 1, 1) := by decide +kernel
theorem dX4_act_40 : decode cX4_act 40 = .ok (.goto 4, 3) := by decide +kernel
theorem dX4_act_43 : decode cX4_act 43 = .ok (.iconst 0, 1) := by decide +kernel
theorem dX4_act_44 : decode cX4_act 44 = .ok (.ireturn, 1) := by decide +kernel
theorem dX4_act_45 : decode cX4_act 45 = .ok (.aload_n 0, 1) := by decide +kernel
theorem dX4_act_46 : decode cX4_act 46 = .ok (.invokevirtual 86, 3) := by decide +kernel
theorem dX4_act_49 : decode cX4_act 49 = .ok (.ireturn, 1) := by decide +kernel
theorem dX4_act_50 : decode cX4_act 50 = .ok (.aload_n 0, 1) := by decide +kernel
theorem dX4_act_51 : decode cX4_act 51 = .ok (.invokevirtual 89, 3) := by decide +kernel
theorem dX4_act_54 : decode cX4_act 54 = .ok (.ireturn, 1) := by decide +kernel
theorem dX4_act_55 : decode cX4_act 55 = .ok (.aload_n 0, 1) := by decide +kernel
theorem dX4_act_56 : decode cX4_act 56 = .ok (.iload_n 2, 1) := by decide +kernel
theorem dX4_act_57 : decode cX4_act 57 = .ok (.invokevirtual 92, 3) := by decide +kernel
theorem dX4_act_60 : decode cX4_act 60 = .ok (.ireturn, 1) := by decide +kernel
theorem dX4_act_61 : decode cX4_act 61 = .ok (.aload_n 0, 1) := by decide +kernel
theorem dX4_act_62 : decode cX4_act 62 = .ok (.iload_n 2, 1) := by decide +kernel
theorem dX4_act_63 : decode cX4_act 63 = .ok (.invokevirtual 96, 3) := by decide +kernel
theorem dX4_act_66 : decode cX4_act 66 = .ok (.ireturn, 1) := by decide +kernel
theorem dX4_roll_0 : decode cX4_roll 0 = .ok (.aload_n 0, 1) := by decide +kernel
theorem dX4_roll_1 : decode cX4_roll 1 = .ok (.getfield 40, 3) := by decide +kernel
theorem dX4_roll_4 : decode cX4_roll 4 = .ok (.istore_n 1, 1) := by decide +kernel
theorem dX4_roll_5 : decode cX4_roll 5 = .ok (.aload_n 0, 1) := by decide +kernel
theorem dX4_roll_6 : decode cX4_roll 6 = .ok (.invokevirtual 63, 3) := by decide +kernel
theorem dX4_roll_9 : decode cX4_roll 9 = .ok (.istore_n 2, 1) := by decide +kernel
theorem dX4_roll_10 : decode cX4_roll 10 = .ok (.aload_n 0, 1) := by decide +kernel
theorem dX4_roll_11 : decode cX4_roll 11 = .ok (.iload_n 1, 1) := by decide +kernel
theorem dX4_roll_12 : decode cX4_roll 12 = .ok (.invokevirtual 70, 3) := by decide +kernel
theorem dX4_roll_15 : decode cX4_roll 15 = .ok (.ifCond .eq 17, 3) := by decide +kernel
theorem dX4_roll_18 : decode cX4_roll 18 = .ok (.aload_n 0, 1) := by decide +kernel
theorem dX4_roll_19 : decode cX4_roll 19 = .ok (.getfield 18, 3) := by decide +kernel
theorem dX4_roll_22 : decode cX4_roll 22 = .ok (.iload_n 1, 1) := by decide +kernel
theorem dX4_roll_23 : decode cX4_roll 23 = .ok (.iaload, 1) := by decide +kernel
theorem dX4_roll_24 : decode cX4_roll 24 = .ok (.iload_n 2, 1) := by decide +kernel
theorem dX4_roll_25 : decode cX4_roll 25 = .ok (.if_icmp .lt 7, 3) := by decide +kernel
theorem dX4_roll_28 : decode cX4_roll 28 = .ok (.iconst 1, 1) := by decide +kernel
theorem dX4_roll_29 : decode cX4_roll 29 = .ok (.goto 4, 3) := by decide +kernel
theorem dX4_roll_32 : decode cX4_roll 32 = .ok (.iconst 0, 1) := by decide +kernel
theorem dX4_roll_33 : decode cX4_roll 33 = .ok (.istore_n 3, 1) := by decide +kernel
theorem dX4_roll_34 : decode cX4_roll 34 = .ok (.iload_n 3, 1) := by decide +kernel
theorem dX4_roll_35 : decode cX4_roll 35 = .ok (.ifCond .eq 49, 3) := by decide +kernel
theorem dX4_roll_38 : decode cX4_roll 38 = .ok (.aload_n 0, 1) := by decide +kernel
theorem dX4_roll_39 : decode cX4_roll 39 = .ok (.getfield 15, 3) := by decide +kernel
theorem dX4_roll_42 : decode cX4_roll 42 = .ok (.iload_n 1, 1) := by decide +kernel
theorem dX4_roll_43 : decode cX4_roll 43 = .ok (.iaload, 1) := by decide +kernel
theorem dX4_roll_44 : decode cX4_roll 44 = .ok (.aload_n 0, 1) := by decide +kernel
theorem dX4_roll_45 : decode cX4_roll 45 = .ok (.getfield 21, 3) := by decide +kernel
theorem dX4_roll_48 : decode cX4_roll 48 = .ok (.iload_n 1, 1) := by decide +kernel
theorem dX4_roll_49 : decode cX4_roll 49 = .ok (.iaload, 1) := by decide +kernel
theorem dX4_roll_50 : decode cX4_roll 50 = .ok (.aload_n 0, 1) := by decide +kernel
theorem dX4_roll_51 : decode cX4_roll 51 = .ok (.getfield 24, 3) := by decide +kernel
theorem dX4_roll_54 : decode cX4_roll 54 = .ok (.iload_n 1, 1) := by decide +kernel
theorem dX4_roll_55 : decode cX4_roll 55 = .ok (.iaload, 1) := by decide +kernel
theorem dX4_roll_56 : decode cX4_roll 56 = .ok (.iload_n 2, 1) := by decide +kernel
theorem dX4_roll_57 : decode cX4_roll 57 = .ok (.aload_n 0, 1) := by decide +kernel
theorem dX4_roll_58 : decode cX4_roll 58 = .ok (.getfield 49, 3) := by decide +kernel
theorem dX4_roll_61 : decode cX4_roll 61 = .ok (.invokestatic 66, 3) := by decide +kernel
theorem dX4_roll_64 : decode cX4_roll 64 = .ok (.iload_n 2, 1) := by decide +kernel
theorem dX4_roll_65 : decode cX4_roll 65 = .ok (.if_icmp .ge 19, 3) := by decide +kernel
theorem dX4_roll_68 : decode cX4_roll 68 = .ok (.aload_n 0, 1) := by decide +kernel
theorem dX4_roll_69 : decode cX4_roll 69 = .ok (.dup, 1) := by decide +kernel
theorem dX4_roll_70 : decode cX4_roll 70 = .ok (.getfield 46, 3) := by decide +kernel
theorem dX4_roll_73 : decode cX4_roll 73 = .ok (.iconst 1, 1) := by decide +kernel
theorem dX4_roll_74 : decode cX4_roll 74 = .ok (.iload_n 1, 1) := by decide +kernel
theorem dX4_roll_75 : decode cX4_roll 75 = .ok (.ishl, 1) := by decide +kernel
theorem dX4_roll_76 : decode cX4_roll 76 = .ok (.iconst (-1), 1) := by decide +kernel
theorem dX4_roll_77 : decode cX4_roll 77 = .ok (.ixor, 1) := by decide +kernel
theorem dX4_roll_78 : decode cX4_roll 78 = .ok (.iand, 1) := by decide +kernel
theorem dX4_roll_79 : decode cX4_roll 79 = .ok (.putfield 46, 3) := by decide +kernel
theorem dX4_roll_82 : decode cX4_roll 82 = .ok (.iconst 0, 1) := by decide +kernel
theorem dX4_roll_83 : decode cX4_roll 83 = .ok (.istore_n 3, 1) := by decide +kernel
theorem dX4_roll_84 : decode cX4_roll 84 = .ok (.iload_n 3, 1) := by decide +kernel
theorem dX4_roll_85 : decode cX4_roll 85 = .ok (.ifCond .eq 39, 3) := by decide +kernel
theorem dX4_roll_88 : decode cX4_roll 88 = .ok (.aload_n 0, 1) := by decide +kernel
theorem dX4_roll_89 : decode cX4_roll 89 = .ok (.getfield 49, 3) := by decide +kernel
theorem dX4_roll_92 : decode cX4_roll 92 = .ok (.ifCond .ne 13, 3) := by decide +kernel
theorem dX4_roll_95 : decode cX4_roll 95 = .ok (.aload_n 0, 1) := by decide +kernel
theorem dX4_roll_96 : decode cX4_roll 96 = .ok (.getfield 43, 3) := by decide +kernel
theorem dX4_roll_99 : decode cX4_roll 99 = .ok (.iconst 1, 1) := by decide +kernel
theorem dX4_roll_100 : decode cX4_roll 100 = .ok (.iand, 1) := by decide +kernel
theorem dX4_roll_101 : decode cX4_roll 101 = .ok (.iconst 1, 1) := by decide +kernel
theorem dX4_roll_102 : decode cX4_roll 102 = .ok (.if_icmp .ne 22, 3) := by decide +kernel
theorem dX4_roll_105 : decode cX4_roll 105 = .ok (.aload_n 0, 1) := by decide +kernel
theorem dX4_roll_106 : decode cX4_roll 106 = .ok (.getfield 24, 3) := by decide +kernel
theorem dX4_roll_109 : decode cX4_roll 109 = .ok (.iload_n 1, 1) := by decide +kernel
theorem dX4_roll_110 : decode cX4_roll 110 = .ok (.bipush 30, 2) := by decide +kernel
theorem dX4_roll_112 : decode cX4_roll 112 = .ok (.aload_n 0, 1) := by decide +kernel
theorem dX4_roll_113 : decode cX4_roll 113 = .ok (.getfield 24, 3) := by decide +kernel
theorem dX4_roll_116 : decode cX4_roll 116 = .ok (.iload_n 1, 1) := by decide +kernel
theorem dX4_roll_117 : decode cX4_roll 117 = .ok (.iaload, 1) := by decide +kernel
theorem dX4_roll_118 : decode cX4_roll 118 = .ok (.iconst 1, 1) := by decide +kernel
theorem dX4_roll_119 : decode cX4_roll 119 = .ok (.iadd, 1) := by decide +kernel
theorem dX4_roll_120 : decode cX4_roll 120 = .ok (.invokestatic 99, 3) := by decide +kernel
theorem dX4_roll_123 : decode cX4_roll 123 = .ok (.iastore, 1) := by decide +kernel
theorem dX4_roll_124 : decode cX4_roll 124 = .ok (.aload_n 0, 1) := by decide +kernel
theorem dX4_roll_125 : decode cX4_roll 125 = .ok (.dup, 1) := by decide +kernel
theorem dX4_roll_126 : decode cX4_roll 126 = .ok (.getfield 43, 3) := by decide +kernel
theorem dX4_roll_129 : decode cX4_roll 129 = .ok (.iconst 1, 1) := by decide +kernel
theorem dX4_roll_130 : decode cX4_roll 130 = .ok (.iadd, 1) := by decide +kernel
theorem dX4_roll_131 : decode cX4_roll 131 = .ok (.putfield 43, 3) := by decide +kernel
theorem dX4_roll_134 : decode cX4_roll 134 = .ok (.aload_n 0, 1) := by decide +kernel
theorem dX4_roll_135 : decode cX4_roll 135 = .ok (.iload_n 1, 1) := by decide +kernel
theorem dX4_roll_136 : decode cX4_roll 136 = .ok (.iconst 1, 1) := by decide +kernel
theorem dX4_roll_137 : decode cX4_roll 137 = .ok (.iadd, 1) := by decide +kernel
theorem dX4_roll_138 : decode cX4_roll 138 = .ok (.aload_n 0, 1) := by decide +kernel
theorem dX4_roll_139 : decode cX4_roll 139 = .ok (.getfield 33, 3) := by decide +kernel
theorem dX4_roll_142 : decode cX4_roll 142 = .ok (.if_icmp .ge 9, 3) := by decide +kernel
theorem dX4_roll_145 : decode cX4_roll 145 = .ok (.iload_n 1, 1) := by decide +kernel
theorem dX4_roll_146 : decode cX4_roll 146 = .ok (.iconst 1, 1) := by decide +kernel
theorem dX4_roll_147 : decode cX4_roll 147 = .ok (.iadd, 1) := by decide +kernel
theorem dX4_roll_148 : decode cX4_roll 148 = .ok (.goto 4, 3) := by decide +kernel
theorem dX4_roll_151 : decode cX4_roll 151 = .ok (.iconst 0, 1) := by decide +kernel
theorem dX4_roll_152 : decode cX4_roll 152 = .ok (.putfield 40, 3) := by decide +kernel
theorem dX4_roll_155 : decode cX4_roll 155 = .ok (.iload_n 3, 1) := by decide +kernel
theorem dX4_roll_156 : decode cX4_roll 156 = .ok (.ifCond .ne 7, 3) := by decide +kernel
theorem dX4_roll_159 : decode cX4_roll 159 = .ok (.iconst 1, 1) := by decide +kernel
theorem dX4_roll_160 : decode cX4_roll 160 = .ok (.goto 4, 3) := by decide +kernel
theorem dX4_roll_163 : decode cX4_roll 163 = .ok (.iconst 0, 1) := by decide +kernel
theorem dX4_roll_164 : decode cX4_roll 164 = .ok (.ireturn, 1) := by decide +kernel
theorem dX4_soakAll_0 : decode cX4_soakAll 0 = .ok (.iconst 0, 1) := by decide +kernel
theorem dX4_soakAll_1 : decode cX4_soakAll 1 = .ok (.istore_n 1, 1) := by decide +kernel
theorem dX4_soakAll_2 : decode cX4_soakAll 2 = .ok (.iconst 0, 1) := by decide +kernel
theorem dX4_soakAll_3 : decode cX4_soakAll 3 = .ok (.istore_n 2, 1) := by decide +kernel
theorem dX4_soakAll_4 : decode cX4_soakAll 4 = .ok (.iload_n 2, 1) := by decide +kernel
theorem dX4_soakAll_5 : decode cX4_soakAll 5 = .ok (.aload_n 0, 1) := by decide +kernel
theorem dX4_soakAll_6 : decode cX4_soakAll 6 = .ok (.getfield 33, 3) := by decide +kernel
theorem dX4_soakAll_9 : decode cX4_soakAll 9 = .ok (.if_icmp .ge 28, 3) := by decide +kernel
theorem dX4_soakAll_12 : decode cX4_soakAll 12 = .ok (.aload_n 0, 1) := by decide +kernel
theorem dX4_soakAll_13 : decode cX4_soakAll 13 = .ok (.getfield 24, 3) := by decide +kernel
theorem dX4_soakAll_16 : decode cX4_soakAll 16 = .ok (.iload_n 2, 1) := by decide +kernel
theorem dX4_soakAll_17 : decode cX4_soakAll 17 = .ok (.dup2, 1) := by decide +kernel
theorem dX4_soakAll_18 : decode cX4_soakAll 18 = .ok (.iaload, 1) := by decide +kernel
theorem dX4_soakAll_19 : decode cX4_soakAll 19 = .ok (.iconst 2, 1) := by decide +kernel
theorem dX4_soakAll_20 : decode cX4_soakAll 20 = .ok (.idiv, 1) := by decide +kernel
theorem dX4_soakAll_21 : decode cX4_soakAll 21 = .ok (.iastore, 1) := by decide +kernel
theorem dX4_soakAll_22 : decode cX4_soakAll 22 = .ok (.iload_n 1, 1) := by decide +kernel
theorem dX4_soakAll_23 : decode cX4_soakAll 23 = .ok (.aload_n 0, 1) := by decide +kernel
theorem dX4_soakAll_24 : decode cX4_soakAll 24 = .ok (.getfield 24, 3) := by decide +kernel
theorem dX4_soakAll_27 : decode cX4_soakAll 27 = .ok (.iload_n 2, 1) := by decide +kernel
theorem dX4_soakAll_28 : decode cX4_soakAll 28 = .ok (.iaload, 1) := by decide +kernel
theorem dX4_soakAll_29 : decode cX4_soakAll 29 = .ok (.iadd, 1) := by decide +kernel
theorem dX4_soakAll_30 : decode cX4_soakAll 30 = .ok (.istore_n 1, 1) := by decide +kernel
theorem dX4_soakAll_31 : decode cX4_soakAll 31 = .ok (.iinc 2 1, 3) := by decide +kernel
theorem dX4_soakAll_34 : decode cX4_soakAll 34 = .ok (.goto (-30), 3) := by decide +kernel
theorem dX4_soakAll_37 : decode cX4_soakAll 37 = .ok (.iload_n 1, 1) := by decide +kernel
theorem dX4_soakAll_38 : decode cX4_soakAll 38 = .ok (.ireturn, 1) := by decide +kernel
theorem dX4_turnWeather_0 : decode cX4_turnWeather 0 = .ok (.aload_n 0, 1) := by decide +kernel
theorem dX4_turnWeather_1 : decode cX4_turnWeather 1 = .ok (.aload_n 0, 1) := by decide +kernel
theorem dX4_turnWeather_2 : decode cX4_turnWeather 2 = .ok (.getfield 49, 3) := by decide +kernel
theorem dX4_turnWeather_5 : decode cX4_turnWeather 5 = .ok (.ifCond .ne 7, 3) := by decide +kernel
theorem dX4_turnWeather_8 : decode cX4_turnWeather 8 = .ok (.iconst 1, 1) := by decide +kernel
theorem dX4_turnWeather_9 : decode cX4_turnWeather 9 = .ok (.goto 4, 3) := by decide +kernel
theorem dX4_turnWeather_12 : decode cX4_turnWeather 12 = .ok (.iconst 0, 1) := by decide +kernel
theorem dX4_turnWeather_13 : decode cX4_turnWeather 13 = .ok (.putfield 49, 3) := by decide +kernel
theorem dX4_turnWeather_16 : decode cX4_turnWeather 16 = .ok (.aload_n 0, 1) := by decide +kernel
theorem dX4_turnWeather_17 : decode cX4_turnWeather 17 = .ok (.getfield 49, 3) := by decide +kernel
theorem dX4_turnWeather_20 : decode cX4_turnWeather 20 = .ok (.ifCond .eq 7, 3) := by decide +kernel
theorem dX4_turnWeather_23 : decode cX4_turnWeather 23 = .ok (.iconst 1, 1) := by decide +kernel
theorem dX4_turnWeather_24 : decode cX4_turnWeather 24 = .ok (.goto 4, 3) := by decide +kernel
theorem dX4_turnWeather_27 : decode cX4_turnWeather 27 = .ok (.iconst 0, 1) := by decide +kernel
theorem dX4_turnWeather_28 : decode cX4_turnWeather 28 = .ok (.ireturn, 1) := by decide +kernel
theorem dX4_knockOut_0 : decode cX4_knockOut 0 = .ok (.aload_n 0, 1) := by decide +kernel
theorem dX4_knockOut_1 : decode cX4_knockOut 1 = .ok (.dup, 1) := by decide +kernel
theorem dX4_knockOut_2 : decode cX4_knockOut 2 = .ok (.getfield 46, 3) := by decide +kernel
theorem dX4_knockOut_5 : decode cX4_knockOut 5 = .ok (.iconst 1, 1) := by decide +kernel
theorem dX4_knockOut_6 : decode cX4_knockOut 6 = .ok (.iload_n 1, 1) := by decide +kernel
theorem dX4_knockOut_7 : decode cX4_knockOut 7 = .ok (.ishl, 1) := by decide +kernel
theorem dX4_knockOut_8 : decode cX4_knockOut 8 = .ok (.iconst (-1), 1) := by decide +kernel
theorem dX4_knockOut_9 : decode cX4_knockOut 9 = .ok (.ixor, 1) := by decide +kernel
theorem dX4_knockOut_10 : decode cX4_knockOut 10 = .ok (.iand, 1) := by decide +kernel
theorem dX4_knockOut_11 : decode cX4_knockOut 11 = .ok (.putfield 46, 3) := by decide +kernel
theorem dX4_knockOut_14 : decode cX4_knockOut 14 = .ok (.aload_n 0, 1) := by decide +kernel
theorem dX4_knockOut_15 : decode cX4_knockOut 15 = .ok (.getfield 24, 3) := by decide +kernel
theorem dX4_knockOut_18 : decode cX4_knockOut 18 = .ok (.iload_n 1, 1) := by decide +kernel
theorem dX4_knockOut_19 : decode cX4_knockOut 19 = .ok (.iaload, 1) := by decide +kernel
theorem dX4_knockOut_20 : decode cX4_knockOut 20 = .ok (.ireturn, 1) := by decide +kernel
theorem dX4_putIn_0 : decode cX4_putIn 0 = .ok (.aload_n 0, 1) := by decide +kernel
theorem dX4_putIn_1 : decode cX4_putIn 1 = .ok (.iload_n 1, 1) := by decide +kernel
theorem dX4_putIn_2 : decode cX4_putIn 2 = .ok (.invokevirtual 70, 3) := by decide +kernel
theorem dX4_putIn_5 : decode cX4_putIn 5 = .ok (.ifCond .eq 7, 3) := by decide +kernel
theorem dX4_putIn_8 : decode cX4_putIn 8 = .ok (.iconst 0, 1) := by decide +kernel
theorem dX4_putIn_9 : decode cX4_putIn 9 = .ok (.goto 4, 3) := by decide +kernel
theorem dX4_putIn_12 : decode cX4_putIn 12 = .ok (.iconst 1, 1) := by decide +kernel
theorem dX4_putIn_13 : decode cX4_putIn 13 = .ok (.istore_n 2, 1) := by decide +kernel
theorem dX4_putIn_14 : decode cX4_putIn 14 = .ok (.aload_n 0, 1) := by decide +kernel
theorem dX4_putIn_15 : decode cX4_putIn 15 = .ok (.dup, 1) := by decide +kernel
theorem dX4_putIn_16 : decode cX4_putIn 16 = .ok (.getfield 46, 3) := by decide +kernel
theorem dX4_putIn_19 : decode cX4_putIn 19 = .ok (.iconst 1, 1) := by decide +kernel
theorem dX4_putIn_20 : decode cX4_putIn 20 = .ok (.iload_n 1, 1) := by decide +kernel
theorem dX4_putIn_21 : decode cX4_putIn 21 = .ok (.ishl, 1) := by decide +kernel
theorem dX4_putIn_22 : decode cX4_putIn 22 = .ok (.ior, 1) := by decide +kernel
theorem dX4_putIn_23 : decode cX4_putIn 23 = .ok (.putfield 46, 3) := by decide +kernel
theorem dX4_putIn_26 : decode cX4_putIn 26 = .ok (.aload_n 0, 1) := by decide +kernel
theorem dX4_putIn_27 : decode cX4_putIn 27 = .ok (.getfield 24, 3) := by decide +kernel
theorem dX4_putIn_30 : decode cX4_putIn 30 = .ok (.iload_n 1, 1) := by decide +kernel
theorem dX4_putIn_31 : decode cX4_putIn 31 = .ok (.iconst 0, 1) := by decide +kernel
theorem dX4_putIn_32 : decode cX4_putIn 32 = .ok (.iastore, 1) := by decide +kernel
theorem dX4_putIn_33 : decode cX4_putIn 33 = .ok (.iload_n 2, 1) := by decide +kernel
theorem dX4_putIn_34 : decode cX4_putIn 34 = .ok (.ireturn, 1) := by decide +kernel
theorem dX4_putInAll_0 : decode cX4_putInAll 0 = .ok (.iconst 0, 1) := by decide +kernel
theorem dX4_putInAll_1 : decode cX4_putInAll 1 = .ok (.istore_n 2, 1) := by decide +kernel
theorem dX4_putInAll_2 : decode cX4_putInAll 2 = .ok (.iload_n 2, 1) := by decide +kernel
theorem dX4_putInAll_3 : decode cX4_putInAll 3 = .ok (.aload_n 0, 1) := by decide +kernel
theorem dX4_putInAll_4 : decode cX4_putInAll 4 = .ok (.getfield 33, 3) := by decide +kernel
theorem dX4_putInAll_7 : decode cX4_putInAll 7 = .ok (.if_icmp .ge 24, 3) := by decide +kernel
theorem dX4_putInAll_10 : decode cX4_putInAll 10 = .ok (.iload_n 1, 1) := by decide +kernel
theorem dX4_putInAll_11 : decode cX4_putInAll 11 = .ok (.iload_n 2, 1) := by decide +kernel
theorem dX4_putInAll_12 : decode cX4_putInAll 12 = .ok (.ishr, 1) := by decide +kernel
theorem dX4_putInAll_13 : decode cX4_putInAll 13 = .ok (.iconst 1, 1) := by decide +kernel
theorem dX4_putInAll_14 : decode cX4_putInAll 14 = .ok (.iand, 1) := by decide +kernel
theorem dX4_putInAll_15 : decode cX4_putInAll 15 = .ok (.iconst 1, 1) := by decide +kernel
theorem dX4_putInAll_16 : decode cX4_putInAll 16 = .ok (.if_icmp .ne 9, 3) := by decide +kernel
theorem dX4_putInAll_19 : decode cX4_putInAll 19 = .ok (.aload_n 0, 1) := by decide +kernel
theorem dX4_putInAll_20 : decode cX4_putInAll 20 = .ok (.iload_n 2, 1) := by decide +kernel
theorem dX4_putInAll_21 : decode cX4_putInAll 21 = .ok (.invokevirtual 96, 3) := by decide +kernel
theorem dX4_putInAll_24 : decode cX4_putInAll 24 = .ok (.pop, 1) := by decide +kernel
theorem dX4_putInAll_25 : decode cX4_putInAll 25 = .ok (.iinc 2 1, 3) := by decide +kernel
theorem dX4_putInAll_28 : decode cX4_putInAll 28 = .ok (.goto (-26), 3) := by decide +kernel
theorem dX4_putInAll_31 : decode cX4_putInAll 31 = .ok (.return_, 1) := by decide +kernel
theorem dX4_changeRound_0 : decode cX4_changeRound 0 = .ok (.aload_n 0, 1) := by decide +kernel
theorem dX4_changeRound_1 : decode cX4_changeRound 1 = .ok (.getfield 15, 3) := by decide +kernel
theorem dX4_changeRound_4 : decode cX4_changeRound 4 = .ok (.iload_n 1, 1) := by decide +kernel
theorem dX4_changeRound_5 : decode cX4_changeRound 5 = .ok (.iload_n 2, 1) := by decide +kernel
theorem dX4_changeRound_6 : decode cX4_changeRound 6 = .ok (.invokestatic 104, 3) := by decide +kernel
theorem dX4_changeRound_9 : decode cX4_changeRound 9 = .ok (.aload_n 0, 1) := by decide +kernel
theorem dX4_changeRound_10 : decode cX4_changeRound 10 = .ok (.getfield 18, 3) := by decide +kernel
theorem dX4_changeRound_13 : decode cX4_changeRound 13 = .ok (.iload_n 1, 1) := by decide +kernel
theorem dX4_changeRound_14 : decode cX4_changeRound 14 = .ok (.iload_n 2, 1) := by decide +kernel
theorem dX4_changeRound_15 : decode cX4_changeRound 15 = .ok (.invokestatic 104, 3) := by decide +kernel
theorem dX4_changeRound_18 : decode cX4_changeRound 18 = .ok (.aload_n 0, 1) := by decide +kernel
theorem dX4_changeRound_19 : decode cX4_changeRound 19 = .ok (.getfield 21, 3) := by decide +kernel
theorem dX4_changeRound_22 : decode cX4_changeRound 22 = .ok (.iload_n 1, 1) := by decide +kernel
theorem dX4_changeRound_23 : decode cX4_changeRound 23 = .ok (.iload_n 2, 1) := by decide +kernel
theorem dX4_changeRound_24 : decode cX4_changeRound 24 = .ok (.invokestatic 104, 3) := by decide +kernel
theorem dX4_changeRound_27 : decode cX4_changeRound 27 = .ok (.aload_n 0, 1) := by decide +kernel
theorem dX4_changeRound_28 : decode cX4_changeRound 28 = .ok (.getfield 24, 3) := by decide +kernel
theorem dX4_changeRound_31 : decode cX4_changeRound 31 = .ok (.iload_n 1, 1) := by decide +kernel
theorem dX4_changeRound_32 : decode cX4_changeRound 32 = .ok (.iload_n 2, 1) := by decide +kernel
theorem dX4_changeRound_33 : decode cX4_changeRound 33 = .ok (.invokestatic 104, 3) := by decide +kernel
theorem dX4_changeRound_36 : decode cX4_changeRound 36 = .ok (.aload_n 0, 1) := by decide +kernel
theorem dX4_changeRound_37 : decode cX4_changeRound 37 = .ok (.iload_n 1, 1) := by decide +kernel
theorem dX4_changeRound_38 : decode cX4_changeRound 38 = .ok (.invokevirtual 70, 3) := by decide +kernel
theorem dX4_changeRound_41 : decode cX4_changeRound 41 = .ok (.aload_n 0, 1) := by decide +kernel
theorem dX4_changeRound_42 : decode cX4_changeRound 42 = .ok (.iload_n 2, 1) := by decide +kernel
theorem dX4_changeRound_43 : decode cX4_changeRound 43 = .ok (.invokevirtual 70, 3) := by decide +kernel
theorem dX4_changeRound_46 : decode cX4_changeRound 46 = .ok (.if_icmp .eq 19, 3) := by decide +kernel
theorem dX4_changeRound_49 : decode cX4_changeRound 49 = .ok (.aload_n 0, 1) := by decide +kernel
theorem dX4_changeRound_50 : decode cX4_changeRound 50 = .ok (.dup, 1) := by decide +kernel
theorem dX4_changeRound_51 : decode cX4_changeRound 51 = .ok (.getfield 46, 3) := by decide +kernel
theorem dX4_changeRound_54 : decode cX4_changeRound 54 = .ok (.iconst 1, 1) := by decide +kernel
theorem dX4_changeRound_55 : decode cX4_changeRound 55 = .ok (.iload_n 1, 1) := by decide +kernel
theorem dX4_changeRound_56 : decode cX4_changeRound 56 = .ok (.ishl, 1) := by decide +kernel
theorem dX4_changeRound_57 : decode cX4_changeRound 57 = .ok (.iconst 1, 1) := by decide +kernel
theorem dX4_changeRound_58 : decode cX4_changeRound 58 = .ok (.iload_n 2, 1) := by decide +kernel
theorem dX4_changeRound_59 : decode cX4_changeRound 59 = .ok (.ishl, 1) := by decide +kernel
theorem dX4_changeRound_60 : decode cX4_changeRound 60 = .ok (.ior, 1) := by decide +kernel
theorem dX4_changeRound_61 : decode cX4_changeRound 61 = .ok (.ixor, 1) := by decide +kernel
theorem dX4_changeRound_62 : decode cX4_changeRound 62 = .ok (.putfield 46, 3) := by decide +kernel
theorem dX4_changeRound_65 : decode cX4_changeRound 65 = .ok (.return_, 1) := by decide +kernel
theorem dX4_swap_0 : decode cX4_swap 0 = .ok (.aload_n 0, 1) := by decide +kernel
theorem dX4_swap_1 : decode cX4_swap 1 = .ok (.iload_n 1, 1) := by decide +kernel
theorem dX4_swap_2 : decode cX4_swap 2 = .ok (.iaload, 1) := by decide +kernel
theorem dX4_swap_3 : decode cX4_swap 3 = .ok (.istore_n 3, 1) := by decide +kernel
theorem dX4_swap_4 : decode cX4_swap 4 = .ok (.aload_n 0, 1) := by decide +kernel
theorem dX4_swap_5 : decode cX4_swap 5 = .ok (.iload_n 1, 1) := by decide +kernel
theorem dX4_swap_6 : decode cX4_swap 6 = .ok (.aload_n 0, 1) := by decide +kernel
theorem dX4_swap_7 : decode cX4_swap 7 = .ok (.iload_n 2, 1) := by decide +kernel
theorem dX4_swap_8 : decode cX4_swap 8 = .ok (.iaload, 1) := by decide +kernel
theorem dX4_swap_9 : decode cX4_swap 9 = .ok (.iastore, 1) := by decide +kernel
theorem dX4_swap_10 : decode cX4_swap 10 = .ok (.aload_n 0, 1) := by decide +kernel
theorem dX4_swap_11 : decode cX4_swap 11 = .ok (.iload_n 2, 1) := by decide +kernel
theorem dX4_swap_12 : decode cX4_swap 12 = .ok (.iload_n 3, 1) := by decide +kernel
theorem dX4_swap_13 : decode cX4_swap 13 = .ok (.iastore, 1) := by decide +kernel
theorem dX4_swap_14 : decode cX4_swap 14 = .ok (.return_, 1) := by decide +kernel
theorem dX4_rollFar_0 : decode cX4_rollFar 0 = .ok (.iconst 0, 1) := by decide +kernel
theorem dX4_rollFar_1 : decode cX4_rollFar 1 = .ok (.istore_n 2, 1) := by decide +kernel
theorem dX4_rollFar_2 : decode cX4_rollFar 2 = .ok (.iconst 0, 1) := by decide +kernel
theorem dX4_rollFar_3 : decode cX4_rollFar 3 = .ok (.istore_n 3, 1) := by decide +kernel
theorem dX4_rollFar_4 : decode cX4_rollFar 4 = .ok (.iload_n 3, 1) := by decide +kernel
theorem dX4_rollFar_5 : decode cX4_rollFar 5 = .ok (.iload_n 1, 1) := by decide +kernel
theorem dX4_rollFar_6 : decode cX4_rollFar 6 = .ok (.if_icmp .ge 26, 3) := by decide +kernel
theorem dX4_rollFar_9 : decode cX4_rollFar 9 = .ok (.aload_n 0, 1) := by decide +kernel
theorem dX4_rollFar_10 : decode cX4_rollFar 10 = .ok (.invokevirtual 108, 3) := by decide +kernel
theorem dX4_rollFar_13 : decode cX4_rollFar 13 = .ok (.ifCond .ne 19, 3) := by decide +kernel
theorem dX4_rollFar_16 : decode cX4_rollFar 16 = .ok (.aload_n 0, 1) := by decide +kernel
theorem dX4_rollFar_17 : decode cX4_rollFar 17 = .ok (.invokevirtual 82, 3) := by decide +kernel
theorem dX4_rollFar_20 : decode cX4_rollFar 20 = .ok (.ifCond .eq 6, 3) := by decide +kernel
theorem dX4_rollFar_23 : decode cX4_rollFar 23 = .ok (.iinc 2 1, 3) := by decide +kernel
theorem dX4_rollFar_26 : decode cX4_rollFar 26 = .ok (.iinc 3 1, 3) := by decide +kernel
theorem dX4_rollFar_29 : decode cX4_rollFar 29 = .ok (.goto (-25), 3) := by decide +kernel
theorem dX4_rollFar_32 : decode cX4_rollFar 32 = .ok (.iload_n 2, 1) := by decide +kernel
theorem dX4_rollFar_33 : decode cX4_rollFar 33 = .ok (.ireturn, 1) := by decide +kernel
theorem dX4_limpsIn_0 : decode cX4_limpsIn 0 = .ok (.iconst 0, 1) := by decide +kernel
theorem dX4_limpsIn_1 : decode cX4_limpsIn 1 = .ok (.istore_n 2, 1) := by decide +kernel
theorem dX4_limpsIn_2 : decode cX4_limpsIn 2 = .ok (.iconst 0, 1) := by decide +kernel
theorem dX4_limpsIn_3 : decode cX4_limpsIn 3 = .ok (.istore_n 3, 1) := by decide +kernel
theorem dX4_limpsIn_4 : decode cX4_limpsIn 4 = .ok (.iload_n 3, 1) := by decide +kernel
theorem dX4_limpsIn_5 : decode cX4_limpsIn 5 = .ok (.iload_n 1, 1) := by decide +kernel
theorem dX4_limpsIn_6 : decode cX4_limpsIn 6 = .ok (.if_icmp .ge 26, 3) := by decide +kernel
theorem dX4_limpsIn_9 : decode cX4_limpsIn 9 = .ok (.aload_n 0, 1) := by decide +kernel
theorem dX4_limpsIn_10 : decode cX4_limpsIn 10 = .ok (.invokevirtual 108, 3) := by decide +kernel
theorem dX4_limpsIn_13 : decode cX4_limpsIn 13 = .ok (.ifCond .ne 10, 3) := by decide +kernel
theorem dX4_limpsIn_16 : decode cX4_limpsIn 16 = .ok (.aload_n 0, 1) := by decide +kernel
theorem dX4_limpsIn_17 : decode cX4_limpsIn 17 = .ok (.invokevirtual 82, 3) := by decide +kernel
theorem dX4_limpsIn_20 : decode cX4_limpsIn 20 = .ok (.ifCond .eq 6, 3) := by decide +kernel
theorem dX4_limpsIn_23 : decode cX4_limpsIn 23 = .ok (.iinc 2 1, 3) := by decide +kernel
theorem dX4_limpsIn_26 : decode cX4_limpsIn 26 = .ok (.iinc 3 1, 3) := by decide +kernel
theorem dX4_limpsIn_29 : decode cX4_limpsIn 29 = .ok (.goto (-25), 3) := by decide +kernel
theorem dX4_limpsIn_32 : decode cX4_limpsIn 32 = .ok (.iload_n 2, 1) := by decide +kernel
theorem dX4_limpsIn_33 : decode cX4_limpsIn 33 = .ok (.ireturn, 1) := by decide +kernel
theorem dX4_limpsAs_0 : decode cX4_limpsAs 0 = .ok (.iconst 0, 1) := by decide +kernel
theorem dX4_limpsAs_1 : decode cX4_limpsAs 1 = .ok (.istore_n 3, 1) := by decide +kernel
theorem dX4_limpsAs_2 : decode cX4_limpsAs 2 = .ok (.iload_n 3, 1) := by decide +kernel
theorem dX4_limpsAs_3 : decode cX4_limpsAs 3 = .ok (.iload_n 2, 1) := by decide +kernel
theorem dX4_limpsAs_4 : decode cX4_limpsAs 4 = .ok (.if_icmp .ge 49, 3) := by decide +kernel
theorem dX4_limpsAs_7 : decode cX4_limpsAs 7 = .ok (.aload_n 0, 1) := by decide +kernel
theorem dX4_limpsAs_8 : decode cX4_limpsAs 8 = .ok (.invokevirtual 108, 3) := by decide +kernel
theorem dX4_limpsAs_11 : decode cX4_limpsAs 11 = .ok (.ifCond .ne 14, 3) := by decide +kernel
theorem dX4_limpsAs_14 : decode cX4_limpsAs 14 = .ok (.aload_n 0, 1) := by decide +kernel
theorem dX4_limpsAs_15 : decode cX4_limpsAs 15 = .ok (.invokevirtual 82, 3) := by decide +kernel
theorem dX4_limpsAs_18 : decode cX4_limpsAs 18 = .ok (.ifCond .eq 7, 3) := by decide +kernel
theorem dX4_limpsAs_21 : decode cX4_limpsAs 21 = .ok (.iconst 1, 1) := by decide +kernel
theorem dX4_limpsAs_22 : decode cX4_limpsAs 22 = .ok (.goto 4, 3) := by decide +kernel
theorem dX4_limpsAs_25 : decode cX4_limpsAs 25 = .ok (.iconst 0, 1) := by decide +kernel
theorem dX4_limpsAs_26 : decode cX4_limpsAs 26 = .ok (.istore 4, 2) := by decide +kernel
theorem dX4_limpsAs_28 : decode cX4_limpsAs 28 = .ok (.iload 4, 2) := by decide +kernel
theorem dX4_limpsAs_30 : decode cX4_limpsAs 30 = .ok (.aload_n 1, 1) := by decide +kernel
theorem dX4_limpsAs_31 : decode cX4_limpsAs 31 = .ok (.iload_n 3, 1) := by decide +kernel
theorem dX4_limpsAs_32 : decode cX4_limpsAs 32 = .ok (.iaload, 1) := by decide +kernel
theorem dX4_limpsAs_33 : decode cX4_limpsAs 33 = .ok (.iconst 1, 1) := by decide +kernel
theorem dX4_limpsAs_34 : decode cX4_limpsAs 34 = .ok (.if_icmp .ne 7, 3) := by decide +kernel
theorem dX4_limpsAs_37 : decode cX4_limpsAs 37 = .ok (.iconst 1, 1) := by decide +kernel
theorem dX4_limpsAs_38 : decode cX4_limpsAs 38 = .ok (.goto 4, 3) := by decide +kernel
theorem dX4_limpsAs_41 : decode cX4_limpsAs 41 = .ok (.iconst 0, 1) := by decide +kernel
theorem dX4_limpsAs_42 : decode cX4_limpsAs 42 = .ok (.if_icmp .eq 5, 3) := by decide +kernel
theorem dX4_limpsAs_45 : decode cX4_limpsAs 45 = .ok (.iconst 0, 1) := by decide +kernel
theorem dX4_limpsAs_46 : decode cX4_limpsAs 46 = .ok (.ireturn, 1) := by decide +kernel
theorem dX4_limpsAs_47 : decode cX4_limpsAs 47 = .ok (.iinc 3 1, 3) := by decide +kernel
theorem dX4_limpsAs_50 : decode cX4_limpsAs 50 = .ok (.goto (-48), 3) := by decide +kernel
theorem dX4_limpsAs_53 : decode cX4_limpsAs 53 = .ok (.iconst 1, 1) := by decide +kernel
theorem dX4_limpsAs_54 : decode cX4_limpsAs 54 = .ok (.ireturn, 1) := by decide +kernel
theorem dX4_reachesGate_0 : decode cX4_reachesGate 0 = .ok (.iconst 0, 1) := by decide +kernel
theorem dX4_reachesGate_1 : decode cX4_reachesGate 1 = .ok (.istore_n 1, 1) := by decide +kernel
theorem dX4_reachesGate_2 : decode cX4_reachesGate 2 = .ok (.iload_n 1, 1) := by decide +kernel
theorem dX4_reachesGate_3 : decode cX4_reachesGate 3 = .ok (.bipush 60, 2) := by decide +kernel
theorem dX4_reachesGate_5 : decode cX4_reachesGate 5 = .ok (.if_icmp .ge 32, 3) := by decide +kernel
theorem dX4_reachesGate_8 : decode cX4_reachesGate 8 = .ok (.aload_n 0, 1) := by decide +kernel
theorem dX4_reachesGate_9 : decode cX4_reachesGate 9 = .ok (.getfield 43, 3) := by decide +kernel
theorem dX4_reachesGate_12 : decode cX4_reachesGate 12 = .ok (.aload_n 0, 1) := by decide +kernel
theorem dX4_reachesGate_13 : decode cX4_reachesGate 13 = .ok (.getfield 37, 3) := by decide +kernel
theorem dX4_reachesGate_16 : decode cX4_reachesGate 16 = .ok (.if_icmp .ge 21, 3) := by decide +kernel
theorem dX4_reachesGate_19 : decode cX4_reachesGate 19 = .ok (.aload_n 0, 1) := by decide +kernel
theorem dX4_reachesGate_20 : decode cX4_reachesGate 20 = .ok (.invokevirtual 108, 3) := by decide +kernel
theorem dX4_reachesGate_23 : decode cX4_reachesGate 23 = .ok (.ifCond .ne 14, 3) := by decide +kernel
theorem dX4_reachesGate_26 : decode cX4_reachesGate 26 = .ok (.aload_n 0, 1) := by decide +kernel
theorem dX4_reachesGate_27 : decode cX4_reachesGate 27 = .ok (.invokevirtual 82, 3) := by decide +kernel
theorem dX4_reachesGate_30 : decode cX4_reachesGate 30 = .ok (.pop, 1) := by decide +kernel
theorem dX4_reachesGate_31 : decode cX4_reachesGate 31 = .ok (.iinc 1 1, 3) := by decide +kernel
theorem dX4_reachesGate_34 : decode cX4_reachesGate 34 = .ok (.goto (-32), 3) := by decide +kernel
theorem dX4_reachesGate_37 : decode cX4_reachesGate 37 = .ok (.aload_n 0, 1) := by decide +kernel
theorem dX4_reachesGate_38 : decode cX4_reachesGate 38 = .ok (.getfield 43, 3) := by decide +kernel
theorem dX4_reachesGate_41 : decode cX4_reachesGate 41 = .ok (.aload_n 0, 1) := by decide +kernel
theorem dX4_reachesGate_42 : decode cX4_reachesGate 42 = .ok (.getfield 37, 3) := by decide +kernel
theorem dX4_reachesGate_45 : decode cX4_reachesGate 45 = .ok (.if_icmp .lt 7, 3) := by decide +kernel
theorem dX4_reachesGate_48 : decode cX4_reachesGate 48 = .ok (.iconst 1, 1) := by decide +kernel
theorem dX4_reachesGate_49 : decode cX4_reachesGate 49 = .ok (.goto 4, 3) := by decide +kernel
theorem dX4_reachesGate_52 : decode cX4_reachesGate 52 = .ok (.iconst 0, 1) := by decide +kernel
theorem dX4_reachesGate_53 : decode cX4_reachesGate 53 = .ok (.ireturn, 1) := by decide +kernel
theorem dX4_mix_0 : decode cX4_mix 0 = .ok (.lload_n 1, 1) := by decide +kernel
theorem dX4_mix_1 : decode cX4_mix 1 = .ok (.lstore_n 3, 1) := by decide +kernel
theorem dX4_mix_2 : decode cX4_mix 2 = .ok (.iconst 0, 1) := by decide +kernel
theorem dX4_mix_3 : decode cX4_mix 3 = .ok (.istore 5, 2) := by decide +kernel
theorem dX4_mix_5 : decode cX4_mix 5 = .ok (.iload 5, 2) := by decide +kernel
theorem dX4_mix_7 : decode cX4_mix 7 = .ok (.bipush 8, 2) := by decide +kernel
theorem dX4_mix_9 : decode cX4_mix 9 = .ok (.if_icmp .ge 24, 3) := by decide +kernel
theorem dX4_mix_12 : decode cX4_mix 12 = .ok (.ldc2_w 111, 3) := by decide +kernel
theorem dX4_mix_15 : decode cX4_mix 15 = .ok (.lload_n 3, 1) := by decide +kernel
theorem dX4_mix_16 : decode cX4_mix 16 = .ok (.lmul, 1) := by decide +kernel
theorem dX4_mix_17 : decode cX4_mix 17 = .ok (.aload_n 0, 1) := by decide +kernel
theorem dX4_mix_18 : decode cX4_mix 18 = .ok (.getfield 9, 3) := by decide +kernel
theorem dX4_mix_21 : decode cX4_mix 21 = .ok (.iload 5, 2) := by decide +kernel
theorem dX4_mix_23 : decode cX4_mix 23 = .ok (.iaload, 1) := by decide +kernel
theorem dX4_mix_24 : decode cX4_mix 24 = .ok (.i2l, 1) := by decide +kernel
theorem dX4_mix_25 : decode cX4_mix 25 = .ok (.ladd, 1) := by decide +kernel
theorem dX4_mix_26 : decode cX4_mix 26 = .ok (.lstore_n 3, 1) := by decide +kernel
theorem dX4_mix_27 : decode cX4_mix 27 = .ok (.iinc 5 1, 3) := by decide +kernel
theorem dX4_mix_30 : decode cX4_mix 30 = .ok (.goto (-25), 3) := by decide +kernel
theorem dX4_mix_33 : decode cX4_mix 33 = .ok (.iconst 0, 1) := by decide +kernel
theorem dX4_mix_34 : decode cX4_mix 34 = .ok (.istore 5, 2) := by decide +kernel
theorem dX4_mix_36 : decode cX4_mix 36 = .ok (.iload 5, 2) := by decide +kernel
theorem dX4_mix_38 : decode cX4_mix 38 = .ok (.aload_n 0, 1) := by decide +kernel
theorem dX4_mix_39 : decode cX4_mix 39 = .ok (.getfield 33, 3) := by decide +kernel
theorem dX4_mix_42 : decode cX4_mix 42 = .ok (.if_icmp .ge 40, 3) := by decide +kernel
theorem dX4_mix_45 : decode cX4_mix 45 = .ok (.iconst 0, 1) := by decide +kernel
theorem dX4_mix_46 : decode cX4_mix 46 = .ok (.istore 6, 2) := by decide +kernel
theorem dX4_mix_48 : decode cX4_mix 48 = .ok (.iload 6, 2) := by decide +kernel
theorem dX4_mix_50 : decode cX4_mix 50 = .ok (.iconst 5, 1) := by decide +kernel
theorem dX4_mix_51 : decode cX4_mix 51 = .ok (.if_icmp .gt 25, 3) := by decide +kernel
theorem dX4_mix_54 : decode cX4_mix 54 = .ok (.ldc2_w 111, 3) := by decide +kernel
theorem dX4_mix_57 : decode cX4_mix 57 = .ok (.lload_n 3, 1) := by decide +kernel
theorem dX4_mix_58 : decode cX4_mix 58 = .ok (.lmul, 1) := by decide +kernel
theorem dX4_mix_59 : decode cX4_mix 59 = .ok (.aload_n 0, 1) := by decide +kernel
theorem dX4_mix_60 : decode cX4_mix 60 = .ok (.iload 5, 2) := by decide +kernel
theorem dX4_mix_62 : decode cX4_mix 62 = .ok (.iload 6, 2) := by decide +kernel
theorem dX4_mix_64 : decode cX4_mix 64 = .ok (.invokevirtual 113, 3) := by decide +kernel
theorem dX4_mix_67 : decode cX4_mix 67 = .ok (.i2l, 1) := by decide +kernel
theorem dX4_mix_68 : decode cX4_mix 68 = .ok (.ladd, 1) := by decide +kernel
theorem dX4_mix_69 : decode cX4_mix 69 = .ok (.lstore_n 3, 1) := by decide +kernel
theorem dX4_mix_70 : decode cX4_mix 70 = .ok (.iinc 6 1, 3) := by decide +kernel
theorem dX4_mix_73 : decode cX4_mix 73 = .ok (.goto (-25), 3) := by decide +kernel
theorem dX4_mix_76 : decode cX4_mix 76 = .ok (.iinc 5 1, 3) := by decide +kernel
theorem dX4_mix_79 : decode cX4_mix 79 = .ok (.goto (-43), 3) := by decide +kernel
theorem dX4_mix_82 : decode cX4_mix 82 = .ok (.lload_n 3, 1) := by decide +kernel
theorem dX4_mix_83 : decode cX4_mix 83 = .ok (.lreturn, 1) := by decide +kernel
theorem dJ6_bitCount_0f7a4_0 : decode cJ6_bitCount_0f7a4 0 = .ok (.iload_n 0, 1) := by decide +kernel
theorem dJ6_bitCount_0f7a4_1 : decode cJ6_bitCount_0f7a4 1 = .ok (.iload_n 0, 1) := by decide +kernel
theorem dJ6_bitCount_0f7a4_2 : decode cJ6_bitCount_0f7a4 2 = .ok (.iconst 1, 1) := by decide +kernel
theorem dJ6_bitCount_0f7a4_3 : decode cJ6_bitCount_0f7a4 3 = .ok (.iushr, 1) := by decide +kernel
theorem dJ6_bitCount_0f7a4_4 : decode cJ6_bitCount_0f7a4 4 = .ok (.ldc_w 265, 3) := by decide +kernel
theorem dJ6_bitCount_0f7a4_7 : decode cJ6_bitCount_0f7a4 7 = .ok (.iand, 1) := by decide +kernel
theorem dJ6_bitCount_0f7a4_8 : decode cJ6_bitCount_0f7a4 8 = .ok (.isub, 1) := by decide +kernel
theorem dJ6_bitCount_0f7a4_9 : decode cJ6_bitCount_0f7a4 9 = .ok (.istore_n 0, 1) := by decide +kernel
theorem dJ6_bitCount_0f7a4_10 : decode cJ6_bitCount_0f7a4 10 = .ok (.iload_n 0, 1) := by decide +kernel
theorem dJ6_bitCount_0f7a4_11 : decode cJ6_bitCount_0f7a4 11 = .ok (.ldc_w 266, 3) := by decide +kernel
theorem dJ6_bitCount_0f7a4_14 : decode cJ6_bitCount_0f7a4 14 = .ok (.iand, 1) := by decide +kernel
theorem dJ6_bitCount_0f7a4_15 : decode cJ6_bitCount_0f7a4 15 = .ok (.iload_n 0, 1) := by decide +kernel
theorem dJ6_bitCount_0f7a4_16 : decode cJ6_bitCount_0f7a4 16 = .ok (.iconst 2, 1) := by decide +kernel
theorem dJ6_bitCount_0f7a4_17 : decode cJ6_bitCount_0f7a4 17 = .ok (.iushr, 1) := by decide +kernel
theorem dJ6_bitCount_0f7a4_18 : decode cJ6_bitCount_0f7a4 18 = .ok (.ldc_w 266, 3) := by decide +kernel
theorem dJ6_bitCount_0f7a4_21 : decode cJ6_bitCount_0f7a4 21 = .ok (.iand, 1) := by decide +kernel
theorem dJ6_bitCount_0f7a4_22 : decode cJ6_bitCount_0f7a4 22 = .ok (.iadd, 1) := by decide +kernel
theorem dJ6_bitCount_0f7a4_23 : decode cJ6_bitCount_0f7a4 23 = .ok (.istore_n 0, 1) := by decide +kernel
theorem dJ6_bitCount_0f7a4_24 : decode cJ6_bitCount_0f7a4 24 = .ok (.iload_n 0, 1) := by decide +kernel
theorem dJ6_bitCount_0f7a4_25 : decode cJ6_bitCount_0f7a4 25 = .ok (.iload_n 0, 1) := by decide +kernel
theorem dJ6_bitCount_0f7a4_26 : decode cJ6_bitCount_0f7a4 26 = .ok (.iconst 4, 1) := by decide +kernel
theorem dJ6_bitCount_0f7a4_27 : decode cJ6_bitCount_0f7a4 27 = .ok (.iushr, 1) := by decide +kernel
theorem dJ6_bitCount_0f7a4_28 : decode cJ6_bitCount_0f7a4 28 = .ok (.iadd, 1) := by decide +kernel
theorem dJ6_bitCount_0f7a4_29 : decode cJ6_bitCount_0f7a4 29 = .ok (.ldc_w 267, 3) := by decide +kernel
theorem dJ6_bitCount_0f7a4_32 : decode cJ6_bitCount_0f7a4 32 = .ok (.iand, 1) := by decide +kernel
theorem dJ6_bitCount_0f7a4_33 : decode cJ6_bitCount_0f7a4 33 = .ok (.istore_n 0, 1) := by decide +kernel
theorem dJ6_bitCount_0f7a4_34 : decode cJ6_bitCount_0f7a4 34 = .ok (.iload_n 0, 1) := by decide +kernel
theorem dJ6_bitCount_0f7a4_35 : decode cJ6_bitCount_0f7a4 35 = .ok (.iload_n 0, 1) := by decide +kernel
theorem dJ6_bitCount_0f7a4_36 : decode cJ6_bitCount_0f7a4 36 = .ok (.bipush 8, 2) := by decide +kernel
theorem dJ6_bitCount_0f7a4_38 : decode cJ6_bitCount_0f7a4 38 = .ok (.iushr, 1) := by decide +kernel
theorem dJ6_bitCount_0f7a4_39 : decode cJ6_bitCount_0f7a4 39 = .ok (.iadd, 1) := by decide +kernel
theorem dJ6_bitCount_0f7a4_40 : decode cJ6_bitCount_0f7a4 40 = .ok (.istore_n 0, 1) := by decide +kernel
theorem dJ6_bitCount_0f7a4_41 : decode cJ6_bitCount_0f7a4 41 = .ok (.iload_n 0, 1) := by decide +kernel
theorem dJ6_bitCount_0f7a4_42 : decode cJ6_bitCount_0f7a4 42 = .ok (.iload_n 0, 1) := by decide +kernel
theorem dJ6_bitCount_0f7a4_43 : decode cJ6_bitCount_0f7a4 43 = .ok (.bipush 16, 2) := by decide +kernel
theorem dJ6_bitCount_0f7a4_45 : decode cJ6_bitCount_0f7a4 45 = .ok (.iushr, 1) := by decide +kernel
theorem dJ6_bitCount_0f7a4_46 : decode cJ6_bitCount_0f7a4 46 = .ok (.iadd, 1) := by decide +kernel
theorem dJ6_bitCount_0f7a4_47 : decode cJ6_bitCount_0f7a4 47 = .ok (.istore_n 0, 1) := by decide +kernel
theorem dJ6_bitCount_0f7a4_48 : decode cJ6_bitCount_0f7a4 48 = .ok (.iload_n 0, 1) := by decide +kernel
theorem dJ6_bitCount_0f7a4_49 : decode cJ6_bitCount_0f7a4 49 = .ok (.bipush 63, 2) := by decide +kernel
theorem dJ6_bitCount_0f7a4_51 : decode cJ6_bitCount_0f7a4 51 = .ok (.iand, 1) := by decide +kernel
theorem dJ6_bitCount_0f7a4_52 : decode cJ6_bitCount_0f7a4 52 = .ok (.ireturn, 1) := by decide +kernel
theorem dJ7_fill_53178_0 : decode cJ7_fill_53178 0 = .ok (.iconst 0, 1) := by decide +kernel
theorem dJ7_fill_53178_1 : decode cJ7_fill_53178 1 = .ok (.istore_n 2, 1) := by decide +kernel
theorem dJ7_fill_53178_2 : decode cJ7_fill_53178 2 = .ok (.aload_n 0, 1) := by decide +kernel
theorem dJ7_fill_53178_3 : decode cJ7_fill_53178 3 = .ok (.arraylength, 1) := by decide +kernel
theorem dJ7_fill_53178_4 : decode cJ7_fill_53178 4 = .ok (.istore_n 3, 1) := by decide +kernel
theorem dJ7_fill_53178_5 : decode cJ7_fill_53178 5 = .ok (.iload_n 2, 1) := by decide +kernel
theorem dJ7_fill_53178_6 : decode cJ7_fill_53178 6 = .ok (.iload_n 3, 1) := by decide +kernel
theorem dJ7_fill_53178_7 : decode cJ7_fill_53178 7 = .ok (.if_icmp .ge 13, 3) := by decide +kernel
theorem dJ7_fill_53178_10 : decode cJ7_fill_53178 10 = .ok (.aload_n 0, 1) := by decide +kernel
theorem dJ7_fill_53178_11 : decode cJ7_fill_53178 11 = .ok (.iload_n 2, 1) := by decide +kernel
theorem dJ7_fill_53178_12 : decode cJ7_fill_53178 12 = .ok (.iload_n 1, 1) := by decide +kernel
theorem dJ7_fill_53178_13 : decode cJ7_fill_53178 13 = .ok (.iastore, 1) := by decide +kernel
theorem dJ7_fill_53178_14 : decode cJ7_fill_53178 14 = .ok (.iinc 2 1, 3) := by decide +kernel
theorem dJ7_fill_53178_17 : decode cJ7_fill_53178 17 = .ok (.goto (-12), 3) := by decide +kernel
theorem dJ7_fill_53178_20 : decode cJ7_fill_53178 20 = .ok (.return_, 1) := by decide +kernel
theorem dJ9_max_7cf53_0 : decode cJ9_max_7cf53 0 = .ok (.iload_n 0, 1) := by decide +kernel
theorem dJ9_max_7cf53_1 : decode cJ9_max_7cf53 1 = .ok (.iload_n 1, 1) := by decide +kernel
theorem dJ9_max_7cf53_2 : decode cJ9_max_7cf53 2 = .ok (.if_icmp .lt 7, 3) := by decide +kernel
theorem dJ9_max_7cf53_5 : decode cJ9_max_7cf53 5 = .ok (.iload_n 0, 1) := by decide +kernel
theorem dJ9_max_7cf53_6 : decode cJ9_max_7cf53 6 = .ok (.goto 4, 3) := by decide +kernel
theorem dJ9_max_7cf53_9 : decode cJ9_max_7cf53 9 = .ok (.iload_n 1, 1) := by decide +kernel
theorem dJ9_max_7cf53_10 : decode cJ9_max_7cf53 10 = .ok (.ireturn, 1) := by decide +kernel
theorem dJ9_min_7cf53_0 : decode cJ9_min_7cf53 0 = .ok (.iload_n 0, 1) := by decide +kernel
theorem dJ9_min_7cf53_1 : decode cJ9_min_7cf53 1 = .ok (.iload_n 1, 1) := by decide +kernel
theorem dJ9_min_7cf53_2 : decode cJ9_min_7cf53 2 = .ok (.if_icmp .gt 7, 3) := by decide +kernel
theorem dJ9_min_7cf53_5 : decode cJ9_min_7cf53 5 = .ok (.iload_n 0, 1) := by decide +kernel
theorem dJ9_min_7cf53_6 : decode cJ9_min_7cf53 6 = .ok (.goto 4, 3) := by decide +kernel
theorem dJ9_min_7cf53_9 : decode cJ9_min_7cf53 9 = .ok (.iload_n 1, 1) := by decide +kernel
theorem dJ9_min_7cf53_10 : decode cJ9_min_7cf53 10 = .ok (.ireturn, 1) := by decide +kernel
