/-! decode rows -/
theorem dX0_init_0 : decode cX0_init 0 = .ok (.aload_n 0, 1) := by decide +kernel
theorem dX0_init_1 : decode cX0_init 1 = .ok (.invokespecial 3, 3) := by decide +kernel
theorem dX0_init_4 : decode cX0_init 4 = .ok (.aload_n 0, 1) := by decide +kernel
theorem dX0_init_5 : decode cX0_init 5 = .ok (.bipush 16, 2) := by decide +kernel
theorem dX0_init_7 : decode cX0_init 7 = .ok (.newarray .int, 2) := by decide +kernel
theorem dX0_init_9 : decode cX0_init 9 = .ok (.putfield 11, 3) := by decide +kernel
theorem dX0_init_12 : decode cX0_init 12 = .ok (.aload_n 0, 1) := by decide +kernel
theorem dX0_init_13 : decode cX0_init 13 = .ok (.sipush 511, 3) := by decide +kernel
theorem dX0_init_16 : decode cX0_init 16 = .ok (.newarray .int, 2) := by decide +kernel
theorem dX0_init_18 : decode cX0_init 18 = .ok (.putfield 17, 3) := by decide +kernel
theorem dX0_init_21 : decode cX0_init 21 = .ok (.aload_n 0, 1) := by decide +kernel
theorem dX0_init_22 : decode cX0_init 22 = .ok (.bipush 127, 2) := by decide +kernel
theorem dX0_init_24 : decode cX0_init 24 = .ok (.newarray .long, 2) := by decide +kernel
theorem dX0_init_26 : decode cX0_init 26 = .ok (.putfield 20, 3) := by decide +kernel
theorem dX0_init_29 : decode cX0_init 29 = .ok (.return_, 1) := by decide +kernel
theorem dX0_findWaysTo_0 : decode cX0_findWaysTo 0 = .ok (.iconst 0, 1) := by decide +kernel
theorem dX0_findWaysTo_1 : decode cX0_findWaysTo 1 = .ok (.istore_n 3, 1) := by decide +kernel
theorem dX0_findWaysTo_2 : decode cX0_findWaysTo 2 = .ok (.iload_n 3, 1) := by decide +kernel
theorem dX0_findWaysTo_3 : decode cX0_findWaysTo 3 = .ok (.aload_n 0, 1) := by decide +kernel
theorem dX0_findWaysTo_4 : decode cX0_findWaysTo 4 = .ok (.getfield 11, 3) := by decide +kernel
theorem dX0_findWaysTo_7 : decode cX0_findWaysTo 7 = .ok (.arraylength, 1) := by decide +kernel
theorem dX0_findWaysTo_8 : decode cX0_findWaysTo 8 = .ok (.if_icmp .ge 26, 3) := by decide +kernel
theorem dX0_findWaysTo_11 : decode cX0_findWaysTo 11 = .ok (.aload_n 0, 1) := by decide +kernel
theorem dX0_findWaysTo_12 : decode cX0_findWaysTo 12 = .ok (.getfield 11, 3) := by decide +kernel
theorem dX0_findWaysTo_15 : decode cX0_findWaysTo 15 = .ok (.iload_n 3, 1) := by decide +kernel
theorem dX0_findWaysTo_16 : decode cX0_findWaysTo 16 = .ok (.iload_n 3, 1) := by decide +kernel
theorem dX0_findWaysTo_17 : decode cX0_findWaysTo 17 = .ok (.iload_n 1, 1) := by decide +kernel
theorem dX0_findWaysTo_18 : decode cX0_findWaysTo 18 = .ok (.if_icmp .ne 7, 3) := by decide +kernel
theorem dX0_findWaysTo_21 : decode cX0_findWaysTo 21 = .ok (.iconst 0, 1) := by decide +kernel
theorem dX0_findWaysTo_22 : decode cX0_findWaysTo 22 = .ok (.goto 5, 3) := by decide +kernel
theorem dX0_findWaysTo_25 : decode cX0_findWaysTo 25 = .ok (.bipush (-4), 2) := by decide +kernel
theorem dX0_findWaysTo_27 : decode cX0_findWaysTo 27 = .ok (.iastore, 1) := by decide +kernel
theorem dX0_findWaysTo_28 : decode cX0_findWaysTo 28 = .ok (.iinc 3 1, 3) := by decide +kernel
theorem dX0_findWaysTo_31 : decode cX0_findWaysTo 31 = .ok (.goto (-29), 3) := by decide +kernel
theorem dX0_findWaysTo_34 : decode cX0_findWaysTo 34 = .ok (.iconst 1, 1) := by decide +kernel
theorem dX0_findWaysTo_35 : decode cX0_findWaysTo 35 = .ok (.istore_n 3, 1) := by decide +kernel
theorem dX0_findWaysTo_36 : decode cX0_findWaysTo 36 = .ok (.iload_n 3, 1) := by decide +kernel
theorem dX0_findWaysTo_37 : decode cX0_findWaysTo 37 = .ok (.iload_n 2, 1) := by decide +kernel
theorem dX0_findWaysTo_38 : decode cX0_findWaysTo 38 = .ok (.if_icmp .ge 67, 3) := by decide +kernel
theorem dX0_findWaysTo_41 : decode cX0_findWaysTo 41 = .ok (.iconst 0, 1) := by decide +kernel
theorem dX0_findWaysTo_42 : decode cX0_findWaysTo 42 = .ok (.istore 4, 2) := by decide +kernel
theorem dX0_findWaysTo_44 : decode cX0_findWaysTo 44 = .ok (.iload 4, 2) := by decide +kernel
theorem dX0_findWaysTo_46 : decode cX0_findWaysTo 46 = .ok (.iload_n 2, 1) := by decide +kernel
theorem dX0_findWaysTo_47 : decode cX0_findWaysTo 47 = .ok (.if_icmp .ge 52, 3) := by decide +kernel
theorem dX0_findWaysTo_50 : decode cX0_findWaysTo 50 = .ok (.iload 4, 2) := by decide +kernel
theorem dX0_findWaysTo_52 : decode cX0_findWaysTo 52 = .ok (.aload_n 0, 1) := by decide +kernel
theorem dX0_findWaysTo_53 : decode cX0_findWaysTo 53 = .ok (.getfield 11, 3) := by decide +kernel
theorem dX0_findWaysTo_56 : decode cX0_findWaysTo 56 = .ok (.arraylength, 1) := by decide +kernel
theorem dX0_findWaysTo_57 : decode cX0_findWaysTo 57 = .ok (.if_icmp .ge 42, 3) := by decide +kernel
theorem dX0_findWaysTo_60 : decode cX0_findWaysTo 60 = .ok (.aload_n 0, 1) := by decide +kernel
theorem dX0_findWaysTo_61 : decode cX0_findWaysTo 61 = .ok (.getfield 11, 3) := by decide +kernel
theorem dX0_findWaysTo_64 : decode cX0_findWaysTo 64 = .ok (.iload 4, 2) := by decide +kernel
theorem dX0_findWaysTo_66 : decode cX0_findWaysTo 66 = .ok (.iaload, 1) := by decide +kernel
theorem dX0_findWaysTo_67 : decode cX0_findWaysTo 67 = .ok (.bipush (-4), 2) := by decide +kernel
theorem dX0_findWaysTo_69 : decode cX0_findWaysTo 69 = .ok (.if_icmp .ne 24, 3) := by decide +kernel
theorem dX0_findWaysTo_72 : decode cX0_findWaysTo 72 = .ok (.aload_n 0, 1) := by decide +kernel
theorem dX0_findWaysTo_73 : decode cX0_findWaysTo 73 = .ok (.iload 4, 2) := by decide +kernel
theorem dX0_findWaysTo_75 : decode cX0_findWaysTo 75 = .ok (.iload_n 3, 1) := by decide +kernel
theorem dX0_findWaysTo_76 : decode cX0_findWaysTo 76 = .ok (.iconst 1, 1) := by decide +kernel
theorem dX0_findWaysTo_77 : decode cX0_findWaysTo 77 = .ok (.isub, 1) := by decide +kernel
theorem dX0_findWaysTo_78 : decode cX0_findWaysTo 78 = .ok (.iload_n 2, 1) := by decide +kernel
theorem dX0_findWaysTo_79 : decode cX0_findWaysTo 79 = .ok (.invokevirtual 24, 3) := by decide +kernel
theorem dX0_findWaysTo_82 : decode cX0_findWaysTo 82 = .ok (.ifCond .eq 11, 3) := by decide +kernel
theorem dX0_findWaysTo_85 : decode cX0_findWaysTo 85 = .ok (.aload_n 0, 1) := by decide +kernel
theorem dX0_findWaysTo_86 : decode cX0_findWaysTo 86 = .ok (.getfield 11, 3) := by decide +kernel
theorem dX0_findWaysTo_89 : decode cX0_findWaysTo 89 = .ok (.iload 4, 2) := by decide +kernel
theorem dX0_findWaysTo_91 : decode cX0_findWaysTo 91 = .ok (.iload_n 3, 1) := by decide +kernel
theorem dX0_findWaysTo_92 : decode cX0_findWaysTo 92 = .ok (.iastore, 1) := by decide +kernel
theorem dX0_findWaysTo_93 : decode cX0_findWaysTo 93 = .ok (.iinc 4 1, 3) := by decide +kernel
theorem dX0_findWaysTo_96 : decode cX0_findWaysTo 96 = .ok (.goto (-52), 3) := by decide +kernel
theorem dX0_findWaysTo_99 : decode cX0_findWaysTo 99 = .ok (.iinc 3 1, 3) := by decide +kernel
theorem dX0_findWaysTo_102 : decode cX0_findWaysTo 102 = .ok (.goto (-66), 3) := by decide +kernel
theorem dX0_findWaysTo_105 : decode cX0_findWaysTo 105 = .ok (.return_, 1) := by decide +kernel
theorem dX0_fewestFrom_0 : decode cX0_fewestFrom 0 = .ok (.iload_n 1, 1) := by decide +kernel
theorem dX0_fewestFrom_1 : decode cX0_fewestFrom 1 = .ok (.ifCond .lt 21, 3) := by decide +kernel
theorem dX0_fewestFrom_4 : decode cX0_fewestFrom 4 = .ok (.iload_n 1, 1) := by decide +kernel
theorem dX0_fewestFrom_5 : decode cX0_fewestFrom 5 = .ok (.aload_n 0, 1) := by decide +kernel
theorem dX0_fewestFrom_6 : decode cX0_fewestFrom 6 = .ok (.getfield 11, 3) := by decide +kernel
theorem dX0_fewestFrom_9 : decode cX0_fewestFrom 9 = .ok (.arraylength, 1) := by decide +kernel
theorem dX0_fewestFrom_10 : decode cX0_fewestFrom 10 = .ok (.if_icmp .ge 12, 3) := by decide +kernel
theorem dX0_fewestFrom_13 : decode cX0_fewestFrom 13 = .ok (.aload_n 0, 1) := by decide +kernel
theorem dX0_fewestFrom_14 : decode cX0_fewestFrom 14 = .ok (.getfield 11, 3) := by decide +kernel
theorem dX0_fewestFrom_17 : decode cX0_fewestFrom 17 = .ok (.iload_n 1, 1) := by decide +kernel
theorem dX0_fewestFrom_18 : decode cX0_fewestFrom 18 = .ok (.iaload, 1) := by decide +kernel
theorem dX0_fewestFrom_19 : decode cX0_fewestFrom 19 = .ok (.goto 5, 3) := by decide +kernel
theorem dX0_fewestFrom_22 : decode cX0_fewestFrom 22 = .ok (.bipush (-4), 2) := by decide +kernel
theorem dX0_fewestFrom_24 : decode cX0_fewestFrom 24 = .ok (.ireturn, 1) := by decide +kernel
theorem dX0_kindOnWay_0 : decode cX0_kindOnWay 0 = .ok (.iload_n 1, 1) := by decide +kernel
theorem dX0_kindOnWay_1 : decode cX0_kindOnWay 1 = .ok (.istore 4, 2) := by decide +kernel
theorem dX0_kindOnWay_3 : decode cX0_kindOnWay 3 = .ok (.aload_n 0, 1) := by decide +kernel
theorem dX0_kindOnWay_4 : decode cX0_kindOnWay 4 = .ok (.iload_n 1, 1) := by decide +kernel
theorem dX0_kindOnWay_5 : decode cX0_kindOnWay 5 = .ok (.invokevirtual 28, 3) := by decide +kernel
theorem dX0_kindOnWay_8 : decode cX0_kindOnWay 8 = .ok (.istore 5, 2) := by decide +kernel
theorem dX0_kindOnWay_10 : decode cX0_kindOnWay 10 = .ok (.iload_n 2, 1) := by decide +kernel
theorem dX0_kindOnWay_11 : decode cX0_kindOnWay 11 = .ok (.iload 5, 2) := by decide +kernel
theorem dX0_kindOnWay_13 : decode cX0_kindOnWay 13 = .ok (.if_icmp .lt 6, 3) := by decide +kernel
theorem dX0_kindOnWay_16 : decode cX0_kindOnWay 16 = .ok (.bipush (-4), 2) := by decide +kernel
theorem dX0_kindOnWay_18 : decode cX0_kindOnWay 18 = .ok (.ireturn, 1) := by decide +kernel
theorem dX0_kindOnWay_19 : decode cX0_kindOnWay 19 = .ok (.iconst 0, 1) := by decide +kernel
theorem dX0_kindOnWay_20 : decode cX0_kindOnWay 20 = .ok (.istore 6, 2) := by decide +kernel
theorem dX0_kindOnWay_22 : decode cX0_kindOnWay 22 = .ok (.iload 6, 2) := by decide +kernel
theorem dX0_kindOnWay_24 : decode cX0_kindOnWay 24 = .ok (.iload_n 2, 1) := by decide +kernel
theorem dX0_kindOnWay_25 : decode cX0_kindOnWay 25 = .ok (.if_icmp .ge 31, 3) := by decide +kernel
theorem dX0_kindOnWay_28 : decode cX0_kindOnWay 28 = .ok (.iload 6, 2) := by decide +kernel
theorem dX0_kindOnWay_30 : decode cX0_kindOnWay 30 = .ok (.iload 5, 2) := by decide +kernel
theorem dX0_kindOnWay_32 : decode cX0_kindOnWay 32 = .ok (.if_icmp .ge 24, 3) := by decide +kernel
theorem dX0_kindOnWay_35 : decode cX0_kindOnWay 35 = .ok (.aload_n 0, 1) := by decide +kernel
theorem dX0_kindOnWay_36 : decode cX0_kindOnWay 36 = .ok (.iload 4, 2) := by decide +kernel
theorem dX0_kindOnWay_38 : decode cX0_kindOnWay 38 = .ok (.iload_n 3, 1) := by decide +kernel
theorem dX0_kindOnWay_39 : decode cX0_kindOnWay 39 = .ok (.invokevirtual 32, 3) := by decide +kernel
theorem dX0_kindOnWay_42 : decode cX0_kindOnWay 42 = .ok (.iload_n 3, 1) := by decide +kernel
theorem dX0_kindOnWay_43 : decode cX0_kindOnWay 43 = .ok (.iload 4, 2) := by decide +kernel
theorem dX0_kindOnWay_45 : decode cX0_kindOnWay 45 = .ok (.invokestatic 36, 3) := by decide +kernel
theorem dX0_kindOnWay_48 : decode cX0_kindOnWay 48 = .ok (.istore 4, 2) := by decide +kernel
theorem dX0_kindOnWay_50 : decode cX0_kindOnWay 50 = .ok (.iinc 6 1, 3) := by decide +kernel
theorem dX0_kindOnWay_53 : decode cX0_kindOnWay 53 = .ok (.goto (-31), 3) := by decide +kernel
theorem dX0_kindOnWay_56 : decode cX0_kindOnWay 56 = .ok (.aload_n 0, 1) := by decide +kernel
theorem dX0_kindOnWay_57 : decode cX0_kindOnWay 57 = .ok (.iload 4, 2) := by decide +kernel
theorem dX0_kindOnWay_59 : decode cX0_kindOnWay 59 = .ok (.iload_n 3, 1) := by decide +kernel
theorem dX0_kindOnWay_60 : decode cX0_kindOnWay 60 = .ok (.invokevirtual 32, 3) := by decide +kernel
theorem dX0_kindOnWay_63 : decode cX0_kindOnWay 63 = .ok (.ireturn, 1) := by decide +kernel
theorem dX0_fewestTillNeighbours_0 : decode cX0_fewestTillNeighbours 0 = .ok (.iconst 0, 1) := by decide +kernel
theorem dX0_fewestTillNeighbours_1 : decode cX0_fewestTillNeighbours 1 = .ok (.istore 4, 2) := by decide +kernel
theorem dX0_fewestTillNeighbours_3 : decode cX0_fewestTillNeighbours 3 = .ok (.iload 4, 2) := by decide +kernel
theorem dX0_fewestTillNeighbours_5 : decode cX0_fewestTillNeighbours 5 = .ok (.aload_n 0, 1) := by decide +kernel
theorem dX0_fewestTillNeighbours_6 : decode cX0_fewestTillNeighbours 6 = .ok (.getfield 17, 3) := by decide +kernel
theorem dX0_fewestTillNeighbours_9 : decode cX0_fewestTillNeighbours 9 = .ok (.arraylength, 1) := by decide +kernel
theorem dX0_fewestTillNeighbours_10 : decode cX0_fewestTillNeighbours 10 = .ok (.if_icmp .ge 79, 3) := by decide +kernel
theorem dX0_fewestTillNeighbours_13 : decode cX0_fewestTillNeighbours 13 = .ok (.iload 4, 2) := by decide +kernel
theorem dX0_fewestTillNeighbours_15 : decode cX0_fewestTillNeighbours 15 = .ok (.ifCond .ne 12, 3) := by decide +kernel
theorem dX0_fewestTillNeighbours_18 : decode cX0_fewestTillNeighbours 18 = .ok (.bipush 16, 2) := by decide +kernel
theorem dX0_fewestTillNeighbours_20 : decode cX0_fewestTillNeighbours 20 = .ok (.iload_n 1, 1) := by decide +kernel
theorem dX0_fewestTillNeighbours_21 : decode cX0_fewestTillNeighbours 21 = .ok (.imul, 1) := by decide +kernel
theorem dX0_fewestTillNeighbours_22 : decode cX0_fewestTillNeighbours 22 = .ok (.iload_n 2, 1) := by decide +kernel
theorem dX0_fewestTillNeighbours_23 : decode cX0_fewestTillNeighbours 23 = .ok (.iadd, 1) := by decide +kernel
theorem dX0_fewestTillNeighbours_24 : decode cX0_fewestTillNeighbours 24 = .ok (.goto 24, 3) := by decide +kernel
theorem dX0_fewestTillNeighbours_27 : decode cX0_fewestTillNeighbours 27 = .ok (.aload_n 0, 1) := by decide +kernel
theorem dX0_fewestTillNeighbours_28 : decode cX0_fewestTillNeighbours 28 = .ok (.getfield 17, 3) := by decide +kernel
theorem dX0_fewestTillNeighbours_31 : decode cX0_fewestTillNeighbours 31 = .ok (.iload 4, 2) := by decide +kernel
theorem dX0_fewestTillNeighbours_33 : decode cX0_fewestTillNeighbours 33 = .ok (.iconst 1, 1) := by decide +kernel
theorem dX0_fewestTillNeighbours_34 : decode cX0_fewestTillNeighbours 34 = .ok (.isub, 1) := by decide +kernel
theorem dX0_fewestTillNeighbours_35 : decode cX0_fewestTillNeighbours 35 = .ok (.iconst 2, 1) := by decide +kernel
theorem dX0_fewestTillNeighbours_36 : decode cX0_fewestTillNeighbours 36 = .ok (.idiv, 1) := by decide +kernel
theorem dX0_fewestTillNeighbours_37 : decode cX0_fewestTillNeighbours 37 = .ok (.iaload, 1) := by decide +kernel
theorem dX0_fewestTillNeighbours_38 : decode cX0_fewestTillNeighbours 38 = .ok (.iload 4, 2) := by decide +kernel
theorem dX0_fewestTillNeighbours_40 : decode cX0_fewestTillNeighbours 40 = .ok (.iconst 1, 1) := by decide +kernel
theorem dX0_fewestTillNeighbours_41 : decode cX0_fewestTillNeighbours 41 = .ok (.isub, 1) := by decide +kernel
theorem dX0_fewestTillNeighbours_42 : decode cX0_fewestTillNeighbours 42 = .ok (.iconst 2, 1) := by decide +kernel
theorem dX0_fewestTillNeighbours_43 : decode cX0_fewestTillNeighbours 43 = .ok (.irem, 1) := by decide +kernel
theorem dX0_fewestTillNeighbours_44 : decode cX0_fewestTillNeighbours 44 = .ok (.iload_n 3, 1) := by decide +kernel
theorem dX0_fewestTillNeighbours_45 : decode cX0_fewestTillNeighbours 45 = .ok (.invokestatic 42, 3) := by decide +kernel
theorem dX0_fewestTillNeighbours_48 : decode cX0_fewestTillNeighbours 48 = .ok (.istore 5, 2) := by decide +kernel
theorem dX0_fewestTillNeighbours_50 : decode cX0_fewestTillNeighbours 50 = .ok (.aload_n 0, 1) := by decide +kernel
theorem dX0_fewestTillNeighbours_51 : decode cX0_fewestTillNeighbours 51 = .ok (.getfield 17, 3) := by decide +kernel
theorem dX0_fewestTillNeighbours_54 : decode cX0_fewestTillNeighbours 54 = .ok (.iload 4, 2) := by decide +kernel
theorem dX0_fewestTillNeighbours_56 : decode cX0_fewestTillNeighbours 56 = .ok (.iload 5, 2) := by decide +kernel
theorem dX0_fewestTillNeighbours_58 : decode cX0_fewestTillNeighbours 58 = .ok (.iastore, 1) := by decide +kernel
theorem dX0_fewestTillNeighbours_59 : decode cX0_fewestTillNeighbours 59 = .ok (.iload 5, 2) := by decide +kernel
theorem dX0_fewestTillNeighbours_61 : decode cX0_fewestTillNeighbours 61 = .ok (.bipush 16, 2) := by decide +kernel
theorem dX0_fewestTillNeighbours_63 : decode cX0_fewestTillNeighbours 63 = .ok (.idiv, 1) := by decide +kernel
theorem dX0_fewestTillNeighbours_64 : decode cX0_fewestTillNeighbours 64 = .ok (.iload 5, 2) := by decide +kernel
theorem dX0_fewestTillNeighbours_66 : decode cX0_fewestTillNeighbours 66 = .ok (.bipush 16, 2) := by decide +kernel
theorem dX0_fewestTillNeighbours_68 : decode cX0_fewestTillNeighbours 68 = .ok (.irem, 1) := by decide +kernel
theorem dX0_fewestTillNeighbours_69 : decode cX0_fewestTillNeighbours 69 = .ok (.isub, 1) := by decide +kernel
theorem dX0_fewestTillNeighbours_70 : decode cX0_fewestTillNeighbours 70 = .ok (.invokestatic 45, 3) := by decide +kernel
theorem dX0_fewestTillNeighbours_73 : decode cX0_fewestTillNeighbours 73 = .ok (.iconst 1, 1) := by decide +kernel
theorem dX0_fewestTillNeighbours_74 : decode cX0_fewestTillNeighbours 74 = .ok (.if_icmp .ne 9, 3) := by decide +kernel
theorem dX0_fewestTillNeighbours_77 : decode cX0_fewestTillNeighbours 77 = .ok (.iload 4, 2) := by decide +kernel
theorem dX0_fewestTillNeighbours_79 : decode cX0_fewestTillNeighbours 79 = .ok (.invokestatic 50, 3) := by decide +kernel
theorem dX0_fewestTillNeighbours_82 : decode cX0_fewestTillNeighbours 82 = .ok (.ireturn, 1) := by decide +kernel
theorem dX0_fewestTillNeighbours_83 : decode cX0_fewestTillNeighbours 83 = .ok (.iinc 4 1, 3) := by decide +kernel
theorem dX0_fewestTillNeighbours_86 : decode cX0_fewestTillNeighbours 86 = .ok (.goto (-83), 3) := by decide +kernel
theorem dX0_fewestTillNeighbours_89 : decode cX0_fewestTillNeighbours 89 = .ok (.bipush (-4), 2) := by decide +kernel
theorem dX0_fewestTillNeighbours_91 : decode cX0_fewestTillNeighbours 91 = .ok (.ireturn, 1) := by decide +kernel
theorem dX0_countOrders_0 : decode cX0_countOrders 0 = .ok (.iconst 0, 1) := by decide +kernel
theorem dX0_countOrders_1 : decode cX0_countOrders 1 = .ok (.iload_n 2, 1) := by decide +kernel
theorem dX0_countOrders_2 : decode cX0_countOrders 2 = .ok (.invokestatic 53, 3) := by decide +kernel
theorem dX0_countOrders_5 : decode cX0_countOrders 5 = .ok (.lstore_n 3, 1) := by decide +kernel
theorem dX0_countOrders_6 : decode cX0_countOrders 6 = .ok (.iconst 1, 1) := by decide +kernel
theorem dX0_countOrders_7 : decode cX0_countOrders 7 = .ok (.iload_n 2, 1) := by decide +kernel
theorem dX0_countOrders_8 : decode cX0_countOrders 8 = .ok (.invokestatic 53, 3) := by decide +kernel
theorem dX0_countOrders_11 : decode cX0_countOrders 11 = .ok (.lstore 5, 2) := by decide +kernel
theorem dX0_countOrders_13 : decode cX0_countOrders 13 = .ok (.aload_n 0, 1) := by decide +kernel
theorem dX0_countOrders_14 : decode cX0_countOrders 14 = .ok (.getfield 20, 3) := by decide +kernel
theorem dX0_countOrders_17 : decode cX0_countOrders 17 = .ok (.iconst 0, 1) := by decide +kernel
theorem dX0_countOrders_18 : decode cX0_countOrders 18 = .ok (.iload_n 2, 1) := by decide +kernel
theorem dX0_countOrders_19 : decode cX0_countOrders 19 = .ok (.invokestatic 57, 3) := by decide +kernel
theorem dX0_countOrders_22 : decode cX0_countOrders 22 = .ok (.lastore, 1) := by decide +kernel
theorem dX0_countOrders_23 : decode cX0_countOrders 23 = .ok (.iconst 1, 1) := by decide +kernel
theorem dX0_countOrders_24 : decode cX0_countOrders 24 = .ok (.istore 7, 2) := by decide +kernel
theorem dX0_countOrders_26 : decode cX0_countOrders 26 = .ok (.iconst 0, 1) := by decide +kernel
theorem dX0_countOrders_27 : decode cX0_countOrders 27 = .ok (.istore 8, 2) := by decide +kernel
theorem dX0_countOrders_29 : decode cX0_countOrders 29 = .ok (.iconst 0, 1) := by decide +kernel
theorem dX0_countOrders_30 : decode cX0_countOrders 30 = .ok (.istore 9, 2) := by decide +kernel
theorem dX0_countOrders_32 : decode cX0_countOrders 32 = .ok (.iload 9, 2) := by decide +kernel
theorem dX0_countOrders_34 : decode cX0_countOrders 34 = .ok (.iload_n 1, 1) := by decide +kernel
theorem dX0_countOrders_35 : decode cX0_countOrders 35 = .ok (.if_icmp .ge 85, 3) := by decide +kernel
theorem dX0_countOrders_38 : decode cX0_countOrders 38 = .ok (.iload 7, 2) := by decide +kernel
theorem dX0_countOrders_40 : decode cX0_countOrders 40 = .ok (.istore 10, 2) := by decide +kernel
theorem dX0_countOrders_42 : decode cX0_countOrders 42 = .ok (.iload 8, 2) := by decide +kernel
theorem dX0_countOrders_44 : decode cX0_countOrders 44 = .ok (.istore 11, 2) := by decide +kernel
theorem dX0_countOrders_46 : decode cX0_countOrders 46 = .ok (.iload 11, 2) := by decide +kernel
theorem dX0_countOrders_48 : decode cX0_countOrders 48 = .ok (.iload 10, 2) := by decide +kernel
theorem dX0_countOrders_50 : decode cX0_countOrders 50 = .ok (.if_icmp .ge 60, 3) := by decide +kernel
theorem dX0_countOrders_53 : decode cX0_countOrders 53 = .ok (.iload 11, 2) := by decide +kernel
theorem dX0_countOrders_55 : decode cX0_countOrders 55 = .ok (.aload_n 0, 1) := by decide +kernel
theorem dX0_countOrders_56 : decode cX0_countOrders 56 = .ok (.getfield 20, 3) := by decide +kernel
theorem dX0_countOrders_59 : decode cX0_countOrders 59 = .ok (.arraylength, 1) := by decide +kernel
theorem dX0_countOrders_60 : decode cX0_countOrders 60 = .ok (.if_icmp .ge 50, 3) := by decide +kernel
theorem dX0_countOrders_63 : decode cX0_countOrders 63 = .ok (.aload_n 0, 1) := by decide +kernel
theorem dX0_countOrders_64 : decode cX0_countOrders 64 = .ok (.aload_n 0, 1) := by decide +kernel
theorem dX0_countOrders_65 : decode cX0_countOrders 65 = .ok (.getfield 20, 3) := by decide +kernel
theorem dX0_countOrders_68 : decode cX0_countOrders 68 = .ok (.iload 11, 2) := by decide +kernel
theorem dX0_countOrders_70 : decode cX0_countOrders 70 = .ok (.laload, 1) := by decide +kernel
theorem dX0_countOrders_71 : decode cX0_countOrders 71 = .ok (.lload_n 3, 1) := by decide +kernel
theorem dX0_countOrders_72 : decode cX0_countOrders 72 = .ok (.iload_n 2, 1) := by decide +kernel
theorem dX0_countOrders_73 : decode cX0_countOrders 73 = .ok (.invokestatic 61, 3) := by decide +kernel
theorem dX0_countOrders_76 : decode cX0_countOrders 76 = .ok (.iload 7, 2) := by decide +kernel
theorem dX0_countOrders_78 : decode cX0_countOrders 78 = .ok (.invokevirtual 65, 3) := by decide +kernel
theorem dX0_countOrders_81 : decode cX0_countOrders 81 = .ok (.istore 7, 2) := by decide +kernel
theorem dX0_countOrders_83 : decode cX0_countOrders 83 = .ok (.aload_n 0, 1) := by decide +kernel
theorem dX0_countOrders_84 : decode cX0_countOrders 84 = .ok (.aload_n 0, 1) := by decide +kernel
theorem dX0_countOrders_85 : decode cX0_countOrders 85 = .ok (.getfield 20, 3) := by decide +kernel
theorem dX0_countOrders_88 : decode cX0_countOrders 88 = .ok (.iload 11, 2) := by decide +kernel
theorem dX0_countOrders_90 : decode cX0_countOrders 90 = .ok (.laload, 1) := by decide +kernel
theorem dX0_countOrders_91 : decode cX0_countOrders 91 = .ok (.lload 5, 2) := by decide +kernel
theorem dX0_countOrders_93 : decode cX0_countOrders 93 = .ok (.iload_n 2, 1) := by decide +kernel
theorem dX0_countOrders_94 : decode cX0_countOrders 94 = .ok (.invokestatic 61, 3) := by decide +kernel
theorem dX0_countOrders_97 : decode cX0_countOrders 97 = .ok (.iload 7, 2) := by decide +kernel
theorem dX0_countOrders_99 : decode cX0_countOrders 99 = .ok (.invokevirtual 65, 3) := by decide +kernel
theorem dX0_countOrders_102 : decode cX0_countOrders 102 = .ok (.istore 7, 2) := by decide +kernel
theorem dX0_countOrders_104 : decode cX0_countOrders 104 = .ok (.iinc 11 1, 3) := by decide +kernel
theorem dX0_countOrders_107 : decode cX0_countOrders 107 = .ok (.goto (-61), 3) := by decide +kernel
theorem dX0_countOrders_110 : decode cX0_countOrders 110 = .ok (.iload 10, 2) := by decide +kernel
theorem dX0_countOrders_112 : decode cX0_countOrders 112 = .ok (.istore 8, 2) := by decide +kernel
theorem dX0_countOrders_114 : decode cX0_countOrders 114 = .ok (.iinc 9 1, 3) := by decide +kernel
theorem dX0_countOrders_117 : decode cX0_countOrders 117 = .ok (.goto (-85), 3) := by decide +kernel
theorem dX0_countOrders_120 : decode cX0_countOrders 120 = .ok (.iload 7, 2) := by decide +kernel
theorem dX0_countOrders_122 : decode cX0_countOrders 122 = .ok (.ireturn, 1) := by decide +kernel
theorem dX0_isNextTo_0 : decode cX0_isNextTo 0 = .ok (.aload_n 0, 1) := by decide +kernel
theorem dX0_isNextTo_1 : decode cX0_isNextTo 1 = .ok (.iconst 0, 1) := by decide +kernel
theorem dX0_isNextTo_2 : decode cX0_isNextTo 2 = .ok (.iload_n 3, 1) := by decide +kernel
theorem dX0_isNextTo_3 : decode cX0_isNextTo 3 = .ok (.iload_n 1, 1) := by decide +kernel
theorem dX0_isNextTo_4 : decode cX0_isNextTo 4 = .ok (.invokestatic 36, 3) := by decide +kernel
theorem dX0_isNextTo_7 : decode cX0_isNextTo 7 = .ok (.invokevirtual 28, 3) := by decide +kernel
theorem dX0_isNextTo_10 : decode cX0_isNextTo 10 = .ok (.iload_n 2, 1) := by decide +kernel
theorem dX0_isNextTo_11 : decode cX0_isNextTo 11 = .ok (.if_icmp .eq 17, 3) := by decide +kernel
theorem dX0_isNextTo_14 : decode cX0_isNextTo 14 = .ok (.aload_n 0, 1) := by decide +kernel
theorem dX0_isNextTo_15 : decode cX0_isNextTo 15 = .ok (.iconst 1, 1) := by decide +kernel
theorem dX0_isNextTo_16 : decode cX0_isNextTo 16 = .ok (.iload_n 3, 1) := by decide +kernel
theorem dX0_isNextTo_17 : decode cX0_isNextTo 17 = .ok (.iload_n 1, 1) := by decide +kernel
theorem dX0_isNextTo_18 : decode cX0_isNextTo 18 = .ok (.invokestatic 36, 3) := by decide +kernel
theorem dX0_isNextTo_21 : decode cX0_isNextTo 21 = .ok (.invokevirtual 28, 3) := by decide +kernel
theorem dX0_isNextTo_24 : decode cX0_isNextTo 24 = .ok (.iload_n 2, 1) := by decide +kernel
theorem dX0_isNextTo_25 : decode cX0_isNextTo 25 = .ok (.if_icmp .ne 7, 3) := by decide +kernel
theorem dX0_isNextTo_28 : decode cX0_isNextTo 28 = .ok (.iconst 1, 1) := by decide +kernel
theorem dX0_isNextTo_29 : decode cX0_isNextTo 29 = .ok (.goto 4, 3) := by decide +kernel
theorem dX0_isNextTo_32 : decode cX0_isNextTo 32 = .ok (.iconst 0, 1) := by decide +kernel
theorem dX0_isNextTo_33 : decode cX0_isNextTo 33 = .ok (.ireturn, 1) := by decide +kernel
theorem dX0_firstKind_0 : decode cX0_firstKind 0 = .ok (.aload_n 0, 1) := by decide +kernel
theorem dX0_firstKind_1 : decode cX0_firstKind 1 = .ok (.iconst 0, 1) := by decide +kernel
theorem dX0_firstKind_2 : decode cX0_firstKind 2 = .ok (.iload_n 2, 1) := by decide +kernel
theorem dX0_firstKind_3 : decode cX0_firstKind 3 = .ok (.iload_n 1, 1) := by decide +kernel
theorem dX0_firstKind_4 : decode cX0_firstKind 4 = .ok (.invokestatic 36, 3) := by decide +kernel
theorem dX0_firstKind_7 : decode cX0_firstKind 7 = .ok (.invokevirtual 28, 3) := by decide +kernel
theorem dX0_firstKind_10 : decode cX0_firstKind 10 = .ok (.istore_n 3, 1) := by decide +kernel
theorem dX0_firstKind_11 : decode cX0_firstKind 11 = .ok (.iload_n 3, 1) := by decide +kernel
theorem dX0_firstKind_12 : decode cX0_firstKind 12 = .ok (.aload_n 0, 1) := by decide +kernel
theorem dX0_firstKind_13 : decode cX0_firstKind 13 = .ok (.iload_n 1, 1) := by decide +kernel
theorem dX0_firstKind_14 : decode cX0_firstKind 14 = .ok (.invokevirtual 28, 3) := by decide +kernel
theorem dX0_firstKind_17 : decode cX0_firstKind 17 = .ok (.iconst 1, 1) := by decide +kernel
theorem dX0_firstKind_18 : decode cX0_firstKind 18 = .ok (.isub, 1) := by decide +kernel
theorem dX0_firstKind_19 : decode cX0_firstKind 19 = .ok (.if_icmp .ne 7, 3) := by decide +kernel
theorem dX0_firstKind_22 : decode cX0_firstKind 22 = .ok (.iconst 0, 1) := by decide +kernel
theorem dX0_firstKind_23 : decode cX0_firstKind 23 = .ok (.goto 4, 3) := by decide +kernel
theorem dX0_firstKind_26 : decode cX0_firstKind 26 = .ok (.iconst 1, 1) := by decide +kernel
theorem dX0_firstKind_27 : decode cX0_firstKind 27 = .ok (.ireturn, 1) := by decide +kernel
theorem dX0_pairBehind_0 : decode cX0_pairBehind 0 = .ok (.bipush 16, 2) := by decide +kernel
theorem dX0_pairBehind_2 : decode cX0_pairBehind 2 = .ok (.iload_n 1, 1) := by decide +kernel
theorem dX0_pairBehind_3 : decode cX0_pairBehind 3 = .ok (.iload_n 2, 1) := by decide +kernel
theorem dX0_pairBehind_4 : decode cX0_pairBehind 4 = .ok (.iload_n 0, 1) := by decide +kernel
theorem dX0_pairBehind_5 : decode cX0_pairBehind 5 = .ok (.bipush 16, 2) := by decide +kernel
theorem dX0_pairBehind_7 : decode cX0_pairBehind 7 = .ok (.idiv, 1) := by decide +kernel
theorem dX0_pairBehind_8 : decode cX0_pairBehind 8 = .ok (.invokestatic 36, 3) := by decide +kernel
theorem dX0_pairBehind_11 : decode cX0_pairBehind 11 = .ok (.imul, 1) := by decide +kernel
theorem dX0_pairBehind_12 : decode cX0_pairBehind 12 = .ok (.iload_n 1, 1) := by decide +kernel
theorem dX0_pairBehind_13 : decode cX0_pairBehind 13 = .ok (.iload_n 2, 1) := by decide +kernel
theorem dX0_pairBehind_14 : decode cX0_pairBehind 14 = .ok (.iload_n 0, 1) := by decide +kernel
theorem dX0_pairBehind_15 : decode cX0_pairBehind 15 = .ok (.bipush 16, 2) := by decide +kernel
theorem dX0_pairBehind_17 : decode cX0_pairBehind 17 = .ok (.irem, 1) := by decide +kernel
theorem dX0_pairBehind_18 : decode cX0_pairBehind 18 = .ok (.invokestatic 36, 3) := by decide +kernel
theorem dX0_pairBehind_21 : decode cX0_pairBehind 21 = .ok (.iadd, 1) := by decide +kernel
theorem dX0_pairBehind_22 : decode cX0_pairBehind 22 = .ok (.ireturn, 1) := by decide +kernel
theorem dX0_depthOf_0 : decode cX0_depthOf 0 = .ok (.iconst 0, 1) := by decide +kernel
theorem dX0_depthOf_1 : decode cX0_depthOf 1 = .ok (.istore_n 1, 1) := by decide +kernel
theorem dX0_depthOf_2 : decode cX0_depthOf 2 = .ok (.iconst 0, 1) := by decide +kernel
theorem dX0_depthOf_3 : decode cX0_depthOf 3 = .ok (.istore_n 2, 1) := by decide +kernel
theorem dX0_depthOf_4 : decode cX0_depthOf 4 = .ok (.iload_n 2, 1) := by decide +kernel
theorem dX0_depthOf_5 : decode cX0_depthOf 5 = .ok (.bipush 8, 2) := by decide +kernel
theorem dX0_depthOf_7 : decode cX0_depthOf 7 = .ok (.if_icmp .ge 22, 3) := by decide +kernel
theorem dX0_depthOf_10 : decode cX0_depthOf 10 = .ok (.iload_n 0, 1) := by decide +kernel
theorem dX0_depthOf_11 : decode cX0_depthOf 11 = .ok (.iconst 2, 1) := by decide +kernel
theorem dX0_depthOf_12 : decode cX0_depthOf 12 = .ok (.iload_n 2, 1) := by decide +kernel
theorem dX0_depthOf_13 : decode cX0_depthOf 13 = .ok (.ishl, 1) := by decide +kernel
theorem dX0_depthOf_14 : decode cX0_depthOf 14 = .ok (.iconst 1, 1) := by decide +kernel
theorem dX0_depthOf_15 : decode cX0_depthOf 15 = .ok (.isub, 1) := by decide +kernel
theorem dX0_depthOf_16 : decode cX0_depthOf 16 = .ok (.if_icmp .lt 7, 3) := by decide +kernel
theorem dX0_depthOf_19 : decode cX0_depthOf 19 = .ok (.iload_n 2, 1) := by decide +kernel
theorem dX0_depthOf_20 : decode cX0_depthOf 20 = .ok (.iconst 1, 1) := by decide +kernel
theorem dX0_depthOf_21 : decode cX0_depthOf 21 = .ok (.iadd, 1) := by decide +kernel
theorem dX0_depthOf_22 : decode cX0_depthOf 22 = .ok (.istore_n 1, 1) := by decide +kernel
theorem dX0_depthOf_23 : decode cX0_depthOf 23 = .ok (.iinc 2 1, 3) := by decide +kernel
theorem dX0_depthOf_26 : decode cX0_depthOf 26 = .ok (.goto (-22), 3) := by decide +kernel
theorem dX0_depthOf_29 : decode cX0_depthOf 29 = .ok (.iload_n 1, 1) := by decide +kernel
theorem dX0_depthOf_30 : decode cX0_depthOf 30 = .ok (.ireturn, 1) := by decide +kernel
theorem dX0_heldWith_0 : decode cX0_heldWith 0 = .ok (.iconst 0, 1) := by decide +kernel
theorem dX0_heldWith_1 : decode cX0_heldWith 1 = .ok (.istore 4, 2) := by decide +kernel
theorem dX0_heldWith_3 : decode cX0_heldWith 3 = .ok (.iload 4, 2) := by decide +kernel
theorem dX0_heldWith_5 : decode cX0_heldWith 5 = .ok (.iload_n 3, 1) := by decide +kernel
theorem dX0_heldWith_6 : decode cX0_heldWith 6 = .ok (.if_icmp .ge 33, 3) := by decide +kernel
theorem dX0_heldWith_9 : decode cX0_heldWith 9 = .ok (.iload 4, 2) := by decide +kernel
theorem dX0_heldWith_11 : decode cX0_heldWith 11 = .ok (.aload_n 0, 1) := by decide +kernel
theorem dX0_heldWith_12 : decode cX0_heldWith 12 = .ok (.getfield 20, 3) := by decide +kernel
theorem dX0_heldWith_15 : decode cX0_heldWith 15 = .ok (.arraylength, 1) := by decide +kernel
theorem dX0_heldWith_16 : decode cX0_heldWith 16 = .ok (.if_icmp .ge 23, 3) := by decide +kernel
theorem dX0_heldWith_19 : decode cX0_heldWith 19 = .ok (.aload_n 0, 1) := by decide +kernel
theorem dX0_heldWith_20 : decode cX0_heldWith 20 = .ok (.getfield 20, 3) := by decide +kernel
theorem dX0_heldWith_23 : decode cX0_heldWith 23 = .ok (.iload 4, 2) := by decide +kernel
theorem dX0_heldWith_25 : decode cX0_heldWith 25 = .ok (.laload, 1) := by decide +kernel
theorem dX0_heldWith_26 : decode cX0_heldWith 26 = .ok (.lload_n 1, 1) := by decide +kernel
theorem dX0_heldWith_27 : decode cX0_heldWith 27 = .ok (.lcmp, 1) := by decide +kernel
theorem dX0_heldWith_28 : decode cX0_heldWith 28 = .ok (.ifCond .ne 5, 3) := by decide +kernel
theorem dX0_heldWith_31 : decode cX0_heldWith 31 = .ok (.iload_n 3, 1) := by decide +kernel
theorem dX0_heldWith_32 : decode cX0_heldWith 32 = .ok (.ireturn, 1) := by decide +kernel
theorem dX0_heldWith_33 : decode cX0_heldWith 33 = .ok (.iinc 4 1, 3) := by decide +kernel
theorem dX0_heldWith_36 : decode cX0_heldWith 36 = .ok (.goto (-33), 3) := by decide +kernel
theorem dX0_heldWith_39 : decode cX0_heldWith 39 = .ok (.iload_n 3, 1) := by decide +kernel
theorem dX0_heldWith_40 : decode cX0_heldWith 40 = .ok (.ifCond .lt 12, 3) := by decide +kernel
theorem dX0_heldWith_43 : decode cX0_heldWith 43 = .ok (.iload_n 3, 1) := by decide +kernel
theorem dX0_heldWith_44 : decode cX0_heldWith 44 = .ok (.aload_n 0, 1) := by decide +kernel
theorem dX0_heldWith_45 : decode cX0_heldWith 45 = .ok (.getfield 20, 3) := by decide +kernel
theorem dX0_heldWith_48 : decode cX0_heldWith 48 = .ok (.arraylength, 1) := by decide +kernel
theorem dX0_heldWith_49 : decode cX0_heldWith 49 = .ok (.if_icmp .lt 5, 3) := by decide +kernel
theorem dX0_heldWith_52 : decode cX0_heldWith 52 = .ok (.iload_n 3, 1) := by decide +kernel
theorem dX0_heldWith_53 : decode cX0_heldWith 53 = .ok (.ireturn, 1) := by decide +kernel
theorem dX0_heldWith_54 : decode cX0_heldWith 54 = .ok (.aload_n 0, 1) := by decide +kernel
theorem dX0_heldWith_55 : decode cX0_heldWith 55 = .ok (.getfield 20, 3) := by decide +kernel
theorem dX0_heldWith_58 : decode cX0_heldWith 58 = .ok (.iload_n 3, 1) := by decide +kernel
theorem dX0_heldWith_59 : decode cX0_heldWith 59 = .ok (.lload_n 1, 1) := by decide +kernel
theorem dX0_heldWith_60 : decode cX0_heldWith 60 = .ok (.lastore, 1) := by decide +kernel
theorem dX0_heldWith_61 : decode cX0_heldWith 61 = .ok (.iload_n 3, 1) := by decide +kernel
theorem dX0_heldWith_62 : decode cX0_heldWith 62 = .ok (.iconst 1, 1) := by decide +kernel
theorem dX0_heldWith_63 : decode cX0_heldWith 63 = .ok (.iadd, 1) := by decide +kernel
theorem dX0_heldWith_64 : decode cX0_heldWith 64 = .ok (.ireturn, 1) := by decide +kernel
theorem dX1_partOf_0 : decode cX1_partOf 0 = .ok (.iload_n 0, 1) := by decide +kernel
theorem dX1_partOf_1 : decode cX1_partOf 1 = .ok (.iload_n 1, 1) := by decide +kernel
theorem dX1_partOf_2 : decode cX1_partOf 2 = .ok (.invokestatic 7, 3) := by decide +kernel
theorem dX1_partOf_5 : decode cX1_partOf 5 = .ok (.istore_n 3, 1) := by decide +kernel
theorem dX1_partOf_6 : decode cX1_partOf 6 = .ok (.iload_n 3, 1) := by decide +kernel
theorem dX1_partOf_7 : decode cX1_partOf 7 = .ok (.ifCond .gt 5, 3) := by decide +kernel
theorem dX1_partOf_10 : decode cX1_partOf 10 = .ok (.iconst 0, 1) := by decide +kernel
theorem dX1_partOf_11 : decode cX1_partOf 11 = .ok (.ireturn, 1) := by decide +kernel
theorem dX1_partOf_12 : decode cX1_partOf 12 = .ok (.iload_n 2, 1) := by decide +kernel
theorem dX1_partOf_13 : decode cX1_partOf 13 = .ok (.ifCond .ne 9, 3) := by decide +kernel
theorem dX1_partOf_16 : decode cX1_partOf 16 = .ok (.iload_n 0, 1) := by decide +kernel
theorem dX1_partOf_17 : decode cX1_partOf 17 = .ok (.iload_n 3, 1) := by decide +kernel
theorem dX1_partOf_18 : decode cX1_partOf 18 = .ok (.idiv, 1) := by decide +kernel
theorem dX1_partOf_19 : decode cX1_partOf 19 = .ok (.goto 6, 3) := by decide +kernel
theorem dX1_partOf_22 : decode cX1_partOf 22 = .ok (.iload_n 1, 1) := by decide +kernel
theorem dX1_partOf_23 : decode cX1_partOf 23 = .ok (.iload_n 3, 1) := by decide +kernel
theorem dX1_partOf_24 : decode cX1_partOf 24 = .ok (.idiv, 1) := by decide +kernel
theorem dX1_partOf_25 : decode cX1_partOf 25 = .ok (.ireturn, 1) := by decide +kernel
theorem dX1_commonDivisor_0 : decode cX1_commonDivisor 0 = .ok (.iload_n 0, 1) := by decide +kernel
theorem dX1_commonDivisor_1 : decode cX1_commonDivisor 1 = .ok (.istore_n 2, 1) := by decide +kernel
theorem dX1_commonDivisor_2 : decode cX1_commonDivisor 2 = .ok (.iload_n 1, 1) := by decide +kernel
theorem dX1_commonDivisor_3 : decode cX1_commonDivisor 3 = .ok (.istore_n 3, 1) := by decide +kernel
theorem dX1_commonDivisor_4 : decode cX1_commonDivisor 4 = .ok (.iconst 0, 1) := by decide +kernel
theorem dX1_commonDivisor_5 : decode cX1_commonDivisor 5 = .ok (.istore 4, 2) := by decide +kernel
theorem dX1_commonDivisor_7 : decode cX1_commonDivisor 7 = .ok (.iload 4, 2) := by decide +kernel
theorem dX1_commonDivisor_9 : decode cX1_commonDivisor 9 = .ok (.bipush 64, 2) := by decide +kernel
theorem dX1_commonDivisor_11 : decode cX1_commonDivisor 11 = .ok (.if_icmp .ge 23, 3) := by decide +kernel
theorem dX1_commonDivisor_14 : decode cX1_commonDivisor 14 = .ok (.iload_n 3, 1) := by decide +kernel
theorem dX1_commonDivisor_15 : decode cX1_commonDivisor 15 = .ok (.ifCond .eq 19, 3) := by decide +kernel
theorem dX1_commonDivisor_18 : decode cX1_commonDivisor 18 = .ok (.iload_n 2, 1) := by decide +kernel
theorem dX1_commonDivisor_19 : decode cX1_commonDivisor 19 = .ok (.iload_n 3, 1) := by decide +kernel
theorem dX1_commonDivisor_20 : decode cX1_commonDivisor 20 = .ok (.irem, 1) := by decide +kernel
theorem dX1_commonDivisor_21 : decode cX1_commonDivisor 21 = .ok (.istore 5, 2) := by decide +kernel
theorem dX1_commonDivisor_23 : decode cX1_commonDivisor 23 = .ok (.iload_n 3, 1) := by decide +kernel
theorem dX1_commonDivisor_24 : decode cX1_commonDivisor 24 = .ok (.istore_n 2, 1) := by decide +kernel
theorem dX1_commonDivisor_25 : decode cX1_commonDivisor 25 = .ok (.iload 5, 2) := by decide +kernel
theorem dX1_commonDivisor_27 : decode cX1_commonDivisor 27 = .ok (.istore_n 3, 1) := by decide +kernel
theorem dX1_commonDivisor_28 : decode cX1_commonDivisor 28 = .ok (.iinc 4 1, 3) := by decide +kernel
theorem dX1_commonDivisor_31 : decode cX1_commonDivisor 31 = .ok (.goto (-24), 3) := by decide +kernel
theorem dX1_commonDivisor_34 : decode cX1_commonDivisor 34 = .ok (.iload_n 2, 1) := by decide +kernel
theorem dX1_commonDivisor_35 : decode cX1_commonDivisor 35 = .ok (.ireturn, 1) := by decide +kernel
theorem dX1_choices_0 : decode cX1_choices 0 = .ok (.iconst 1, 1) := by decide +kernel
theorem dX1_choices_1 : decode cX1_choices 1 = .ok (.istore_n 2, 1) := by decide +kernel
theorem dX1_choices_2 : decode cX1_choices 2 = .ok (.iconst 1, 1) := by decide +kernel
theorem dX1_choices_3 : decode cX1_choices 3 = .ok (.istore_n 3, 1) := by decide +kernel
theorem dX1_choices_4 : decode cX1_choices 4 = .ok (.iload_n 3, 1) := by decide +kernel
theorem dX1_choices_5 : decode cX1_choices 5 = .ok (.iload_n 1, 1) := by decide +kernel
theorem dX1_choices_6 : decode cX1_choices 6 = .ok (.if_icmp .gt 19, 3) := by decide +kernel
theorem dX1_choices_9 : decode cX1_choices 9 = .ok (.iload_n 2, 1) := by decide +kernel
theorem dX1_choices_10 : decode cX1_choices 10 = .ok (.iload_n 0, 1) := by decide +kernel
theorem dX1_choices_11 : decode cX1_choices 11 = .ok (.iload_n 1, 1) := by decide +kernel
theorem dX1_choices_12 : decode cX1_choices 12 = .ok (.isub, 1) := by decide +kernel
theorem dX1_choices_13 : decode cX1_choices 13 = .ok (.iload_n 3, 1) := by decide +kernel
theorem dX1_choices_14 : decode cX1_choices 14 = .ok (.iadd, 1) := by decide +kernel
theorem dX1_choices_15 : decode cX1_choices 15 = .ok (.imul, 1) := by decide +kernel
theorem dX1_choices_16 : decode cX1_choices 16 = .ok (.iload_n 3, 1) := by decide +kernel
theorem dX1_choices_17 : decode cX1_choices 17 = .ok (.idiv, 1) := by decide +kernel
theorem dX1_choices_18 : decode cX1_choices 18 = .ok (.istore_n 2, 1) := by decide +kernel
theorem dX1_choices_19 : decode cX1_choices 19 = .ok (.iinc 3 1, 3) := by decide +kernel
theorem dX1_choices_22 : decode cX1_choices 22 = .ok (.goto (-18), 3) := by decide +kernel
theorem dX1_choices_25 : decode cX1_choices 25 = .ok (.iload_n 2, 1) := by decide +kernel
theorem dX1_choices_26 : decode cX1_choices 26 = .ok (.ireturn, 1) := by decide +kernel
theorem dX2_init_0 : decode cX2_init 0 = .ok (.aload_n 0, 1) := by decide +kernel
theorem dX2_init_1 : decode cX2_init 1 = .ok (.invokespecial 3, 3) := by decide +kernel
theorem dX2_init_4 : decode cX2_init 4 = .ok (.aload_n 0, 1) := by decide +kernel
theorem dX2_init_5 : decode cX2_init 5 = .ok (.sipush 289, 3) := by decide +kernel
theorem dX2_init_8 : decode cX2_init 8 = .ok (.newarray .int, 2) := by decide +kernel
theorem dX2_init_10 : decode cX2_init 10 = .ok (.putfield 11, 3) := by decide +kernel
theorem dX2_init_13 : decode cX2_init 13 = .ok (.return_, 1) := by decide +kernel
theorem dX2_goodWays_0 : decode cX2_goodWays 0 = .ok (.aload_n 1, 1) := by decide +kernel
theorem dX2_goodWays_1 : decode cX2_goodWays 1 = .ok (.getfield 15, 3) := by decide +kernel
theorem dX2_goodWays_4 : decode cX2_goodWays 4 = .ok (.iload 4, 2) := by decide +kernel
theorem dX2_goodWays_6 : decode cX2_goodWays 6 = .ok (.isub, 1) := by decide +kernel
theorem dX2_goodWays_7 : decode cX2_goodWays 7 = .ok (.istore 5, 2) := by decide +kernel
theorem dX2_goodWays_9 : decode cX2_goodWays 9 = .ok (.lload_n 2, 1) := by decide +kernel
theorem dX2_goodWays_10 : decode cX2_goodWays 10 = .ok (.iload 4, 2) := by decide +kernel
theorem dX2_goodWays_12 : decode cX2_goodWays 12 = .ok (.aload_n 1, 1) := by decide +kernel
theorem dX2_goodWays_13 : decode cX2_goodWays 13 = .ok (.getfield 15, 3) := by decide +kernel
theorem dX2_goodWays_16 : decode cX2_goodWays 16 = .ok (.invokestatic 21, 3) := by decide +kernel
theorem dX2_goodWays_19 : decode cX2_goodWays 19 = .ok (.lstore 6, 2) := by decide +kernel
theorem dX2_goodWays_21 : decode cX2_goodWays 21 = .ok (.iconst 0, 1) := by decide +kernel
theorem dX2_goodWays_22 : decode cX2_goodWays 22 = .ok (.istore 8, 2) := by decide +kernel
theorem dX2_goodWays_24 : decode cX2_goodWays 24 = .ok (.iload 8, 2) := by decide +kernel
theorem dX2_goodWays_26 : decode cX2_goodWays 26 = .ok (.iload 4, 2) := by decide +kernel
theorem dX2_goodWays_28 : decode cX2_goodWays 28 = .ok (.if_icmp .gt 49, 3) := by decide +kernel
theorem dX2_goodWays_31 : decode cX2_goodWays 31 = .ok (.iload 8, 2) := by decide +kernel
theorem dX2_goodWays_33 : decode cX2_goodWays 33 = .ok (.iconst 2, 1) := by decide +kernel
theorem dX2_goodWays_34 : decode cX2_goodWays 34 = .ok (.irem, 1) := by decide +kernel
theorem dX2_goodWays_35 : decode cX2_goodWays 35 = .ok (.istore 9, 2) := by decide +kernel
theorem dX2_goodWays_37 : decode cX2_goodWays 37 = .ok (.iload 9, 2) := by decide +kernel
theorem dX2_goodWays_39 : decode cX2_goodWays 39 = .ok (.iload 5, 2) := by decide +kernel
theorem dX2_goodWays_41 : decode cX2_goodWays 41 = .ok (.if_icmp .gt 30, 3) := by decide +kernel
theorem dX2_goodWays_44 : decode cX2_goodWays 44 = .ok (.aload_n 0, 1) := by decide +kernel
theorem dX2_goodWays_45 : decode cX2_goodWays 45 = .ok (.iload 8, 2) := by decide +kernel
theorem dX2_goodWays_47 : decode cX2_goodWays 47 = .ok (.iload 9, 2) := by decide +kernel
theorem dX2_goodWays_49 : decode cX2_goodWays 49 = .ok (.aload_n 0, 1) := by decide +kernel
theorem dX2_goodWays_50 : decode cX2_goodWays 50 = .ok (.aload_n 1, 1) := by decide +kernel
theorem dX2_goodWays_51 : decode cX2_goodWays 51 = .ok (.lload 6, 2) := by decide +kernel
theorem dX2_goodWays_53 : decode cX2_goodWays 53 = .ok (.iload 4, 2) := by decide +kernel
theorem dX2_goodWays_55 : decode cX2_goodWays 55 = .ok (.iload 8, 2) := by decide +kernel
theorem dX2_goodWays_57 : decode cX2_goodWays 57 = .ok (.iload 9, 2) := by decide +kernel
theorem dX2_goodWays_59 : decode cX2_goodWays 59 = .ok (.invokevirtual 25, 3) := by decide +kernel
theorem dX2_goodWays_62 : decode cX2_goodWays 62 = .ok (.invokevirtual 29, 3) := by decide +kernel
theorem dX2_goodWays_65 : decode cX2_goodWays 65 = .ok (.iinc 9 2, 3) := by decide +kernel
theorem dX2_goodWays_68 : decode cX2_goodWays 68 = .ok (.goto (-31), 3) := by decide +kernel
theorem dX2_goodWays_71 : decode cX2_goodWays 71 = .ok (.iinc 8 1, 3) := by decide +kernel
theorem dX2_goodWays_74 : decode cX2_goodWays 74 = .ok (.goto (-50), 3) := by decide +kernel
theorem dX2_goodWays_77 : decode cX2_goodWays 77 = .ok (.aload_n 1, 1) := by decide +kernel
theorem dX2_goodWays_78 : decode cX2_goodWays 78 = .ok (.getfield 15, 3) := by decide +kernel
theorem dX2_goodWays_81 : decode cX2_goodWays 81 = .ok (.iconst 2, 1) := by decide +kernel
theorem dX2_goodWays_82 : decode cX2_goodWays 82 = .ok (.irem, 1) := by decide +kernel
theorem dX2_goodWays_83 : decode cX2_goodWays 83 = .ok (.ifCond .ne 12, 3) := by decide +kernel
theorem dX2_goodWays_86 : decode cX2_goodWays 86 = .ok (.aload_n 0, 1) := by decide +kernel
theorem dX2_goodWays_87 : decode cX2_goodWays 87 = .ok (.iload 4, 2) := by decide +kernel
theorem dX2_goodWays_89 : decode cX2_goodWays 89 = .ok (.iload 5, 2) := by decide +kernel
theorem dX2_goodWays_91 : decode cX2_goodWays 91 = .ok (.invokevirtual 33, 3) := by decide +kernel
theorem dX2_goodWays_94 : decode cX2_goodWays 94 = .ok (.ireturn, 1) := by decide +kernel
theorem dX2_goodWays_95 : decode cX2_goodWays 95 = .ok (.aload_n 0, 1) := by decide +kernel
theorem dX2_goodWays_96 : decode cX2_goodWays 96 = .ok (.iload 4, 2) := by decide +kernel
theorem dX2_goodWays_98 : decode cX2_goodWays 98 = .ok (.iconst 1, 1) := by decide +kernel
theorem dX2_goodWays_99 : decode cX2_goodWays 99 = .ok (.isub, 1) := by decide +kernel
theorem dX2_goodWays_100 : decode cX2_goodWays 100 = .ok (.iload 5, 2) := by decide +kernel
theorem dX2_goodWays_102 : decode cX2_goodWays 102 = .ok (.invokevirtual 33, 3) := by decide +kernel
theorem dX2_goodWays_105 : decode cX2_goodWays 105 = .ok (.aload_n 0, 1) := by decide +kernel
theorem dX2_goodWays_106 : decode cX2_goodWays 106 = .ok (.iload 4, 2) := by decide +kernel
theorem dX2_goodWays_108 : decode cX2_goodWays 108 = .ok (.iload 5, 2) := by decide +kernel
theorem dX2_goodWays_110 : decode cX2_goodWays 110 = .ok (.iconst 1, 1) := by decide +kernel
theorem dX2_goodWays_111 : decode cX2_goodWays 111 = .ok (.isub, 1) := by decide +kernel
theorem dX2_goodWays_112 : decode cX2_goodWays 112 = .ok (.invokevirtual 33, 3) := by decide +kernel
theorem dX2_goodWays_115 : decode cX2_goodWays 115 = .ok (.iadd, 1) := by decide +kernel
theorem dX2_goodWays_116 : decode cX2_goodWays 116 = .ok (.ireturn, 1) := by decide +kernel
theorem dX2_dealtOff_0 : decode cX2_dealtOff 0 = .ok (.lconst 0, 1) := by decide +kernel
theorem dX2_dealtOff_1 : decode cX2_dealtOff 1 = .ok (.lstore 4, 2) := by decide +kernel
theorem dX2_dealtOff_3 : decode cX2_dealtOff 3 = .ok (.iconst 0, 1) := by decide +kernel
theorem dX2_dealtOff_4 : decode cX2_dealtOff 4 = .ok (.istore 6, 2) := by decide +kernel
theorem dX2_dealtOff_6 : decode cX2_dealtOff 6 = .ok (.iload 6, 2) := by decide +kernel
theorem dX2_dealtOff_8 : decode cX2_dealtOff 8 = .ok (.iload_n 3, 1) := by decide +kernel
theorem dX2_dealtOff_9 : decode cX2_dealtOff 9 = .ok (.if_icmp .ge 43, 3) := by decide +kernel
theorem dX2_dealtOff_12 : decode cX2_dealtOff 12 = .ok (.iload 6, 2) := by decide +kernel
theorem dX2_dealtOff_14 : decode cX2_dealtOff 14 = .ok (.iload_n 2, 1) := by decide +kernel
theorem dX2_dealtOff_15 : decode cX2_dealtOff 15 = .ok (.if_icmp .ge 12, 3) := by decide +kernel
theorem dX2_dealtOff_18 : decode cX2_dealtOff 18 = .ok (.iload_n 2, 1) := by decide +kernel
theorem dX2_dealtOff_19 : decode cX2_dealtOff 19 = .ok (.iconst 1, 1) := by decide +kernel
theorem dX2_dealtOff_20 : decode cX2_dealtOff 20 = .ok (.isub, 1) := by decide +kernel
theorem dX2_dealtOff_21 : decode cX2_dealtOff 21 = .ok (.iload 6, 2) := by decide +kernel
theorem dX2_dealtOff_23 : decode cX2_dealtOff 23 = .ok (.isub, 1) := by decide +kernel
theorem dX2_dealtOff_24 : decode cX2_dealtOff 24 = .ok (.goto 5, 3) := by decide +kernel
theorem dX2_dealtOff_27 : decode cX2_dealtOff 27 = .ok (.iload 6, 2) := by decide +kernel
theorem dX2_dealtOff_29 : decode cX2_dealtOff 29 = .ok (.istore 7, 2) := by decide +kernel
theorem dX2_dealtOff_31 : decode cX2_dealtOff 31 = .ok (.lload 4, 2) := by decide +kernel
theorem dX2_dealtOff_33 : decode cX2_dealtOff 33 = .ok (.iload 6, 2) := by decide +kernel
theorem dX2_dealtOff_35 : decode cX2_dealtOff 35 = .ok (.lload_n 0, 1) := by decide +kernel
theorem dX2_dealtOff_36 : decode cX2_dealtOff 36 = .ok (.iload 7, 2) := by decide +kernel
theorem dX2_dealtOff_38 : decode cX2_dealtOff 38 = .ok (.invokestatic 37, 3) := by decide +kernel
theorem dX2_dealtOff_41 : decode cX2_dealtOff 41 = .ok (.invokestatic 41, 3) := by decide +kernel
theorem dX2_dealtOff_44 : decode cX2_dealtOff 44 = .ok (.lstore 4, 2) := by decide +kernel
theorem dX2_dealtOff_46 : decode cX2_dealtOff 46 = .ok (.iinc 6 1, 3) := by decide +kernel
theorem dX2_dealtOff_49 : decode cX2_dealtOff 49 = .ok (.goto (-43), 3) := by decide +kernel
theorem dX2_dealtOff_52 : decode cX2_dealtOff 52 = .ok (.lload 4, 2) := by decide +kernel
theorem dX2_dealtOff_54 : decode cX2_dealtOff 54 = .ok (.lreturn, 1) := by decide +kernel
theorem dX2_waysByLastPair_0 : decode cX2_waysByLastPair 0 = .ok (.iload 5, 2) := by decide +kernel
theorem dX2_waysByLastPair_2 : decode cX2_waysByLastPair 2 = .ok (.ifCond .ne 10, 3) := by decide +kernel
theorem dX2_waysByLastPair_5 : decode cX2_waysByLastPair 5 = .ok (.iload 6, 2) := by decide +kernel
theorem dX2_waysByLastPair_7 : decode cX2_waysByLastPair 7 = .ok (.ifCond .ne 5, 3) := by decide +kernel
theorem dX2_waysByLastPair_10 : decode cX2_waysByLastPair 10 = .ok (.iconst 1, 1) := by decide +kernel
theorem dX2_waysByLastPair_11 : decode cX2_waysByLastPair 11 = .ok (.ireturn, 1) := by decide +kernel
theorem dX2_waysByLastPair_12 : decode cX2_waysByLastPair 12 = .ok (.iconst 0, 1) := by decide +kernel
theorem dX2_waysByLastPair_13 : decode cX2_waysByLastPair 13 = .ok (.istore 7, 2) := by decide +kernel
theorem dX2_waysByLastPair_15 : decode cX2_waysByLastPair 15 = .ok (.iload 5, 2) := by decide +kernel
theorem dX2_waysByLastPair_17 : decode cX2_waysByLastPair 17 = .ok (.iconst 2, 1) := by decide +kernel
theorem dX2_waysByLastPair_18 : decode cX2_waysByLastPair 18 = .ok (.if_icmp .lt 34, 3) := by decide +kernel
theorem dX2_waysByLastPair_21 : decode cX2_waysByLastPair 21 = .ok (.aload_n 1, 1) := by decide +kernel
theorem dX2_waysByLastPair_22 : decode cX2_waysByLastPair 22 = .ok (.lload_n 2, 1) := by decide +kernel
theorem dX2_waysByLastPair_23 : decode cX2_waysByLastPair 23 = .ok (.iload 5, 2) := by decide +kernel
theorem dX2_waysByLastPair_25 : decode cX2_waysByLastPair 25 = .ok (.iconst 2, 1) := by decide +kernel
theorem dX2_waysByLastPair_26 : decode cX2_waysByLastPair 26 = .ok (.isub, 1) := by decide +kernel
theorem dX2_waysByLastPair_27 : decode cX2_waysByLastPair 27 = .ok (.iload 5, 2) := by decide +kernel
theorem dX2_waysByLastPair_29 : decode cX2_waysByLastPair 29 = .ok (.iconst 1, 1) := by decide +kernel
theorem dX2_waysByLastPair_30 : decode cX2_waysByLastPair 30 = .ok (.isub, 1) := by decide +kernel
theorem dX2_waysByLastPair_31 : decode cX2_waysByLastPair 31 = .ok (.invokestatic 44, 3) := by decide +kernel
theorem dX2_waysByLastPair_34 : decode cX2_waysByLastPair 34 = .ok (.ifCond .eq 18, 3) := by decide +kernel
theorem dX2_waysByLastPair_37 : decode cX2_waysByLastPair 37 = .ok (.iload 7, 2) := by decide +kernel
theorem dX2_waysByLastPair_39 : decode cX2_waysByLastPair 39 = .ok (.aload_n 0, 1) := by decide +kernel
theorem dX2_waysByLastPair_40 : decode cX2_waysByLastPair 40 = .ok (.iload 5, 2) := by decide +kernel
theorem dX2_waysByLastPair_42 : decode cX2_waysByLastPair 42 = .ok (.iconst 2, 1) := by decide +kernel
theorem dX2_waysByLastPair_43 : decode cX2_waysByLastPair 43 = .ok (.isub, 1) := by decide +kernel
theorem dX2_waysByLastPair_44 : decode cX2_waysByLastPair 44 = .ok (.iload 6, 2) := by decide +kernel
theorem dX2_waysByLastPair_46 : decode cX2_waysByLastPair 46 = .ok (.invokevirtual 33, 3) := by decide +kernel
theorem dX2_waysByLastPair_49 : decode cX2_waysByLastPair 49 = .ok (.iadd, 1) := by decide +kernel
theorem dX2_waysByLastPair_50 : decode cX2_waysByLastPair 50 = .ok (.istore 7, 2) := by decide +kernel
theorem dX2_waysByLastPair_52 : decode cX2_waysByLastPair 52 = .ok (.iload 6, 2) := by decide +kernel
theorem dX2_waysByLastPair_54 : decode cX2_waysByLastPair 54 = .ok (.iconst 2, 1) := by decide +kernel
theorem dX2_waysByLastPair_55 : decode cX2_waysByLastPair 55 = .ok (.if_icmp .lt 40, 3) := by decide +kernel
theorem dX2_waysByLastPair_58 : decode cX2_waysByLastPair 58 = .ok (.aload_n 1, 1) := by decide +kernel
theorem dX2_waysByLastPair_59 : decode cX2_waysByLastPair 59 = .ok (.lload_n 2, 1) := by decide +kernel
theorem dX2_waysByLastPair_60 : decode cX2_waysByLastPair 60 = .ok (.iload 4, 2) := by decide +kernel
theorem dX2_waysByLastPair_62 : decode cX2_waysByLastPair 62 = .ok (.iload 6, 2) := by decide +kernel
theorem dX2_waysByLastPair_64 : decode cX2_waysByLastPair 64 = .ok (.iadd, 1) := by decide +kernel
theorem dX2_waysByLastPair_65 : decode cX2_waysByLastPair 65 = .ok (.iconst 2, 1) := by decide +kernel
theorem dX2_waysByLastPair_66 : decode cX2_waysByLastPair 66 = .ok (.isub, 1) := by decide +kernel
theorem dX2_waysByLastPair_67 : decode cX2_waysByLastPair 67 = .ok (.iload 4, 2) := by decide +kernel
theorem dX2_waysByLastPair_69 : decode cX2_waysByLastPair 69 = .ok (.iload 6, 2) := by decide +kernel
theorem dX2_waysByLastPair_71 : decode cX2_waysByLastPair 71 = .ok (.iadd, 1) := by decide +kernel
theorem dX2_waysByLastPair_72 : decode cX2_waysByLastPair 72 = .ok (.iconst 1, 1) := by decide +kernel
theorem dX2_waysByLastPair_73 : decode cX2_waysByLastPair 73 = .ok (.isub, 1) := by decide +kernel
theorem dX2_waysByLastPair_74 : decode cX2_waysByLastPair 74 = .ok (.invokestatic 44, 3) := by decide +kernel
theorem dX2_waysByLastPair_77 : decode cX2_waysByLastPair 77 = .ok (.ifCond .eq 18, 3) := by decide +kernel
theorem dX2_waysByLastPair_80 : decode cX2_waysByLastPair 80 = .ok (.iload 7, 2) := by decide +kernel
theorem dX2_waysByLastPair_82 : decode cX2_waysByLastPair 82 = .ok (.aload_n 0, 1) := by decide +kernel
theorem dX2_waysByLastPair_83 : decode cX2_waysByLastPair 83 = .ok (.iload 5, 2) := by decide +kernel
theorem dX2_waysByLastPair_85 : decode cX2_waysByLastPair 85 = .ok (.iload 6, 2) := by decide +kernel
theorem dX2_waysByLastPair_87 : decode cX2_waysByLastPair 87 = .ok (.iconst 2, 1) := by decide +kernel
theorem dX2_waysByLastPair_88 : decode cX2_waysByLastPair 88 = .ok (.isub, 1) := by decide +kernel
theorem dX2_waysByLastPair_89 : decode cX2_waysByLastPair 89 = .ok (.invokevirtual 33, 3) := by decide +kernel
theorem dX2_waysByLastPair_92 : decode cX2_waysByLastPair 92 = .ok (.iadd, 1) := by decide +kernel
theorem dX2_waysByLastPair_93 : decode cX2_waysByLastPair 93 = .ok (.istore 7, 2) := by decide +kernel
theorem dX2_waysByLastPair_95 : decode cX2_waysByLastPair 95 = .ok (.iload 5, 2) := by decide +kernel
theorem dX2_waysByLastPair_97 : decode cX2_waysByLastPair 97 = .ok (.iconst 1, 1) := by decide +kernel
theorem dX2_waysByLastPair_98 : decode cX2_waysByLastPair 98 = .ok (.if_icmp .lt 47, 3) := by decide +kernel
theorem dX2_waysByLastPair_101 : decode cX2_waysByLastPair 101 = .ok (.iload 6, 2) := by decide +kernel
theorem dX2_waysByLastPair_103 : decode cX2_waysByLastPair 103 = .ok (.iconst 1, 1) := by decide +kernel
theorem dX2_waysByLastPair_104 : decode cX2_waysByLastPair 104 = .ok (.if_icmp .lt 41, 3) := by decide +kernel
theorem dX2_waysByLastPair_107 : decode cX2_waysByLastPair 107 = .ok (.aload_n 1, 1) := by decide +kernel
theorem dX2_waysByLastPair_108 : decode cX2_waysByLastPair 108 = .ok (.lload_n 2, 1) := by decide +kernel
theorem dX2_waysByLastPair_109 : decode cX2_waysByLastPair 109 = .ok (.iload 5, 2) := by decide +kernel
theorem dX2_waysByLastPair_111 : decode cX2_waysByLastPair 111 = .ok (.iconst 1, 1) := by decide +kernel
theorem dX2_waysByLastPair_112 : decode cX2_waysByLastPair 112 = .ok (.isub, 1) := by decide +kernel
theorem dX2_waysByLastPair_113 : decode cX2_waysByLastPair 113 = .ok (.iload 4, 2) := by decide +kernel
theorem dX2_waysByLastPair_115 : decode cX2_waysByLastPair 115 = .ok (.iload 6, 2) := by decide +kernel
theorem dX2_waysByLastPair_117 : decode cX2_waysByLastPair 117 = .ok (.iadd, 1) := by decide +kernel
theorem dX2_waysByLastPair_118 : decode cX2_waysByLastPair 118 = .ok (.iconst 1, 1) := by decide +kernel
theorem dX2_waysByLastPair_119 : decode cX2_waysByLastPair 119 = .ok (.isub, 1) := by decide +kernel
theorem dX2_waysByLastPair_120 : decode cX2_waysByLastPair 120 = .ok (.invokestatic 44, 3) := by decide +kernel
theorem dX2_waysByLastPair_123 : decode cX2_waysByLastPair 123 = .ok (.ifCond .eq 22, 3) := by decide +kernel
theorem dX2_waysByLastPair_126 : decode cX2_waysByLastPair 126 = .ok (.iload 7, 2) := by decide +kernel
theorem dX2_waysByLastPair_128 : decode cX2_waysByLastPair 128 = .ok (.iconst 2, 1) := by decide +kernel
theorem dX2_waysByLastPair_129 : decode cX2_waysByLastPair 129 = .ok (.aload_n 0, 1) := by decide +kernel
theorem dX2_waysByLastPair_130 : decode cX2_waysByLastPair 130 = .ok (.iload 5, 2) := by decide +kernel
theorem dX2_waysByLastPair_132 : decode cX2_waysByLastPair 132 = .ok (.iconst 1, 1) := by decide +kernel
theorem dX2_waysByLastPair_133 : decode cX2_waysByLastPair 133 = .ok (.isub, 1) := by decide +kernel
theorem dX2_waysByLastPair_134 : decode cX2_waysByLastPair 134 = .ok (.iload 6, 2) := by decide +kernel
theorem dX2_waysByLastPair_136 : decode cX2_waysByLastPair 136 = .ok (.iconst 1, 1) := by decide +kernel
theorem dX2_waysByLastPair_137 : decode cX2_waysByLastPair 137 = .ok (.isub, 1) := by decide +kernel
theorem dX2_waysByLastPair_138 : decode cX2_waysByLastPair 138 = .ok (.invokevirtual 33, 3) := by decide +kernel
theorem dX2_waysByLastPair_141 : decode cX2_waysByLastPair 141 = .ok (.imul, 1) := by decide +kernel
theorem dX2_waysByLastPair_142 : decode cX2_waysByLastPair 142 = .ok (.iadd, 1) := by decide +kernel
theorem dX2_waysByLastPair_143 : decode cX2_waysByLastPair 143 = .ok (.istore 7, 2) := by decide +kernel
theorem dX2_waysByLastPair_145 : decode cX2_waysByLastPair 145 = .ok (.iload 7, 2) := by decide +kernel
theorem dX2_waysByLastPair_147 : decode cX2_waysByLastPair 147 = .ok (.ireturn, 1) := by decide +kernel
theorem dX2_areUnlikeAt_0 : decode cX2_areUnlikeAt 0 = .ok (.aload_n 0, 1) := by decide +kernel
theorem dX2_areUnlikeAt_1 : decode cX2_areUnlikeAt 1 = .ok (.lload_n 1, 1) := by decide +kernel
theorem dX2_areUnlikeAt_2 : decode cX2_areUnlikeAt 2 = .ok (.iload_n 3, 1) := by decide +kernel
theorem dX2_areUnlikeAt_3 : decode cX2_areUnlikeAt 3 = .ok (.invokestatic 37, 3) := by decide +kernel
theorem dX2_areUnlikeAt_6 : decode cX2_areUnlikeAt 6 = .ok (.lload_n 1, 1) := by decide +kernel
theorem dX2_areUnlikeAt_7 : decode cX2_areUnlikeAt 7 = .ok (.iload 4, 2) := by decide +kernel
theorem dX2_areUnlikeAt_9 : decode cX2_areUnlikeAt 9 = .ok (.invokestatic 37, 3) := by decide +kernel
theorem dX2_areUnlikeAt_12 : decode cX2_areUnlikeAt 12 = .ok (.invokevirtual 48, 3) := by decide +kernel
theorem dX2_areUnlikeAt_15 : decode cX2_areUnlikeAt 15 = .ok (.ireturn, 1) := by decide +kernel
theorem dX2_waysOf_0 : decode cX2_waysOf 0 = .ok (.iload_n 1, 1) := by decide +kernel
theorem dX2_waysOf_1 : decode cX2_waysOf 1 = .ok (.iconst 0, 1) := by decide +kernel
theorem dX2_waysOf_2 : decode cX2_waysOf 2 = .ok (.bipush 16, 2) := by decide +kernel
theorem dX2_waysOf_4 : decode cX2_waysOf 4 = .ok (.invokestatic 52, 3) := by decide +kernel
theorem dX2_waysOf_7 : decode cX2_waysOf 7 = .ok (.ifCond .eq 27, 3) := by decide +kernel
theorem dX2_waysOf_10 : decode cX2_waysOf 10 = .ok (.iload_n 2, 1) := by decide +kernel
theorem dX2_waysOf_11 : decode cX2_waysOf 11 = .ok (.iconst 0, 1) := by decide +kernel
theorem dX2_waysOf_12 : decode cX2_waysOf 12 = .ok (.bipush 16, 2) := by decide +kernel
theorem dX2_waysOf_14 : decode cX2_waysOf 14 = .ok (.invokestatic 52, 3) := by decide +kernel
theorem dX2_waysOf_17 : decode cX2_waysOf 17 = .ok (.ifCond .eq 17, 3) := by decide +kernel
theorem dX2_waysOf_20 : decode cX2_waysOf 20 = .ok (.aload_n 0, 1) := by decide +kernel
theorem dX2_waysOf_21 : decode cX2_waysOf 21 = .ok (.getfield 11, 3) := by decide +kernel
theorem dX2_waysOf_24 : decode cX2_waysOf 24 = .ok (.bipush 17, 2) := by decide +kernel
theorem dX2_waysOf_26 : decode cX2_waysOf 26 = .ok (.iload_n 1, 1) := by decide +kernel
theorem dX2_waysOf_27 : decode cX2_waysOf 27 = .ok (.imul, 1) := by decide +kernel
theorem dX2_waysOf_28 : decode cX2_waysOf 28 = .ok (.iload_n 2, 1) := by decide +kernel
theorem dX2_waysOf_29 : decode cX2_waysOf 29 = .ok (.iadd, 1) := by decide +kernel
theorem dX2_waysOf_30 : decode cX2_waysOf 30 = .ok (.iaload, 1) := by decide +kernel
theorem dX2_waysOf_31 : decode cX2_waysOf 31 = .ok (.goto 4, 3) := by decide +kernel
theorem dX2_waysOf_34 : decode cX2_waysOf 34 = .ok (.iconst 0, 1) := by decide +kernel
theorem dX2_waysOf_35 : decode cX2_waysOf 35 = .ok (.ireturn, 1) := by decide +kernel
theorem dX2_setWays_0 : decode cX2_setWays 0 = .ok (.iload_n 1, 1) := by decide +kernel
theorem dX2_setWays_1 : decode cX2_setWays 1 = .ok (.iconst 0, 1) := by decide +kernel
theorem dX2_setWays_2 : decode cX2_setWays 2 = .ok (.bipush 16, 2) := by decide +kernel
theorem dX2_setWays_4 : decode cX2_setWays 4 = .ok (.invokestatic 52, 3) := by decide +kernel
theorem dX2_setWays_7 : decode cX2_setWays 7 = .ok (.ifCond .eq 25, 3) := by decide +kernel
theorem dX2_setWays_10 : decode cX2_setWays 10 = .ok (.iload_n 2, 1) := by decide +kernel
theorem dX2_setWays_11 : decode cX2_setWays 11 = .ok (.iconst 0, 1) := by decide +kernel
theorem dX2_setWays_12 : decode cX2_setWays 12 = .ok (.bipush 16, 2) := by decide +kernel
theorem dX2_setWays_14 : decode cX2_setWays 14 = .ok (.invokestatic 52, 3) := by decide +kernel
theorem dX2_setWays_17 : decode cX2_setWays 17 = .ok (.ifCond .eq 15, 3) := by decide +kernel
theorem dX2_setWays_20 : decode cX2_setWays 20 = .ok (.aload_n 0, 1) := by decide +kernel
theorem dX2_setWays_21 : decode cX2_setWays 21 = .ok (.getfield 11, 3) := by decide +kernel
theorem dX2_setWays_24 : decode cX2_setWays 24 = .ok (.bipush 17, 2) := by decide +kernel
theorem dX2_setWays_26 : decode cX2_setWays 26 = .ok (.iload_n 1, 1) := by decide +kernel
theorem dX2_setWays_27 : decode cX2_setWays 27 = .ok (.imul, 1) := by decide +kernel
theorem dX2_setWays_28 : decode cX2_setWays 28 = .ok (.iload_n 2, 1) := by decide +kernel
theorem dX2_setWays_29 : decode cX2_setWays 29 = .ok (.iadd, 1) := by decide +kernel
theorem dX2_setWays_30 : decode cX2_setWays 30 = .ok (.iload_n 3, 1) := by decide +kernel
theorem dX2_setWays_31 : decode cX2_setWays 31 = .ok (.iastore, 1) := by decide +kernel
theorem dX2_setWays_32 : decode cX2_setWays 32 = .ok (.return_, 1) := by decide +kernel
theorem dX3_lacing_0 : decode cX3_lacing 0 = .ok (.iload_n 0, 1) := by decide +kernel
theorem dX3_lacing_1 : decode cX3_lacing 1 = .ok (.iconst 3, 1) := by decide +kernel
theorem dX3_lacing_2 : decode cX3_lacing 2 = .ok (.if_icmp .ne 8, 3) := by decide +kernel
theorem dX3_lacing_5 : decode cX3_lacing 5 = .ok (.iload_n 1, 1) := by decide +kernel
theorem dX3_lacing_6 : decode cX3_lacing 6 = .ok (.invokestatic 9, 3) := by decide +kernel
theorem dX3_lacing_9 : decode cX3_lacing 9 = .ok (.lreturn, 1) := by decide +kernel
theorem dX3_lacing_10 : decode cX3_lacing 10 = .ok (.lconst 0, 1) := by decide +kernel
theorem dX3_lacing_11 : decode cX3_lacing 11 = .ok (.lstore_n 2, 1) := by decide +kernel
theorem dX3_lacing_12 : decode cX3_lacing 12 = .ok (.iconst 0, 1) := by decide +kernel
theorem dX3_lacing_13 : decode cX3_lacing 13 = .ok (.istore 4, 2) := by decide +kernel
theorem dX3_lacing_15 : decode cX3_lacing 15 = .ok (.iload 4, 2) := by decide +kernel
theorem dX3_lacing_17 : decode cX3_lacing 17 = .ok (.iload_n 1, 1) := by decide +kernel
theorem dX3_lacing_18 : decode cX3_lacing 18 = .ok (.if_icmp .ge 23, 3) := by decide +kernel
theorem dX3_lacing_21 : decode cX3_lacing 21 = .ok (.lload_n 2, 1) := by decide +kernel
theorem dX3_lacing_22 : decode cX3_lacing 22 = .ok (.iload 4, 2) := by decide +kernel
theorem dX3_lacing_24 : decode cX3_lacing 24 = .ok (.iload_n 0, 1) := by decide +kernel
theorem dX3_lacing_25 : decode cX3_lacing 25 = .ok (.iload_n 1, 1) := by decide +kernel
theorem dX3_lacing_26 : decode cX3_lacing 26 = .ok (.iload 4, 2) := by decide +kernel
theorem dX3_lacing_28 : decode cX3_lacing 28 = .ok (.invokestatic 13, 3) := by decide +kernel
theorem dX3_lacing_31 : decode cX3_lacing 31 = .ok (.invokestatic 17, 3) := by decide +kernel
theorem dX3_lacing_34 : decode cX3_lacing 34 = .ok (.lstore_n 2, 1) := by decide +kernel
theorem dX3_lacing_35 : decode cX3_lacing 35 = .ok (.iinc 4 1, 3) := by decide +kernel
theorem dX3_lacing_38 : decode cX3_lacing 38 = .ok (.goto (-23), 3) := by decide +kernel
theorem dX3_lacing_41 : decode cX3_lacing 41 = .ok (.lload_n 2, 1) := by decide +kernel
theorem dX3_lacing_42 : decode cX3_lacing 42 = .ok (.lreturn, 1) := by decide +kernel
theorem dX3_cutAt_0 : decode cX3_cutAt 0 = .ok (.lconst 0, 1) := by decide +kernel
theorem dX3_cutAt_1 : decode cX3_cutAt 1 = .ok (.lstore_n 2, 1) := by decide +kernel
theorem dX3_cutAt_2 : decode cX3_cutAt 2 = .ok (.iconst 0, 1) := by decide +kernel
theorem dX3_cutAt_3 : decode cX3_cutAt 3 = .ok (.istore 4, 2) := by decide +kernel
theorem dX3_cutAt_5 : decode cX3_cutAt 5 = .ok (.iload 4, 2) := by decide +kernel
theorem dX3_cutAt_7 : decode cX3_cutAt 7 = .ok (.iload_n 1, 1) := by decide +kernel
theorem dX3_cutAt_8 : decode cX3_cutAt 8 = .ok (.if_icmp .ge 37, 3) := by decide +kernel
theorem dX3_cutAt_11 : decode cX3_cutAt 11 = .ok (.iload 4, 2) := by decide +kernel
theorem dX3_cutAt_13 : decode cX3_cutAt 13 = .ok (.iload_n 0, 1) := by decide +kernel
theorem dX3_cutAt_14 : decode cX3_cutAt 14 = .ok (.iadd, 1) := by decide +kernel
theorem dX3_cutAt_15 : decode cX3_cutAt 15 = .ok (.istore 5, 2) := by decide +kernel
theorem dX3_cutAt_17 : decode cX3_cutAt 17 = .ok (.lload_n 2, 1) := by decide +kernel
theorem dX3_cutAt_18 : decode cX3_cutAt 18 = .ok (.iload 4, 2) := by decide +kernel
theorem dX3_cutAt_20 : decode cX3_cutAt 20 = .ok (.iload 5, 2) := by decide +kernel
theorem dX3_cutAt_22 : decode cX3_cutAt 22 = .ok (.iload_n 1, 1) := by decide +kernel
theorem dX3_cutAt_23 : decode cX3_cutAt 23 = .ok (.if_icmp .ge 8, 3) := by decide +kernel
theorem dX3_cutAt_26 : decode cX3_cutAt 26 = .ok (.iload 5, 2) := by decide +kernel
theorem dX3_cutAt_28 : decode cX3_cutAt 28 = .ok (.goto 7, 3) := by decide +kernel
theorem dX3_cutAt_31 : decode cX3_cutAt 31 = .ok (.iload 5, 2) := by decide +kernel
theorem dX3_cutAt_33 : decode cX3_cutAt 33 = .ok (.iload_n 1, 1) := by decide +kernel
theorem dX3_cutAt_34 : decode cX3_cutAt 34 = .ok (.isub, 1) := by decide +kernel
theorem dX3_cutAt_35 : decode cX3_cutAt 35 = .ok (.invokestatic 17, 3) := by decide +kernel
theorem dX3_cutAt_38 : decode cX3_cutAt 38 = .ok (.lstore_n 2, 1) := by decide +kernel
theorem dX3_cutAt_39 : decode cX3_cutAt 39 = .ok (.iinc 4 1, 3) := by decide +kernel
theorem dX3_cutAt_42 : decode cX3_cutAt 42 = .ok (.goto (-37), 3) := by decide +kernel
theorem dX3_cutAt_45 : decode cX3_cutAt 45 = .ok (.lload_n 2, 1) := by decide +kernel
theorem dX3_cutAt_46 : decode cX3_cutAt 46 = .ok (.lreturn, 1) := by decide +kernel
theorem dX3_turnedOver_0 : decode cX3_turnedOver 0 = .ok (.lconst 0, 1) := by decide +kernel
theorem dX3_turnedOver_1 : decode cX3_turnedOver 1 = .ok (.lstore_n 1, 1) := by decide +kernel
theorem dX3_turnedOver_2 : decode cX3_turnedOver 2 = .ok (.iconst 0, 1) := by decide +kernel
theorem dX3_turnedOver_3 : decode cX3_turnedOver 3 = .ok (.istore_n 3, 1) := by decide +kernel
theorem dX3_turnedOver_4 : decode cX3_turnedOver 4 = .ok (.iload_n 3, 1) := by decide +kernel
theorem dX3_turnedOver_5 : decode cX3_turnedOver 5 = .ok (.iload_n 0, 1) := by decide +kernel
theorem dX3_turnedOver_6 : decode cX3_turnedOver 6 = .ok (.if_icmp .ge 20, 3) := by decide +kernel
theorem dX3_turnedOver_9 : decode cX3_turnedOver 9 = .ok (.lload_n 1, 1) := by decide +kernel
theorem dX3_turnedOver_10 : decode cX3_turnedOver 10 = .ok (.iload_n 3, 1) := by decide +kernel
theorem dX3_turnedOver_11 : decode cX3_turnedOver 11 = .ok (.iload_n 0, 1) := by decide +kernel
theorem dX3_turnedOver_12 : decode cX3_turnedOver 12 = .ok (.iconst 1, 1) := by decide +kernel
theorem dX3_turnedOver_13 : decode cX3_turnedOver 13 = .ok (.isub, 1) := by decide +kernel
theorem dX3_turnedOver_14 : decode cX3_turnedOver 14 = .ok (.iload_n 3, 1) := by decide +kernel
theorem dX3_turnedOver_15 : decode cX3_turnedOver 15 = .ok (.isub, 1) := by decide +kernel
theorem dX3_turnedOver_16 : decode cX3_turnedOver 16 = .ok (.invokestatic 17, 3) := by decide +kernel
theorem dX3_turnedOver_19 : decode cX3_turnedOver 19 = .ok (.lstore_n 1, 1) := by decide +kernel
theorem dX3_turnedOver_20 : decode cX3_turnedOver 20 = .ok (.iinc 3 1, 3) := by decide +kernel
theorem dX3_turnedOver_23 : decode cX3_turnedOver 23 = .ok (.goto (-19), 3) := by decide +kernel
theorem dX3_turnedOver_26 : decode cX3_turnedOver 26 = .ok (.lload_n 1, 1) := by decide +kernel
theorem dX3_turnedOver_27 : decode cX3_turnedOver 27 = .ok (.lreturn, 1) := by decide +kernel
theorem dX3_goal_0 : decode cX3_goal 0 = .ok (.iload_n 0, 1) := by decide +kernel
theorem dX3_goal_1 : decode cX3_goal 1 = .ok (.ifCond .ne 11, 3) := by decide +kernel
theorem dX3_goal_4 : decode cX3_goal 4 = .ok (.iload_n 1, 1) := by decide +kernel
theorem dX3_goal_5 : decode cX3_goal 5 = .ok (.iconst 1, 1) := by decide +kernel
theorem dX3_goal_6 : decode cX3_goal 6 = .ok (.iadd, 1) := by decide +kernel
theorem dX3_goal_7 : decode cX3_goal 7 = .ok (.iconst 2, 1) := by decide +kernel
theorem dX3_goal_8 : decode cX3_goal 8 = .ok (.idiv, 1) := by decide +kernel
theorem dX3_goal_9 : decode cX3_goal 9 = .ok (.goto 6, 3) := by decide +kernel
theorem dX3_goal_12 : decode cX3_goal 12 = .ok (.iload_n 1, 1) := by decide +kernel
theorem dX3_goal_13 : decode cX3_goal 13 = .ok (.iconst 2, 1) := by decide +kernel
theorem dX3_goal_14 : decode cX3_goal 14 = .ok (.idiv, 1) := by decide +kernel
theorem dX3_goal_15 : decode cX3_goal 15 = .ok (.istore_n 3, 1) := by decide +kernel
theorem dX3_goal_16 : decode cX3_goal 16 = .ok (.iload_n 0, 1) := by decide +kernel
theorem dX3_goal_17 : decode cX3_goal 17 = .ok (.ifCond .ne 7, 3) := by decide +kernel
theorem dX3_goal_20 : decode cX3_goal 20 = .ok (.iconst 0, 1) := by decide +kernel
theorem dX3_goal_21 : decode cX3_goal 21 = .ok (.goto 4, 3) := by decide +kernel
theorem dX3_goal_24 : decode cX3_goal 24 = .ok (.iconst 1, 1) := by decide +kernel
theorem dX3_goal_25 : decode cX3_goal 25 = .ok (.istore 4, 2) := by decide +kernel
theorem dX3_goal_27 : decode cX3_goal 27 = .ok (.iload_n 2, 1) := by decide +kernel
theorem dX3_goal_28 : decode cX3_goal 28 = .ok (.iload_n 3, 1) := by decide +kernel
theorem dX3_goal_29 : decode cX3_goal 29 = .ok (.if_icmp .ge 12, 3) := by decide +kernel
theorem dX3_goal_32 : decode cX3_goal 32 = .ok (.iconst 2, 1) := by decide +kernel
theorem dX3_goal_33 : decode cX3_goal 33 = .ok (.iload_n 2, 1) := by decide +kernel
theorem dX3_goal_34 : decode cX3_goal 34 = .ok (.imul, 1) := by decide +kernel
theorem dX3_goal_35 : decode cX3_goal 35 = .ok (.iload 4, 2) := by decide +kernel
theorem dX3_goal_37 : decode cX3_goal 37 = .ok (.iadd, 1) := by decide +kernel
theorem dX3_goal_38 : decode cX3_goal 38 = .ok (.goto 13, 3) := by decide +kernel
theorem dX3_goal_41 : decode cX3_goal 41 = .ok (.iconst 2, 1) := by decide +kernel
theorem dX3_goal_42 : decode cX3_goal 42 = .ok (.iload_n 2, 1) := by decide +kernel
theorem dX3_goal_43 : decode cX3_goal 43 = .ok (.iload_n 3, 1) := by decide +kernel
theorem dX3_goal_44 : decode cX3_goal 44 = .ok (.isub, 1) := by decide +kernel
theorem dX3_goal_45 : decode cX3_goal 45 = .ok (.imul, 1) := by decide +kernel
theorem dX3_goal_46 : decode cX3_goal 46 = .ok (.iconst 1, 1) := by decide +kernel
theorem dX3_goal_47 : decode cX3_goal 47 = .ok (.iadd, 1) := by decide +kernel
theorem dX3_goal_48 : decode cX3_goal 48 = .ok (.iload 4, 2) := by decide +kernel
theorem dX3_goal_50 : decode cX3_goal 50 = .ok (.isub, 1) := by decide +kernel
theorem dX3_goal_51 : decode cX3_goal 51 = .ok (.ireturn, 1) := by decide +kernel
theorem dX3_source_0 : decode cX3_source 0 = .ok (.iload_n 2, 1) := by decide +kernel
theorem dX3_source_1 : decode cX3_source 1 = .ok (.iconst 2, 1) := by decide +kernel
theorem dX3_source_2 : decode cX3_source 2 = .ok (.idiv, 1) := by decide +kernel
theorem dX3_source_3 : decode cX3_source 3 = .ok (.istore_n 3, 1) := by decide +kernel
theorem dX3_source_4 : decode cX3_source 4 = .ok (.iload_n 2, 1) := by decide +kernel
theorem dX3_source_5 : decode cX3_source 5 = .ok (.iconst 2, 1) := by decide +kernel
theorem dX3_source_6 : decode cX3_source 6 = .ok (.irem, 1) := by decide +kernel
theorem dX3_source_7 : decode cX3_source 7 = .ok (.ifCond .ne 7, 3) := by decide +kernel
theorem dX3_source_10 : decode cX3_source 10 = .ok (.iconst 1, 1) := by decide +kernel
theorem dX3_source_11 : decode cX3_source 11 = .ok (.goto 4, 3) := by decide +kernel
theorem dX3_source_14 : decode cX3_source 14 = .ok (.iconst 0, 1) := by decide +kernel
theorem dX3_source_15 : decode cX3_source 15 = .ok (.istore 4, 2) := by decide +kernel
theorem dX3_source_17 : decode cX3_source 17 = .ok (.iload_n 0, 1) := by decide +kernel
theorem dX3_source_18 : decode cX3_source 18 = .ok (.tableswitch 73 0 2 #[26, 43, 58], 26) := by decide +kernel
theorem dX3_source_44 : decode cX3_source 44 = .ok (.iload 4, 2) := by decide +kernel
theorem dX3_source_46 : decode cX3_source 46 = .ok (.ifCond .eq 7, 3) := by decide +kernel
theorem dX3_source_49 : decode cX3_source 49 = .ok (.iload_n 3, 1) := by decide +kernel
theorem dX3_source_50 : decode cX3_source 50 = .ok (.goto 10, 3) := by decide +kernel
theorem dX3_source_53 : decode cX3_source 53 = .ok (.iload_n 1, 1) := by decide +kernel
theorem dX3_source_54 : decode cX3_source 54 = .ok (.iconst 1, 1) := by decide +kernel
theorem dX3_source_55 : decode cX3_source 55 = .ok (.iadd, 1) := by decide +kernel
theorem dX3_source_56 : decode cX3_source 56 = .ok (.iconst 2, 1) := by decide +kernel
theorem dX3_source_57 : decode cX3_source 57 = .ok (.idiv, 1) := by decide +kernel
theorem dX3_source_58 : decode cX3_source 58 = .ok (.iload_n 3, 1) := by decide +kernel
theorem dX3_source_59 : decode cX3_source 59 = .ok (.iadd, 1) := by decide +kernel
theorem dX3_source_60 : decode cX3_source 60 = .ok (.ireturn, 1) := by decide +kernel
theorem dX3_source_61 : decode cX3_source 61 = .ok (.iload 4, 2) := by decide +kernel
theorem dX3_source_63 : decode cX3_source 63 = .ok (.ifCond .eq 11, 3) := by decide +kernel
theorem dX3_source_66 : decode cX3_source 66 = .ok (.iload_n 1, 1) := by decide +kernel
theorem dX3_source_67 : decode cX3_source 67 = .ok (.iconst 2, 1) := by decide +kernel
theorem dX3_source_68 : decode cX3_source 68 = .ok (.idiv, 1) := by decide +kernel
theorem dX3_source_69 : decode cX3_source 69 = .ok (.iload_n 3, 1) := by decide +kernel
theorem dX3_source_70 : decode cX3_source 70 = .ok (.iadd, 1) := by decide +kernel
theorem dX3_source_71 : decode cX3_source 71 = .ok (.goto 4, 3) := by decide +kernel
theorem dX3_source_74 : decode cX3_source 74 = .ok (.iload_n 3, 1) := by decide +kernel
theorem dX3_source_75 : decode cX3_source 75 = .ok (.ireturn, 1) := by decide +kernel
theorem dX3_source_76 : decode cX3_source 76 = .ok (.iload 4, 2) := by decide +kernel
theorem dX3_source_78 : decode cX3_source 78 = .ok (.ifCond .eq 7, 3) := by decide +kernel
theorem dX3_source_81 : decode cX3_source 81 = .ok (.iload_n 3, 1) := by decide +kernel
theorem dX3_source_82 : decode cX3_source 82 = .ok (.goto 8, 3) := by decide +kernel
theorem dX3_source_85 : decode cX3_source 85 = .ok (.iload_n 1, 1) := by decide +kernel
theorem dX3_source_86 : decode cX3_source 86 = .ok (.iconst 1, 1) := by decide +kernel
theorem dX3_source_87 : decode cX3_source 87 = .ok (.isub, 1) := by decide +kernel
theorem dX3_source_88 : decode cX3_source 88 = .ok (.iload_n 3, 1) := by decide +kernel
theorem dX3_source_89 : decode cX3_source 89 = .ok (.isub, 1) := by decide +kernel
theorem dX3_source_90 : decode cX3_source 90 = .ok (.ireturn, 1) := by decide +kernel
theorem dX3_source_91 : decode cX3_source 91 = .ok (.iload 4, 2) := by decide +kernel
theorem dX3_source_93 : decode cX3_source 93 = .ok (.ifCond .eq 11, 3) := by decide +kernel
theorem dX3_source_96 : decode cX3_source 96 = .ok (.iload_n 1, 1) := by decide +kernel
theorem dX3_source_97 : decode cX3_source 97 = .ok (.iconst 1, 1) := by decide +kernel
theorem dX3_source_98 : decode cX3_source 98 = .ok (.isub, 1) := by decide +kernel
theorem dX3_source_99 : decode cX3_source 99 = .ok (.iload_n 3, 1) := by decide +kernel
theorem dX3_source_100 : decode cX3_source 100 = .ok (.isub, 1) := by decide +kernel
theorem dX3_source_101 : decode cX3_source 101 = .ok (.goto 4, 3) := by decide +kernel
theorem dX3_source_104 : decode cX3_source 104 = .ok (.iload_n 3, 1) := by decide +kernel
theorem dX3_source_105 : decode cX3_source 105 = .ok (.ireturn, 1) := by decide +kernel
theorem dX3_downAndUnder_0 : decode cX3_downAndUnder 0 = .ok (.iload_n 0, 1) := by decide +kernel
theorem dX3_downAndUnder_1 : decode cX3_downAndUnder 1 = .ok (.invokestatic 23, 3) := by decide +kernel
theorem dX3_downAndUnder_4 : decode cX3_downAndUnder 4 = .ok (.lstore_n 1, 1) := by decide +kernel
theorem dX3_downAndUnder_5 : decode cX3_downAndUnder 5 = .ok (.lconst 0, 1) := by decide +kernel
theorem dX3_downAndUnder_6 : decode cX3_downAndUnder 6 = .ok (.lstore_n 3, 1) := by decide +kernel
theorem dX3_downAndUnder_7 : decode cX3_downAndUnder 7 = .ok (.iconst 0, 1) := by decide +kernel
theorem dX3_downAndUnder_8 : decode cX3_downAndUnder 8 = .ok (.istore 5, 2) := by decide +kernel
theorem dX3_downAndUnder_10 : decode cX3_downAndUnder 10 = .ok (.iload 5, 2) := by decide +kernel
theorem dX3_downAndUnder_12 : decode cX3_downAndUnder 12 = .ok (.iload_n 0, 1) := by decide +kernel
theorem dX3_downAndUnder_13 : decode cX3_downAndUnder 13 = .ok (.if_icmp .ge 55, 3) := by decide +kernel
theorem dX3_downAndUnder_16 : decode cX3_downAndUnder 16 = .ok (.lload_n 3, 1) := by decide +kernel
theorem dX3_downAndUnder_17 : decode cX3_downAndUnder 17 = .ok (.iload 5, 2) := by decide +kernel
theorem dX3_downAndUnder_19 : decode cX3_downAndUnder 19 = .ok (.lload_n 1, 1) := by decide +kernel
theorem dX3_downAndUnder_20 : decode cX3_downAndUnder 20 = .ok (.iconst 0, 1) := by decide +kernel
theorem dX3_downAndUnder_21 : decode cX3_downAndUnder 21 = .ok (.invokestatic 26, 3) := by decide +kernel
theorem dX3_downAndUnder_24 : decode cX3_downAndUnder 24 = .ok (.invokestatic 17, 3) := by decide +kernel
theorem dX3_downAndUnder_27 : decode cX3_downAndUnder 27 = .ok (.lstore_n 3, 1) := by decide +kernel
theorem dX3_downAndUnder_28 : decode cX3_downAndUnder 28 = .ok (.iload_n 0, 1) := by decide +kernel
theorem dX3_downAndUnder_29 : decode cX3_downAndUnder 29 = .ok (.iconst 1, 1) := by decide +kernel
theorem dX3_downAndUnder_30 : decode cX3_downAndUnder 30 = .ok (.isub, 1) := by decide +kernel
theorem dX3_downAndUnder_31 : decode cX3_downAndUnder 31 = .ok (.iload 5, 2) := by decide +kernel
theorem dX3_downAndUnder_33 : decode cX3_downAndUnder 33 = .ok (.isub, 1) := by decide +kernel
theorem dX3_downAndUnder_34 : decode cX3_downAndUnder 34 = .ok (.istore 6, 2) := by decide +kernel
theorem dX3_downAndUnder_36 : decode cX3_downAndUnder 36 = .ok (.lload_n 1, 1) := by decide +kernel
theorem dX3_downAndUnder_37 : decode cX3_downAndUnder 37 = .ok (.iconst 4, 1) := by decide +kernel
theorem dX3_downAndUnder_38 : decode cX3_downAndUnder 38 = .ok (.lushr, 1) := by decide +kernel
theorem dX3_downAndUnder_39 : decode cX3_downAndUnder 39 = .ok (.lstore_n 1, 1) := by decide +kernel
theorem dX3_downAndUnder_40 : decode cX3_downAndUnder 40 = .ok (.iload 6, 2) := by decide +kernel
theorem dX3_downAndUnder_42 : decode cX3_downAndUnder 42 = .ok (.iconst 1, 1) := by decide +kernel
theorem dX3_downAndUnder_43 : decode cX3_downAndUnder 43 = .ok (.if_icmp .le 19, 3) := by decide +kernel
theorem dX3_downAndUnder_46 : decode cX3_downAndUnder 46 = .ok (.lload_n 1, 1) := by decide +kernel
theorem dX3_downAndUnder_47 : decode cX3_downAndUnder 47 = .ok (.iconst 4, 1) := by decide +kernel
theorem dX3_downAndUnder_48 : decode cX3_downAndUnder 48 = .ok (.lushr, 1) := by decide +kernel
theorem dX3_downAndUnder_49 : decode cX3_downAndUnder 49 = .ok (.iload 6, 2) := by decide +kernel
theorem dX3_downAndUnder_51 : decode cX3_downAndUnder 51 = .ok (.iconst 1, 1) := by decide +kernel
theorem dX3_downAndUnder_52 : decode cX3_downAndUnder 52 = .ok (.isub, 1) := by decide +kernel
theorem dX3_downAndUnder_53 : decode cX3_downAndUnder 53 = .ok (.lload_n 1, 1) := by decide +kernel
theorem dX3_downAndUnder_54 : decode cX3_downAndUnder 54 = .ok (.iconst 0, 1) := by decide +kernel
theorem dX3_downAndUnder_55 : decode cX3_downAndUnder 55 = .ok (.invokestatic 26, 3) := by decide +kernel
theorem dX3_downAndUnder_58 : decode cX3_downAndUnder 58 = .ok (.invokestatic 17, 3) := by decide +kernel
theorem dX3_downAndUnder_61 : decode cX3_downAndUnder 61 = .ok (.lstore_n 1, 1) := by decide +kernel
theorem dX3_downAndUnder_62 : decode cX3_downAndUnder 62 = .ok (.iinc 5 1, 3) := by decide +kernel
theorem dX3_downAndUnder_65 : decode cX3_downAndUnder 65 = .ok (.goto (-55), 3) := by decide +kernel
theorem dX3_downAndUnder_68 : decode cX3_downAndUnder 68 = .ok (.lload_n 3, 1) := by decide +kernel
theorem dX3_downAndUnder_69 : decode cX3_downAndUnder 69 = .ok (.lreturn, 1) := by decide +kernel
theorem dX4_inOrder_0 : decode cX4_inOrder 0 = .ok (.lconst 0, 1) := by decide +kernel
theorem dX4_inOrder_1 : decode cX4_inOrder 1 = .ok (.lstore_n 1, 1) := by decide +kernel
theorem dX4_inOrder_2 : decode cX4_inOrder 2 = .ok (.iconst 0, 1) := by decide +kernel
theorem dX4_inOrder_3 : decode cX4_inOrder 3 = .ok (.istore_n 3, 1) := by decide +kernel
theorem dX4_inOrder_4 : decode cX4_inOrder 4 = .ok (.iload_n 3, 1) := by decide +kernel
theorem dX4_inOrder_5 : decode cX4_inOrder 5 = .ok (.iload_n 0, 1) := by decide +kernel
theorem dX4_inOrder_6 : decode cX4_inOrder 6 = .ok (.if_icmp .ge 16, 3) := by decide +kernel
theorem dX4_inOrder_9 : decode cX4_inOrder 9 = .ok (.lload_n 1, 1) := by decide +kernel
theorem dX4_inOrder_10 : decode cX4_inOrder 10 = .ok (.iload_n 3, 1) := by decide +kernel
theorem dX4_inOrder_11 : decode cX4_inOrder 11 = .ok (.iload_n 3, 1) := by decide +kernel
theorem dX4_inOrder_12 : decode cX4_inOrder 12 = .ok (.invokestatic 7, 3) := by decide +kernel
theorem dX4_inOrder_15 : decode cX4_inOrder 15 = .ok (.lstore_n 1, 1) := by decide +kernel
theorem dX4_inOrder_16 : decode cX4_inOrder 16 = .ok (.iinc 3 1, 3) := by decide +kernel
theorem dX4_inOrder_19 : decode cX4_inOrder 19 = .ok (.goto (-15), 3) := by decide +kernel
theorem dX4_inOrder_22 : decode cX4_inOrder 22 = .ok (.lload_n 1, 1) := by decide +kernel
theorem dX4_inOrder_23 : decode cX4_inOrder 23 = .ok (.lreturn, 1) := by decide +kernel
theorem dX4_cardAt_0 : decode cX4_cardAt 0 = .ok (.lload_n 0, 1) := by decide +kernel
theorem dX4_cardAt_1 : decode cX4_cardAt 1 = .ok (.iconst 4, 1) := by decide +kernel
theorem dX4_cardAt_2 : decode cX4_cardAt 2 = .ok (.iload_n 2, 1) := by decide +kernel
theorem dX4_cardAt_3 : decode cX4_cardAt 3 = .ok (.imul, 1) := by decide +kernel
theorem dX4_cardAt_4 : decode cX4_cardAt 4 = .ok (.lushr, 1) := by decide +kernel
theorem dX4_cardAt_5 : decode cX4_cardAt 5 = .ok (.l2i, 1) := by decide +kernel
theorem dX4_cardAt_6 : decode cX4_cardAt 6 = .ok (.bipush 15, 2) := by decide +kernel
theorem dX4_cardAt_8 : decode cX4_cardAt 8 = .ok (.iand, 1) := by decide +kernel
theorem dX4_cardAt_9 : decode cX4_cardAt 9 = .ok (.ireturn, 1) := by decide +kernel
theorem dX4_with_0 : decode cX4_with 0 = .ok (.lload_n 0, 1) := by decide +kernel
theorem dX4_with_1 : decode cX4_with 1 = .ok (.iload_n 3, 1) := by decide +kernel
theorem dX4_with_2 : decode cX4_with 2 = .ok (.i2l, 1) := by decide +kernel
theorem dX4_with_3 : decode cX4_with 3 = .ok (.iconst 4, 1) := by decide +kernel
theorem dX4_with_4 : decode cX4_with 4 = .ok (.iload_n 2, 1) := by decide +kernel
theorem dX4_with_5 : decode cX4_with 5 = .ok (.imul, 1) := by decide +kernel
theorem dX4_with_6 : decode cX4_with 6 = .ok (.lshl, 1) := by decide +kernel
theorem dX4_with_7 : decode cX4_with 7 = .ok (.lor, 1) := by decide +kernel
theorem dX4_with_8 : decode cX4_with 8 = .ok (.lreturn, 1) := by decide +kernel
theorem dX4_placeOf_0 : decode cX4_placeOf 0 = .ok (.iconst 0, 1) := by decide +kernel
theorem dX4_placeOf_1 : decode cX4_placeOf 1 = .ok (.istore 4, 2) := by decide +kernel
theorem dX4_placeOf_3 : decode cX4_placeOf 3 = .ok (.iconst 0, 1) := by decide +kernel
theorem dX4_placeOf_4 : decode cX4_placeOf 4 = .ok (.istore 5, 2) := by decide +kernel
theorem dX4_placeOf_6 : decode cX4_placeOf 6 = .ok (.iload 5, 2) := by decide +kernel
theorem dX4_placeOf_8 : decode cX4_placeOf 8 = .ok (.iload_n 2, 1) := by decide +kernel
theorem dX4_placeOf_9 : decode cX4_placeOf 9 = .ok (.if_icmp .ge 23, 3) := by decide +kernel
theorem dX4_placeOf_12 : decode cX4_placeOf 12 = .ok (.lload_n 0, 1) := by decide +kernel
theorem dX4_placeOf_13 : decode cX4_placeOf 13 = .ok (.iload 5, 2) := by decide +kernel
theorem dX4_placeOf_15 : decode cX4_placeOf 15 = .ok (.invokestatic 13, 3) := by decide +kernel
theorem dX4_placeOf_18 : decode cX4_placeOf 18 = .ok (.iload_n 3, 1) := by decide +kernel
theorem dX4_placeOf_19 : decode cX4_placeOf 19 = .ok (.if_icmp .ne 7, 3) := by decide +kernel
theorem dX4_placeOf_22 : decode cX4_placeOf 22 = .ok (.iload 5, 2) := by decide +kernel
theorem dX4_placeOf_24 : decode cX4_placeOf 24 = .ok (.istore 4, 2) := by decide +kernel
theorem dX4_placeOf_26 : decode cX4_placeOf 26 = .ok (.iinc 5 1, 3) := by decide +kernel
theorem dX4_placeOf_29 : decode cX4_placeOf 29 = .ok (.goto (-23), 3) := by decide +kernel
theorem dX4_placeOf_32 : decode cX4_placeOf 32 = .ok (.iload 4, 2) := by decide +kernel
theorem dX4_placeOf_34 : decode cX4_placeOf 34 = .ok (.ireturn, 1) := by decide +kernel
theorem dX4_moved_0 : decode cX4_moved 0 = .ok (.lconst 0, 1) := by decide +kernel
theorem dX4_moved_1 : decode cX4_moved 1 = .ok (.lstore 5, 2) := by decide +kernel
theorem dX4_moved_3 : decode cX4_moved 3 = .ok (.iconst 0, 1) := by decide +kernel
theorem dX4_moved_4 : decode cX4_moved 4 = .ok (.istore 7, 2) := by decide +kernel
theorem dX4_moved_6 : decode cX4_moved 6 = .ok (.iload 7, 2) := by decide +kernel
theorem dX4_moved_8 : decode cX4_moved 8 = .ok (.iload 4, 2) := by decide +kernel
theorem dX4_moved_10 : decode cX4_moved 10 = .ok (.if_icmp .ge 28, 3) := by decide +kernel
theorem dX4_moved_13 : decode cX4_moved 13 = .ok (.lload 5, 2) := by decide +kernel
theorem dX4_moved_15 : decode cX4_moved 15 = .ok (.iload 7, 2) := by decide +kernel
theorem dX4_moved_17 : decode cX4_moved 17 = .ok (.lload_n 0, 1) := by decide +kernel
theorem dX4_moved_18 : decode cX4_moved 18 = .ok (.lload_n 2, 1) := by decide +kernel
theorem dX4_moved_19 : decode cX4_moved 19 = .ok (.iload 7, 2) := by decide +kernel
theorem dX4_moved_21 : decode cX4_moved 21 = .ok (.invokestatic 13, 3) := by decide +kernel
theorem dX4_moved_24 : decode cX4_moved 24 = .ok (.invokestatic 13, 3) := by decide +kernel
theorem dX4_moved_27 : decode cX4_moved 27 = .ok (.invokestatic 7, 3) := by decide +kernel
theorem dX4_moved_30 : decode cX4_moved 30 = .ok (.lstore 5, 2) := by decide +kernel
theorem dX4_moved_32 : decode cX4_moved 32 = .ok (.iinc 7 1, 3) := by decide +kernel
theorem dX4_moved_35 : decode cX4_moved 35 = .ok (.goto (-29), 3) := by decide +kernel
theorem dX4_moved_38 : decode cX4_moved 38 = .ok (.lload 5, 2) := by decide +kernel
theorem dX4_moved_40 : decode cX4_moved 40 = .ok (.lreturn, 1) := by decide +kernel
theorem dX4_sameCards_0 : decode cX4_sameCards 0 = .ok (.iconst 0, 1) := by decide +kernel
theorem dX4_sameCards_1 : decode cX4_sameCards 1 = .ok (.istore 5, 2) := by decide +kernel
theorem dX4_sameCards_3 : decode cX4_sameCards 3 = .ok (.iconst 0, 1) := by decide +kernel
theorem dX4_sameCards_4 : decode cX4_sameCards 4 = .ok (.istore 6, 2) := by decide +kernel
theorem dX4_sameCards_6 : decode cX4_sameCards 6 = .ok (.iload 6, 2) := by decide +kernel
theorem dX4_sameCards_8 : decode cX4_sameCards 8 = .ok (.iload 4, 2) := by decide +kernel
theorem dX4_sameCards_10 : decode cX4_sameCards 10 = .ok (.if_icmp .ge 27, 3) := by decide +kernel
theorem dX4_sameCards_13 : decode cX4_sameCards 13 = .ok (.lload_n 0, 1) := by decide +kernel
theorem dX4_sameCards_14 : decode cX4_sameCards 14 = .ok (.iload 6, 2) := by decide +kernel
theorem dX4_sameCards_16 : decode cX4_sameCards 16 = .ok (.invokestatic 13, 3) := by decide +kernel
theorem dX4_sameCards_19 : decode cX4_sameCards 19 = .ok (.lload_n 2, 1) := by decide +kernel
theorem dX4_sameCards_20 : decode cX4_sameCards 20 = .ok (.iload 6, 2) := by decide +kernel
theorem dX4_sameCards_22 : decode cX4_sameCards 22 = .ok (.invokestatic 13, 3) := by decide +kernel
theorem dX4_sameCards_25 : decode cX4_sameCards 25 = .ok (.if_icmp .ne 6, 3) := by decide +kernel
theorem dX4_sameCards_28 : decode cX4_sameCards 28 = .ok (.iinc 5 1, 3) := by decide +kernel
theorem dX4_sameCards_31 : decode cX4_sameCards 31 = .ok (.iinc 6 1, 3) := by decide +kernel
theorem dX4_sameCards_34 : decode cX4_sameCards 34 = .ok (.goto (-28), 3) := by decide +kernel
theorem dX4_sameCards_37 : decode cX4_sameCards 37 = .ok (.iload 5, 2) := by decide +kernel
theorem dX4_sameCards_39 : decode cX4_sameCards 39 = .ok (.ireturn, 1) := by decide +kernel
theorem dX4_risingRows_0 : decode cX4_risingRows 0 = .ok (.lconst 0, 1) := by decide +kernel
theorem dX4_risingRows_1 : decode cX4_risingRows 1 = .ok (.lstore_n 3, 1) := by decide +kernel
theorem dX4_risingRows_2 : decode cX4_risingRows 2 = .ok (.iconst 0, 1) := by decide +kernel
theorem dX4_risingRows_3 : decode cX4_risingRows 3 = .ok (.istore 5, 2) := by decide +kernel
theorem dX4_risingRows_5 : decode cX4_risingRows 5 = .ok (.iload 5, 2) := by decide +kernel
theorem dX4_risingRows_7 : decode cX4_risingRows 7 = .ok (.iload_n 2, 1) := by decide +kernel
theorem dX4_risingRows_8 : decode cX4_risingRows 8 = .ok (.if_icmp .ge 22, 3) := by decide +kernel
theorem dX4_risingRows_11 : decode cX4_risingRows 11 = .ok (.lload_n 3, 1) := by decide +kernel
theorem dX4_risingRows_12 : decode cX4_risingRows 12 = .ok (.lload_n 0, 1) := by decide +kernel
theorem dX4_risingRows_13 : decode cX4_risingRows 13 = .ok (.iload 5, 2) := by decide +kernel
theorem dX4_risingRows_15 : decode cX4_risingRows 15 = .ok (.invokestatic 13, 3) := by decide +kernel
theorem dX4_risingRows_18 : decode cX4_risingRows 18 = .ok (.iload 5, 2) := by decide +kernel
theorem dX4_risingRows_20 : decode cX4_risingRows 20 = .ok (.invokestatic 7, 3) := by decide +kernel
theorem dX4_risingRows_23 : decode cX4_risingRows 23 = .ok (.lstore_n 3, 1) := by decide +kernel
theorem dX4_risingRows_24 : decode cX4_risingRows 24 = .ok (.iinc 5 1, 3) := by decide +kernel
theorem dX4_risingRows_27 : decode cX4_risingRows 27 = .ok (.goto (-22), 3) := by decide +kernel
theorem dX4_risingRows_30 : decode cX4_risingRows 30 = .ok (.iconst 1, 1) := by decide +kernel
theorem dX4_risingRows_31 : decode cX4_risingRows 31 = .ok (.istore 5, 2) := by decide +kernel
theorem dX4_risingRows_33 : decode cX4_risingRows 33 = .ok (.iconst 0, 1) := by decide +kernel
theorem dX4_risingRows_34 : decode cX4_risingRows 34 = .ok (.istore 6, 2) := by decide +kernel
theorem dX4_risingRows_36 : decode cX4_risingRows 36 = .ok (.iload 6, 2) := by decide +kernel
theorem dX4_risingRows_38 : decode cX4_risingRows 38 = .ok (.iconst 1, 1) := by decide +kernel
theorem dX4_risingRows_39 : decode cX4_risingRows 39 = .ok (.iadd, 1) := by decide +kernel
theorem dX4_risingRows_40 : decode cX4_risingRows 40 = .ok (.iload_n 2, 1) := by decide +kernel
theorem dX4_risingRows_41 : decode cX4_risingRows 41 = .ok (.if_icmp .ge 29, 3) := by decide +kernel
theorem dX4_risingRows_44 : decode cX4_risingRows 44 = .ok (.lload_n 3, 1) := by decide +kernel
theorem dX4_risingRows_45 : decode cX4_risingRows 45 = .ok (.iload 6, 2) := by decide +kernel
theorem dX4_risingRows_47 : decode cX4_risingRows 47 = .ok (.iconst 1, 1) := by decide +kernel
theorem dX4_risingRows_48 : decode cX4_risingRows 48 = .ok (.iadd, 1) := by decide +kernel
theorem dX4_risingRows_49 : decode cX4_risingRows 49 = .ok (.invokestatic 13, 3) := by decide +kernel
theorem dX4_risingRows_52 : decode cX4_risingRows 52 = .ok (.lload_n 3, 1) := by decide +kernel
theorem dX4_risingRows_53 : decode cX4_risingRows 53 = .ok (.iload 6, 2) := by decide +kernel
theorem dX4_risingRows_55 : decode cX4_risingRows 55 = .ok (.invokestatic 13, 3) := by decide +kernel
theorem dX4_risingRows_58 : decode cX4_risingRows 58 = .ok (.if_icmp .ge 6, 3) := by decide +kernel
theorem dX4_risingRows_61 : decode cX4_risingRows 61 = .ok (.iinc 5 1, 3) := by decide +kernel
theorem dX4_risingRows_64 : decode cX4_risingRows 64 = .ok (.iinc 6 1, 3) := by decide +kernel
theorem dX4_risingRows_67 : decode cX4_risingRows 67 = .ok (.goto (-31), 3) := by decide +kernel
theorem dX4_risingRows_70 : decode cX4_risingRows 70 = .ok (.iload 5, 2) := by decide +kernel
theorem dX4_risingRows_72 : decode cX4_risingRows 72 = .ok (.ireturn, 1) := by decide +kernel
theorem dX4_roundLength_0 : decode cX4_roundLength 0 = .ok (.iload_n 3, 1) := by decide +kernel
theorem dX4_roundLength_1 : decode cX4_roundLength 1 = .ok (.istore 4, 2) := by decide +kernel
theorem dX4_roundLength_3 : decode cX4_roundLength 3 = .ok (.iconst 1, 1) := by decide +kernel
theorem dX4_roundLength_4 : decode cX4_roundLength 4 = .ok (.istore 5, 2) := by decide +kernel
theorem dX4_roundLength_6 : decode cX4_roundLength 6 = .ok (.iload 5, 2) := by decide +kernel
theorem dX4_roundLength_8 : decode cX4_roundLength 8 = .ok (.iload_n 2, 1) := by decide +kernel
theorem dX4_roundLength_9 : decode cX4_roundLength 9 = .ok (.if_icmp .ge 26, 3) := by decide +kernel
theorem dX4_roundLength_12 : decode cX4_roundLength 12 = .ok (.lload_n 0, 1) := by decide +kernel
theorem dX4_roundLength_13 : decode cX4_roundLength 13 = .ok (.iload 4, 2) := by decide +kernel
theorem dX4_roundLength_15 : decode cX4_roundLength 15 = .ok (.invokestatic 13, 3) := by decide +kernel
theorem dX4_roundLength_18 : decode cX4_roundLength 18 = .ok (.istore 4, 2) := by decide +kernel
theorem dX4_roundLength_20 : decode cX4_roundLength 20 = .ok (.iload 4, 2) := by decide +kernel
theorem dX4_roundLength_22 : decode cX4_roundLength 22 = .ok (.iload_n 3, 1) := by decide +kernel
theorem dX4_roundLength_23 : decode cX4_roundLength 23 = .ok (.if_icmp .ne 6, 3) := by decide +kernel
theorem dX4_roundLength_26 : decode cX4_roundLength 26 = .ok (.iload 5, 2) := by decide +kernel
theorem dX4_roundLength_28 : decode cX4_roundLength 28 = .ok (.ireturn, 1) := by decide +kernel
theorem dX4_roundLength_29 : decode cX4_roundLength 29 = .ok (.iinc 5 1, 3) := by decide +kernel
theorem dX4_roundLength_32 : decode cX4_roundLength 32 = .ok (.goto (-26), 3) := by decide +kernel
theorem dX4_roundLength_35 : decode cX4_roundLength 35 = .ok (.iload_n 2, 1) := by decide +kernel
theorem dX4_roundLength_36 : decode cX4_roundLength 36 = .ok (.ireturn, 1) := by decide +kernel
theorem dX4_roundCount_0 : decode cX4_roundCount 0 = .ok (.iconst 0, 1) := by decide +kernel
theorem dX4_roundCount_1 : decode cX4_roundCount 1 = .ok (.istore_n 3, 1) := by decide +kernel
theorem dX4_roundCount_2 : decode cX4_roundCount 2 = .ok (.iconst 0, 1) := by decide +kernel
theorem dX4_roundCount_3 : decode cX4_roundCount 3 = .ok (.istore 4, 2) := by decide +kernel
theorem dX4_roundCount_5 : decode cX4_roundCount 5 = .ok (.iconst 0, 1) := by decide +kernel
theorem dX4_roundCount_6 : decode cX4_roundCount 6 = .ok (.istore 5, 2) := by decide +kernel
theorem dX4_roundCount_8 : decode cX4_roundCount 8 = .ok (.iload 5, 2) := by decide +kernel
theorem dX4_roundCount_10 : decode cX4_roundCount 10 = .ok (.iload_n 2, 1) := by decide +kernel
theorem dX4_roundCount_11 : decode cX4_roundCount 11 = .ok (.if_icmp .ge 31, 3) := by decide +kernel
theorem dX4_roundCount_14 : decode cX4_roundCount 14 = .ok (.iload_n 3, 1) := by decide +kernel
theorem dX4_roundCount_15 : decode cX4_roundCount 15 = .ok (.iload 5, 2) := by decide +kernel
theorem dX4_roundCount_17 : decode cX4_roundCount 17 = .ok (.ishr, 1) := by decide +kernel
theorem dX4_roundCount_18 : decode cX4_roundCount 18 = .ok (.iconst 1, 1) := by decide +kernel
theorem dX4_roundCount_19 : decode cX4_roundCount 19 = .ok (.iand, 1) := by decide +kernel
theorem dX4_roundCount_20 : decode cX4_roundCount 20 = .ok (.ifCond .ne 16, 3) := by decide +kernel
theorem dX4_roundCount_23 : decode cX4_roundCount 23 = .ok (.iinc 4 1, 3) := by decide +kernel
theorem dX4_roundCount_26 : decode cX4_roundCount 26 = .ok (.iload_n 3, 1) := by decide +kernel
theorem dX4_roundCount_27 : decode cX4_roundCount 27 = .ok (.lload_n 0, 1) := by decide +kernel
theorem dX4_roundCount_28 : decode cX4_roundCount 28 = .ok (.iload_n 2, 1) := by decide +kernel
theorem dX4_roundCount_29 : decode cX4_roundCount 29 = .ok (.iload 5, 2) := by decide +kernel
theorem dX4_roundCount_31 : decode cX4_roundCount 31 = .ok (.invokestatic 17, 3) := by decide +kernel
theorem dX4_roundCount_34 : decode cX4_roundCount 34 = .ok (.ior, 1) := by decide +kernel
theorem dX4_roundCount_35 : decode cX4_roundCount 35 = .ok (.istore_n 3, 1) := by decide +kernel
theorem dX4_roundCount_36 : decode cX4_roundCount 36 = .ok (.iinc 5 1, 3) := by decide +kernel
theorem dX4_roundCount_39 : decode cX4_roundCount 39 = .ok (.goto (-31), 3) := by decide +kernel
theorem dX4_roundCount_42 : decode cX4_roundCount 42 = .ok (.iload 4, 2) := by decide +kernel
theorem dX4_roundCount_44 : decode cX4_roundCount 44 = .ok (.ireturn, 1) := by decide +kernel
theorem dX4_timesTillSame_0 : decode cX4_timesTillSame 0 = .ok (.iconst 1, 1) := by decide +kernel
theorem dX4_timesTillSame_1 : decode cX4_timesTillSame 1 = .ok (.istore_n 3, 1) := by decide +kernel
theorem dX4_timesTillSame_2 : decode cX4_timesTillSame 2 = .ok (.iconst 0, 1) := by decide +kernel
theorem dX4_timesTillSame_3 : decode cX4_timesTillSame 3 = .ok (.istore 4, 2) := by decide +kernel
theorem dX4_timesTillSame_5 : decode cX4_timesTillSame 5 = .ok (.iload 4, 2) := by decide +kernel
theorem dX4_timesTillSame_7 : decode cX4_timesTillSame 7 = .ok (.iload_n 2, 1) := by decide +kernel
theorem dX4_timesTillSame_8 : decode cX4_timesTillSame 8 = .ok (.if_icmp .ge 43, 3) := by decide +kernel
theorem dX4_timesTillSame_11 : decode cX4_timesTillSame 11 = .ok (.lload_n 0, 1) := by decide +kernel
theorem dX4_timesTillSame_12 : decode cX4_timesTillSame 12 = .ok (.iload_n 2, 1) := by decide +kernel
theorem dX4_timesTillSame_13 : decode cX4_timesTillSame 13 = .ok (.iload 4, 2) := by decide +kernel
theorem dX4_timesTillSame_15 : decode cX4_timesTillSame 15 = .ok (.invokestatic 21, 3) := by decide +kernel
theorem dX4_timesTillSame_18 : decode cX4_timesTillSame 18 = .ok (.istore 5, 2) := by decide +kernel
theorem dX4_timesTillSame_20 : decode cX4_timesTillSame 20 = .ok (.iload_n 3, 1) := by decide +kernel
theorem dX4_timesTillSame_21 : decode cX4_timesTillSame 21 = .ok (.iload 5, 2) := by decide +kernel
theorem dX4_timesTillSame_23 : decode cX4_timesTillSame 23 = .ok (.invokestatic 24, 3) := by decide +kernel
theorem dX4_timesTillSame_26 : decode cX4_timesTillSame 26 = .ok (.istore 6, 2) := by decide +kernel
theorem dX4_timesTillSame_28 : decode cX4_timesTillSame 28 = .ok (.iload 6, 2) := by decide +kernel
theorem dX4_timesTillSame_30 : decode cX4_timesTillSame 30 = .ok (.ifCond .le 13, 3) := by decide +kernel
theorem dX4_timesTillSame_33 : decode cX4_timesTillSame 33 = .ok (.iload_n 3, 1) := by decide +kernel
theorem dX4_timesTillSame_34 : decode cX4_timesTillSame 34 = .ok (.iload 6, 2) := by decide +kernel
theorem dX4_timesTillSame_36 : decode cX4_timesTillSame 36 = .ok (.idiv, 1) := by decide +kernel
theorem dX4_timesTillSame_37 : decode cX4_timesTillSame 37 = .ok (.iload 5, 2) := by decide +kernel
theorem dX4_timesTillSame_39 : decode cX4_timesTillSame 39 = .ok (.imul, 1) := by decide +kernel
theorem dX4_timesTillSame_40 : decode cX4_timesTillSame 40 = .ok (.goto 4, 3) := by decide +kernel
theorem dX4_timesTillSame_43 : decode cX4_timesTillSame 43 = .ok (.iload_n 3, 1) := by decide +kernel
theorem dX4_timesTillSame_44 : decode cX4_timesTillSame 44 = .ok (.istore_n 3, 1) := by decide +kernel
theorem dX4_timesTillSame_45 : decode cX4_timesTillSame 45 = .ok (.iinc 4 1, 3) := by decide +kernel
theorem dX4_timesTillSame_48 : decode cX4_timesTillSame 48 = .ok (.goto (-43), 3) := by decide +kernel
theorem dX4_timesTillSame_51 : decode cX4_timesTillSame 51 = .ok (.iload_n 3, 1) := by decide +kernel
theorem dX4_timesTillSame_52 : decode cX4_timesTillSame 52 = .ok (.ireturn, 1) := by decide +kernel
theorem dX4_roundOf_0 : decode cX4_roundOf 0 = .ok (.iconst 0, 1) := by decide +kernel
theorem dX4_roundOf_1 : decode cX4_roundOf 1 = .ok (.istore 4, 2) := by decide +kernel
theorem dX4_roundOf_3 : decode cX4_roundOf 3 = .ok (.iload_n 3, 1) := by decide +kernel
theorem dX4_roundOf_4 : decode cX4_roundOf 4 = .ok (.istore 5, 2) := by decide +kernel
theorem dX4_roundOf_6 : decode cX4_roundOf 6 = .ok (.iconst 0, 1) := by decide +kernel
theorem dX4_roundOf_7 : decode cX4_roundOf 7 = .ok (.istore 6, 2) := by decide +kernel
theorem dX4_roundOf_9 : decode cX4_roundOf 9 = .ok (.iload 6, 2) := by decide +kernel
theorem dX4_roundOf_11 : decode cX4_roundOf 11 = .ok (.iload_n 2, 1) := by decide +kernel
theorem dX4_roundOf_12 : decode cX4_roundOf 12 = .ok (.if_icmp .ge 26, 3) := by decide +kernel
theorem dX4_roundOf_15 : decode cX4_roundOf 15 = .ok (.iload 4, 2) := by decide +kernel
theorem dX4_roundOf_17 : decode cX4_roundOf 17 = .ok (.iconst 1, 1) := by decide +kernel
theorem dX4_roundOf_18 : decode cX4_roundOf 18 = .ok (.iload 5, 2) := by decide +kernel
theorem dX4_roundOf_20 : decode cX4_roundOf 20 = .ok (.ishl, 1) := by decide +kernel
theorem dX4_roundOf_21 : decode cX4_roundOf 21 = .ok (.ior, 1) := by decide +kernel
theorem dX4_roundOf_22 : decode cX4_roundOf 22 = .ok (.istore 4, 2) := by decide +kernel
theorem dX4_roundOf_24 : decode cX4_roundOf 24 = .ok (.lload_n 0, 1) := by decide +kernel
theorem dX4_roundOf_25 : decode cX4_roundOf 25 = .ok (.iload 5, 2) := by decide +kernel
theorem dX4_roundOf_27 : decode cX4_roundOf 27 = .ok (.invokestatic 13, 3) := by decide +kernel
theorem dX4_roundOf_30 : decode cX4_roundOf 30 = .ok (.istore 5, 2) := by decide +kernel
theorem dX4_roundOf_32 : decode cX4_roundOf 32 = .ok (.iinc 6 1, 3) := by decide +kernel
theorem dX4_roundOf_35 : decode cX4_roundOf 35 = .ok (.goto (-26), 3) := by decide +kernel
theorem dX4_roundOf_38 : decode cX4_roundOf 38 = .ok (.iload 4, 2) := by decide +kernel
theorem dX4_roundOf_40 : decode cX4_roundOf 40 = .ok (.ireturn, 1) := by decide +kernel
theorem dX5_init_0 : decode cX5_init 0 = .ok (.aload_n 0, 1) := by decide +kernel
theorem dX5_init_1 : decode cX5_init 1 = .ok (.invokespecial 1, 3) := by decide +kernel
theorem dX5_init_4 : decode cX5_init 4 = .ok (.return_, 1) := by decide +kernel
theorem dX5_tellNothing_0 : decode cX5_tellNothing 0 = .ok (.aload_n 0, 1) := by decide +kernel
theorem dX5_tellNothing_1 : decode cX5_tellNothing 1 = .ok (.iconst 0, 1) := by decide +kernel
theorem dX5_tellNothing_2 : decode cX5_tellNothing 2 = .ok (.putfield 7, 3) := by decide +kernel
theorem dX5_tellNothing_5 : decode cX5_tellNothing 5 = .ok (.aload_n 0, 1) := by decide +kernel
theorem dX5_tellNothing_6 : decode cX5_tellNothing 6 = .ok (.bipush 8, 2) := by decide +kernel
theorem dX5_tellNothing_8 : decode cX5_tellNothing 8 = .ok (.invokevirtual 13, 3) := by decide +kernel
theorem dX5_tellNothing_11 : decode cX5_tellNothing 11 = .ok (.return_, 1) := by decide +kernel
theorem dX5_tellFirst_0 : decode cX5_tellFirst 0 = .ok (.aload_n 0, 1) := by decide +kernel
theorem dX5_tellFirst_1 : decode cX5_tellFirst 1 = .ok (.bipush 10, 2) := by decide +kernel
theorem dX5_tellFirst_3 : decode cX5_tellFirst 3 = .ok (.invokevirtual 13, 3) := by decide +kernel
theorem dX5_tellFirst_6 : decode cX5_tellFirst 6 = .ok (.aload_n 0, 1) := by decide +kernel
theorem dX5_tellFirst_7 : decode cX5_tellFirst 7 = .ok (.iconst 3, 1) := by decide +kernel
theorem dX5_tellFirst_8 : decode cX5_tellFirst 8 = .ok (.iconst 0, 1) := by decide +kernel
theorem dX5_tellFirst_9 : decode cX5_tellFirst 9 = .ok (.invokevirtual 17, 3) := by decide +kernel
theorem dX5_tellFirst_12 : decode cX5_tellFirst 12 = .ok (.pop, 1) := by decide +kernel
theorem dX5_tellFirst_13 : decode cX5_tellFirst 13 = .ok (.aload_n 0, 1) := by decide +kernel
theorem dX5_tellFirst_14 : decode cX5_tellFirst 14 = .ok (.iconst 4, 1) := by decide +kernel
theorem dX5_tellFirst_15 : decode cX5_tellFirst 15 = .ok (.iconst 2, 1) := by decide +kernel
theorem dX5_tellFirst_16 : decode cX5_tellFirst 16 = .ok (.invokevirtual 17, 3) := by decide +kernel
theorem dX5_tellFirst_19 : decode cX5_tellFirst 19 = .ok (.pop, 1) := by decide +kernel
theorem dX5_tellFirst_20 : decode cX5_tellFirst 20 = .ok (.aload_n 0, 1) := by decide +kernel
theorem dX5_tellFirst_21 : decode cX5_tellFirst 21 = .ok (.iconst 0, 1) := by decide +kernel
theorem dX5_tellFirst_22 : decode cX5_tellFirst 22 = .ok (.invokevirtual 23, 3) := by decide +kernel
theorem dX5_tellFirst_25 : decode cX5_tellFirst 25 = .ok (.pop, 1) := by decide +kernel
theorem dX5_tellFirst_26 : decode cX5_tellFirst 26 = .ok (.aload_n 0, 1) := by decide +kernel
theorem dX5_tellFirst_27 : decode cX5_tellFirst 27 = .ok (.iconst 3, 1) := by decide +kernel
theorem dX5_tellFirst_28 : decode cX5_tellFirst 28 = .ok (.invokevirtual 27, 3) := by decide +kernel
theorem dX5_tellFirst_31 : decode cX5_tellFirst 31 = .ok (.pop, 1) := by decide +kernel
theorem dX5_tellFirst_32 : decode cX5_tellFirst 32 = .ok (.aload_n 0, 1) := by decide +kernel
theorem dX5_tellFirst_33 : decode cX5_tellFirst 33 = .ok (.iconst 1, 1) := by decide +kernel
theorem dX5_tellFirst_34 : decode cX5_tellFirst 34 = .ok (.invokevirtual 23, 3) := by decide +kernel
theorem dX5_tellFirst_37 : decode cX5_tellFirst 37 = .ok (.pop, 1) := by decide +kernel
theorem dX5_tellFirst_38 : decode cX5_tellFirst 38 = .ok (.return_, 1) := by decide +kernel
theorem dX5_become_0 : decode cX5_become 0 = .ok (.aload_n 0, 1) := by decide +kernel
theorem dX5_become_1 : decode cX5_become 1 = .ok (.aload_n 1, 1) := by decide +kernel
theorem dX5_become_2 : decode cX5_become 2 = .ok (.getfield 30, 3) := by decide +kernel
theorem dX5_become_5 : decode cX5_become 5 = .ok (.putfield 30, 3) := by decide +kernel
theorem dX5_become_8 : decode cX5_become 8 = .ok (.aload_n 0, 1) := by decide +kernel
theorem dX5_become_9 : decode cX5_become 9 = .ok (.aload_n 1, 1) := by decide +kernel
theorem dX5_become_10 : decode cX5_become 10 = .ok (.getfield 34, 3) := by decide +kernel
theorem dX5_become_13 : decode cX5_become 13 = .ok (.putfield 34, 3) := by decide +kernel
theorem dX5_become_16 : decode cX5_become 16 = .ok (.aload_n 0, 1) := by decide +kernel
theorem dX5_become_17 : decode cX5_become 17 = .ok (.aload_n 1, 1) := by decide +kernel
theorem dX5_become_18 : decode cX5_become 18 = .ok (.getfield 37, 3) := by decide +kernel
theorem dX5_become_21 : decode cX5_become 21 = .ok (.putfield 37, 3) := by decide +kernel
theorem dX5_become_24 : decode cX5_become 24 = .ok (.aload_n 0, 1) := by decide +kernel
theorem dX5_become_25 : decode cX5_become 25 = .ok (.aload_n 1, 1) := by decide +kernel
theorem dX5_become_26 : decode cX5_become 26 = .ok (.getfield 40, 3) := by decide +kernel
theorem dX5_become_29 : decode cX5_become 29 = .ok (.putfield 40, 3) := by decide +kernel
theorem dX5_become_32 : decode cX5_become 32 = .ok (.aload_n 0, 1) := by decide +kernel
theorem dX5_become_33 : decode cX5_become 33 = .ok (.aload_n 1, 1) := by decide +kernel
theorem dX5_become_34 : decode cX5_become 34 = .ok (.getfield 7, 3) := by decide +kernel
theorem dX5_become_37 : decode cX5_become 37 = .ok (.putfield 7, 3) := by decide +kernel
theorem dX5_become_40 : decode cX5_become 40 = .ok (.return_, 1) := by decide +kernel
theorem dX5_tellCards_0 : decode cX5_tellCards 0 = .ok (.aload_n 0, 1) := by decide +kernel
theorem dX5_tellCards_1 : decode cX5_tellCards 1 = .ok (.getfield 7, 3) := by decide +kernel
theorem dX5_tellCards_4 : decode cX5_tellCards 4 = .ok (.ifCond .ne 13, 3) := by decide +kernel
theorem dX5_tellCards_7 : decode cX5_tellCards 7 = .ok (.iload_n 1, 1) := by decide +kernel
theorem dX5_tellCards_8 : decode cX5_tellCards 8 = .ok (.iconst 2, 1) := by decide +kernel
theorem dX5_tellCards_9 : decode cX5_tellCards 9 = .ok (.bipush 16, 2) := by decide +kernel
theorem dX5_tellCards_11 : decode cX5_tellCards 11 = .ok (.invokestatic 46, 3) := by decide +kernel
theorem dX5_tellCards_14 : decode cX5_tellCards 14 = .ok (.ifCond .ne 5, 3) := by decide +kernel
theorem dX5_tellCards_17 : decode cX5_tellCards 17 = .ok (.iconst 0, 1) := by decide +kernel
theorem dX5_tellCards_18 : decode cX5_tellCards 18 = .ok (.ireturn, 1) := by decide +kernel
theorem dX5_tellCards_19 : decode cX5_tellCards 19 = .ok (.aload_n 0, 1) := by decide +kernel
theorem dX5_tellCards_20 : decode cX5_tellCards 20 = .ok (.iload_n 1, 1) := by decide +kernel
theorem dX5_tellCards_21 : decode cX5_tellCards 21 = .ok (.invokevirtual 13, 3) := by decide +kernel
theorem dX5_tellCards_24 : decode cX5_tellCards 24 = .ok (.iconst 1, 1) := by decide +kernel
theorem dX5_tellCards_25 : decode cX5_tellCards 25 = .ok (.ireturn, 1) := by decide +kernel
theorem dX5_tellColour_0 : decode cX5_tellColour 0 = .ok (.iload_n 1, 1) := by decide +kernel
theorem dX5_tellColour_1 : decode cX5_tellColour 1 = .ok (.iconst 0, 1) := by decide +kernel
theorem dX5_tellColour_2 : decode cX5_tellColour 2 = .ok (.aload_n 0, 1) := by decide +kernel
theorem dX5_tellColour_3 : decode cX5_tellColour 3 = .ok (.getfield 30, 3) := by decide +kernel
theorem dX5_tellColour_6 : decode cX5_tellColour 6 = .ok (.iconst 1, 1) := by decide +kernel
theorem dX5_tellColour_7 : decode cX5_tellColour 7 = .ok (.isub, 1) := by decide +kernel
theorem dX5_tellColour_8 : decode cX5_tellColour 8 = .ok (.invokestatic 46, 3) := by decide +kernel
theorem dX5_tellColour_11 : decode cX5_tellColour 11 = .ok (.ifCond .eq 12, 3) := by decide +kernel
theorem dX5_tellColour_14 : decode cX5_tellColour 14 = .ok (.iload_n 2, 1) := by decide +kernel
theorem dX5_tellColour_15 : decode cX5_tellColour 15 = .ok (.iconst 0, 1) := by decide +kernel
theorem dX5_tellColour_16 : decode cX5_tellColour 16 = .ok (.iconst 3, 1) := by decide +kernel
theorem dX5_tellColour_17 : decode cX5_tellColour 17 = .ok (.invokestatic 46, 3) := by decide +kernel
theorem dX5_tellColour_20 : decode cX5_tellColour 20 = .ok (.ifCond .ne 5, 3) := by decide +kernel
theorem dX5_tellColour_23 : decode cX5_tellColour 23 = .ok (.iconst 0, 1) := by decide +kernel
theorem dX5_tellColour_24 : decode cX5_tellColour 24 = .ok (.ireturn, 1) := by decide +kernel
theorem dX5_tellColour_25 : decode cX5_tellColour 25 = .ok (.aload_n 0, 1) := by decide +kernel
theorem dX5_tellColour_26 : decode cX5_tellColour 26 = .ok (.iconst 1, 1) := by decide +kernel
theorem dX5_tellColour_27 : decode cX5_tellColour 27 = .ok (.putfield 7, 3) := by decide +kernel
theorem dX5_tellColour_30 : decode cX5_tellColour 30 = .ok (.aload_n 0, 1) := by decide +kernel
theorem dX5_tellColour_31 : decode cX5_tellColour 31 = .ok (.aload_n 0, 1) := by decide +kernel
theorem dX5_tellColour_32 : decode cX5_tellColour 32 = .ok (.getfield 34, 3) := by decide +kernel
theorem dX5_tellColour_35 : decode cX5_tellColour 35 = .ok (.iconst 3, 1) := by decide +kernel
theorem dX5_tellColour_36 : decode cX5_tellColour 36 = .ok (.iconst 2, 1) := by decide +kernel
theorem dX5_tellColour_37 : decode cX5_tellColour 37 = .ok (.iload_n 1, 1) := by decide +kernel
theorem dX5_tellColour_38 : decode cX5_tellColour 38 = .ok (.imul, 1) := by decide +kernel
theorem dX5_tellColour_39 : decode cX5_tellColour 39 = .ok (.ishl, 1) := by decide +kernel
theorem dX5_tellColour_40 : decode cX5_tellColour 40 = .ok (.iconst (-1), 1) := by decide +kernel
theorem dX5_tellColour_41 : decode cX5_tellColour 41 = .ok (.ixor, 1) := by decide +kernel
theorem dX5_tellColour_42 : decode cX5_tellColour 42 = .ok (.iand, 1) := by decide +kernel
theorem dX5_tellColour_43 : decode cX5_tellColour 43 = .ok (.iload_n 2, 1) := by decide +kernel
theorem dX5_tellColour_44 : decode cX5_tellColour 44 = .ok (.iconst 2, 1) := by decide +kernel
theorem dX5_tellColour_45 : decode cX5_tellColour 45 = .ok (.iload_n 1, 1) := by decide +kernel
theorem dX5_tellColour_46 : decode cX5_tellColour 46 = .ok (.imul, 1) := by decide +kernel
theorem dX5_tellColour_47 : decode cX5_tellColour 47 = .ok (.ishl, 1) := by decide +kernel
theorem dX5_tellColour_48 : decode cX5_tellColour 48 = .ok (.ior, 1) := by decide +kernel
theorem dX5_tellColour_49 : decode cX5_tellColour 49 = .ok (.putfield 34, 3) := by decide +kernel
theorem dX5_tellColour_52 : decode cX5_tellColour 52 = .ok (.iconst 1, 1) := by decide +kernel
theorem dX5_tellColour_53 : decode cX5_tellColour 53 = .ok (.ireturn, 1) := by decide +kernel
theorem dX5_tellLacing_0 : decode cX5_tellLacing 0 = .ok (.iload_n 1, 1) := by decide +kernel
theorem dX5_tellLacing_1 : decode cX5_tellLacing 1 = .ok (.invokestatic 52, 3) := by decide +kernel
theorem dX5_tellLacing_4 : decode cX5_tellLacing 4 = .ok (.ifCond .eq 22, 3) := by decide +kernel
theorem dX5_tellLacing_7 : decode cX5_tellLacing 7 = .ok (.aload_n 0, 1) := by decide +kernel
theorem dX5_tellLacing_8 : decode cX5_tellLacing 8 = .ok (.iload_n 1, 1) := by decide +kernel
theorem dX5_tellLacing_9 : decode cX5_tellLacing 9 = .ok (.aload_n 0, 1) := by decide +kernel
theorem dX5_tellLacing_10 : decode cX5_tellLacing 10 = .ok (.getfield 30, 3) := by decide +kernel
theorem dX5_tellLacing_13 : decode cX5_tellLacing 13 = .ok (.invokestatic 55, 3) := by decide +kernel
theorem dX5_tellLacing_16 : decode cX5_tellLacing 16 = .ok (.invokevirtual 59, 3) := by decide +kernel
theorem dX5_tellLacing_19 : decode cX5_tellLacing 19 = .ok (.ifCond .eq 7, 3) := by decide +kernel
theorem dX5_tellLacing_22 : decode cX5_tellLacing 22 = .ok (.iconst 1, 1) := by decide +kernel
theorem dX5_tellLacing_23 : decode cX5_tellLacing 23 = .ok (.goto 4, 3) := by decide +kernel
theorem dX5_tellLacing_26 : decode cX5_tellLacing 26 = .ok (.iconst 0, 1) := by decide +kernel
theorem dX5_tellLacing_27 : decode cX5_tellLacing 27 = .ok (.ireturn, 1) := by decide +kernel
theorem dX5_tellCut_0 : decode cX5_tellCut 0 = .ok (.iload_n 1, 1) := by decide +kernel
theorem dX5_tellCut_1 : decode cX5_tellCut 1 = .ok (.iconst 0, 1) := by decide +kernel
theorem dX5_tellCut_2 : decode cX5_tellCut 2 = .ok (.aload_n 0, 1) := by decide +kernel
theorem dX5_tellCut_3 : decode cX5_tellCut 3 = .ok (.getfield 30, 3) := by decide +kernel
theorem dX5_tellCut_6 : decode cX5_tellCut 6 = .ok (.iconst 1, 1) := by decide +kernel
theorem dX5_tellCut_7 : decode cX5_tellCut 7 = .ok (.isub, 1) := by decide +kernel
theorem dX5_tellCut_8 : decode cX5_tellCut 8 = .ok (.invokestatic 46, 3) := by decide +kernel
theorem dX5_tellCut_11 : decode cX5_tellCut 11 = .ok (.ifCond .eq 22, 3) := by decide +kernel
theorem dX5_tellCut_14 : decode cX5_tellCut 14 = .ok (.aload_n 0, 1) := by decide +kernel
theorem dX5_tellCut_15 : decode cX5_tellCut 15 = .ok (.iload_n 1, 1) := by decide +kernel
theorem dX5_tellCut_16 : decode cX5_tellCut 16 = .ok (.aload_n 0, 1) := by decide +kernel
theorem dX5_tellCut_17 : decode cX5_tellCut 17 = .ok (.getfield 30, 3) := by decide +kernel
theorem dX5_tellCut_20 : decode cX5_tellCut 20 = .ok (.invokestatic 63, 3) := by decide +kernel
theorem dX5_tellCut_23 : decode cX5_tellCut 23 = .ok (.invokevirtual 59, 3) := by decide +kernel
theorem dX5_tellCut_26 : decode cX5_tellCut 26 = .ok (.ifCond .eq 7, 3) := by decide +kernel
theorem dX5_tellCut_29 : decode cX5_tellCut 29 = .ok (.iconst 1, 1) := by decide +kernel
theorem dX5_tellCut_30 : decode cX5_tellCut 30 = .ok (.goto 4, 3) := by decide +kernel
theorem dX5_tellCut_33 : decode cX5_tellCut 33 = .ok (.iconst 0, 1) := by decide +kernel
theorem dX5_tellCut_34 : decode cX5_tellCut 34 = .ok (.ireturn, 1) := by decide +kernel
theorem dX5_colourOf_0 : decode cX5_colourOf 0 = .ok (.aload_n 0, 1) := by decide +kernel
theorem dX5_colourOf_1 : decode cX5_colourOf 1 = .ok (.getfield 34, 3) := by decide +kernel
theorem dX5_colourOf_4 : decode cX5_colourOf 4 = .ok (.iconst 2, 1) := by decide +kernel
theorem dX5_colourOf_5 : decode cX5_colourOf 5 = .ok (.iload_n 1, 1) := by decide +kernel
theorem dX5_colourOf_6 : decode cX5_colourOf 6 = .ok (.imul, 1) := by decide +kernel
theorem dX5_colourOf_7 : decode cX5_colourOf 7 = .ok (.iushr, 1) := by decide +kernel
theorem dX5_colourOf_8 : decode cX5_colourOf 8 = .ok (.iconst 3, 1) := by decide +kernel
theorem dX5_colourOf_9 : decode cX5_colourOf 9 = .ok (.iand, 1) := by decide +kernel
theorem dX5_colourOf_10 : decode cX5_colourOf 10 = .ok (.ireturn, 1) := by decide +kernel
theorem dX5_areUnlike_0 : decode cX5_areUnlike 0 = .ok (.aload_n 0, 1) := by decide +kernel
theorem dX5_areUnlike_1 : decode cX5_areUnlike 1 = .ok (.iload_n 1, 1) := by decide +kernel
theorem dX5_areUnlike_2 : decode cX5_areUnlike 2 = .ok (.invokevirtual 66, 3) := by decide +kernel
theorem dX5_areUnlike_5 : decode cX5_areUnlike 5 = .ok (.aload_n 0, 1) := by decide +kernel
theorem dX5_areUnlike_6 : decode cX5_areUnlike 6 = .ok (.iload_n 2, 1) := by decide +kernel
theorem dX5_areUnlike_7 : decode cX5_areUnlike 7 = .ok (.invokevirtual 66, 3) := by decide +kernel
theorem dX5_areUnlike_10 : decode cX5_areUnlike 10 = .ok (.if_icmp .eq 7, 3) := by decide +kernel
theorem dX5_areUnlike_13 : decode cX5_areUnlike 13 = .ok (.iconst 1, 1) := by decide +kernel
theorem dX5_areUnlike_14 : decode cX5_areUnlike 14 = .ok (.goto 4, 3) := by decide +kernel
theorem dX5_areUnlike_17 : decode cX5_areUnlike 17 = .ok (.iconst 0, 1) := by decide +kernel
theorem dX5_areUnlike_18 : decode cX5_areUnlike 18 = .ok (.ireturn, 1) := by decide +kernel
theorem dX5_begin_0 : decode cX5_begin 0 = .ok (.aload_n 0, 1) := by decide +kernel
theorem dX5_begin_1 : decode cX5_begin 1 = .ok (.iload_n 1, 1) := by decide +kernel
theorem dX5_begin_2 : decode cX5_begin 2 = .ok (.putfield 30, 3) := by decide +kernel
theorem dX5_begin_5 : decode cX5_begin 5 = .ok (.aload_n 0, 1) := by decide +kernel
theorem dX5_begin_6 : decode cX5_begin 6 = .ok (.ldc 70, 2) := by decide +kernel
theorem dX5_begin_8 : decode cX5_begin 8 = .ok (.putfield 34, 3) := by decide +kernel
theorem dX5_begin_11 : decode cX5_begin 11 = .ok (.aload_n 0, 1) := by decide +kernel
theorem dX5_begin_12 : decode cX5_begin 12 = .ok (.iconst 0, 1) := by decide +kernel
theorem dX5_begin_13 : decode cX5_begin 13 = .ok (.putfield 37, 3) := by decide +kernel
theorem dX5_begin_16 : decode cX5_begin 16 = .ok (.aload_n 0, 1) := by decide +kernel
theorem dX5_begin_17 : decode cX5_begin 17 = .ok (.iload_n 1, 1) := by decide +kernel
theorem dX5_begin_18 : decode cX5_begin 18 = .ok (.invokestatic 71, 3) := by decide +kernel
theorem dX5_begin_21 : decode cX5_begin 21 = .ok (.putfield 40, 3) := by decide +kernel
theorem dX5_begin_24 : decode cX5_begin 24 = .ok (.return_, 1) := by decide +kernel
theorem dX5_addAct_0 : decode cX5_addAct 0 = .ok (.aload_n 0, 1) := by decide +kernel
theorem dX5_addAct_1 : decode cX5_addAct 1 = .ok (.getfield 37, 3) := by decide +kernel
theorem dX5_addAct_4 : decode cX5_addAct 4 = .ok (.bipush 16, 2) := by decide +kernel
theorem dX5_addAct_6 : decode cX5_addAct 6 = .ok (.if_icmp .lt 5, 3) := by decide +kernel
theorem dX5_addAct_9 : decode cX5_addAct 9 = .ok (.iconst 0, 1) := by decide +kernel
theorem dX5_addAct_10 : decode cX5_addAct 10 = .ok (.ireturn, 1) := by decide +kernel
theorem dX5_addAct_11 : decode cX5_addAct 11 = .ok (.aload_n 0, 1) := by decide +kernel
theorem dX5_addAct_12 : decode cX5_addAct 12 = .ok (.iconst 1, 1) := by decide +kernel
theorem dX5_addAct_13 : decode cX5_addAct 13 = .ok (.putfield 7, 3) := by decide +kernel
theorem dX5_addAct_16 : decode cX5_addAct 16 = .ok (.aload_n 0, 1) := by decide +kernel
theorem dX5_addAct_17 : decode cX5_addAct 17 = .ok (.aload_n 0, 1) := by decide +kernel
theorem dX5_addAct_18 : decode cX5_addAct 18 = .ok (.getfield 40, 3) := by decide +kernel
theorem dX5_addAct_21 : decode cX5_addAct 21 = .ok (.lload_n 1, 1) := by decide +kernel
theorem dX5_addAct_22 : decode cX5_addAct 22 = .ok (.aload_n 0, 1) := by decide +kernel
theorem dX5_addAct_23 : decode cX5_addAct 23 = .ok (.getfield 30, 3) := by decide +kernel
theorem dX5_addAct_26 : decode cX5_addAct 26 = .ok (.invokestatic 75, 3) := by decide +kernel
theorem dX5_addAct_29 : decode cX5_addAct 29 = .ok (.putfield 40, 3) := by decide +kernel
theorem dX5_addAct_32 : decode cX5_addAct 32 = .ok (.aload_n 0, 1) := by decide +kernel
theorem dX5_addAct_33 : decode cX5_addAct 33 = .ok (.dup, 1) := by decide +kernel
theorem dX5_addAct_34 : decode cX5_addAct 34 = .ok (.getfield 37, 3) := by decide +kernel
theorem dX5_addAct_37 : decode cX5_addAct 37 = .ok (.iconst 1, 1) := by decide +kernel
theorem dX5_addAct_38 : decode cX5_addAct 38 = .ok (.iadd, 1) := by decide +kernel
theorem dX5_addAct_39 : decode cX5_addAct 39 = .ok (.putfield 37, 3) := by decide +kernel
theorem dX5_addAct_42 : decode cX5_addAct 42 = .ok (.iconst 1, 1) := by decide +kernel
theorem dX5_addAct_43 : decode cX5_addAct 43 = .ok (.ireturn, 1) := by decide +kernel
theorem dX6_init_0 : decode cX6_init 0 = .ok (.aload_n 0, 1) := by decide +kernel
theorem dX6_init_1 : decode cX6_init 1 = .ok (.invokespecial 1, 3) := by decide +kernel
theorem dX6_init_4 : decode cX6_init 4 = .ok (.aload_n 0, 1) := by decide +kernel
theorem dX6_init_5 : decode cX6_init 5 = .ok (.iload_n 1, 1) := by decide +kernel
theorem dX6_init_6 : decode cX6_init 6 = .ok (.iconst 1, 1) := by decide +kernel
theorem dX6_init_7 : decode cX6_init 7 = .ok (.invokestatic 7, 3) := by decide +kernel
theorem dX6_init_10 : decode cX6_init 10 = .ok (.newarray .long, 2) := by decide +kernel
theorem dX6_init_12 : decode cX6_init 12 = .ok (.putfield 13, 3) := by decide +kernel
theorem dX6_init_15 : decode cX6_init 15 = .ok (.return_, 1) := by decide +kernel
theorem dX6_isFull_0 : decode cX6_isFull 0 = .ok (.aload_n 0, 1) := by decide +kernel
theorem dX6_isFull_1 : decode cX6_isFull 1 = .ok (.getfield 19, 3) := by decide +kernel
theorem dX6_isFull_4 : decode cX6_isFull 4 = .ok (.aload_n 0, 1) := by decide +kernel
theorem dX6_isFull_5 : decode cX6_isFull 5 = .ok (.getfield 13, 3) := by decide +kernel
theorem dX6_isFull_8 : decode cX6_isFull 8 = .ok (.arraylength, 1) := by decide +kernel
theorem dX6_isFull_9 : decode cX6_isFull 9 = .ok (.if_icmp .lt 7, 3) := by decide +kernel
theorem dX6_isFull_12 : decode cX6_isFull 12 = .ok (.iconst 1, 1) := by decide +kernel
theorem dX6_isFull_13 : decode cX6_isFull 13 = .ok (.goto 4, 3) := by decide +kernel
theorem dX6_isFull_16 : decode cX6_isFull 16 = .ok (.iconst 0, 1) := by decide +kernel
theorem dX6_isFull_17 : decode cX6_isFull 17 = .ok (.ireturn, 1) := by decide +kernel
theorem dX6_put_0 : decode cX6_put 0 = .ok (.aload_n 0, 1) := by decide +kernel
theorem dX6_put_1 : decode cX6_put 1 = .ok (.invokevirtual 23, 3) := by decide +kernel
theorem dX6_put_4 : decode cX6_put 4 = .ok (.ifCond .eq 34, 3) := by decide +kernel
theorem dX6_put_7 : decode cX6_put 7 = .ok (.aload_n 0, 1) := by decide +kernel
theorem dX6_put_8 : decode cX6_put 8 = .ok (.getfield 13, 3) := by decide +kernel
theorem dX6_put_11 : decode cX6_put 11 = .ok (.iconst 1, 1) := by decide +kernel
theorem dX6_put_12 : decode cX6_put 12 = .ok (.aload_n 0, 1) := by decide +kernel
theorem dX6_put_13 : decode cX6_put 13 = .ok (.getfield 13, 3) := by decide +kernel
theorem dX6_put_16 : decode cX6_put 16 = .ok (.iconst 0, 1) := by decide +kernel
theorem dX6_put_17 : decode cX6_put 17 = .ok (.aload_n 0, 1) := by decide +kernel
theorem dX6_put_18 : decode cX6_put 18 = .ok (.getfield 13, 3) := by decide +kernel
theorem dX6_put_21 : decode cX6_put 21 = .ok (.arraylength, 1) := by decide +kernel
theorem dX6_put_22 : decode cX6_put 22 = .ok (.iconst 1, 1) := by decide +kernel
theorem dX6_put_23 : decode cX6_put 23 = .ok (.isub, 1) := by decide +kernel
theorem dX6_put_24 : decode cX6_put 24 = .ok (.invokestatic 27, 3) := by decide +kernel
theorem dX6_put_27 : decode cX6_put 27 = .ok (.aload_n 0, 1) := by decide +kernel
theorem dX6_put_28 : decode cX6_put 28 = .ok (.aload_n 0, 1) := by decide +kernel
theorem dX6_put_29 : decode cX6_put 29 = .ok (.getfield 13, 3) := by decide +kernel
theorem dX6_put_32 : decode cX6_put 32 = .ok (.arraylength, 1) := by decide +kernel
theorem dX6_put_33 : decode cX6_put 33 = .ok (.iconst 1, 1) := by decide +kernel
theorem dX6_put_34 : decode cX6_put 34 = .ok (.isub, 1) := by decide +kernel
theorem dX6_put_35 : decode cX6_put 35 = .ok (.putfield 19, 3) := by decide +kernel
theorem dX6_put_38 : decode cX6_put 38 = .ok (.aload_n 0, 1) := by decide +kernel
theorem dX6_put_39 : decode cX6_put 39 = .ok (.getfield 19, 3) := by decide +kernel
theorem dX6_put_42 : decode cX6_put 42 = .ok (.ifCond .lt 35, 3) := by decide +kernel
theorem dX6_put_45 : decode cX6_put 45 = .ok (.aload_n 0, 1) := by decide +kernel
theorem dX6_put_46 : decode cX6_put 46 = .ok (.getfield 19, 3) := by decide +kernel
theorem dX6_put_49 : decode cX6_put 49 = .ok (.aload_n 0, 1) := by decide +kernel
theorem dX6_put_50 : decode cX6_put 50 = .ok (.getfield 13, 3) := by decide +kernel
theorem dX6_put_53 : decode cX6_put 53 = .ok (.arraylength, 1) := by decide +kernel
theorem dX6_put_54 : decode cX6_put 54 = .ok (.if_icmp .ge 23, 3) := by decide +kernel
theorem dX6_put_57 : decode cX6_put 57 = .ok (.aload_n 0, 1) := by decide +kernel
theorem dX6_put_58 : decode cX6_put 58 = .ok (.getfield 13, 3) := by decide +kernel
theorem dX6_put_61 : decode cX6_put 61 = .ok (.aload_n 0, 1) := by decide +kernel
theorem dX6_put_62 : decode cX6_put 62 = .ok (.getfield 19, 3) := by decide +kernel
theorem dX6_put_65 : decode cX6_put 65 = .ok (.lload_n 1, 1) := by decide +kernel
theorem dX6_put_66 : decode cX6_put 66 = .ok (.lastore, 1) := by decide +kernel
theorem dX6_put_67 : decode cX6_put 67 = .ok (.aload_n 0, 1) := by decide +kernel
theorem dX6_put_68 : decode cX6_put 68 = .ok (.dup, 1) := by decide +kernel
theorem dX6_put_69 : decode cX6_put 69 = .ok (.getfield 19, 3) := by decide +kernel
theorem dX6_put_72 : decode cX6_put 72 = .ok (.iconst 1, 1) := by decide +kernel
theorem dX6_put_73 : decode cX6_put 73 = .ok (.iadd, 1) := by decide +kernel
theorem dX6_put_74 : decode cX6_put 74 = .ok (.putfield 19, 3) := by decide +kernel
theorem dX6_put_77 : decode cX6_put 77 = .ok (.return_, 1) := by decide +kernel
theorem dX6_takeLast_0 : decode cX6_takeLast 0 = .ok (.aload_n 0, 1) := by decide +kernel
theorem dX6_takeLast_1 : decode cX6_takeLast 1 = .ok (.getfield 19, 3) := by decide +kernel
theorem dX6_takeLast_4 : decode cX6_takeLast 4 = .ok (.ifCond .le 15, 3) := by decide +kernel
theorem dX6_takeLast_7 : decode cX6_takeLast 7 = .ok (.aload_n 0, 1) := by decide +kernel
theorem dX6_takeLast_8 : decode cX6_takeLast 8 = .ok (.getfield 19, 3) := by decide +kernel
theorem dX6_takeLast_11 : decode cX6_takeLast 11 = .ok (.aload_n 0, 1) := by decide +kernel
theorem dX6_takeLast_12 : decode cX6_takeLast 12 = .ok (.getfield 13, 3) := by decide +kernel
theorem dX6_takeLast_15 : decode cX6_takeLast 15 = .ok (.arraylength, 1) := by decide +kernel
theorem dX6_takeLast_16 : decode cX6_takeLast 16 = .ok (.if_icmp .le 5, 3) := by decide +kernel
theorem dX6_takeLast_19 : decode cX6_takeLast 19 = .ok (.lconst 0, 1) := by decide +kernel
theorem dX6_takeLast_20 : decode cX6_takeLast 20 = .ok (.lreturn, 1) := by decide +kernel
theorem dX6_takeLast_21 : decode cX6_takeLast 21 = .ok (.aload_n 0, 1) := by decide +kernel
theorem dX6_takeLast_22 : decode cX6_takeLast 22 = .ok (.dup, 1) := by decide +kernel
theorem dX6_takeLast_23 : decode cX6_takeLast 23 = .ok (.getfield 19, 3) := by decide +kernel
theorem dX6_takeLast_26 : decode cX6_takeLast 26 = .ok (.iconst 1, 1) := by decide +kernel
theorem dX6_takeLast_27 : decode cX6_takeLast 27 = .ok (.isub, 1) := by decide +kernel
theorem dX6_takeLast_28 : decode cX6_takeLast 28 = .ok (.putfield 19, 3) := by decide +kernel
theorem dX6_takeLast_31 : decode cX6_takeLast 31 = .ok (.aload_n 0, 1) := by decide +kernel
theorem dX6_takeLast_32 : decode cX6_takeLast 32 = .ok (.getfield 13, 3) := by decide +kernel
theorem dX6_takeLast_35 : decode cX6_takeLast 35 = .ok (.aload_n 0, 1) := by decide +kernel
theorem dX6_takeLast_36 : decode cX6_takeLast 36 = .ok (.getfield 19, 3) := by decide +kernel
theorem dX6_takeLast_39 : decode cX6_takeLast 39 = .ok (.laload, 1) := by decide +kernel
theorem dX6_takeLast_40 : decode cX6_takeLast 40 = .ok (.lreturn, 1) := by decide +kernel
theorem dX7_init_0 : decode cX7_init 0 = .ok (.aload_n 0, 1) := by decide +kernel
theorem dX7_init_1 : decode cX7_init 1 = .ok (.invokespecial 1, 3) := by decide +kernel
theorem dX7_init_4 : decode cX7_init 4 = .ok (.aload_n 0, 1) := by decide +kernel
theorem dX7_init_5 : decode cX7_init 5 = .ok (.bipush 8, 2) := by decide +kernel
theorem dX7_init_7 : decode cX7_init 7 = .ok (.newarray .int, 2) := by decide +kernel
theorem dX7_init_9 : decode cX7_init 9 = .ok (.putfield 9, 3) := by decide +kernel
theorem dX7_init_12 : decode cX7_init 12 = .ok (.aload_n 0, 1) := by decide +kernel
theorem dX7_init_13 : decode cX7_init 13 = .ok (.bipush 8, 2) := by decide +kernel
theorem dX7_init_15 : decode cX7_init 15 = .ok (.newarray .int, 2) := by decide +kernel
theorem dX7_init_17 : decode cX7_init 17 = .ok (.putfield 13, 3) := by decide +kernel
theorem dX7_init_20 : decode cX7_init 20 = .ok (.return_, 1) := by decide +kernel
theorem dX7_add_0 : decode cX7_add 0 = .ok (.aload_n 0, 1) := by decide +kernel
theorem dX7_add_1 : decode cX7_add 1 = .ok (.getfield 16, 3) := by decide +kernel
theorem dX7_add_4 : decode cX7_add 4 = .ok (.ifCond .lt 12, 3) := by decide +kernel
theorem dX7_add_7 : decode cX7_add 7 = .ok (.aload_n 0, 1) := by decide +kernel
theorem dX7_add_8 : decode cX7_add 8 = .ok (.getfield 16, 3) := by decide +kernel
theorem dX7_add_11 : decode cX7_add 11 = .ok (.bipush 8, 2) := by decide +kernel
theorem dX7_add_13 : decode cX7_add 13 = .ok (.if_icmp .lt 5, 3) := by decide +kernel
theorem dX7_add_16 : decode cX7_add 16 = .ok (.iconst 0, 1) := by decide +kernel
theorem dX7_add_17 : decode cX7_add 17 = .ok (.ireturn, 1) := by decide +kernel
theorem dX7_add_18 : decode cX7_add 18 = .ok (.aload_n 0, 1) := by decide +kernel
theorem dX7_add_19 : decode cX7_add 19 = .ok (.getfield 9, 3) := by decide +kernel
theorem dX7_add_22 : decode cX7_add 22 = .ok (.aload_n 0, 1) := by decide +kernel
theorem dX7_add_23 : decode cX7_add 23 = .ok (.getfield 16, 3) := by decide +kernel
theorem dX7_add_26 : decode cX7_add 26 = .ok (.iload_n 1, 1) := by decide +kernel
theorem dX7_add_27 : decode cX7_add 27 = .ok (.iastore, 1) := by decide +kernel
theorem dX7_add_28 : decode cX7_add 28 = .ok (.aload_n 0, 1) := by decide +kernel
theorem dX7_add_29 : decode cX7_add 29 = .ok (.getfield 13, 3) := by decide +kernel
theorem dX7_add_32 : decode cX7_add 32 = .ok (.aload_n 0, 1) := by decide +kernel
theorem dX7_add_33 : decode cX7_add 33 = .ok (.getfield 16, 3) := by decide +kernel
theorem dX7_add_36 : decode cX7_add 36 = .ok (.iload_n 2, 1) := by decide +kernel
theorem dX7_add_37 : decode cX7_add 37 = .ok (.iastore, 1) := by decide +kernel
theorem dX7_add_38 : decode cX7_add 38 = .ok (.aload_n 0, 1) := by decide +kernel
theorem dX7_add_39 : decode cX7_add 39 = .ok (.dup, 1) := by decide +kernel
theorem dX7_add_40 : decode cX7_add 40 = .ok (.getfield 16, 3) := by decide +kernel
theorem dX7_add_43 : decode cX7_add 43 = .ok (.iconst 1, 1) := by decide +kernel
theorem dX7_add_44 : decode cX7_add 44 = .ok (.iadd, 1) := by decide +kernel
theorem dX7_add_45 : decode cX7_add 45 = .ok (.putfield 16, 3) := by decide +kernel
theorem dX7_add_48 : decode cX7_add 48 = .ok (.iconst 1, 1) := by decide +kernel
theorem dX7_add_49 : decode cX7_add 49 = .ok (.ireturn, 1) := by decide +kernel
theorem dX7_fit_0 : decode cX7_fit 0 = .ok (.iconst 0, 1) := by decide +kernel
theorem dX7_fit_1 : decode cX7_fit 1 = .ok (.istore_n 3, 1) := by decide +kernel
theorem dX7_fit_2 : decode cX7_fit 2 = .ok (.iload_n 3, 1) := by decide +kernel
theorem dX7_fit_3 : decode cX7_fit 3 = .ok (.aload_n 0, 1) := by decide +kernel
theorem dX7_fit_4 : decode cX7_fit 4 = .ok (.getfield 16, 3) := by decide +kernel
theorem dX7_fit_7 : decode cX7_fit 7 = .ok (.if_icmp .ge 36, 3) := by decide +kernel
theorem dX7_fit_10 : decode cX7_fit 10 = .ok (.iload_n 3, 1) := by decide +kernel
theorem dX7_fit_11 : decode cX7_fit 11 = .ok (.bipush 8, 2) := by decide +kernel
theorem dX7_fit_13 : decode cX7_fit 13 = .ok (.if_icmp .ge 30, 3) := by decide +kernel
theorem dX7_fit_16 : decode cX7_fit 16 = .ok (.lload_n 1, 1) := by decide +kernel
theorem dX7_fit_17 : decode cX7_fit 17 = .ok (.aload_n 0, 1) := by decide +kernel
theorem dX7_fit_18 : decode cX7_fit 18 = .ok (.getfield 13, 3) := by decide +kernel
theorem dX7_fit_21 : decode cX7_fit 21 = .ok (.iload_n 3, 1) := by decide +kernel
theorem dX7_fit_22 : decode cX7_fit 22 = .ok (.iaload, 1) := by decide +kernel
theorem dX7_fit_23 : decode cX7_fit 23 = .ok (.invokestatic 20, 3) := by decide +kernel
theorem dX7_fit_26 : decode cX7_fit 26 = .ok (.aload_n 0, 1) := by decide +kernel
theorem dX7_fit_27 : decode cX7_fit 27 = .ok (.getfield 9, 3) := by decide +kernel
theorem dX7_fit_30 : decode cX7_fit 30 = .ok (.iload_n 3, 1) := by decide +kernel
theorem dX7_fit_31 : decode cX7_fit 31 = .ok (.iaload, 1) := by decide +kernel
theorem dX7_fit_32 : decode cX7_fit 32 = .ok (.if_icmp .eq 5, 3) := by decide +kernel
theorem dX7_fit_35 : decode cX7_fit 35 = .ok (.iconst 0, 1) := by decide +kernel
theorem dX7_fit_36 : decode cX7_fit 36 = .ok (.ireturn, 1) := by decide +kernel
theorem dX7_fit_37 : decode cX7_fit 37 = .ok (.iinc 3 1, 3) := by decide +kernel
theorem dX7_fit_40 : decode cX7_fit 40 = .ok (.goto (-38), 3) := by decide +kernel
theorem dX7_fit_43 : decode cX7_fit 43 = .ok (.iconst 1, 1) := by decide +kernel
theorem dX7_fit_44 : decode cX7_fit 44 = .ok (.ireturn, 1) := by decide +kernel
theorem dX8_init_0 : decode cX8_init 0 = .ok (.aload_n 0, 1) := by decide +kernel
theorem dX8_init_1 : decode cX8_init 1 = .ok (.invokespecial 3, 3) := by decide +kernel
theorem dX8_init_4 : decode cX8_init 4 = .ok (.aload_n 0, 1) := by decide +kernel
theorem dX8_init_5 : decode cX8_init 5 = .ok (.sipush 200, 3) := by decide +kernel
theorem dX8_init_8 : decode cX8_init 8 = .ok (.newarray .char, 2) := by decide +kernel
theorem dX8_init_10 : decode cX8_init 10 = .ok (.putfield 11, 3) := by decide +kernel
theorem dX8_init_13 : decode cX8_init 13 = .ok (.return_, 1) := by decide +kernel
theorem dX8_append_0 : decode cX8_append 0 = .ok (.aload_n 0, 1) := by decide +kernel
theorem dX8_append_1 : decode cX8_append 1 = .ok (.getfield 15, 3) := by decide +kernel
theorem dX8_append_4 : decode cX8_append 4 = .ok (.ifCond .lt 13, 3) := by decide +kernel
theorem dX8_append_7 : decode cX8_append 7 = .ok (.aload_n 0, 1) := by decide +kernel
theorem dX8_append_8 : decode cX8_append 8 = .ok (.getfield 15, 3) := by decide +kernel
theorem dX8_append_11 : decode cX8_append 11 = .ok (.sipush 200, 3) := by decide +kernel
theorem dX8_append_14 : decode cX8_append 14 = .ok (.if_icmp .lt 5, 3) := by decide +kernel
theorem dX8_append_17 : decode cX8_append 17 = .ok (.iconst 0, 1) := by decide +kernel
theorem dX8_append_18 : decode cX8_append 18 = .ok (.ireturn, 1) := by decide +kernel
theorem dX8_append_19 : decode cX8_append 19 = .ok (.aload_n 0, 1) := by decide +kernel
theorem dX8_append_20 : decode cX8_append 20 = .ok (.getfield 11, 3) := by decide +kernel
theorem dX8_append_23 : decode cX8_append 23 = .ok (.aload_n 0, 1) := by decide +kernel
theorem dX8_append_24 : decode cX8_append 24 = .ok (.getfield 15, 3) := by decide +kernel
theorem dX8_append_27 : decode cX8_append 27 = .ok (.iload_n 1, 1) := by decide +kernel
theorem dX8_append_28 : decode cX8_append 28 = .ok (.i2c, 1) := by decide +kernel
theorem dX8_append_29 : decode cX8_append 29 = .ok (.castore, 1) := by decide +kernel
theorem dX8_append_30 : decode cX8_append 30 = .ok (.aload_n 0, 1) := by decide +kernel
theorem dX8_append_31 : decode cX8_append 31 = .ok (.dup, 1) := by decide +kernel
theorem dX8_append_32 : decode cX8_append 32 = .ok (.getfield 15, 3) := by decide +kernel
theorem dX8_append_35 : decode cX8_append 35 = .ok (.iconst 1, 1) := by decide +kernel
theorem dX8_append_36 : decode cX8_append 36 = .ok (.iadd, 1) := by decide +kernel
theorem dX8_append_37 : decode cX8_append 37 = .ok (.putfield 15, 3) := by decide +kernel
theorem dX8_append_40 : decode cX8_append 40 = .ok (.iconst 1, 1) := by decide +kernel
theorem dX8_append_41 : decode cX8_append 41 = .ok (.ireturn, 1) := by decide +kernel
theorem dX8_firstFault_0 : decode cX8_firstFault 0 = .ok (.aload_n 1, 1) := by decide +kernel
theorem dX8_firstFault_1 : decode cX8_firstFault 1 = .ok (.invokevirtual 19, 3) := by decide +kernel
theorem dX8_firstFault_4 : decode cX8_firstFault 4 = .ok (.aload_n 0, 1) := by decide +kernel
theorem dX8_firstFault_5 : decode cX8_firstFault 5 = .ok (.iconst 0, 1) := by decide +kernel
theorem dX8_firstFault_6 : decode cX8_firstFault 6 = .ok (.putfield 24, 3) := by decide +kernel
theorem dX8_firstFault_9 : decode cX8_firstFault 9 = .ok (.iconst 0, 1) := by decide +kernel
theorem dX8_firstFault_10 : decode cX8_firstFault 10 = .ok (.istore_n 2, 1) := by decide +kernel
theorem dX8_firstFault_11 : decode cX8_firstFault 11 = .ok (.iload_n 2, 1) := by decide +kernel
theorem dX8_firstFault_12 : decode cX8_firstFault 12 = .ok (.sipush 200, 3) := by decide +kernel
theorem dX8_firstFault_15 : decode cX8_firstFault 15 = .ok (.if_icmp .ge 35, 3) := by decide +kernel
theorem dX8_firstFault_18 : decode cX8_firstFault 18 = .ok (.aload_n 0, 1) := by decide +kernel
theorem dX8_firstFault_19 : decode cX8_firstFault 19 = .ok (.getfield 24, 3) := by decide +kernel
theorem dX8_firstFault_22 : decode cX8_firstFault 22 = .ok (.aload_n 0, 1) := by decide +kernel
theorem dX8_firstFault_23 : decode cX8_firstFault 23 = .ok (.getfield 15, 3) := by decide +kernel
theorem dX8_firstFault_26 : decode cX8_firstFault 26 = .ok (.if_icmp .ge 24, 3) := by decide +kernel
theorem dX8_firstFault_29 : decode cX8_firstFault 29 = .ok (.aload_n 0, 1) := by decide +kernel
theorem dX8_firstFault_30 : decode cX8_firstFault 30 = .ok (.getfield 24, 3) := by decide +kernel
theorem dX8_firstFault_33 : decode cX8_firstFault 33 = .ok (.istore_n 3, 1) := by decide +kernel
theorem dX8_firstFault_34 : decode cX8_firstFault 34 = .ok (.aload_n 0, 1) := by decide +kernel
theorem dX8_firstFault_35 : decode cX8_firstFault 35 = .ok (.aload_n 1, 1) := by decide +kernel
theorem dX8_firstFault_36 : decode cX8_firstFault 36 = .ok (.invokevirtual 27, 3) := by decide +kernel
theorem dX8_firstFault_39 : decode cX8_firstFault 39 = .ok (.ifCond .ne 5, 3) := by decide +kernel
theorem dX8_firstFault_42 : decode cX8_firstFault 42 = .ok (.iload_n 3, 1) := by decide +kernel
theorem dX8_firstFault_43 : decode cX8_firstFault 43 = .ok (.ireturn, 1) := by decide +kernel
theorem dX8_firstFault_44 : decode cX8_firstFault 44 = .ok (.iinc 2 1, 3) := by decide +kernel
theorem dX8_firstFault_47 : decode cX8_firstFault 47 = .ok (.goto (-36), 3) := by decide +kernel
theorem dX8_firstFault_50 : decode cX8_firstFault 50 = .ok (.bipush (-4), 2) := by decide +kernel
theorem dX8_firstFault_52 : decode cX8_firstFault 52 = .ok (.ireturn, 1) := by decide +kernel
theorem dX8_readItem_0 : decode cX8_readItem 0 = .ok (.aload_n 0, 1) := by decide +kernel
theorem dX8_readItem_1 : decode cX8_readItem 1 = .ok (.invokevirtual 31, 3) := by decide +kernel
theorem dX8_readItem_4 : decode cX8_readItem 4 = .ok (.istore_n 2, 1) := by decide +kernel
theorem dX8_readItem_5 : decode cX8_readItem 5 = .ok (.iload_n 2, 1) := by decide +kernel
theorem dX8_readItem_6 : decode cX8_readItem 6 = .ok (.bipush 99, 2) := by decide +kernel
theorem dX8_readItem_8 : decode cX8_readItem 8 = .ok (.if_icmp .ne 26, 3) := by decide +kernel
theorem dX8_readItem_11 : decode cX8_readItem 11 = .ok (.aload_n 0, 1) := by decide +kernel
theorem dX8_readItem_12 : decode cX8_readItem 12 = .ok (.bipush 44, 2) := by decide +kernel
theorem dX8_readItem_14 : decode cX8_readItem 14 = .ok (.invokevirtual 35, 3) := by decide +kernel
theorem dX8_readItem_17 : decode cX8_readItem 17 = .ok (.istore_n 3, 1) := by decide +kernel
theorem dX8_readItem_18 : decode cX8_readItem 18 = .ok (.aload_n 0, 1) := by decide +kernel
theorem dX8_readItem_19 : decode cX8_readItem 19 = .ok (.bipush 59, 2) := by decide +kernel
theorem dX8_readItem_21 : decode cX8_readItem 21 = .ok (.invokevirtual 35, 3) := by decide +kernel
theorem dX8_readItem_24 : decode cX8_readItem 24 = .ok (.istore 4, 2) := by decide +kernel
theorem dX8_readItem_26 : decode cX8_readItem 26 = .ok (.aload_n 1, 1) := by decide +kernel
theorem dX8_readItem_27 : decode cX8_readItem 27 = .ok (.iload_n 3, 1) := by decide +kernel
theorem dX8_readItem_28 : decode cX8_readItem 28 = .ok (.iload 4, 2) := by decide +kernel
theorem dX8_readItem_30 : decode cX8_readItem 30 = .ok (.invokevirtual 39, 3) := by decide +kernel
theorem dX8_readItem_33 : decode cX8_readItem 33 = .ok (.ireturn, 1) := by decide +kernel
theorem dX8_readItem_34 : decode cX8_readItem 34 = .ok (.aload_n 0, 1) := by decide +kernel
theorem dX8_readItem_35 : decode cX8_readItem 35 = .ok (.bipush 59, 2) := by decide +kernel
theorem dX8_readItem_37 : decode cX8_readItem 37 = .ok (.invokevirtual 35, 3) := by decide +kernel
theorem dX8_readItem_40 : decode cX8_readItem 40 = .ok (.istore_n 3, 1) := by decide +kernel
theorem dX8_readItem_41 : decode cX8_readItem 41 = .ok (.iload_n 2, 1) := by decide +kernel
theorem dX8_readItem_42 : decode cX8_readItem 42 = .ok (.lookupswitch 52 #[(108, 40), (110, 34), (120, 46)], 34) := by decide +kernel
theorem dX8_readItem_76 : decode cX8_readItem 76 = .ok (.aload_n 1, 1) := by decide +kernel
theorem dX8_readItem_77 : decode cX8_readItem 77 = .ok (.iload_n 3, 1) := by decide +kernel
theorem dX8_readItem_78 : decode cX8_readItem 78 = .ok (.invokevirtual 43, 3) := by decide +kernel
theorem dX8_readItem_81 : decode cX8_readItem 81 = .ok (.ireturn, 1) := by decide +kernel
theorem dX8_readItem_82 : decode cX8_readItem 82 = .ok (.aload_n 1, 1) := by decide +kernel
theorem dX8_readItem_83 : decode cX8_readItem 83 = .ok (.iload_n 3, 1) := by decide +kernel
theorem dX8_readItem_84 : decode cX8_readItem 84 = .ok (.invokevirtual 47, 3) := by decide +kernel
theorem dX8_readItem_87 : decode cX8_readItem 87 = .ok (.ireturn, 1) := by decide +kernel
theorem dX8_readItem_88 : decode cX8_readItem 88 = .ok (.aload_n 1, 1) := by decide +kernel
theorem dX8_readItem_89 : decode cX8_readItem 89 = .ok (.iload_n 3, 1) := by decide +kernel
theorem dX8_readItem_90 : decode cX8_readItem 90 = .ok (.invokevirtual 50, 3) := by decide +kernel
theorem dX8_readItem_93 : decode cX8_readItem 93 = .ok (.ireturn, 1) := by decide +kernel
theorem dX8_readItem_94 : decode cX8_readItem 94 = .ok (.iconst 0, 1) := by decide +kernel
theorem dX8_readItem_95 : decode cX8_readItem 95 = .ok (.ireturn, 1) := by decide +kernel
theorem dX8_readNumber_0 : decode cX8_readNumber 0 = .ok (.aload_n 0, 1) := by decide +kernel
theorem dX8_readNumber_1 : decode cX8_readNumber 1 = .ok (.invokevirtual 31, 3) := by decide +kernel
theorem dX8_readNumber_4 : decode cX8_readNumber 4 = .ok (.invokestatic 53, 3) := by decide +kernel
theorem dX8_readNumber_7 : decode cX8_readNumber 7 = .ok (.istore_n 2, 1) := by decide +kernel
theorem dX8_readNumber_8 : decode cX8_readNumber 8 = .ok (.iload_n 2, 1) := by decide +kernel
theorem dX8_readNumber_9 : decode cX8_readNumber 9 = .ok (.ifCond .ge 5, 3) := by decide +kernel
theorem dX8_readNumber_12 : decode cX8_readNumber 12 = .ok (.iconst (-1), 1) := by decide +kernel
theorem dX8_readNumber_13 : decode cX8_readNumber 13 = .ok (.ireturn, 1) := by decide +kernel
theorem dX8_readNumber_14 : decode cX8_readNumber 14 = .ok (.aload_n 0, 1) := by decide +kernel
theorem dX8_readNumber_15 : decode cX8_readNumber 15 = .ok (.invokevirtual 31, 3) := by decide +kernel
theorem dX8_readNumber_18 : decode cX8_readNumber 18 = .ok (.istore_n 3, 1) := by decide +kernel
theorem dX8_readNumber_19 : decode cX8_readNumber 19 = .ok (.iload_n 3, 1) := by decide +kernel
theorem dX8_readNumber_20 : decode cX8_readNumber 20 = .ok (.invokestatic 53, 3) := by decide +kernel
theorem dX8_readNumber_23 : decode cX8_readNumber 23 = .ok (.ifCond .lt 18, 3) := by decide +kernel
theorem dX8_readNumber_26 : decode cX8_readNumber 26 = .ok (.bipush 10, 2) := by decide +kernel
theorem dX8_readNumber_28 : decode cX8_readNumber 28 = .ok (.iload_n 2, 1) := by decide +kernel
theorem dX8_readNumber_29 : decode cX8_readNumber 29 = .ok (.imul, 1) := by decide +kernel
theorem dX8_readNumber_30 : decode cX8_readNumber 30 = .ok (.iload_n 3, 1) := by decide +kernel
theorem dX8_readNumber_31 : decode cX8_readNumber 31 = .ok (.invokestatic 53, 3) := by decide +kernel
theorem dX8_readNumber_34 : decode cX8_readNumber 34 = .ok (.iadd, 1) := by decide +kernel
theorem dX8_readNumber_35 : decode cX8_readNumber 35 = .ok (.istore_n 2, 1) := by decide +kernel
theorem dX8_readNumber_36 : decode cX8_readNumber 36 = .ok (.aload_n 0, 1) := by decide +kernel
theorem dX8_readNumber_37 : decode cX8_readNumber 37 = .ok (.invokevirtual 31, 3) := by decide +kernel
theorem dX8_readNumber_40 : decode cX8_readNumber 40 = .ok (.istore_n 3, 1) := by decide +kernel
theorem dX8_readNumber_41 : decode cX8_readNumber 41 = .ok (.iload_n 3, 1) := by decide +kernel
theorem dX8_readNumber_42 : decode cX8_readNumber 42 = .ok (.iload_n 1, 1) := by decide +kernel
theorem dX8_readNumber_43 : decode cX8_readNumber 43 = .ok (.if_icmp .ne 7, 3) := by decide +kernel
theorem dX8_readNumber_46 : decode cX8_readNumber 46 = .ok (.iload_n 2, 1) := by decide +kernel
theorem dX8_readNumber_47 : decode cX8_readNumber 47 = .ok (.goto 4, 3) := by decide +kernel
theorem dX8_readNumber_50 : decode cX8_readNumber 50 = .ok (.iconst (-1), 1) := by decide +kernel
theorem dX8_readNumber_51 : decode cX8_readNumber 51 = .ok (.ireturn, 1) := by decide +kernel
theorem dX8_nextLetter_0 : decode cX8_nextLetter 0 = .ok (.aload_n 0, 1) := by decide +kernel
theorem dX8_nextLetter_1 : decode cX8_nextLetter 1 = .ok (.getfield 24, 3) := by decide +kernel
theorem dX8_nextLetter_4 : decode cX8_nextLetter 4 = .ok (.ifCond .lt 24, 3) := by decide +kernel
theorem dX8_nextLetter_7 : decode cX8_nextLetter 7 = .ok (.aload_n 0, 1) := by decide +kernel
theorem dX8_nextLetter_8 : decode cX8_nextLetter 8 = .ok (.getfield 24, 3) := by decide +kernel
theorem dX8_nextLetter_11 : decode cX8_nextLetter 11 = .ok (.aload_n 0, 1) := by decide +kernel
theorem dX8_nextLetter_12 : decode cX8_nextLetter 12 = .ok (.getfield 15, 3) := by decide +kernel
theorem dX8_nextLetter_15 : decode cX8_nextLetter 15 = .ok (.if_icmp .ge 13, 3) := by decide +kernel
theorem dX8_nextLetter_18 : decode cX8_nextLetter 18 = .ok (.aload_n 0, 1) := by decide +kernel
theorem dX8_nextLetter_19 : decode cX8_nextLetter 19 = .ok (.getfield 24, 3) := by decide +kernel
theorem dX8_nextLetter_22 : decode cX8_nextLetter 22 = .ok (.sipush 200, 3) := by decide +kernel
theorem dX8_nextLetter_25 : decode cX8_nextLetter 25 = .ok (.if_icmp .lt 5, 3) := by decide +kernel
theorem dX8_nextLetter_28 : decode cX8_nextLetter 28 = .ok (.iconst 0, 1) := by decide +kernel
theorem dX8_nextLetter_29 : decode cX8_nextLetter 29 = .ok (.ireturn, 1) := by decide +kernel
theorem dX8_nextLetter_30 : decode cX8_nextLetter 30 = .ok (.aload_n 0, 1) := by decide +kernel
theorem dX8_nextLetter_31 : decode cX8_nextLetter 31 = .ok (.getfield 11, 3) := by decide +kernel
theorem dX8_nextLetter_34 : decode cX8_nextLetter 34 = .ok (.aload_n 0, 1) := by decide +kernel
theorem dX8_nextLetter_35 : decode cX8_nextLetter 35 = .ok (.getfield 24, 3) := by decide +kernel
theorem dX8_nextLetter_38 : decode cX8_nextLetter 38 = .ok (.caload, 1) := by decide +kernel
theorem dX8_nextLetter_39 : decode cX8_nextLetter 39 = .ok (.istore_n 1, 1) := by decide +kernel
theorem dX8_nextLetter_40 : decode cX8_nextLetter 40 = .ok (.aload_n 0, 1) := by decide +kernel
theorem dX8_nextLetter_41 : decode cX8_nextLetter 41 = .ok (.dup, 1) := by decide +kernel
theorem dX8_nextLetter_42 : decode cX8_nextLetter 42 = .ok (.getfield 24, 3) := by decide +kernel
theorem dX8_nextLetter_45 : decode cX8_nextLetter 45 = .ok (.iconst 1, 1) := by decide +kernel
theorem dX8_nextLetter_46 : decode cX8_nextLetter 46 = .ok (.iadd, 1) := by decide +kernel
theorem dX8_nextLetter_47 : decode cX8_nextLetter 47 = .ok (.putfield 24, 3) := by decide +kernel
theorem dX8_nextLetter_50 : decode cX8_nextLetter 50 = .ok (.iload_n 1, 1) := by decide +kernel
theorem dX8_nextLetter_51 : decode cX8_nextLetter 51 = .ok (.ireturn, 1) := by decide +kernel
theorem dX8_figureOf_0 : decode cX8_figureOf 0 = .ok (.iload_n 0, 1) := by decide +kernel
theorem dX8_figureOf_1 : decode cX8_figureOf 1 = .ok (.bipush 48, 2) := by decide +kernel
theorem dX8_figureOf_3 : decode cX8_figureOf 3 = .ok (.if_icmp .lt 16, 3) := by decide +kernel
theorem dX8_figureOf_6 : decode cX8_figureOf 6 = .ok (.iload_n 0, 1) := by decide +kernel
theorem dX8_figureOf_7 : decode cX8_figureOf 7 = .ok (.bipush 57, 2) := by decide +kernel
theorem dX8_figureOf_9 : decode cX8_figureOf 9 = .ok (.if_icmp .gt 10, 3) := by decide +kernel
theorem dX8_figureOf_12 : decode cX8_figureOf 12 = .ok (.iload_n 0, 1) := by decide +kernel
theorem dX8_figureOf_13 : decode cX8_figureOf 13 = .ok (.bipush 48, 2) := by decide +kernel
theorem dX8_figureOf_15 : decode cX8_figureOf 15 = .ok (.isub, 1) := by decide +kernel
theorem dX8_figureOf_16 : decode cX8_figureOf 16 = .ok (.goto 4, 3) := by decide +kernel
theorem dX8_figureOf_19 : decode cX8_figureOf 19 = .ok (.iconst (-1), 1) := by decide +kernel
theorem dX8_figureOf_20 : decode cX8_figureOf 20 = .ok (.ireturn, 1) := by decide +kernel
theorem dX9_init_0 : decode cX9_init 0 = .ok (.aload_n 0, 1) := by decide +kernel
theorem dX9_init_1 : decode cX9_init 1 = .ok (.invokespecial 1, 3) := by decide +kernel
theorem dX9_init_4 : decode cX9_init 4 = .ok (.aload_n 0, 1) := by decide +kernel
theorem dX9_init_5 : decode cX9_init 5 = .ok (.new 7, 3) := by decide +kernel
theorem dX9_init_8 : decode cX9_init 8 = .ok (.dup, 1) := by decide +kernel
theorem dX9_init_9 : decode cX9_init 9 = .ok (.invokespecial 9, 3) := by decide +kernel
theorem dX9_init_12 : decode cX9_init 12 = .ok (.putfield 10, 3) := by decide +kernel
theorem dX9_init_15 : decode cX9_init 15 = .ok (.aload_n 0, 1) := by decide +kernel
theorem dX9_init_16 : decode cX9_init 16 = .ok (.new 16, 3) := by decide +kernel
theorem dX9_init_19 : decode cX9_init 19 = .ok (.dup, 1) := by decide +kernel
theorem dX9_init_20 : decode cX9_init 20 = .ok (.invokespecial 18, 3) := by decide +kernel
theorem dX9_init_23 : decode cX9_init 23 = .ok (.putfield 19, 3) := by decide +kernel
theorem dX9_init_26 : decode cX9_init 26 = .ok (.aload_n 0, 1) := by decide +kernel
theorem dX9_init_27 : decode cX9_init 27 = .ok (.new 16, 3) := by decide +kernel
theorem dX9_init_30 : decode cX9_init 30 = .ok (.dup, 1) := by decide +kernel
theorem dX9_init_31 : decode cX9_init 31 = .ok (.invokespecial 18, 3) := by decide +kernel
theorem dX9_init_34 : decode cX9_init 34 = .ok (.putfield 23, 3) := by decide +kernel
theorem dX9_init_37 : decode cX9_init 37 = .ok (.aload_n 0, 1) := by decide +kernel
theorem dX9_init_38 : decode cX9_init 38 = .ok (.new 26, 3) := by decide +kernel
theorem dX9_init_41 : decode cX9_init 41 = .ok (.dup, 1) := by decide +kernel
theorem dX9_init_42 : decode cX9_init 42 = .ok (.bipush 8, 2) := by decide +kernel
theorem dX9_init_44 : decode cX9_init 44 = .ok (.invokespecial 28, 3) := by decide +kernel
theorem dX9_init_47 : decode cX9_init 47 = .ok (.putfield 31, 3) := by decide +kernel
theorem dX9_init_50 : decode cX9_init 50 = .ok (.aload_n 0, 1) := by decide +kernel
theorem dX9_init_51 : decode cX9_init 51 = .ok (.new 26, 3) := by decide +kernel
theorem dX9_init_54 : decode cX9_init 54 = .ok (.dup, 1) := by decide +kernel
theorem dX9_init_55 : decode cX9_init 55 = .ok (.iconst 2, 1) := by decide +kernel
theorem dX9_init_56 : decode cX9_init 56 = .ok (.invokespecial 28, 3) := by decide +kernel
theorem dX9_init_59 : decode cX9_init 59 = .ok (.putfield 35, 3) := by decide +kernel
theorem dX9_init_62 : decode cX9_init 62 = .ok (.aload_n 0, 1) := by decide +kernel
theorem dX9_init_63 : decode cX9_init 63 = .ok (.new 38, 3) := by decide +kernel
theorem dX9_init_66 : decode cX9_init 66 = .ok (.dup, 1) := by decide +kernel
theorem dX9_init_67 : decode cX9_init 67 = .ok (.invokespecial 40, 3) := by decide +kernel
theorem dX9_init_70 : decode cX9_init 70 = .ok (.putfield 41, 3) := by decide +kernel
theorem dX9_init_73 : decode cX9_init 73 = .ok (.aload_n 0, 1) := by decide +kernel
theorem dX9_init_74 : decode cX9_init 74 = .ok (.new 45, 3) := by decide +kernel
theorem dX9_init_77 : decode cX9_init 77 = .ok (.dup, 1) := by decide +kernel
theorem dX9_init_78 : decode cX9_init 78 = .ok (.invokespecial 47, 3) := by decide +kernel
theorem dX9_init_81 : decode cX9_init 81 = .ok (.putfield 48, 3) := by decide +kernel
theorem dX9_init_84 : decode cX9_init 84 = .ok (.aload_n 0, 1) := by decide +kernel
theorem dX9_init_85 : decode cX9_init 85 = .ok (.new 52, 3) := by decide +kernel
theorem dX9_init_88 : decode cX9_init 88 = .ok (.dup, 1) := by decide +kernel
theorem dX9_init_89 : decode cX9_init 89 = .ok (.invokespecial 54, 3) := by decide +kernel
theorem dX9_init_92 : decode cX9_init 92 = .ok (.putfield 55, 3) := by decide +kernel
theorem dX9_init_95 : decode cX9_init 95 = .ok (.aload_n 0, 1) := by decide +kernel
theorem dX9_init_96 : decode cX9_init 96 = .ok (.getfield 23, 3) := by decide +kernel
theorem dX9_init_99 : decode cX9_init 99 = .ok (.invokevirtual 59, 3) := by decide +kernel
theorem dX9_init_102 : decode cX9_init 102 = .ok (.aload_n 0, 1) := by decide +kernel
theorem dX9_init_103 : decode cX9_init 103 = .ok (.aload_n 0, 1) := by decide +kernel
theorem dX9_init_104 : decode cX9_init 104 = .ok (.getfield 23, 3) := by decide +kernel
theorem dX9_init_107 : decode cX9_init 107 = .ok (.getfield 62, 3) := by decide +kernel
theorem dX9_init_110 : decode cX9_init 110 = .ok (.invokestatic 66, 3) := by decide +kernel
theorem dX9_init_113 : decode cX9_init 113 = .ok (.putfield 72, 3) := by decide +kernel
theorem dX9_init_116 : decode cX9_init 116 = .ok (.return_, 1) := by decide +kernel
theorem dX9_write_0 : decode cX9_write 0 = .ok (.iload_n 1, 1) := by decide +kernel
theorem dX9_write_1 : decode cX9_write 1 = .ok (.bipush 32, 2) := by decide +kernel
theorem dX9_write_3 : decode cX9_write 3 = .ok (.bipush 126, 2) := by decide +kernel
theorem dX9_write_5 : decode cX9_write 5 = .ok (.invokestatic 76, 3) := by decide +kernel
theorem dX9_write_8 : decode cX9_write 8 = .ok (.ifCond .ne 5, 3) := by decide +kernel
theorem dX9_write_11 : decode cX9_write 11 = .ok (.iconst (-1), 1) := by decide +kernel
theorem dX9_write_12 : decode cX9_write 12 = .ok (.ireturn, 1) := by decide +kernel
theorem dX9_write_13 : decode cX9_write 13 = .ok (.aload_n 0, 1) := by decide +kernel
theorem dX9_write_14 : decode cX9_write 14 = .ok (.getfield 10, 3) := by decide +kernel
theorem dX9_write_17 : decode cX9_write 17 = .ok (.iload_n 1, 1) := by decide +kernel
theorem dX9_write_18 : decode cX9_write 18 = .ok (.invokevirtual 80, 3) := by decide +kernel
theorem dX9_write_21 : decode cX9_write 21 = .ok (.ifCond .eq 13, 3) := by decide +kernel
theorem dX9_write_24 : decode cX9_write 24 = .ok (.aload_n 0, 1) := by decide +kernel
theorem dX9_write_25 : decode cX9_write 25 = .ok (.getfield 10, 3) := by decide +kernel
theorem dX9_write_28 : decode cX9_write 28 = .ok (.getfield 84, 3) := by decide +kernel
theorem dX9_write_31 : decode cX9_write 31 = .ok (.goto 5, 3) := by decide +kernel
theorem dX9_write_34 : decode cX9_write 34 = .ok (.bipush (-3), 2) := by decide +kernel
theorem dX9_write_36 : decode cX9_write 36 = .ok (.ireturn, 1) := by decide +kernel
theorem dX9_wipe_0 : decode cX9_wipe 0 = .ok (.aload_n 0, 1) := by decide +kernel
theorem dX9_wipe_1 : decode cX9_wipe 1 = .ok (.getfield 10, 3) := by decide +kernel
theorem dX9_wipe_4 : decode cX9_wipe 4 = .ok (.getfield 84, 3) := by decide +kernel
theorem dX9_wipe_7 : decode cX9_wipe 7 = .ok (.istore_n 1, 1) := by decide +kernel
theorem dX9_wipe_8 : decode cX9_wipe 8 = .ok (.aload_n 0, 1) := by decide +kernel
theorem dX9_wipe_9 : decode cX9_wipe 9 = .ok (.getfield 10, 3) := by decide +kernel
theorem dX9_wipe_12 : decode cX9_wipe 12 = .ok (.iconst 0, 1) := by decide +kernel
theorem dX9_wipe_13 : decode cX9_wipe 13 = .ok (.putfield 84, 3) := by decide +kernel
theorem dX9_wipe_16 : decode cX9_wipe 16 = .ok (.iload_n 1, 1) := by decide +kernel
theorem dX9_wipe_17 : decode cX9_wipe 17 = .ok (.ireturn, 1) := by decide +kernel
theorem dX9_fault_0 : decode cX9_fault 0 = .ok (.aload_n 0, 1) := by decide +kernel
theorem dX9_fault_1 : decode cX9_fault 1 = .ok (.getfield 10, 3) := by decide +kernel
theorem dX9_fault_4 : decode cX9_fault 4 = .ok (.aload_n 0, 1) := by decide +kernel
theorem dX9_fault_5 : decode cX9_fault 5 = .ok (.getfield 19, 3) := by decide +kernel
theorem dX9_fault_8 : decode cX9_fault 8 = .ok (.invokevirtual 87, 3) := by decide +kernel
theorem dX9_fault_11 : decode cX9_fault 11 = .ok (.ireturn, 1) := by decide +kernel
theorem dX9_lay_0 : decode cX9_lay 0 = .ok (.aload_n 0, 1) := by decide +kernel
theorem dX9_lay_1 : decode cX9_lay 1 = .ok (.getfield 10, 3) := by decide +kernel
theorem dX9_lay_4 : decode cX9_lay 4 = .ok (.getfield 84, 3) := by decide +kernel
theorem dX9_lay_7 : decode cX9_lay 7 = .ok (.ifCond .eq 19, 3) := by decide +kernel
theorem dX9_lay_10 : decode cX9_lay 10 = .ok (.aload_n 0, 1) := by decide +kernel
theorem dX9_lay_11 : decode cX9_lay 11 = .ok (.getfield 10, 3) := by decide +kernel
theorem dX9_lay_14 : decode cX9_lay 14 = .ok (.aload_n 0, 1) := by decide +kernel
theorem dX9_lay_15 : decode cX9_lay 15 = .ok (.getfield 19, 3) := by decide +kernel
theorem dX9_lay_18 : decode cX9_lay 18 = .ok (.invokevirtual 87, 3) := by decide +kernel
theorem dX9_lay_21 : decode cX9_lay 21 = .ok (.bipush (-4), 2) := by decide +kernel
theorem dX9_lay_23 : decode cX9_lay 23 = .ok (.if_icmp .eq 6, 3) := by decide +kernel
theorem dX9_lay_26 : decode cX9_lay 26 = .ok (.bipush (-2), 2) := by decide +kernel
theorem dX9_lay_28 : decode cX9_lay 28 = .ok (.ireturn, 1) := by decide +kernel
theorem dX9_lay_29 : decode cX9_lay 29 = .ok (.aload_n 0, 1) := by decide +kernel
theorem dX9_lay_30 : decode cX9_lay 30 = .ok (.getfield 23, 3) := by decide +kernel
theorem dX9_lay_33 : decode cX9_lay 33 = .ok (.aload_n 0, 1) := by decide +kernel
theorem dX9_lay_34 : decode cX9_lay 34 = .ok (.getfield 19, 3) := by decide +kernel
theorem dX9_lay_37 : decode cX9_lay 37 = .ok (.invokevirtual 91, 3) := by decide +kernel
theorem dX9_lay_40 : decode cX9_lay 40 = .ok (.aload_n 0, 1) := by decide +kernel
theorem dX9_lay_41 : decode cX9_lay 41 = .ok (.aload_n 0, 1) := by decide +kernel
theorem dX9_lay_42 : decode cX9_lay 42 = .ok (.getfield 23, 3) := by decide +kernel
theorem dX9_lay_45 : decode cX9_lay 45 = .ok (.getfield 62, 3) := by decide +kernel
theorem dX9_lay_48 : decode cX9_lay 48 = .ok (.invokestatic 66, 3) := by decide +kernel
theorem dX9_lay_51 : decode cX9_lay 51 = .ok (.putfield 72, 3) := by decide +kernel
theorem dX9_lay_54 : decode cX9_lay 54 = .ok (.aload_n 0, 1) := by decide +kernel
theorem dX9_lay_55 : decode cX9_lay 55 = .ok (.getfield 41, 3) := by decide +kernel
theorem dX9_lay_58 : decode cX9_lay 58 = .ok (.iconst 0, 1) := by decide +kernel
theorem dX9_lay_59 : decode cX9_lay 59 = .ok (.putfield 95, 3) := by decide +kernel
theorem dX9_lay_62 : decode cX9_lay 62 = .ok (.aload_n 0, 1) := by decide +kernel
theorem dX9_lay_63 : decode cX9_lay 63 = .ok (.getfield 31, 3) := by decide +kernel
theorem dX9_lay_66 : decode cX9_lay 66 = .ok (.iconst 0, 1) := by decide +kernel
theorem dX9_lay_67 : decode cX9_lay 67 = .ok (.putfield 98, 3) := by decide +kernel
theorem dX9_lay_70 : decode cX9_lay 70 = .ok (.aload_n 0, 1) := by decide +kernel
theorem dX9_lay_71 : decode cX9_lay 71 = .ok (.getfield 35, 3) := by decide +kernel
theorem dX9_lay_74 : decode cX9_lay 74 = .ok (.iconst 0, 1) := by decide +kernel
theorem dX9_lay_75 : decode cX9_lay 75 = .ok (.putfield 98, 3) := by decide +kernel
theorem dX9_lay_78 : decode cX9_lay 78 = .ok (.aload_n 0, 1) := by decide +kernel
theorem dX9_lay_79 : decode cX9_lay 79 = .ok (.getfield 23, 3) := by decide +kernel
theorem dX9_lay_82 : decode cX9_lay 82 = .ok (.getfield 62, 3) := by decide +kernel
theorem dX9_lay_85 : decode cX9_lay 85 = .ok (.ireturn, 1) := by decide +kernel
theorem dX9_at_0 : decode cX9_at 0 = .ok (.aload_n 0, 1) := by decide +kernel
theorem dX9_at_1 : decode cX9_at 1 = .ok (.iload_n 1, 1) := by decide +kernel
theorem dX9_at_2 : decode cX9_at 2 = .ok (.invokevirtual 99, 3) := by decide +kernel
theorem dX9_at_5 : decode cX9_at 5 = .ok (.ifCond .eq 14, 3) := by decide +kernel
theorem dX9_at_8 : decode cX9_at 8 = .ok (.aload_n 0, 1) := by decide +kernel
theorem dX9_at_9 : decode cX9_at 9 = .ok (.getfield 72, 3) := by decide +kernel
theorem dX9_at_12 : decode cX9_at 12 = .ok (.iload_n 1, 1) := by decide +kernel
theorem dX9_at_13 : decode cX9_at 13 = .ok (.invokestatic 102, 3) := by decide +kernel
theorem dX9_at_16 : decode cX9_at 16 = .ok (.goto 4, 3) := by decide +kernel
theorem dX9_at_19 : decode cX9_at 19 = .ok (.iconst (-1), 1) := by decide +kernel
theorem dX9_at_20 : decode cX9_at 20 = .ok (.ireturn, 1) := by decide +kernel
theorem dX9_where_0 : decode cX9_where 0 = .ok (.aload_n 0, 1) := by decide +kernel
theorem dX9_where_1 : decode cX9_where 1 = .ok (.iload_n 1, 1) := by decide +kernel
theorem dX9_where_2 : decode cX9_where 2 = .ok (.invokevirtual 106, 3) := by decide +kernel
theorem dX9_where_5 : decode cX9_where 5 = .ok (.ifCond .eq 21, 3) := by decide +kernel
theorem dX9_where_8 : decode cX9_where 8 = .ok (.aload_n 0, 1) := by decide +kernel
theorem dX9_where_9 : decode cX9_where 9 = .ok (.getfield 72, 3) := by decide +kernel
theorem dX9_where_12 : decode cX9_where 12 = .ok (.aload_n 0, 1) := by decide +kernel
theorem dX9_where_13 : decode cX9_where 13 = .ok (.getfield 23, 3) := by decide +kernel
theorem dX9_where_16 : decode cX9_where 16 = .ok (.getfield 62, 3) := by decide +kernel
theorem dX9_where_19 : decode cX9_where 19 = .ok (.iload_n 1, 1) := by decide +kernel
theorem dX9_where_20 : decode cX9_where 20 = .ok (.invokestatic 109, 3) := by decide +kernel
theorem dX9_where_23 : decode cX9_where 23 = .ok (.goto 4, 3) := by decide +kernel
theorem dX9_where_26 : decode cX9_where 26 = .ok (.iconst (-1), 1) := by decide +kernel
theorem dX9_where_27 : decode cX9_where 27 = .ok (.ireturn, 1) := by decide +kernel
theorem dX9_colour_0 : decode cX9_colour 0 = .ok (.aload_n 0, 1) := by decide +kernel
theorem dX9_colour_1 : decode cX9_colour 1 = .ok (.iload_n 1, 1) := by decide +kernel
theorem dX9_colour_2 : decode cX9_colour 2 = .ok (.invokevirtual 106, 3) := by decide +kernel
theorem dX9_colour_5 : decode cX9_colour 5 = .ok (.ifCond .eq 14, 3) := by decide +kernel
theorem dX9_colour_8 : decode cX9_colour 8 = .ok (.aload_n 0, 1) := by decide +kernel
theorem dX9_colour_9 : decode cX9_colour 9 = .ok (.getfield 23, 3) := by decide +kernel
theorem dX9_colour_12 : decode cX9_colour 12 = .ok (.iload_n 1, 1) := by decide +kernel
theorem dX9_colour_13 : decode cX9_colour 13 = .ok (.invokevirtual 113, 3) := by decide +kernel
theorem dX9_colour_16 : decode cX9_colour 16 = .ok (.goto 4, 3) := by decide +kernel
theorem dX9_colour_19 : decode cX9_colour 19 = .ok (.iconst (-1), 1) := by decide +kernel
theorem dX9_colour_20 : decode cX9_colour 20 = .ok (.ireturn, 1) := by decide +kernel
theorem dX9_lace_0 : decode cX9_lace 0 = .ok (.iload_n 1, 1) := by decide +kernel
theorem dX9_lace_1 : decode cX9_lace 1 = .ok (.invokestatic 117, 3) := by decide +kernel
theorem dX9_lace_4 : decode cX9_lace 4 = .ok (.ifCond .eq 21, 3) := by decide +kernel
theorem dX9_lace_7 : decode cX9_lace 7 = .ok (.aload_n 0, 1) := by decide +kernel
theorem dX9_lace_8 : decode cX9_lace 8 = .ok (.iload_n 1, 1) := by decide +kernel
theorem dX9_lace_9 : decode cX9_lace 9 = .ok (.aload_n 0, 1) := by decide +kernel
theorem dX9_lace_10 : decode cX9_lace 10 = .ok (.getfield 23, 3) := by decide +kernel
theorem dX9_lace_13 : decode cX9_lace 13 = .ok (.getfield 62, 3) := by decide +kernel
theorem dX9_lace_16 : decode cX9_lace 16 = .ok (.invokestatic 120, 3) := by decide +kernel
theorem dX9_lace_19 : decode cX9_lace 19 = .ok (.invokevirtual 126, 3) := by decide +kernel
theorem dX9_lace_22 : decode cX9_lace 22 = .ok (.goto 4, 3) := by decide +kernel
theorem dX9_lace_25 : decode cX9_lace 25 = .ok (.iconst (-1), 1) := by decide +kernel
theorem dX9_lace_26 : decode cX9_lace 26 = .ok (.ireturn, 1) := by decide +kernel
theorem dX9_cut_0 : decode cX9_cut 0 = .ok (.iload_n 1, 1) := by decide +kernel
theorem dX9_cut_1 : decode cX9_cut 1 = .ok (.iconst 0, 1) := by decide +kernel
theorem dX9_cut_2 : decode cX9_cut 2 = .ok (.aload_n 0, 1) := by decide +kernel
theorem dX9_cut_3 : decode cX9_cut 3 = .ok (.getfield 23, 3) := by decide +kernel
theorem dX9_cut_6 : decode cX9_cut 6 = .ok (.getfield 62, 3) := by decide +kernel
theorem dX9_cut_9 : decode cX9_cut 9 = .ok (.iconst 1, 1) := by decide +kernel
theorem dX9_cut_10 : decode cX9_cut 10 = .ok (.isub, 1) := by decide +kernel
theorem dX9_cut_11 : decode cX9_cut 11 = .ok (.invokestatic 76, 3) := by decide +kernel
theorem dX9_cut_14 : decode cX9_cut 14 = .ok (.ifCond .eq 21, 3) := by decide +kernel
theorem dX9_cut_17 : decode cX9_cut 17 = .ok (.aload_n 0, 1) := by decide +kernel
theorem dX9_cut_18 : decode cX9_cut 18 = .ok (.iload_n 1, 1) := by decide +kernel
theorem dX9_cut_19 : decode cX9_cut 19 = .ok (.aload_n 0, 1) := by decide +kernel
theorem dX9_cut_20 : decode cX9_cut 20 = .ok (.getfield 23, 3) := by decide +kernel
theorem dX9_cut_23 : decode cX9_cut 23 = .ok (.getfield 62, 3) := by decide +kernel
theorem dX9_cut_26 : decode cX9_cut 26 = .ok (.invokestatic 130, 3) := by decide +kernel
theorem dX9_cut_29 : decode cX9_cut 29 = .ok (.invokevirtual 126, 3) := by decide +kernel
theorem dX9_cut_32 : decode cX9_cut 32 = .ok (.goto 4, 3) := by decide +kernel
theorem dX9_cut_35 : decode cX9_cut 35 = .ok (.iconst (-1), 1) := by decide +kernel
theorem dX9_cut_36 : decode cX9_cut 36 = .ok (.ireturn, 1) := by decide +kernel
theorem dX9_turn_0 : decode cX9_turn 0 = .ok (.aload_n 0, 1) := by decide +kernel
theorem dX9_turn_1 : decode cX9_turn 1 = .ok (.aload_n 0, 1) := by decide +kernel
theorem dX9_turn_2 : decode cX9_turn 2 = .ok (.getfield 23, 3) := by decide +kernel
theorem dX9_turn_5 : decode cX9_turn 5 = .ok (.getfield 62, 3) := by decide +kernel
theorem dX9_turn_8 : decode cX9_turn 8 = .ok (.invokestatic 133, 3) := by decide +kernel
theorem dX9_turn_11 : decode cX9_turn 11 = .ok (.invokevirtual 126, 3) := by decide +kernel
theorem dX9_turn_14 : decode cX9_turn 14 = .ok (.ireturn, 1) := by decide +kernel
theorem dX9_deal_0 : decode cX9_deal 0 = .ok (.aload_n 0, 1) := by decide +kernel
theorem dX9_deal_1 : decode cX9_deal 1 = .ok (.aload_n 0, 1) := by decide +kernel
theorem dX9_deal_2 : decode cX9_deal 2 = .ok (.getfield 23, 3) := by decide +kernel
theorem dX9_deal_5 : decode cX9_deal 5 = .ok (.getfield 136, 3) := by decide +kernel
theorem dX9_deal_8 : decode cX9_deal 8 = .ok (.invokevirtual 126, 3) := by decide +kernel
theorem dX9_deal_11 : decode cX9_deal 11 = .ok (.ireturn, 1) := by decide +kernel
theorem dX9_undo_0 : decode cX9_undo 0 = .ok (.aload_n 0, 1) := by decide +kernel
theorem dX9_undo_1 : decode cX9_undo 1 = .ok (.getfield 31, 3) := by decide +kernel
theorem dX9_undo_4 : decode cX9_undo 4 = .ok (.getfield 98, 3) := by decide +kernel
theorem dX9_undo_7 : decode cX9_undo 7 = .ok (.ifCond .ne 6, 3) := by decide +kernel
theorem dX9_undo_10 : decode cX9_undo 10 = .ok (.bipush (-2), 2) := by decide +kernel
theorem dX9_undo_12 : decode cX9_undo 12 = .ok (.ireturn, 1) := by decide +kernel
theorem dX9_undo_13 : decode cX9_undo 13 = .ok (.aload_n 0, 1) := by decide +kernel
theorem dX9_undo_14 : decode cX9_undo 14 = .ok (.aload_n 0, 1) := by decide +kernel
theorem dX9_undo_15 : decode cX9_undo 15 = .ok (.getfield 31, 3) := by decide +kernel
theorem dX9_undo_18 : decode cX9_undo 18 = .ok (.invokevirtual 139, 3) := by decide +kernel
theorem dX9_undo_21 : decode cX9_undo 21 = .ok (.putfield 72, 3) := by decide +kernel
theorem dX9_undo_24 : decode cX9_undo 24 = .ok (.aload_n 0, 1) := by decide +kernel
theorem dX9_undo_25 : decode cX9_undo 25 = .ok (.getfield 31, 3) := by decide +kernel
theorem dX9_undo_28 : decode cX9_undo 28 = .ok (.getfield 98, 3) := by decide +kernel
theorem dX9_undo_31 : decode cX9_undo 31 = .ok (.ireturn, 1) := by decide +kernel
theorem dX9_again_0 : decode cX9_again 0 = .ok (.iload_n 1, 1) := by decide +kernel
theorem dX9_again_1 : decode cX9_again 1 = .ok (.iconst 5, 1) := by decide +kernel
theorem dX9_again_2 : decode cX9_again 2 = .ok (.if_icmp .ne 21, 3) := by decide +kernel
theorem dX9_again_5 : decode cX9_again 5 = .ok (.aload_n 0, 1) := by decide +kernel
theorem dX9_again_6 : decode cX9_again 6 = .ok (.getfield 23, 3) := by decide +kernel
theorem dX9_again_9 : decode cX9_again 9 = .ok (.getfield 136, 3) := by decide +kernel
theorem dX9_again_12 : decode cX9_again 12 = .ok (.aload_n 0, 1) := by decide +kernel
theorem dX9_again_13 : decode cX9_again 13 = .ok (.getfield 23, 3) := by decide +kernel
theorem dX9_again_16 : decode cX9_again 16 = .ok (.getfield 62, 3) := by decide +kernel
theorem dX9_again_19 : decode cX9_again 19 = .ok (.invokestatic 143, 3) := by decide +kernel
theorem dX9_again_22 : decode cX9_again 22 = .ok (.ireturn, 1) := by decide +kernel
theorem dX9_again_23 : decode cX9_again 23 = .ok (.iload_n 1, 1) := by decide +kernel
theorem dX9_again_24 : decode cX9_again 24 = .ok (.invokestatic 117, 3) := by decide +kernel
theorem dX9_again_27 : decode cX9_again 27 = .ok (.ifCond .eq 27, 3) := by decide +kernel
theorem dX9_again_30 : decode cX9_again 30 = .ok (.iload_n 1, 1) := by decide +kernel
theorem dX9_again_31 : decode cX9_again 31 = .ok (.aload_n 0, 1) := by decide +kernel
theorem dX9_again_32 : decode cX9_again 32 = .ok (.getfield 23, 3) := by decide +kernel
theorem dX9_again_35 : decode cX9_again 35 = .ok (.getfield 62, 3) := by decide +kernel
theorem dX9_again_38 : decode cX9_again 38 = .ok (.invokestatic 120, 3) := by decide +kernel
theorem dX9_again_41 : decode cX9_again 41 = .ok (.aload_n 0, 1) := by decide +kernel
theorem dX9_again_42 : decode cX9_again 42 = .ok (.getfield 23, 3) := by decide +kernel
theorem dX9_again_45 : decode cX9_again 45 = .ok (.getfield 62, 3) := by decide +kernel
theorem dX9_again_48 : decode cX9_again 48 = .ok (.invokestatic 143, 3) := by decide +kernel
theorem dX9_again_51 : decode cX9_again 51 = .ok (.goto 4, 3) := by decide +kernel
theorem dX9_again_54 : decode cX9_again 54 = .ok (.iconst (-1), 1) := by decide +kernel
theorem dX9_again_55 : decode cX9_again 55 = .ok (.ireturn, 1) := by decide +kernel
theorem dX9_round_0 : decode cX9_round 0 = .ok (.aload_n 0, 1) := by decide +kernel
theorem dX9_round_1 : decode cX9_round 1 = .ok (.iload_n 1, 1) := by decide +kernel
theorem dX9_round_2 : decode cX9_round 2 = .ok (.invokevirtual 99, 3) := by decide +kernel
theorem dX9_round_5 : decode cX9_round 5 = .ok (.ifCond .eq 10, 3) := by decide +kernel
theorem dX9_round_8 : decode cX9_round 8 = .ok (.iload_n 2, 1) := by decide +kernel
theorem dX9_round_9 : decode cX9_round 9 = .ok (.invokestatic 117, 3) := by decide +kernel
theorem dX9_round_12 : decode cX9_round 12 = .ok (.ifCond .ne 5, 3) := by decide +kernel
theorem dX9_round_15 : decode cX9_round 15 = .ok (.iconst (-1), 1) := by decide +kernel
theorem dX9_round_16 : decode cX9_round 16 = .ok (.ireturn, 1) := by decide +kernel
theorem dX9_round_17 : decode cX9_round 17 = .ok (.iload_n 2, 1) := by decide +kernel
theorem dX9_round_18 : decode cX9_round 18 = .ok (.aload_n 0, 1) := by decide +kernel
theorem dX9_round_19 : decode cX9_round 19 = .ok (.getfield 23, 3) := by decide +kernel
theorem dX9_round_22 : decode cX9_round 22 = .ok (.getfield 62, 3) := by decide +kernel
theorem dX9_round_25 : decode cX9_round 25 = .ok (.invokestatic 120, 3) := by decide +kernel
theorem dX9_round_28 : decode cX9_round 28 = .ok (.aload_n 0, 1) := by decide +kernel
theorem dX9_round_29 : decode cX9_round 29 = .ok (.getfield 23, 3) := by decide +kernel
theorem dX9_round_32 : decode cX9_round 32 = .ok (.getfield 62, 3) := by decide +kernel
theorem dX9_round_35 : decode cX9_round 35 = .ok (.iload_n 1, 1) := by decide +kernel
theorem dX9_round_36 : decode cX9_round 36 = .ok (.invokestatic 146, 3) := by decide +kernel
theorem dX9_round_39 : decode cX9_round 39 = .ok (.ireturn, 1) := by decide +kernel
theorem dX9_rounds_0 : decode cX9_rounds 0 = .ok (.iload_n 1, 1) := by decide +kernel
theorem dX9_rounds_1 : decode cX9_rounds 1 = .ok (.invokestatic 117, 3) := by decide +kernel
theorem dX9_rounds_4 : decode cX9_rounds 4 = .ok (.ifCond .eq 27, 3) := by decide +kernel
theorem dX9_rounds_7 : decode cX9_rounds 7 = .ok (.iload_n 1, 1) := by decide +kernel
theorem dX9_rounds_8 : decode cX9_rounds 8 = .ok (.aload_n 0, 1) := by decide +kernel
theorem dX9_rounds_9 : decode cX9_rounds 9 = .ok (.getfield 23, 3) := by decide +kernel
theorem dX9_rounds_12 : decode cX9_rounds 12 = .ok (.getfield 62, 3) := by decide +kernel
theorem dX9_rounds_15 : decode cX9_rounds 15 = .ok (.invokestatic 120, 3) := by decide +kernel
theorem dX9_rounds_18 : decode cX9_rounds 18 = .ok (.aload_n 0, 1) := by decide +kernel
theorem dX9_rounds_19 : decode cX9_rounds 19 = .ok (.getfield 23, 3) := by decide +kernel
theorem dX9_rounds_22 : decode cX9_rounds 22 = .ok (.getfield 62, 3) := by decide +kernel
theorem dX9_rounds_25 : decode cX9_rounds 25 = .ok (.invokestatic 149, 3) := by decide +kernel
theorem dX9_rounds_28 : decode cX9_rounds 28 = .ok (.goto 4, 3) := by decide +kernel
theorem dX9_rounds_31 : decode cX9_rounds 31 = .ok (.iconst (-1), 1) := by decide +kernel
theorem dX9_rounds_32 : decode cX9_rounds 32 = .ok (.ireturn, 1) := by decide +kernel
theorem dX9_bring_0 : decode cX9_bring 0 = .ok (.aload_n 0, 1) := by decide +kernel
theorem dX9_bring_1 : decode cX9_bring 1 = .ok (.iload_n 1, 1) := by decide +kernel
theorem dX9_bring_2 : decode cX9_bring 2 = .ok (.invokevirtual 106, 3) := by decide +kernel
theorem dX9_bring_5 : decode cX9_bring 5 = .ok (.ifCond .eq 16, 3) := by decide +kernel
theorem dX9_bring_8 : decode cX9_bring 8 = .ok (.aload_n 0, 1) := by decide +kernel
theorem dX9_bring_9 : decode cX9_bring 9 = .ok (.iload_n 2, 1) := by decide +kernel
theorem dX9_bring_10 : decode cX9_bring 10 = .ok (.invokevirtual 99, 3) := by decide +kernel
theorem dX9_bring_13 : decode cX9_bring 13 = .ok (.ifCond .eq 8, 3) := by decide +kernel
theorem dX9_bring_16 : decode cX9_bring 16 = .ok (.iload_n 3, 1) := by decide +kernel
theorem dX9_bring_17 : decode cX9_bring 17 = .ok (.iconst (-1), 1) := by decide +kernel
theorem dX9_bring_18 : decode cX9_bring 18 = .ok (.if_icmp .ge 5, 3) := by decide +kernel
theorem dX9_bring_21 : decode cX9_bring 21 = .ok (.iconst (-1), 1) := by decide +kernel
theorem dX9_bring_22 : decode cX9_bring 22 = .ok (.ireturn, 1) := by decide +kernel
theorem dX9_bring_23 : decode cX9_bring 23 = .ok (.aload_n 0, 1) := by decide +kernel
theorem dX9_bring_24 : decode cX9_bring 24 = .ok (.getfield 72, 3) := by decide +kernel
theorem dX9_bring_27 : decode cX9_bring 27 = .ok (.aload_n 0, 1) := by decide +kernel
theorem dX9_bring_28 : decode cX9_bring 28 = .ok (.getfield 23, 3) := by decide +kernel
theorem dX9_bring_31 : decode cX9_bring 31 = .ok (.getfield 62, 3) := by decide +kernel
theorem dX9_bring_34 : decode cX9_bring 34 = .ok (.iload_n 1, 1) := by decide +kernel
theorem dX9_bring_35 : decode cX9_bring 35 = .ok (.invokestatic 109, 3) := by decide +kernel
theorem dX9_bring_38 : decode cX9_bring 38 = .ok (.istore 4, 2) := by decide +kernel
theorem dX9_bring_40 : decode cX9_bring 40 = .ok (.aload_n 0, 1) := by decide +kernel
theorem dX9_bring_41 : decode cX9_bring 41 = .ok (.getfield 48, 3) := by decide +kernel
theorem dX9_bring_44 : decode cX9_bring 44 = .ok (.iload_n 2, 1) := by decide +kernel
theorem dX9_bring_45 : decode cX9_bring 45 = .ok (.aload_n 0, 1) := by decide +kernel
theorem dX9_bring_46 : decode cX9_bring 46 = .ok (.getfield 23, 3) := by decide +kernel
theorem dX9_bring_49 : decode cX9_bring 49 = .ok (.getfield 62, 3) := by decide +kernel
theorem dX9_bring_52 : decode cX9_bring 52 = .ok (.invokevirtual 152, 3) := by decide +kernel
theorem dX9_bring_55 : decode cX9_bring 55 = .ok (.iload_n 3, 1) := by decide +kernel
theorem dX9_bring_56 : decode cX9_bring 56 = .ok (.iconst (-1), 1) := by decide +kernel
theorem dX9_bring_57 : decode cX9_bring 57 = .ok (.if_icmp .ne 15, 3) := by decide +kernel
theorem dX9_bring_60 : decode cX9_bring 60 = .ok (.aload_n 0, 1) := by decide +kernel
theorem dX9_bring_61 : decode cX9_bring 61 = .ok (.getfield 48, 3) := by decide +kernel
theorem dX9_bring_64 : decode cX9_bring 64 = .ok (.iload 4, 2) := by decide +kernel
theorem dX9_bring_66 : decode cX9_bring 66 = .ok (.invokevirtual 156, 3) := by decide +kernel
theorem dX9_bring_69 : decode cX9_bring 69 = .ok (.goto 20, 3) := by decide +kernel
theorem dX9_bring_72 : decode cX9_bring 72 = .ok (.aload_n 0, 1) := by decide +kernel
theorem dX9_bring_73 : decode cX9_bring 73 = .ok (.getfield 48, 3) := by decide +kernel
theorem dX9_bring_76 : decode cX9_bring 76 = .ok (.iload 4, 2) := by decide +kernel
theorem dX9_bring_78 : decode cX9_bring 78 = .ok (.iload_n 3, 1) := by decide +kernel
theorem dX9_bring_79 : decode cX9_bring 79 = .ok (.aload_n 0, 1) := by decide +kernel
theorem dX9_bring_80 : decode cX9_bring 80 = .ok (.getfield 23, 3) := by decide +kernel
theorem dX9_bring_83 : decode cX9_bring 83 = .ok (.getfield 62, 3) := by decide +kernel
theorem dX9_bring_86 : decode cX9_bring 86 = .ok (.invokevirtual 159, 3) := by decide +kernel
theorem dX9_bring_89 : decode cX9_bring 89 = .ok (.ireturn, 1) := by decide +kernel
theorem dX9_beside_0 : decode cX9_beside 0 = .ok (.aload_n 0, 1) := by decide +kernel
theorem dX9_beside_1 : decode cX9_beside 1 = .ok (.iload_n 1, 1) := by decide +kernel
theorem dX9_beside_2 : decode cX9_beside 2 = .ok (.invokevirtual 106, 3) := by decide +kernel
theorem dX9_beside_5 : decode cX9_beside 5 = .ok (.ifCond .eq 16, 3) := by decide +kernel
theorem dX9_beside_8 : decode cX9_beside 8 = .ok (.aload_n 0, 1) := by decide +kernel
theorem dX9_beside_9 : decode cX9_beside 9 = .ok (.iload_n 2, 1) := by decide +kernel
theorem dX9_beside_10 : decode cX9_beside 10 = .ok (.invokevirtual 106, 3) := by decide +kernel
theorem dX9_beside_13 : decode cX9_beside 13 = .ok (.ifCond .eq 8, 3) := by decide +kernel
theorem dX9_beside_16 : decode cX9_beside 16 = .ok (.iload_n 1, 1) := by decide +kernel
theorem dX9_beside_17 : decode cX9_beside 17 = .ok (.iload_n 2, 1) := by decide +kernel
theorem dX9_beside_18 : decode cX9_beside 18 = .ok (.if_icmp .ne 5, 3) := by decide +kernel
theorem dX9_beside_21 : decode cX9_beside 21 = .ok (.iconst (-1), 1) := by decide +kernel
theorem dX9_beside_22 : decode cX9_beside 22 = .ok (.ireturn, 1) := by decide +kernel
theorem dX9_beside_23 : decode cX9_beside 23 = .ok (.aload_n 0, 1) := by decide +kernel
theorem dX9_beside_24 : decode cX9_beside 24 = .ok (.getfield 72, 3) := by decide +kernel
theorem dX9_beside_27 : decode cX9_beside 27 = .ok (.aload_n 0, 1) := by decide +kernel
theorem dX9_beside_28 : decode cX9_beside 28 = .ok (.getfield 23, 3) := by decide +kernel
theorem dX9_beside_31 : decode cX9_beside 31 = .ok (.getfield 62, 3) := by decide +kernel
theorem dX9_beside_34 : decode cX9_beside 34 = .ok (.iload_n 1, 1) := by decide +kernel
theorem dX9_beside_35 : decode cX9_beside 35 = .ok (.invokestatic 109, 3) := by decide +kernel
theorem dX9_beside_38 : decode cX9_beside 38 = .ok (.istore_n 3, 1) := by decide +kernel
theorem dX9_beside_39 : decode cX9_beside 39 = .ok (.aload_n 0, 1) := by decide +kernel
theorem dX9_beside_40 : decode cX9_beside 40 = .ok (.getfield 72, 3) := by decide +kernel
theorem dX9_beside_43 : decode cX9_beside 43 = .ok (.aload_n 0, 1) := by decide +kernel
theorem dX9_beside_44 : decode cX9_beside 44 = .ok (.getfield 23, 3) := by decide +kernel
theorem dX9_beside_47 : decode cX9_beside 47 = .ok (.getfield 62, 3) := by decide +kernel
theorem dX9_beside_50 : decode cX9_beside 50 = .ok (.iload_n 2, 1) := by decide +kernel
theorem dX9_beside_51 : decode cX9_beside 51 = .ok (.invokestatic 109, 3) := by decide +kernel
theorem dX9_beside_54 : decode cX9_beside 54 = .ok (.istore 4, 2) := by decide +kernel
theorem dX9_beside_56 : decode cX9_beside 56 = .ok (.aload_n 0, 1) := by decide +kernel
theorem dX9_beside_57 : decode cX9_beside 57 = .ok (.getfield 48, 3) := by decide +kernel
theorem dX9_beside_60 : decode cX9_beside 60 = .ok (.iload_n 3, 1) := by decide +kernel
theorem dX9_beside_61 : decode cX9_beside 61 = .ok (.iload 4, 2) := by decide +kernel
theorem dX9_beside_63 : decode cX9_beside 63 = .ok (.aload_n 0, 1) := by decide +kernel
theorem dX9_beside_64 : decode cX9_beside 64 = .ok (.getfield 23, 3) := by decide +kernel
theorem dX9_beside_67 : decode cX9_beside 67 = .ok (.getfield 62, 3) := by decide +kernel
theorem dX9_beside_70 : decode cX9_beside 70 = .ok (.invokevirtual 163, 3) := by decide +kernel
theorem dX9_beside_73 : decode cX9_beside 73 = .ok (.ireturn, 1) := by decide +kernel
theorem dX9_orders_0 : decode cX9_orders 0 = .ok (.iload_n 1, 1) := by decide +kernel
theorem dX9_orders_1 : decode cX9_orders 1 = .ok (.iconst 0, 1) := by decide +kernel
theorem dX9_orders_2 : decode cX9_orders 2 = .ok (.bipush 6, 2) := by decide +kernel
theorem dX9_orders_4 : decode cX9_orders 4 = .ok (.invokestatic 76, 3) := by decide +kernel
theorem dX9_orders_7 : decode cX9_orders 7 = .ok (.ifCond .eq 21, 3) := by decide +kernel
theorem dX9_orders_10 : decode cX9_orders 10 = .ok (.aload_n 0, 1) := by decide +kernel
theorem dX9_orders_11 : decode cX9_orders 11 = .ok (.getfield 48, 3) := by decide +kernel
theorem dX9_orders_14 : decode cX9_orders 14 = .ok (.iload_n 1, 1) := by decide +kernel
theorem dX9_orders_15 : decode cX9_orders 15 = .ok (.aload_n 0, 1) := by decide +kernel
theorem dX9_orders_16 : decode cX9_orders 16 = .ok (.getfield 23, 3) := by decide +kernel
theorem dX9_orders_19 : decode cX9_orders 19 = .ok (.getfield 62, 3) := by decide +kernel
theorem dX9_orders_22 : decode cX9_orders 22 = .ok (.invokevirtual 166, 3) := by decide +kernel
theorem dX9_orders_25 : decode cX9_orders 25 = .ok (.goto 4, 3) := by decide +kernel
theorem dX9_orders_28 : decode cX9_orders 28 = .ok (.iconst (-1), 1) := by decide +kernel
theorem dX9_orders_29 : decode cX9_orders 29 = .ok (.ireturn, 1) := by decide +kernel
theorem dX9_rising_0 : decode cX9_rising 0 = .ok (.aload_n 0, 1) := by decide +kernel
theorem dX9_rising_1 : decode cX9_rising 1 = .ok (.getfield 72, 3) := by decide +kernel
theorem dX9_rising_4 : decode cX9_rising 4 = .ok (.aload_n 0, 1) := by decide +kernel
theorem dX9_rising_5 : decode cX9_rising 5 = .ok (.getfield 23, 3) := by decide +kernel
theorem dX9_rising_8 : decode cX9_rising 8 = .ok (.getfield 62, 3) := by decide +kernel
theorem dX9_rising_11 : decode cX9_rising 11 = .ok (.invokestatic 170, 3) := by decide +kernel
theorem dX9_rising_14 : decode cX9_rising 14 = .ok (.ireturn, 1) := by decide +kernel
theorem dX9_pairs_0 : decode cX9_pairs 0 = .ok (.iconst 0, 1) := by decide +kernel
theorem dX9_pairs_1 : decode cX9_pairs 1 = .ok (.istore_n 1, 1) := by decide +kernel
theorem dX9_pairs_2 : decode cX9_pairs 2 = .ok (.iconst 0, 1) := by decide +kernel
theorem dX9_pairs_3 : decode cX9_pairs 3 = .ok (.istore_n 2, 1) := by decide +kernel
theorem dX9_pairs_4 : decode cX9_pairs 4 = .ok (.iload_n 2, 1) := by decide +kernel
theorem dX9_pairs_5 : decode cX9_pairs 5 = .ok (.iconst 1, 1) := by decide +kernel
theorem dX9_pairs_6 : decode cX9_pairs 6 = .ok (.iadd, 1) := by decide +kernel
theorem dX9_pairs_7 : decode cX9_pairs 7 = .ok (.aload_n 0, 1) := by decide +kernel
theorem dX9_pairs_8 : decode cX9_pairs 8 = .ok (.getfield 23, 3) := by decide +kernel
theorem dX9_pairs_11 : decode cX9_pairs 11 = .ok (.getfield 62, 3) := by decide +kernel
theorem dX9_pairs_14 : decode cX9_pairs 14 = .ok (.if_icmp .ge 40, 3) := by decide +kernel
theorem dX9_pairs_17 : decode cX9_pairs 17 = .ok (.aload_n 0, 1) := by decide +kernel
theorem dX9_pairs_18 : decode cX9_pairs 18 = .ok (.getfield 23, 3) := by decide +kernel
theorem dX9_pairs_21 : decode cX9_pairs 21 = .ok (.aload_n 0, 1) := by decide +kernel
theorem dX9_pairs_22 : decode cX9_pairs 22 = .ok (.getfield 72, 3) := by decide +kernel
theorem dX9_pairs_25 : decode cX9_pairs 25 = .ok (.iload_n 2, 1) := by decide +kernel
theorem dX9_pairs_26 : decode cX9_pairs 26 = .ok (.invokestatic 102, 3) := by decide +kernel
theorem dX9_pairs_29 : decode cX9_pairs 29 = .ok (.aload_n 0, 1) := by decide +kernel
theorem dX9_pairs_30 : decode cX9_pairs 30 = .ok (.getfield 72, 3) := by decide +kernel
theorem dX9_pairs_33 : decode cX9_pairs 33 = .ok (.iload_n 2, 1) := by decide +kernel
theorem dX9_pairs_34 : decode cX9_pairs 34 = .ok (.iconst 1, 1) := by decide +kernel
theorem dX9_pairs_35 : decode cX9_pairs 35 = .ok (.iadd, 1) := by decide +kernel
theorem dX9_pairs_36 : decode cX9_pairs 36 = .ok (.invokestatic 102, 3) := by decide +kernel
theorem dX9_pairs_39 : decode cX9_pairs 39 = .ok (.invokevirtual 173, 3) := by decide +kernel
theorem dX9_pairs_42 : decode cX9_pairs 42 = .ok (.ifCond .eq 6, 3) := by decide +kernel
theorem dX9_pairs_45 : decode cX9_pairs 45 = .ok (.iinc 1 1, 3) := by decide +kernel
theorem dX9_pairs_48 : decode cX9_pairs 48 = .ok (.iinc 2 2, 3) := by decide +kernel
theorem dX9_pairs_51 : decode cX9_pairs 51 = .ok (.goto (-47), 3) := by decide +kernel
theorem dX9_pairs_54 : decode cX9_pairs 54 = .ok (.iload_n 1, 1) := by decide +kernel
theorem dX9_pairs_55 : decode cX9_pairs 55 = .ok (.ireturn, 1) := by decide +kernel
theorem dX9_sure_0 : decode cX9_sure 0 = .ok (.iload_n 1, 1) := by decide +kernel
theorem dX9_sure_1 : decode cX9_sure 1 = .ok (.iconst 0, 1) := by decide +kernel
theorem dX9_sure_2 : decode cX9_sure 2 = .ok (.aload_n 0, 1) := by decide +kernel
theorem dX9_sure_3 : decode cX9_sure 3 = .ok (.getfield 23, 3) := by decide +kernel
theorem dX9_sure_6 : decode cX9_sure 6 = .ok (.getfield 62, 3) := by decide +kernel
theorem dX9_sure_9 : decode cX9_sure 9 = .ok (.invokestatic 76, 3) := by decide +kernel
theorem dX9_sure_12 : decode cX9_sure 12 = .ok (.ifCond .eq 12, 3) := by decide +kernel
theorem dX9_sure_15 : decode cX9_sure 15 = .ok (.iload_n 2, 1) := by decide +kernel
theorem dX9_sure_16 : decode cX9_sure 16 = .ok (.iconst 0, 1) := by decide +kernel
theorem dX9_sure_17 : decode cX9_sure 17 = .ok (.iconst 1, 1) := by decide +kernel
theorem dX9_sure_18 : decode cX9_sure 18 = .ok (.invokestatic 76, 3) := by decide +kernel
theorem dX9_sure_21 : decode cX9_sure 21 = .ok (.ifCond .ne 5, 3) := by decide +kernel
theorem dX9_sure_24 : decode cX9_sure 24 = .ok (.iconst (-1), 1) := by decide +kernel
theorem dX9_sure_25 : decode cX9_sure 25 = .ok (.ireturn, 1) := by decide +kernel
theorem dX9_sure_26 : decode cX9_sure 26 = .ok (.aload_n 0, 1) := by decide +kernel
theorem dX9_sure_27 : decode cX9_sure 27 = .ok (.getfield 55, 3) := by decide +kernel
theorem dX9_sure_30 : decode cX9_sure 30 = .ok (.aload_n 0, 1) := by decide +kernel
theorem dX9_sure_31 : decode cX9_sure 31 = .ok (.getfield 23, 3) := by decide +kernel
theorem dX9_sure_34 : decode cX9_sure 34 = .ok (.aload_n 0, 1) := by decide +kernel
theorem dX9_sure_35 : decode cX9_sure 35 = .ok (.getfield 72, 3) := by decide +kernel
theorem dX9_sure_38 : decode cX9_sure 38 = .ok (.iload_n 1, 1) := by decide +kernel
theorem dX9_sure_39 : decode cX9_sure 39 = .ok (.invokevirtual 177, 3) := by decide +kernel
theorem dX9_sure_42 : decode cX9_sure 42 = .ok (.istore_n 3, 1) := by decide +kernel
theorem dX9_sure_43 : decode cX9_sure 43 = .ok (.iload_n 3, 1) := by decide +kernel
theorem dX9_sure_44 : decode cX9_sure 44 = .ok (.aload_n 0, 1) := by decide +kernel
theorem dX9_sure_45 : decode cX9_sure 45 = .ok (.getfield 23, 3) := by decide +kernel
theorem dX9_sure_48 : decode cX9_sure 48 = .ok (.getfield 62, 3) := by decide +kernel
theorem dX9_sure_51 : decode cX9_sure 51 = .ok (.iload_n 1, 1) := by decide +kernel
theorem dX9_sure_52 : decode cX9_sure 52 = .ok (.invokestatic 181, 3) := by decide +kernel
theorem dX9_sure_55 : decode cX9_sure 55 = .ok (.iload_n 2, 1) := by decide +kernel
theorem dX9_sure_56 : decode cX9_sure 56 = .ok (.invokestatic 186, 3) := by decide +kernel
theorem dX9_sure_59 : decode cX9_sure 59 = .ok (.ireturn, 1) := by decide +kernel
theorem dX9_seen_0 : decode cX9_seen 0 = .ok (.aload_n 0, 1) := by decide +kernel
theorem dX9_seen_1 : decode cX9_seen 1 = .ok (.iload_n 1, 1) := by decide +kernel
theorem dX9_seen_2 : decode cX9_seen 2 = .ok (.invokevirtual 106, 3) := by decide +kernel
theorem dX9_seen_5 : decode cX9_seen 5 = .ok (.ifCond .eq 11, 3) := by decide +kernel
theorem dX9_seen_8 : decode cX9_seen 8 = .ok (.aload_n 0, 1) := by decide +kernel
theorem dX9_seen_9 : decode cX9_seen 9 = .ok (.iload_n 2, 1) := by decide +kernel
theorem dX9_seen_10 : decode cX9_seen 10 = .ok (.invokevirtual 99, 3) := by decide +kernel
theorem dX9_seen_13 : decode cX9_seen 13 = .ok (.ifCond .ne 5, 3) := by decide +kernel
theorem dX9_seen_16 : decode cX9_seen 16 = .ok (.iconst (-1), 1) := by decide +kernel
theorem dX9_seen_17 : decode cX9_seen 17 = .ok (.ireturn, 1) := by decide +kernel
theorem dX9_seen_18 : decode cX9_seen 18 = .ok (.aload_n 0, 1) := by decide +kernel
theorem dX9_seen_19 : decode cX9_seen 19 = .ok (.getfield 41, 3) := by decide +kernel
theorem dX9_seen_22 : decode cX9_seen 22 = .ok (.iload_n 1, 1) := by decide +kernel
theorem dX9_seen_23 : decode cX9_seen 23 = .ok (.iload_n 2, 1) := by decide +kernel
theorem dX9_seen_24 : decode cX9_seen 24 = .ok (.invokevirtual 189, 3) := by decide +kernel
theorem dX9_seen_27 : decode cX9_seen 27 = .ok (.ifCond .eq 13, 3) := by decide +kernel
theorem dX9_seen_30 : decode cX9_seen 30 = .ok (.aload_n 0, 1) := by decide +kernel
theorem dX9_seen_31 : decode cX9_seen 31 = .ok (.getfield 41, 3) := by decide +kernel
theorem dX9_seen_34 : decode cX9_seen 34 = .ok (.getfield 95, 3) := by decide +kernel
theorem dX9_seen_37 : decode cX9_seen 37 = .ok (.goto 5, 3) := by decide +kernel
theorem dX9_seen_40 : decode cX9_seen 40 = .ok (.bipush (-3), 2) := by decide +kernel
theorem dX9_seen_42 : decode cX9_seen 42 = .ok (.ireturn, 1) := by decide +kernel
theorem dX9_forget_0 : decode cX9_forget 0 = .ok (.aload_n 0, 1) := by decide +kernel
theorem dX9_forget_1 : decode cX9_forget 1 = .ok (.getfield 41, 3) := by decide +kernel
theorem dX9_forget_4 : decode cX9_forget 4 = .ok (.getfield 95, 3) := by decide +kernel
theorem dX9_forget_7 : decode cX9_forget 7 = .ok (.istore_n 1, 1) := by decide +kernel
theorem dX9_forget_8 : decode cX9_forget 8 = .ok (.aload_n 0, 1) := by decide +kernel
theorem dX9_forget_9 : decode cX9_forget 9 = .ok (.getfield 41, 3) := by decide +kernel
theorem dX9_forget_12 : decode cX9_forget 12 = .ok (.iconst 0, 1) := by decide +kernel
theorem dX9_forget_13 : decode cX9_forget 13 = .ok (.putfield 95, 3) := by decide +kernel
theorem dX9_forget_16 : decode cX9_forget 16 = .ok (.iload_n 1, 1) := by decide +kernel
theorem dX9_forget_17 : decode cX9_forget 17 = .ok (.ireturn, 1) := by decide +kernel
theorem dX9_done_0 : decode cX9_done 0 = .ok (.iload_n 1, 1) := by decide +kernel
theorem dX9_done_1 : decode cX9_done 1 = .ok (.ifCond .ne 8, 3) := by decide +kernel
theorem dX9_done_4 : decode cX9_done 4 = .ok (.aload_n 0, 1) := by decide +kernel
theorem dX9_done_5 : decode cX9_done 5 = .ok (.invokevirtual 192, 3) := by decide +kernel
theorem dX9_done_8 : decode cX9_done 8 = .ok (.ireturn, 1) := by decide +kernel
theorem dX9_done_9 : decode cX9_done 9 = .ok (.iload_n 1, 1) := by decide +kernel
theorem dX9_done_10 : decode cX9_done 10 = .ok (.iconst 1, 1) := by decide +kernel
theorem dX9_done_11 : decode cX9_done 11 = .ok (.if_icmp .ne 10, 3) := by decide +kernel
theorem dX9_done_14 : decode cX9_done 14 = .ok (.aload_n 0, 1) := by decide +kernel
theorem dX9_done_15 : decode cX9_done 15 = .ok (.invokevirtual 196, 3) := by decide +kernel
theorem dX9_done_18 : decode cX9_done 18 = .ok (.goto 4, 3) := by decide +kernel
theorem dX9_done_21 : decode cX9_done 21 = .ok (.iconst (-1), 1) := by decide +kernel
theorem dX9_done_22 : decode cX9_done 22 = .ok (.ireturn, 1) := by decide +kernel
theorem dX9_likely_0 : decode cX9_likely 0 = .ok (.iload_n 3, 1) := by decide +kernel
theorem dX9_likely_1 : decode cX9_likely 1 = .ok (.iconst 0, 1) := by decide +kernel
theorem dX9_likely_2 : decode cX9_likely 2 = .ok (.iconst 5, 1) := by decide +kernel
theorem dX9_likely_3 : decode cX9_likely 3 = .ok (.invokestatic 76, 3) := by decide +kernel
theorem dX9_likely_6 : decode cX9_likely 6 = .ok (.ifCond .eq 28, 3) := by decide +kernel
theorem dX9_likely_9 : decode cX9_likely 9 = .ok (.iload 4, 2) := by decide +kernel
theorem dX9_likely_11 : decode cX9_likely 11 = .ok (.iconst 0, 1) := by decide +kernel
theorem dX9_likely_12 : decode cX9_likely 12 = .ok (.bipush 10, 2) := by decide +kernel
theorem dX9_likely_14 : decode cX9_likely 14 = .ok (.invokestatic 76, 3) := by decide +kernel
theorem dX9_likely_17 : decode cX9_likely 17 = .ok (.ifCond .eq 17, 3) := by decide +kernel
theorem dX9_likely_20 : decode cX9_likely 20 = .ok (.iload 5, 2) := by decide +kernel
theorem dX9_likely_22 : decode cX9_likely 22 = .ok (.iconst 0, 1) := by decide +kernel
theorem dX9_likely_23 : decode cX9_likely 23 = .ok (.iconst 1, 1) := by decide +kernel
theorem dX9_likely_24 : decode cX9_likely 24 = .ok (.invokestatic 76, 3) := by decide +kernel
theorem dX9_likely_27 : decode cX9_likely 27 = .ok (.ifCond .eq 7, 3) := by decide +kernel
theorem dX9_likely_30 : decode cX9_likely 30 = .ok (.iconst 1, 1) := by decide +kernel
theorem dX9_likely_31 : decode cX9_likely 31 = .ok (.goto 4, 3) := by decide +kernel
theorem dX9_likely_34 : decode cX9_likely 34 = .ok (.iconst 0, 1) := by decide +kernel
theorem dX9_likely_35 : decode cX9_likely 35 = .ok (.istore 6, 2) := by decide +kernel
theorem dX9_likely_37 : decode cX9_likely 37 = .ok (.aload_n 0, 1) := by decide +kernel
theorem dX9_likely_38 : decode cX9_likely 38 = .ok (.iload_n 1, 1) := by decide +kernel
theorem dX9_likely_39 : decode cX9_likely 39 = .ok (.invokevirtual 106, 3) := by decide +kernel
theorem dX9_likely_42 : decode cX9_likely 42 = .ok (.ifCond .eq 16, 3) := by decide +kernel
theorem dX9_likely_45 : decode cX9_likely 45 = .ok (.aload_n 0, 1) := by decide +kernel
theorem dX9_likely_46 : decode cX9_likely 46 = .ok (.iload_n 2, 1) := by decide +kernel
theorem dX9_likely_47 : decode cX9_likely 47 = .ok (.invokevirtual 99, 3) := by decide +kernel
theorem dX9_likely_50 : decode cX9_likely 50 = .ok (.ifCond .eq 8, 3) := by decide +kernel
theorem dX9_likely_53 : decode cX9_likely 53 = .ok (.iload 6, 2) := by decide +kernel
theorem dX9_likely_55 : decode cX9_likely 55 = .ok (.ifCond .ne 5, 3) := by decide +kernel
theorem dX9_likely_58 : decode cX9_likely 58 = .ok (.iconst (-1), 1) := by decide +kernel
theorem dX9_likely_59 : decode cX9_likely 59 = .ok (.ireturn, 1) := by decide +kernel
theorem dX9_likely_60 : decode cX9_likely 60 = .ok (.aload_n 0, 1) := by decide +kernel
theorem dX9_likely_61 : decode cX9_likely 61 = .ok (.getfield 72, 3) := by decide +kernel
theorem dX9_likely_64 : decode cX9_likely 64 = .ok (.aload_n 0, 1) := by decide +kernel
theorem dX9_likely_65 : decode cX9_likely 65 = .ok (.getfield 23, 3) := by decide +kernel
theorem dX9_likely_68 : decode cX9_likely 68 = .ok (.getfield 62, 3) := by decide +kernel
theorem dX9_likely_71 : decode cX9_likely 71 = .ok (.iload_n 1, 1) := by decide +kernel
theorem dX9_likely_72 : decode cX9_likely 72 = .ok (.invokestatic 109, 3) := by decide +kernel
theorem dX9_likely_75 : decode cX9_likely 75 = .ok (.istore 7, 2) := by decide +kernel
theorem dX9_likely_77 : decode cX9_likely 77 = .ok (.iconst 0, 1) := by decide +kernel
theorem dX9_likely_78 : decode cX9_likely 78 = .ok (.istore 8, 2) := by decide +kernel
theorem dX9_likely_80 : decode cX9_likely 80 = .ok (.iconst 0, 1) := by decide +kernel
theorem dX9_likely_81 : decode cX9_likely 81 = .ok (.istore 9, 2) := by decide +kernel
theorem dX9_likely_83 : decode cX9_likely 83 = .ok (.iload 9, 2) := by decide +kernel
theorem dX9_likely_85 : decode cX9_likely 85 = .ok (.iconst 1, 1) := by decide +kernel
theorem dX9_likely_86 : decode cX9_likely 86 = .ok (.iload_n 3, 1) := by decide +kernel
theorem dX9_likely_87 : decode cX9_likely 87 = .ok (.ishl, 1) := by decide +kernel
theorem dX9_likely_88 : decode cX9_likely 88 = .ok (.if_icmp .ge 35, 3) := by decide +kernel
theorem dX9_likely_91 : decode cX9_likely 91 = .ok (.aload_n 0, 1) := by decide +kernel
theorem dX9_likely_92 : decode cX9_likely 92 = .ok (.iload 7, 2) := by decide +kernel
theorem dX9_likely_94 : decode cX9_likely 94 = .ok (.iload 9, 2) := by decide +kernel
theorem dX9_likely_96 : decode cX9_likely 96 = .ok (.iload_n 3, 1) := by decide +kernel
theorem dX9_likely_97 : decode cX9_likely 97 = .ok (.invokevirtual 199, 3) := by decide +kernel
theorem dX9_likely_100 : decode cX9_likely 100 = .ok (.iload_n 2, 1) := by decide +kernel
theorem dX9_likely_101 : decode cX9_likely 101 = .ok (.if_icmp .ne 16, 3) := by decide +kernel
theorem dX9_likely_104 : decode cX9_likely 104 = .ok (.iload 8, 2) := by decide +kernel
theorem dX9_likely_106 : decode cX9_likely 106 = .ok (.iload 9, 2) := by decide +kernel
theorem dX9_likely_108 : decode cX9_likely 108 = .ok (.iload_n 3, 1) := by decide +kernel
theorem dX9_likely_109 : decode cX9_likely 109 = .ok (.iload 4, 2) := by decide +kernel
theorem dX9_likely_111 : decode cX9_likely 111 = .ok (.invokestatic 202, 3) := by decide +kernel
theorem dX9_likely_114 : decode cX9_likely 114 = .ok (.iadd, 1) := by decide +kernel
theorem dX9_likely_115 : decode cX9_likely 115 = .ok (.istore 8, 2) := by decide +kernel
theorem dX9_likely_117 : decode cX9_likely 117 = .ok (.iinc 9 1, 3) := by decide +kernel
theorem dX9_likely_120 : decode cX9_likely 120 = .ok (.goto (-37), 3) := by decide +kernel
theorem dX9_likely_123 : decode cX9_likely 123 = .ok (.iload 8, 2) := by decide +kernel
theorem dX9_likely_125 : decode cX9_likely 125 = .ok (.iload_n 3, 1) := by decide +kernel
theorem dX9_likely_126 : decode cX9_likely 126 = .ok (.invokestatic 205, 3) := by decide +kernel
theorem dX9_likely_129 : decode cX9_likely 129 = .ok (.iload 5, 2) := by decide +kernel
theorem dX9_likely_131 : decode cX9_likely 131 = .ok (.invokestatic 186, 3) := by decide +kernel
theorem dX9_likely_134 : decode cX9_likely 134 = .ok (.ireturn, 1) := by decide +kernel
theorem dX9_dealing_0 : decode cX9_dealing 0 = .ok (.iload_n 1, 1) := by decide +kernel
theorem dX9_dealing_1 : decode cX9_dealing 1 = .ok (.iconst 0, 1) := by decide +kernel
theorem dX9_dealing_2 : decode cX9_dealing 2 = .ok (.sipush 9999, 3) := by decide +kernel
theorem dX9_dealing_5 : decode cX9_dealing 5 = .ok (.invokestatic 76, 3) := by decide +kernel
theorem dX9_dealing_8 : decode cX9_dealing 8 = .ok (.ifCond .eq 22, 3) := by decide +kernel
theorem dX9_dealing_11 : decode cX9_dealing 11 = .ok (.iload_n 2, 1) := by decide +kernel
theorem dX9_dealing_12 : decode cX9_dealing 12 = .ok (.iconst 1, 1) := by decide +kernel
theorem dX9_dealing_13 : decode cX9_dealing 13 = .ok (.bipush 60, 2) := by decide +kernel
theorem dX9_dealing_15 : decode cX9_dealing 15 = .ok (.invokestatic 76, 3) := by decide +kernel
theorem dX9_dealing_18 : decode cX9_dealing 18 = .ok (.ifCond .eq 12, 3) := by decide +kernel
theorem dX9_dealing_21 : decode cX9_dealing 21 = .ok (.iload_n 3, 1) := by decide +kernel
theorem dX9_dealing_22 : decode cX9_dealing 22 = .ok (.iconst 0, 1) := by decide +kernel
theorem dX9_dealing_23 : decode cX9_dealing 23 = .ok (.iconst 2, 1) := by decide +kernel
theorem dX9_dealing_24 : decode cX9_dealing 24 = .ok (.invokestatic 76, 3) := by decide +kernel
theorem dX9_dealing_27 : decode cX9_dealing 27 = .ok (.ifCond .ne 5, 3) := by decide +kernel
theorem dX9_dealing_30 : decode cX9_dealing 30 = .ok (.iconst (-1), 1) := by decide +kernel
theorem dX9_dealing_31 : decode cX9_dealing 31 = .ok (.ireturn, 1) := by decide +kernel
theorem dX9_dealing_32 : decode cX9_dealing 32 = .ok (.aload_n 0, 1) := by decide +kernel
theorem dX9_dealing_33 : decode cX9_dealing 33 = .ok (.getfield 72, 3) := by decide +kernel
theorem dX9_dealing_36 : decode cX9_dealing 36 = .ok (.lstore 4, 2) := by decide +kernel
theorem dX9_dealing_38 : decode cX9_dealing 38 = .ok (.iconst 0, 1) := by decide +kernel
theorem dX9_dealing_39 : decode cX9_dealing 39 = .ok (.istore 6, 2) := by decide +kernel
theorem dX9_dealing_41 : decode cX9_dealing 41 = .ok (.iload 6, 2) := by decide +kernel
theorem dX9_dealing_43 : decode cX9_dealing 43 = .ok (.iload_n 2, 1) := by decide +kernel
theorem dX9_dealing_44 : decode cX9_dealing 44 = .ok (.if_icmp .ge 33, 3) := by decide +kernel
theorem dX9_dealing_47 : decode cX9_dealing 47 = .ok (.lload 4, 2) := by decide +kernel
theorem dX9_dealing_49 : decode cX9_dealing 49 = .ok (.aload_n 0, 1) := by decide +kernel
theorem dX9_dealing_50 : decode cX9_dealing 50 = .ok (.iload_n 1, 1) := by decide +kernel
theorem dX9_dealing_51 : decode cX9_dealing 51 = .ok (.iload 6, 2) := by decide +kernel
theorem dX9_dealing_53 : decode cX9_dealing 53 = .ok (.invokestatic 208, 3) := by decide +kernel
theorem dX9_dealing_56 : decode cX9_dealing 56 = .ok (.invokevirtual 211, 3) := by decide +kernel
theorem dX9_dealing_59 : decode cX9_dealing 59 = .ok (.aload_n 0, 1) := by decide +kernel
theorem dX9_dealing_60 : decode cX9_dealing 60 = .ok (.getfield 23, 3) := by decide +kernel
theorem dX9_dealing_63 : decode cX9_dealing 63 = .ok (.getfield 62, 3) := by decide +kernel
theorem dX9_dealing_66 : decode cX9_dealing 66 = .ok (.invokestatic 214, 3) := by decide +kernel
theorem dX9_dealing_69 : decode cX9_dealing 69 = .ok (.lstore 4, 2) := by decide +kernel
theorem dX9_dealing_71 : decode cX9_dealing 71 = .ok (.iinc 6 1, 3) := by decide +kernel
theorem dX9_dealing_74 : decode cX9_dealing 74 = .ok (.goto (-33), 3) := by decide +kernel
theorem dX9_dealing_77 : decode cX9_dealing 77 = .ok (.iload_n 3, 1) := by decide +kernel
theorem dX9_dealing_78 : decode cX9_dealing 78 = .ok (.ifCond .ne 10, 3) := by decide +kernel
theorem dX9_dealing_81 : decode cX9_dealing 81 = .ok (.lload 4, 2) := by decide +kernel
theorem dX9_dealing_83 : decode cX9_dealing 83 = .ok (.iconst 0, 1) := by decide +kernel
theorem dX9_dealing_84 : decode cX9_dealing 84 = .ok (.invokestatic 102, 3) := by decide +kernel
theorem dX9_dealing_87 : decode cX9_dealing 87 = .ok (.ireturn, 1) := by decide +kernel
theorem dX9_dealing_88 : decode cX9_dealing 88 = .ok (.iload_n 3, 1) := by decide +kernel
theorem dX9_dealing_89 : decode cX9_dealing 89 = .ok (.iconst 1, 1) := by decide +kernel
theorem dX9_dealing_90 : decode cX9_dealing 90 = .ok (.if_icmp .ne 22, 3) := by decide +kernel
theorem dX9_dealing_93 : decode cX9_dealing 93 = .ok (.aload_n 0, 1) := by decide +kernel
theorem dX9_dealing_94 : decode cX9_dealing 94 = .ok (.getfield 72, 3) := by decide +kernel
theorem dX9_dealing_97 : decode cX9_dealing 97 = .ok (.lload 4, 2) := by decide +kernel
theorem dX9_dealing_99 : decode cX9_dealing 99 = .ok (.aload_n 0, 1) := by decide +kernel
theorem dX9_dealing_100 : decode cX9_dealing 100 = .ok (.getfield 23, 3) := by decide +kernel
theorem dX9_dealing_103 : decode cX9_dealing 103 = .ok (.getfield 62, 3) := by decide +kernel
theorem dX9_dealing_106 : decode cX9_dealing 106 = .ok (.invokestatic 218, 3) := by decide +kernel
theorem dX9_dealing_109 : decode cX9_dealing 109 = .ok (.goto 15, 3) := by decide +kernel
theorem dX9_dealing_112 : decode cX9_dealing 112 = .ok (.lload 4, 2) := by decide +kernel
theorem dX9_dealing_114 : decode cX9_dealing 114 = .ok (.aload_n 0, 1) := by decide +kernel
theorem dX9_dealing_115 : decode cX9_dealing 115 = .ok (.getfield 23, 3) := by decide +kernel
theorem dX9_dealing_118 : decode cX9_dealing 118 = .ok (.getfield 62, 3) := by decide +kernel
theorem dX9_dealing_121 : decode cX9_dealing 121 = .ok (.invokestatic 170, 3) := by decide +kernel
theorem dX9_dealing_124 : decode cX9_dealing 124 = .ok (.ireturn, 1) := by decide +kernel
theorem dX9_keep_0 : decode cX9_keep 0 = .ok (.aload_n 0, 1) := by decide +kernel
theorem dX9_keep_1 : decode cX9_keep 1 = .ok (.getfield 35, 3) := by decide +kernel
theorem dX9_keep_4 : decode cX9_keep 4 = .ok (.invokevirtual 222, 3) := by decide +kernel
theorem dX9_keep_7 : decode cX9_keep 7 = .ok (.ifCond .eq 6, 3) := by decide +kernel
theorem dX9_keep_10 : decode cX9_keep 10 = .ok (.bipush (-3), 2) := by decide +kernel
theorem dX9_keep_12 : decode cX9_keep 12 = .ok (.ireturn, 1) := by decide +kernel
theorem dX9_keep_13 : decode cX9_keep 13 = .ok (.aload_n 0, 1) := by decide +kernel
theorem dX9_keep_14 : decode cX9_keep 14 = .ok (.getfield 35, 3) := by decide +kernel
theorem dX9_keep_17 : decode cX9_keep 17 = .ok (.aload_n 0, 1) := by decide +kernel
theorem dX9_keep_18 : decode cX9_keep 18 = .ok (.getfield 72, 3) := by decide +kernel
theorem dX9_keep_21 : decode cX9_keep 21 = .ok (.invokevirtual 226, 3) := by decide +kernel
theorem dX9_keep_24 : decode cX9_keep 24 = .ok (.aload_n 0, 1) := by decide +kernel
theorem dX9_keep_25 : decode cX9_keep 25 = .ok (.getfield 35, 3) := by decide +kernel
theorem dX9_keep_28 : decode cX9_keep 28 = .ok (.getfield 98, 3) := by decide +kernel
theorem dX9_keep_31 : decode cX9_keep 31 = .ok (.ireturn, 1) := by decide +kernel
theorem dX9_back_0 : decode cX9_back 0 = .ok (.aload_n 0, 1) := by decide +kernel
theorem dX9_back_1 : decode cX9_back 1 = .ok (.getfield 35, 3) := by decide +kernel
theorem dX9_back_4 : decode cX9_back 4 = .ok (.getfield 98, 3) := by decide +kernel
theorem dX9_back_7 : decode cX9_back 7 = .ok (.ifCond .ne 6, 3) := by decide +kernel
theorem dX9_back_10 : decode cX9_back 10 = .ok (.bipush (-2), 2) := by decide +kernel
theorem dX9_back_12 : decode cX9_back 12 = .ok (.ireturn, 1) := by decide +kernel
theorem dX9_back_13 : decode cX9_back 13 = .ok (.aload_n 0, 1) := by decide +kernel
theorem dX9_back_14 : decode cX9_back 14 = .ok (.aload_n 0, 1) := by decide +kernel
theorem dX9_back_15 : decode cX9_back 15 = .ok (.getfield 35, 3) := by decide +kernel
theorem dX9_back_18 : decode cX9_back 18 = .ok (.invokevirtual 139, 3) := by decide +kernel
theorem dX9_back_21 : decode cX9_back 21 = .ok (.putfield 72, 3) := by decide +kernel
theorem dX9_back_24 : decode cX9_back 24 = .ok (.aload_n 0, 1) := by decide +kernel
theorem dX9_back_25 : decode cX9_back 25 = .ok (.getfield 31, 3) := by decide +kernel
theorem dX9_back_28 : decode cX9_back 28 = .ok (.iconst 0, 1) := by decide +kernel
theorem dX9_back_29 : decode cX9_back 29 = .ok (.putfield 98, 3) := by decide +kernel
theorem dX9_back_32 : decode cX9_back 32 = .ok (.aload_n 0, 1) := by decide +kernel
theorem dX9_back_33 : decode cX9_back 33 = .ok (.getfield 35, 3) := by decide +kernel
theorem dX9_back_36 : decode cX9_back 36 = .ok (.getfield 98, 3) := by decide +kernel
theorem dX9_back_39 : decode cX9_back 39 = .ok (.ireturn, 1) := by decide +kernel
theorem dX9_count_0 : decode cX9_count 0 = .ok (.iload_n 1, 1) := by decide +kernel
theorem dX9_count_1 : decode cX9_count 1 = .ok (.tableswitch 87 0 5 #[39, 47, 55, 63, 71, 79], 39) := by decide +kernel
theorem dX9_count_40 : decode cX9_count 40 = .ok (.aload_n 0, 1) := by decide +kernel
theorem dX9_count_41 : decode cX9_count 41 = .ok (.getfield 23, 3) := by decide +kernel
theorem dX9_count_44 : decode cX9_count 44 = .ok (.getfield 62, 3) := by decide +kernel
theorem dX9_count_47 : decode cX9_count 47 = .ok (.ireturn, 1) := by decide +kernel
theorem dX9_count_48 : decode cX9_count 48 = .ok (.aload_n 0, 1) := by decide +kernel
theorem dX9_count_49 : decode cX9_count 49 = .ok (.getfield 23, 3) := by decide +kernel
theorem dX9_count_52 : decode cX9_count 52 = .ok (.getfield 230, 3) := by decide +kernel
theorem dX9_count_55 : decode cX9_count 55 = .ok (.ireturn, 1) := by decide +kernel
theorem dX9_count_56 : decode cX9_count 56 = .ok (.aload_n 0, 1) := by decide +kernel
theorem dX9_count_57 : decode cX9_count 57 = .ok (.getfield 41, 3) := by decide +kernel
theorem dX9_count_60 : decode cX9_count 60 = .ok (.getfield 95, 3) := by decide +kernel
theorem dX9_count_63 : decode cX9_count 63 = .ok (.ireturn, 1) := by decide +kernel
theorem dX9_count_64 : decode cX9_count 64 = .ok (.aload_n 0, 1) := by decide +kernel
theorem dX9_count_65 : decode cX9_count 65 = .ok (.getfield 31, 3) := by decide +kernel
theorem dX9_count_68 : decode cX9_count 68 = .ok (.getfield 98, 3) := by decide +kernel
theorem dX9_count_71 : decode cX9_count 71 = .ok (.ireturn, 1) := by decide +kernel
theorem dX9_count_72 : decode cX9_count 72 = .ok (.aload_n 0, 1) := by decide +kernel
theorem dX9_count_73 : decode cX9_count 73 = .ok (.getfield 35, 3) := by decide +kernel
theorem dX9_count_76 : decode cX9_count 76 = .ok (.getfield 98, 3) := by decide +kernel
theorem dX9_count_79 : decode cX9_count 79 = .ok (.ireturn, 1) := by decide +kernel
theorem dX9_count_80 : decode cX9_count 80 = .ok (.aload_n 0, 1) := by decide +kernel
theorem dX9_count_81 : decode cX9_count 81 = .ok (.getfield 10, 3) := by decide +kernel
theorem dX9_count_84 : decode cX9_count 84 = .ok (.getfield 84, 3) := by decide +kernel
theorem dX9_count_87 : decode cX9_count 87 = .ok (.ireturn, 1) := by decide +kernel
theorem dX9_count_88 : decode cX9_count 88 = .ok (.iconst (-1), 1) := by decide +kernel
theorem dX9_count_89 : decode cX9_count 89 = .ok (.ireturn, 1) := by decide +kernel
theorem dX9_within_0 : decode cX9_within 0 = .ok (.iload_n 0, 1) := by decide +kernel
theorem dX9_within_1 : decode cX9_within 1 = .ok (.iload_n 1, 1) := by decide +kernel
theorem dX9_within_2 : decode cX9_within 2 = .ok (.if_icmp .lt 12, 3) := by decide +kernel
theorem dX9_within_5 : decode cX9_within 5 = .ok (.iload_n 0, 1) := by decide +kernel
theorem dX9_within_6 : decode cX9_within 6 = .ok (.iload_n 2, 1) := by decide +kernel
theorem dX9_within_7 : decode cX9_within 7 = .ok (.if_icmp .gt 7, 3) := by decide +kernel
theorem dX9_within_10 : decode cX9_within 10 = .ok (.iconst 1, 1) := by decide +kernel
theorem dX9_within_11 : decode cX9_within 11 = .ok (.goto 4, 3) := by decide +kernel
theorem dX9_within_14 : decode cX9_within 14 = .ok (.iconst 0, 1) := by decide +kernel
theorem dX9_within_15 : decode cX9_within 15 = .ok (.ireturn, 1) := by decide +kernel
theorem dX9_isPlace_0 : decode cX9_isPlace 0 = .ok (.iload_n 1, 1) := by decide +kernel
theorem dX9_isPlace_1 : decode cX9_isPlace 1 = .ok (.iconst 0, 1) := by decide +kernel
theorem dX9_isPlace_2 : decode cX9_isPlace 2 = .ok (.aload_n 0, 1) := by decide +kernel
theorem dX9_isPlace_3 : decode cX9_isPlace 3 = .ok (.getfield 23, 3) := by decide +kernel
theorem dX9_isPlace_6 : decode cX9_isPlace 6 = .ok (.getfield 62, 3) := by decide +kernel
theorem dX9_isPlace_9 : decode cX9_isPlace 9 = .ok (.iconst 1, 1) := by decide +kernel
theorem dX9_isPlace_10 : decode cX9_isPlace 10 = .ok (.isub, 1) := by decide +kernel
theorem dX9_isPlace_11 : decode cX9_isPlace 11 = .ok (.invokestatic 76, 3) := by decide +kernel
theorem dX9_isPlace_14 : decode cX9_isPlace 14 = .ok (.ireturn, 1) := by decide +kernel
theorem dX9_isCard_0 : decode cX9_isCard 0 = .ok (.iload_n 1, 1) := by decide +kernel
theorem dX9_isCard_1 : decode cX9_isCard 1 = .ok (.iconst 0, 1) := by decide +kernel
theorem dX9_isCard_2 : decode cX9_isCard 2 = .ok (.aload_n 0, 1) := by decide +kernel
theorem dX9_isCard_3 : decode cX9_isCard 3 = .ok (.getfield 23, 3) := by decide +kernel
theorem dX9_isCard_6 : decode cX9_isCard 6 = .ok (.getfield 62, 3) := by decide +kernel
theorem dX9_isCard_9 : decode cX9_isCard 9 = .ok (.iconst 1, 1) := by decide +kernel
theorem dX9_isCard_10 : decode cX9_isCard 10 = .ok (.isub, 1) := by decide +kernel
theorem dX9_isCard_11 : decode cX9_isCard 11 = .ok (.invokestatic 76, 3) := by decide +kernel
theorem dX9_isCard_14 : decode cX9_isCard 14 = .ok (.ireturn, 1) := by decide +kernel
theorem dX9_isKind_0 : decode cX9_isKind 0 = .ok (.iload_n 0, 1) := by decide +kernel
theorem dX9_isKind_1 : decode cX9_isKind 1 = .ok (.iconst 0, 1) := by decide +kernel
theorem dX9_isKind_2 : decode cX9_isKind 2 = .ok (.iconst 4, 1) := by decide +kernel
theorem dX9_isKind_3 : decode cX9_isKind 3 = .ok (.invokestatic 76, 3) := by decide +kernel
theorem dX9_isKind_6 : decode cX9_isKind 6 = .ok (.ireturn, 1) := by decide +kernel
theorem dX9_act_0 : decode cX9_act 0 = .ok (.aload_n 0, 1) := by decide +kernel
theorem dX9_act_1 : decode cX9_act 1 = .ok (.getfield 31, 3) := by decide +kernel
theorem dX9_act_4 : decode cX9_act 4 = .ok (.aload_n 0, 1) := by decide +kernel
theorem dX9_act_5 : decode cX9_act 5 = .ok (.getfield 72, 3) := by decide +kernel
theorem dX9_act_8 : decode cX9_act 8 = .ok (.invokevirtual 226, 3) := by decide +kernel
theorem dX9_act_11 : decode cX9_act 11 = .ok (.aload_n 0, 1) := by decide +kernel
theorem dX9_act_12 : decode cX9_act 12 = .ok (.aload_n 0, 1) := by decide +kernel
theorem dX9_act_13 : decode cX9_act 13 = .ok (.getfield 72, 3) := by decide +kernel
theorem dX9_act_16 : decode cX9_act 16 = .ok (.lload_n 1, 1) := by decide +kernel
theorem dX9_act_17 : decode cX9_act 17 = .ok (.aload_n 0, 1) := by decide +kernel
theorem dX9_act_18 : decode cX9_act 18 = .ok (.getfield 23, 3) := by decide +kernel
theorem dX9_act_21 : decode cX9_act 21 = .ok (.getfield 62, 3) := by decide +kernel
theorem dX9_act_24 : decode cX9_act 24 = .ok (.invokestatic 214, 3) := by decide +kernel
theorem dX9_act_27 : decode cX9_act 27 = .ok (.putfield 72, 3) := by decide +kernel
theorem dX9_act_30 : decode cX9_act 30 = .ok (.aload_n 0, 1) := by decide +kernel
theorem dX9_act_31 : decode cX9_act 31 = .ok (.getfield 72, 3) := by decide +kernel
theorem dX9_act_34 : decode cX9_act 34 = .ok (.iconst 0, 1) := by decide +kernel
theorem dX9_act_35 : decode cX9_act 35 = .ok (.invokestatic 102, 3) := by decide +kernel
theorem dX9_act_38 : decode cX9_act 38 = .ok (.ireturn, 1) := by decide +kernel
theorem dX9_fittingKinds_0 : decode cX9_fittingKinds 0 = .ok (.iconst 0, 1) := by decide +kernel
theorem dX9_fittingKinds_1 : decode cX9_fittingKinds 1 = .ok (.istore_n 1, 1) := by decide +kernel
theorem dX9_fittingKinds_2 : decode cX9_fittingKinds 2 = .ok (.iconst 0, 1) := by decide +kernel
theorem dX9_fittingKinds_3 : decode cX9_fittingKinds 3 = .ok (.istore_n 2, 1) := by decide +kernel
theorem dX9_fittingKinds_4 : decode cX9_fittingKinds 4 = .ok (.iload_n 2, 1) := by decide +kernel
theorem dX9_fittingKinds_5 : decode cX9_fittingKinds 5 = .ok (.iconst 5, 1) := by decide +kernel
theorem dX9_fittingKinds_6 : decode cX9_fittingKinds 6 = .ok (.if_icmp .ge 36, 3) := by decide +kernel
theorem dX9_fittingKinds_9 : decode cX9_fittingKinds 9 = .ok (.aload_n 0, 1) := by decide +kernel
theorem dX9_fittingKinds_10 : decode cX9_fittingKinds 10 = .ok (.getfield 41, 3) := by decide +kernel
theorem dX9_fittingKinds_13 : decode cX9_fittingKinds 13 = .ok (.iload_n 2, 1) := by decide +kernel
theorem dX9_fittingKinds_14 : decode cX9_fittingKinds 14 = .ok (.aload_n 0, 1) := by decide +kernel
theorem dX9_fittingKinds_15 : decode cX9_fittingKinds 15 = .ok (.getfield 23, 3) := by decide +kernel
theorem dX9_fittingKinds_18 : decode cX9_fittingKinds 18 = .ok (.getfield 62, 3) := by decide +kernel
theorem dX9_fittingKinds_21 : decode cX9_fittingKinds 21 = .ok (.invokestatic 120, 3) := by decide +kernel
theorem dX9_fittingKinds_24 : decode cX9_fittingKinds 24 = .ok (.invokevirtual 233, 3) := by decide +kernel
theorem dX9_fittingKinds_27 : decode cX9_fittingKinds 27 = .ok (.ifCond .eq 9, 3) := by decide +kernel
theorem dX9_fittingKinds_30 : decode cX9_fittingKinds 30 = .ok (.iload_n 1, 1) := by decide +kernel
theorem dX9_fittingKinds_31 : decode cX9_fittingKinds 31 = .ok (.iconst 1, 1) := by decide +kernel
theorem dX9_fittingKinds_32 : decode cX9_fittingKinds 32 = .ok (.iload_n 2, 1) := by decide +kernel
theorem dX9_fittingKinds_33 : decode cX9_fittingKinds 33 = .ok (.ishl, 1) := by decide +kernel
theorem dX9_fittingKinds_34 : decode cX9_fittingKinds 34 = .ok (.ior, 1) := by decide +kernel
theorem dX9_fittingKinds_35 : decode cX9_fittingKinds 35 = .ok (.istore_n 1, 1) := by decide +kernel
theorem dX9_fittingKinds_36 : decode cX9_fittingKinds 36 = .ok (.iinc 2 1, 3) := by decide +kernel
theorem dX9_fittingKinds_39 : decode cX9_fittingKinds 39 = .ok (.goto (-35), 3) := by decide +kernel
theorem dX9_fittingKinds_42 : decode cX9_fittingKinds 42 = .ok (.aload_n 0, 1) := by decide +kernel
theorem dX9_fittingKinds_43 : decode cX9_fittingKinds 43 = .ok (.getfield 41, 3) := by decide +kernel
theorem dX9_fittingKinds_46 : decode cX9_fittingKinds 46 = .ok (.aload_n 0, 1) := by decide +kernel
theorem dX9_fittingKinds_47 : decode cX9_fittingKinds 47 = .ok (.getfield 23, 3) := by decide +kernel
theorem dX9_fittingKinds_50 : decode cX9_fittingKinds 50 = .ok (.getfield 62, 3) := by decide +kernel
theorem dX9_fittingKinds_53 : decode cX9_fittingKinds 53 = .ok (.invokestatic 133, 3) := by decide +kernel
theorem dX9_fittingKinds_56 : decode cX9_fittingKinds 56 = .ok (.invokevirtual 233, 3) := by decide +kernel
theorem dX9_fittingKinds_59 : decode cX9_fittingKinds 59 = .ok (.ifCond .eq 10, 3) := by decide +kernel
theorem dX9_fittingKinds_62 : decode cX9_fittingKinds 62 = .ok (.iload_n 1, 1) := by decide +kernel
theorem dX9_fittingKinds_63 : decode cX9_fittingKinds 63 = .ok (.bipush 32, 2) := by decide +kernel
theorem dX9_fittingKinds_65 : decode cX9_fittingKinds 65 = .ok (.ior, 1) := by decide +kernel
theorem dX9_fittingKinds_66 : decode cX9_fittingKinds 66 = .ok (.goto 4, 3) := by decide +kernel
theorem dX9_fittingKinds_69 : decode cX9_fittingKinds 69 = .ok (.iload_n 1, 1) := by decide +kernel
theorem dX9_fittingKinds_70 : decode cX9_fittingKinds 70 = .ok (.ireturn, 1) := by decide +kernel
theorem dX9_fittingCuts_0 : decode cX9_fittingCuts 0 = .ok (.iconst 0, 1) := by decide +kernel
theorem dX9_fittingCuts_1 : decode cX9_fittingCuts 1 = .ok (.istore_n 1, 1) := by decide +kernel
theorem dX9_fittingCuts_2 : decode cX9_fittingCuts 2 = .ok (.iconst 0, 1) := by decide +kernel
theorem dX9_fittingCuts_3 : decode cX9_fittingCuts 3 = .ok (.istore_n 2, 1) := by decide +kernel
theorem dX9_fittingCuts_4 : decode cX9_fittingCuts 4 = .ok (.iload_n 2, 1) := by decide +kernel
theorem dX9_fittingCuts_5 : decode cX9_fittingCuts 5 = .ok (.aload_n 0, 1) := by decide +kernel
theorem dX9_fittingCuts_6 : decode cX9_fittingCuts 6 = .ok (.getfield 23, 3) := by decide +kernel
theorem dX9_fittingCuts_9 : decode cX9_fittingCuts 9 = .ok (.getfield 62, 3) := by decide +kernel
theorem dX9_fittingCuts_12 : decode cX9_fittingCuts 12 = .ok (.if_icmp .ge 36, 3) := by decide +kernel
theorem dX9_fittingCuts_15 : decode cX9_fittingCuts 15 = .ok (.aload_n 0, 1) := by decide +kernel
theorem dX9_fittingCuts_16 : decode cX9_fittingCuts 16 = .ok (.getfield 41, 3) := by decide +kernel
theorem dX9_fittingCuts_19 : decode cX9_fittingCuts 19 = .ok (.iload_n 2, 1) := by decide +kernel
theorem dX9_fittingCuts_20 : decode cX9_fittingCuts 20 = .ok (.aload_n 0, 1) := by decide +kernel
theorem dX9_fittingCuts_21 : decode cX9_fittingCuts 21 = .ok (.getfield 23, 3) := by decide +kernel
theorem dX9_fittingCuts_24 : decode cX9_fittingCuts 24 = .ok (.getfield 62, 3) := by decide +kernel
theorem dX9_fittingCuts_27 : decode cX9_fittingCuts 27 = .ok (.invokestatic 130, 3) := by decide +kernel
theorem dX9_fittingCuts_30 : decode cX9_fittingCuts 30 = .ok (.invokevirtual 233, 3) := by decide +kernel
theorem dX9_fittingCuts_33 : decode cX9_fittingCuts 33 = .ok (.ifCond .eq 9, 3) := by decide +kernel
theorem dX9_fittingCuts_36 : decode cX9_fittingCuts 36 = .ok (.iload_n 1, 1) := by decide +kernel
theorem dX9_fittingCuts_37 : decode cX9_fittingCuts 37 = .ok (.iconst 1, 1) := by decide +kernel
theorem dX9_fittingCuts_38 : decode cX9_fittingCuts 38 = .ok (.iload_n 2, 1) := by decide +kernel
theorem dX9_fittingCuts_39 : decode cX9_fittingCuts 39 = .ok (.ishl, 1) := by decide +kernel
theorem dX9_fittingCuts_40 : decode cX9_fittingCuts 40 = .ok (.ior, 1) := by decide +kernel
theorem dX9_fittingCuts_41 : decode cX9_fittingCuts 41 = .ok (.istore_n 1, 1) := by decide +kernel
theorem dX9_fittingCuts_42 : decode cX9_fittingCuts 42 = .ok (.iinc 2 1, 3) := by decide +kernel
theorem dX9_fittingCuts_45 : decode cX9_fittingCuts 45 = .ok (.goto (-41), 3) := by decide +kernel
theorem dX9_fittingCuts_48 : decode cX9_fittingCuts 48 = .ok (.iload_n 1, 1) := by decide +kernel
theorem dX9_fittingCuts_49 : decode cX9_fittingCuts 49 = .ok (.ireturn, 1) := by decide +kernel
theorem dX9_endOfWay_0 : decode cX9_endOfWay 0 = .ok (.iload_n 1, 1) := by decide +kernel
theorem dX9_endOfWay_1 : decode cX9_endOfWay 1 = .ok (.istore 4, 2) := by decide +kernel
theorem dX9_endOfWay_3 : decode cX9_endOfWay 3 = .ok (.iconst 0, 1) := by decide +kernel
theorem dX9_endOfWay_4 : decode cX9_endOfWay 4 = .ok (.istore 5, 2) := by decide +kernel
theorem dX9_endOfWay_6 : decode cX9_endOfWay 6 = .ok (.iload 5, 2) := by decide +kernel
theorem dX9_endOfWay_8 : decode cX9_endOfWay 8 = .ok (.iload_n 3, 1) := by decide +kernel
theorem dX9_endOfWay_9 : decode cX9_endOfWay 9 = .ok (.if_icmp .ge 29, 3) := by decide +kernel
theorem dX9_endOfWay_12 : decode cX9_endOfWay 12 = .ok (.iload_n 2, 1) := by decide +kernel
theorem dX9_endOfWay_13 : decode cX9_endOfWay 13 = .ok (.iload 5, 2) := by decide +kernel
theorem dX9_endOfWay_15 : decode cX9_endOfWay 15 = .ok (.ishr, 1) := by decide +kernel
theorem dX9_endOfWay_16 : decode cX9_endOfWay 16 = .ok (.iconst 1, 1) := by decide +kernel
theorem dX9_endOfWay_17 : decode cX9_endOfWay 17 = .ok (.iand, 1) := by decide +kernel
theorem dX9_endOfWay_18 : decode cX9_endOfWay 18 = .ok (.aload_n 0, 1) := by decide +kernel
theorem dX9_endOfWay_19 : decode cX9_endOfWay 19 = .ok (.getfield 23, 3) := by decide +kernel
theorem dX9_endOfWay_22 : decode cX9_endOfWay 22 = .ok (.getfield 62, 3) := by decide +kernel
theorem dX9_endOfWay_25 : decode cX9_endOfWay 25 = .ok (.iload 4, 2) := by decide +kernel
theorem dX9_endOfWay_27 : decode cX9_endOfWay 27 = .ok (.invokestatic 237, 3) := by decide +kernel
theorem dX9_endOfWay_30 : decode cX9_endOfWay 30 = .ok (.istore 4, 2) := by decide +kernel
theorem dX9_endOfWay_32 : decode cX9_endOfWay 32 = .ok (.iinc 5 1, 3) := by decide +kernel
theorem dX9_endOfWay_35 : decode cX9_endOfWay 35 = .ok (.goto (-29), 3) := by decide +kernel
theorem dX9_endOfWay_38 : decode cX9_endOfWay 38 = .ok (.iload 4, 2) := by decide +kernel
theorem dX9_endOfWay_40 : decode cX9_endOfWay 40 = .ok (.ireturn, 1) := by decide +kernel
theorem dX9_weightOfWay_0 : decode cX9_weightOfWay 0 = .ok (.iconst 1, 1) := by decide +kernel
theorem dX9_weightOfWay_1 : decode cX9_weightOfWay 1 = .ok (.istore_n 3, 1) := by decide +kernel
theorem dX9_weightOfWay_2 : decode cX9_weightOfWay 2 = .ok (.iconst 0, 1) := by decide +kernel
theorem dX9_weightOfWay_3 : decode cX9_weightOfWay 3 = .ok (.istore 4, 2) := by decide +kernel
theorem dX9_weightOfWay_5 : decode cX9_weightOfWay 5 = .ok (.iload 4, 2) := by decide +kernel
theorem dX9_weightOfWay_7 : decode cX9_weightOfWay 7 = .ok (.iload_n 1, 1) := by decide +kernel
theorem dX9_weightOfWay_8 : decode cX9_weightOfWay 8 = .ok (.if_icmp .ge 29, 3) := by decide +kernel
theorem dX9_weightOfWay_11 : decode cX9_weightOfWay 11 = .ok (.iload_n 3, 1) := by decide +kernel
theorem dX9_weightOfWay_12 : decode cX9_weightOfWay 12 = .ok (.iload_n 0, 1) := by decide +kernel
theorem dX9_weightOfWay_13 : decode cX9_weightOfWay 13 = .ok (.iload 4, 2) := by decide +kernel
theorem dX9_weightOfWay_15 : decode cX9_weightOfWay 15 = .ok (.ishr, 1) := by decide +kernel
theorem dX9_weightOfWay_16 : decode cX9_weightOfWay 16 = .ok (.iconst 1, 1) := by decide +kernel
theorem dX9_weightOfWay_17 : decode cX9_weightOfWay 17 = .ok (.iand, 1) := by decide +kernel
theorem dX9_weightOfWay_18 : decode cX9_weightOfWay 18 = .ok (.ifCond .ne 7, 3) := by decide +kernel
theorem dX9_weightOfWay_21 : decode cX9_weightOfWay 21 = .ok (.iload_n 2, 1) := by decide +kernel
theorem dX9_weightOfWay_22 : decode cX9_weightOfWay 22 = .ok (.goto 7, 3) := by decide +kernel
theorem dX9_weightOfWay_25 : decode cX9_weightOfWay 25 = .ok (.bipush 10, 2) := by decide +kernel
theorem dX9_weightOfWay_27 : decode cX9_weightOfWay 27 = .ok (.iload_n 2, 1) := by decide +kernel
theorem dX9_weightOfWay_28 : decode cX9_weightOfWay 28 = .ok (.isub, 1) := by decide +kernel
theorem dX9_weightOfWay_29 : decode cX9_weightOfWay 29 = .ok (.imul, 1) := by decide +kernel
theorem dX9_weightOfWay_30 : decode cX9_weightOfWay 30 = .ok (.istore_n 3, 1) := by decide +kernel
theorem dX9_weightOfWay_31 : decode cX9_weightOfWay 31 = .ok (.iinc 4 1, 3) := by decide +kernel
theorem dX9_weightOfWay_34 : decode cX9_weightOfWay 34 = .ok (.goto (-29), 3) := by decide +kernel
theorem dX9_weightOfWay_37 : decode cX9_weightOfWay 37 = .ok (.iload_n 3, 1) := by decide +kernel
theorem dX9_weightOfWay_38 : decode cX9_weightOfWay 38 = .ok (.ireturn, 1) := by decide +kernel
theorem dX9_powerOfTen_0 : decode cX9_powerOfTen 0 = .ok (.iconst 1, 1) := by decide +kernel
theorem dX9_powerOfTen_1 : decode cX9_powerOfTen 1 = .ok (.istore_n 1, 1) := by decide +kernel
theorem dX9_powerOfTen_2 : decode cX9_powerOfTen 2 = .ok (.iconst 0, 1) := by decide +kernel
theorem dX9_powerOfTen_3 : decode cX9_powerOfTen 3 = .ok (.istore_n 2, 1) := by decide +kernel
theorem dX9_powerOfTen_4 : decode cX9_powerOfTen 4 = .ok (.iload_n 2, 1) := by decide +kernel
theorem dX9_powerOfTen_5 : decode cX9_powerOfTen 5 = .ok (.iload_n 0, 1) := by decide +kernel
theorem dX9_powerOfTen_6 : decode cX9_powerOfTen 6 = .ok (.if_icmp .ge 14, 3) := by decide +kernel
theorem dX9_powerOfTen_9 : decode cX9_powerOfTen 9 = .ok (.iload_n 1, 1) := by decide +kernel
theorem dX9_powerOfTen_10 : decode cX9_powerOfTen 10 = .ok (.bipush 10, 2) := by decide +kernel
theorem dX9_powerOfTen_12 : decode cX9_powerOfTen 12 = .ok (.imul, 1) := by decide +kernel
theorem dX9_powerOfTen_13 : decode cX9_powerOfTen 13 = .ok (.istore_n 1, 1) := by decide +kernel
theorem dX9_powerOfTen_14 : decode cX9_powerOfTen 14 = .ok (.iinc 2 1, 3) := by decide +kernel
theorem dX9_powerOfTen_17 : decode cX9_powerOfTen 17 = .ok (.goto (-13), 3) := by decide +kernel
theorem dX9_powerOfTen_20 : decode cX9_powerOfTen 20 = .ok (.iload_n 1, 1) := by decide +kernel
theorem dX9_powerOfTen_21 : decode cX9_powerOfTen 21 = .ok (.ireturn, 1) := by decide +kernel
theorem dX9_drawOf_0 : decode cX9_drawOf 0 = .ok (.ldc2_w 240, 3) := by decide +kernel
theorem dX9_drawOf_3 : decode cX9_drawOf 3 = .ok (.iload_n 0, 1) := by decide +kernel
theorem dX9_drawOf_4 : decode cX9_drawOf 4 = .ok (.i2l, 1) := by decide +kernel
theorem dX9_drawOf_5 : decode cX9_drawOf 5 = .ok (.lmul, 1) := by decide +kernel
theorem dX9_drawOf_6 : decode cX9_drawOf 6 = .ok (.ldc2_w 242, 3) := by decide +kernel
theorem dX9_drawOf_9 : decode cX9_drawOf 9 = .ok (.iload_n 1, 1) := by decide +kernel
theorem dX9_drawOf_10 : decode cX9_drawOf 10 = .ok (.i2l, 1) := by decide +kernel
theorem dX9_drawOf_11 : decode cX9_drawOf 11 = .ok (.lmul, 1) := by decide +kernel
theorem dX9_drawOf_12 : decode cX9_drawOf 12 = .ok (.ladd, 1) := by decide +kernel
theorem dX9_drawOf_13 : decode cX9_drawOf 13 = .ok (.lconst 1, 1) := by decide +kernel
theorem dX9_drawOf_14 : decode cX9_drawOf 14 = .ok (.ladd, 1) := by decide +kernel
theorem dX9_drawOf_15 : decode cX9_drawOf 15 = .ok (.lstore_n 2, 1) := by decide +kernel
theorem dX9_drawOf_16 : decode cX9_drawOf 16 = .ok (.lload_n 2, 1) := by decide +kernel
theorem dX9_drawOf_17 : decode cX9_drawOf 17 = .ok (.lload_n 2, 1) := by decide +kernel
theorem dX9_drawOf_18 : decode cX9_drawOf 18 = .ok (.lmul, 1) := by decide +kernel
theorem dX9_drawOf_19 : decode cX9_drawOf 19 = .ok (.ldc2_w 244, 3) := by decide +kernel
theorem dX9_drawOf_22 : decode cX9_drawOf 22 = .ok (.lrem, 1) := by decide +kernel
theorem dX9_drawOf_23 : decode cX9_drawOf 23 = .ok (.ldc2_w 246, 3) := by decide +kernel
theorem dX9_drawOf_26 : decode cX9_drawOf 26 = .ok (.ldiv, 1) := by decide +kernel
theorem dX9_drawOf_27 : decode cX9_drawOf 27 = .ok (.l2i, 1) := by decide +kernel
theorem dX9_drawOf_28 : decode cX9_drawOf 28 = .ok (.ireturn, 1) := by decide +kernel
theorem dX9_drawnMove_0 : decode cX9_drawnMove 0 = .ok (.iload_n 1, 1) := by decide +kernel
theorem dX9_drawnMove_1 : decode cX9_drawnMove 1 = .ok (.bipush 7, 2) := by decide +kernel
theorem dX9_drawnMove_3 : decode cX9_drawnMove 3 = .ok (.irem, 1) := by decide +kernel
theorem dX9_drawnMove_4 : decode cX9_drawnMove 4 = .ok (.istore_n 2, 1) := by decide +kernel
theorem dX9_drawnMove_5 : decode cX9_drawnMove 5 = .ok (.iload_n 2, 1) := by decide +kernel
theorem dX9_drawnMove_6 : decode cX9_drawnMove 6 = .ok (.iconst 5, 1) := by decide +kernel
theorem dX9_drawnMove_7 : decode cX9_drawnMove 7 = .ok (.if_icmp .ge 15, 3) := by decide +kernel
theorem dX9_drawnMove_10 : decode cX9_drawnMove 10 = .ok (.iload_n 2, 1) := by decide +kernel
theorem dX9_drawnMove_11 : decode cX9_drawnMove 11 = .ok (.aload_n 0, 1) := by decide +kernel
theorem dX9_drawnMove_12 : decode cX9_drawnMove 12 = .ok (.getfield 23, 3) := by decide +kernel
theorem dX9_drawnMove_15 : decode cX9_drawnMove 15 = .ok (.getfield 62, 3) := by decide +kernel
theorem dX9_drawnMove_18 : decode cX9_drawnMove 18 = .ok (.invokestatic 120, 3) := by decide +kernel
theorem dX9_drawnMove_21 : decode cX9_drawnMove 21 = .ok (.lreturn, 1) := by decide +kernel
theorem dX9_drawnMove_22 : decode cX9_drawnMove 22 = .ok (.iload_n 2, 1) := by decide +kernel
theorem dX9_drawnMove_23 : decode cX9_drawnMove 23 = .ok (.iconst 5, 1) := by decide +kernel
theorem dX9_drawnMove_24 : decode cX9_drawnMove 24 = .ok (.if_icmp .ne 36, 3) := by decide +kernel
theorem dX9_drawnMove_27 : decode cX9_drawnMove 27 = .ok (.aload_n 0, 1) := by decide +kernel
theorem dX9_drawnMove_28 : decode cX9_drawnMove 28 = .ok (.getfield 23, 3) := by decide +kernel
theorem dX9_drawnMove_31 : decode cX9_drawnMove 31 = .ok (.getfield 62, 3) := by decide +kernel
theorem dX9_drawnMove_34 : decode cX9_drawnMove 34 = .ok (.ifCond .le 26, 3) := by decide +kernel
theorem dX9_drawnMove_37 : decode cX9_drawnMove 37 = .ok (.iload_n 1, 1) := by decide +kernel
theorem dX9_drawnMove_38 : decode cX9_drawnMove 38 = .ok (.bipush 8, 2) := by decide +kernel
theorem dX9_drawnMove_40 : decode cX9_drawnMove 40 = .ok (.idiv, 1) := by decide +kernel
theorem dX9_drawnMove_41 : decode cX9_drawnMove 41 = .ok (.aload_n 0, 1) := by decide +kernel
theorem dX9_drawnMove_42 : decode cX9_drawnMove 42 = .ok (.getfield 23, 3) := by decide +kernel
theorem dX9_drawnMove_45 : decode cX9_drawnMove 45 = .ok (.getfield 62, 3) := by decide +kernel
theorem dX9_drawnMove_48 : decode cX9_drawnMove 48 = .ok (.irem, 1) := by decide +kernel
theorem dX9_drawnMove_49 : decode cX9_drawnMove 49 = .ok (.aload_n 0, 1) := by decide +kernel
theorem dX9_drawnMove_50 : decode cX9_drawnMove 50 = .ok (.getfield 23, 3) := by decide +kernel
theorem dX9_drawnMove_53 : decode cX9_drawnMove 53 = .ok (.getfield 62, 3) := by decide +kernel
theorem dX9_drawnMove_56 : decode cX9_drawnMove 56 = .ok (.invokestatic 130, 3) := by decide +kernel
theorem dX9_drawnMove_59 : decode cX9_drawnMove 59 = .ok (.lreturn, 1) := by decide +kernel
theorem dX9_drawnMove_60 : decode cX9_drawnMove 60 = .ok (.aload_n 0, 1) := by decide +kernel
theorem dX9_drawnMove_61 : decode cX9_drawnMove 61 = .ok (.getfield 23, 3) := by decide +kernel
theorem dX9_drawnMove_64 : decode cX9_drawnMove 64 = .ok (.getfield 62, 3) := by decide +kernel
theorem dX9_drawnMove_67 : decode cX9_drawnMove 67 = .ok (.invokestatic 133, 3) := by decide +kernel
theorem dX9_drawnMove_70 : decode cX9_drawnMove 70 = .ok (.lreturn, 1) := by decide +kernel
