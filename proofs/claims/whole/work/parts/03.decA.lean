theorem dX0_init_0 : decode cX0_init 0 = .ok (.aload_n 0, 1) := by decide +kernel
theorem dX0_init_1 : decode cX0_init 1 = .ok (.invokespecial 3, 3) := by decide +kernel
theorem dX0_init_4 : decode cX0_init 4 = .ok (.aload_n 0, 1) := by decide +kernel
theorem dX0_init_5 : decode cX0_init 5 = .ok (.bipush (-4), 2) := by decide +kernel
theorem dX0_init_7 : decode cX0_init 7 = .ok (.putfield 9, 3) := by decide +kernel
theorem dX0_init_10 : decode cX0_init 10 = .ok (.aload_n 0, 1) := by decide +kernel
theorem dX0_init_11 : decode cX0_init 11 = .ok (.iconst 0, 1) := by decide +kernel
theorem dX0_init_12 : decode cX0_init 12 = .ok (.putfield 15, 3) := by decide +kernel
theorem dX0_init_15 : decode cX0_init 15 = .ok (.aload_n 0, 1) := by decide +kernel
theorem dX0_init_16 : decode cX0_init 16 = .ok (.bipush 8, 2) := by decide +kernel
theorem dX0_init_18 : decode cX0_init 18 = .ok (.newarray .int, 2) := by decide +kernel
theorem dX0_init_20 : decode cX0_init 20 = .ok (.putfield 18, 3) := by decide +kernel
theorem dX0_init_23 : decode cX0_init 23 = .ok (.aload_n 0, 1) := by decide +kernel
theorem dX0_init_24 : decode cX0_init 24 = .ok (.aload_n 1, 1) := by decide +kernel
theorem dX0_init_25 : decode cX0_init 25 = .ok (.putfield 22, 3) := by decide +kernel
theorem dX0_init_28 : decode cX0_init 28 = .ok (.aload_n 0, 1) := by decide +kernel
theorem dX0_init_29 : decode cX0_init 29 = .ok (.aload_n 1, 1) := by decide +kernel
theorem dX0_init_30 : decode cX0_init 30 = .ok (.getfield 26, 3) := by decide +kernel
theorem dX0_init_33 : decode cX0_init 33 = .ok (.putfield 32, 3) := by decide +kernel
theorem dX0_init_36 : decode cX0_init 36 = .ok (.return_, 1) := by decide +kernel
theorem dX0_told_0 : decode cX0_told 0 = .ok (.aload_n 0, 1) := by decide +kernel
theorem dX0_told_1 : decode cX0_told 1 = .ok (.getfield 9, 3) := by decide +kernel
theorem dX0_told_4 : decode cX0_told 4 = .ok (.bipush (-4), 2) := by decide +kernel
theorem dX0_told_6 : decode cX0_told 6 = .ok (.if_icmp .ne 6, 3) := by decide +kernel
theorem dX0_told_9 : decode cX0_told 9 = .ok (.bipush (-4), 2) := by decide +kernel
theorem dX0_told_11 : decode cX0_told 11 = .ok (.ireturn, 1) := by decide +kernel
theorem dX0_told_12 : decode cX0_told 12 = .ok (.iload_n 1, 1) := by decide +kernel
theorem dX0_told_13 : decode cX0_told 13 = .ok (.ifCond .ne 10, 3) := by decide +kernel
theorem dX0_told_16 : decode cX0_told 16 = .ok (.aload_n 0, 1) := by decide +kernel
theorem dX0_told_17 : decode cX0_told 17 = .ok (.getfield 9, 3) := by decide +kernel
theorem dX0_told_20 : decode cX0_told 20 = .ok (.goto 7, 3) := by decide +kernel
theorem dX0_told_23 : decode cX0_told 23 = .ok (.aload_n 0, 1) := by decide +kernel
theorem dX0_told_24 : decode cX0_told 24 = .ok (.getfield 15, 3) := by decide +kernel
theorem dX0_told_27 : decode cX0_told 27 = .ok (.ireturn, 1) := by decide +kernel
theorem dX0_seekFrom_0 : decode cX0_seekFrom 0 = .ok (.aload_n 0, 1) := by decide +kernel
theorem dX0_seekFrom_1 : decode cX0_seekFrom 1 = .ok (.bipush (-4), 2) := by decide +kernel
theorem dX0_seekFrom_3 : decode cX0_seekFrom 3 = .ok (.putfield 9, 3) := by decide +kernel
theorem dX0_seekFrom_6 : decode cX0_seekFrom 6 = .ok (.aload_n 0, 1) := by decide +kernel
theorem dX0_seekFrom_7 : decode cX0_seekFrom 7 = .ok (.iload_n 1, 1) := by decide +kernel
theorem dX0_seekFrom_8 : decode cX0_seekFrom 8 = .ok (.putfield 15, 3) := by decide +kernel
theorem dX0_seekFrom_11 : decode cX0_seekFrom 11 = .ok (.return_, 1) := by decide +kernel
theorem dX0_offerMost_0 : decode cX0_offerMost 0 = .ok (.iload_n 2, 1) := by decide +kernel
theorem dX0_offerMost_1 : decode cX0_offerMost 1 = .ok (.aload_n 0, 1) := by decide +kernel
theorem dX0_offerMost_2 : decode cX0_offerMost 2 = .ok (.getfield 15, 3) := by decide +kernel
theorem dX0_offerMost_5 : decode cX0_offerMost 5 = .ok (.if_icmp .le 13, 3) := by decide +kernel
theorem dX0_offerMost_8 : decode cX0_offerMost 8 = .ok (.aload_n 0, 1) := by decide +kernel
theorem dX0_offerMost_9 : decode cX0_offerMost 9 = .ok (.iload_n 1, 1) := by decide +kernel
theorem dX0_offerMost_10 : decode cX0_offerMost 10 = .ok (.putfield 9, 3) := by decide +kernel
theorem dX0_offerMost_13 : decode cX0_offerMost 13 = .ok (.aload_n 0, 1) := by decide +kernel
theorem dX0_offerMost_14 : decode cX0_offerMost 14 = .ok (.iload_n 2, 1) := by decide +kernel
theorem dX0_offerMost_15 : decode cX0_offerMost 15 = .ok (.putfield 15, 3) := by decide +kernel
theorem dX0_offerMost_18 : decode cX0_offerMost 18 = .ok (.return_, 1) := by decide +kernel
theorem dX0_offerFewest_0 : decode cX0_offerFewest 0 = .ok (.iload_n 2, 1) := by decide +kernel
theorem dX0_offerFewest_1 : decode cX0_offerFewest 1 = .ok (.aload_n 0, 1) := by decide +kernel
theorem dX0_offerFewest_2 : decode cX0_offerFewest 2 = .ok (.getfield 15, 3) := by decide +kernel
theorem dX0_offerFewest_5 : decode cX0_offerFewest 5 = .ok (.if_icmp .ge 13, 3) := by decide +kernel
theorem dX0_offerFewest_8 : decode cX0_offerFewest 8 = .ok (.aload_n 0, 1) := by decide +kernel
theorem dX0_offerFewest_9 : decode cX0_offerFewest 9 = .ok (.iload_n 1, 1) := by decide +kernel
theorem dX0_offerFewest_10 : decode cX0_offerFewest 10 = .ok (.putfield 9, 3) := by decide +kernel
theorem dX0_offerFewest_13 : decode cX0_offerFewest 13 = .ok (.aload_n 0, 1) := by decide +kernel
theorem dX0_offerFewest_14 : decode cX0_offerFewest 14 = .ok (.iload_n 2, 1) := by decide +kernel
theorem dX0_offerFewest_15 : decode cX0_offerFewest 15 = .ok (.putfield 15, 3) := by decide +kernel
theorem dX0_offerFewest_18 : decode cX0_offerFewest 18 = .ok (.return_, 1) := by decide +kernel
theorem dX0_seekNewPeg_0 : decode cX0_seekNewPeg 0 = .ok (.aload_n 0, 1) := by decide +kernel
theorem dX0_seekNewPeg_1 : decode cX0_seekNewPeg 1 = .ok (.iconst (-1), 1) := by decide +kernel
theorem dX0_seekNewPeg_2 : decode cX0_seekNewPeg 2 = .ok (.invokevirtual 33, 3) := by decide +kernel
theorem dX0_seekNewPeg_5 : decode cX0_seekNewPeg 5 = .ok (.aload_n 0, 1) := by decide +kernel
theorem dX0_seekNewPeg_6 : decode cX0_seekNewPeg 6 = .ok (.getfield 32, 3) := by decide +kernel
theorem dX0_seekNewPeg_9 : decode cX0_seekNewPeg 9 = .ok (.getfield 37, 3) := by decide +kernel
theorem dX0_seekNewPeg_12 : decode cX0_seekNewPeg 12 = .ok (.istore_n 2, 1) := by decide +kernel
theorem dX0_seekNewPeg_13 : decode cX0_seekNewPeg 13 = .ok (.iconst 0, 1) := by decide +kernel
theorem dX0_seekNewPeg_14 : decode cX0_seekNewPeg 14 = .ok (.istore_n 3, 1) := by decide +kernel
theorem dX0_seekNewPeg_15 : decode cX0_seekNewPeg 15 = .ok (.iload_n 3, 1) := by decide +kernel
theorem dX0_seekNewPeg_16 : decode cX0_seekNewPeg 16 = .ok (.bipush 100, 2) := by decide +kernel
theorem dX0_seekNewPeg_18 : decode cX0_seekNewPeg 18 = .ok (.if_icmp .ge 45, 3) := by decide +kernel
theorem dX0_seekNewPeg_21 : decode cX0_seekNewPeg 21 = .ok (.aload_n 0, 1) := by decide +kernel
theorem dX0_seekNewPeg_22 : decode cX0_seekNewPeg 22 = .ok (.getfield 32, 3) := by decide +kernel
theorem dX0_seekNewPeg_25 : decode cX0_seekNewPeg 25 = .ok (.iload_n 3, 1) := by decide +kernel
theorem dX0_seekNewPeg_26 : decode cX0_seekNewPeg 26 = .ok (.iload_n 1, 1) := by decide +kernel
theorem dX0_seekNewPeg_27 : decode cX0_seekNewPeg 27 = .ok (.invokevirtual 42, 3) := by decide +kernel
theorem dX0_seekNewPeg_30 : decode cX0_seekNewPeg 30 = .ok (.ifCond .le 27, 3) := by decide +kernel
theorem dX0_seekNewPeg_33 : decode cX0_seekNewPeg 33 = .ok (.aload_n 0, 1) := by decide +kernel
theorem dX0_seekNewPeg_34 : decode cX0_seekNewPeg 34 = .ok (.iload_n 3, 1) := by decide +kernel
theorem dX0_seekNewPeg_35 : decode cX0_seekNewPeg 35 = .ok (.aload_n 0, 1) := by decide +kernel
theorem dX0_seekNewPeg_36 : decode cX0_seekNewPeg 36 = .ok (.getfield 22, 3) := by decide +kernel
theorem dX0_seekNewPeg_39 : decode cX0_seekNewPeg 39 = .ok (.iload_n 1, 1) := by decide +kernel
theorem dX0_seekNewPeg_40 : decode cX0_seekNewPeg 40 = .ok (.invokevirtual 46, 3) := by decide +kernel
theorem dX0_seekNewPeg_43 : decode cX0_seekNewPeg 43 = .ok (.invokestatic 50, 3) := by decide +kernel
theorem dX0_seekNewPeg_46 : decode cX0_seekNewPeg 46 = .ok (.invokevirtual 55, 3) := by decide +kernel
theorem dX0_seekNewPeg_49 : decode cX0_seekNewPeg 49 = .ok (.aload_n 0, 1) := by decide +kernel
theorem dX0_seekNewPeg_50 : decode cX0_seekNewPeg 50 = .ok (.getfield 32, 3) := by decide +kernel
theorem dX0_seekNewPeg_53 : decode cX0_seekNewPeg 53 = .ok (.iload_n 2, 1) := by decide +kernel
theorem dX0_seekNewPeg_54 : decode cX0_seekNewPeg 54 = .ok (.invokevirtual 59, 3) := by decide +kernel
theorem dX0_seekNewPeg_57 : decode cX0_seekNewPeg 57 = .ok (.iinc 3 1, 3) := by decide +kernel
theorem dX0_seekNewPeg_60 : decode cX0_seekNewPeg 60 = .ok (.goto (-45), 3) := by decide +kernel
theorem dX0_seekNewPeg_63 : decode cX0_seekNewPeg 63 = .ok (.return_, 1) := by decide +kernel
theorem dX0_seekCellOf_0 : decode cX0_seekCellOf 0 = .ok (.aload_n 0, 1) := by decide +kernel
theorem dX0_seekCellOf_1 : decode cX0_seekCellOf 1 = .ok (.iconst (-1), 1) := by decide +kernel
theorem dX0_seekCellOf_2 : decode cX0_seekCellOf 2 = .ok (.invokevirtual 33, 3) := by decide +kernel
theorem dX0_seekCellOf_5 : decode cX0_seekCellOf 5 = .ok (.aload_n 0, 1) := by decide +kernel
theorem dX0_seekCellOf_6 : decode cX0_seekCellOf 6 = .ok (.getfield 32, 3) := by decide +kernel
theorem dX0_seekCellOf_9 : decode cX0_seekCellOf 9 = .ok (.iload_n 1, 1) := by decide +kernel
theorem dX0_seekCellOf_10 : decode cX0_seekCellOf 10 = .ok (.invokevirtual 62, 3) := by decide +kernel
theorem dX0_seekCellOf_13 : decode cX0_seekCellOf 13 = .ok (.ifCond .ne 4, 3) := by decide +kernel
theorem dX0_seekCellOf_16 : decode cX0_seekCellOf 16 = .ok (.return_, 1) := by decide +kernel
theorem dX0_seekCellOf_17 : decode cX0_seekCellOf 17 = .ok (.aload_n 0, 1) := by decide +kernel
theorem dX0_seekCellOf_18 : decode cX0_seekCellOf 18 = .ok (.getfield 32, 3) := by decide +kernel
theorem dX0_seekCellOf_21 : decode cX0_seekCellOf 21 = .ok (.getfield 66, 3) := by decide +kernel
theorem dX0_seekCellOf_24 : decode cX0_seekCellOf 24 = .ok (.iload_n 1, 1) := by decide +kernel
theorem dX0_seekCellOf_25 : decode cX0_seekCellOf 25 = .ok (.iaload, 1) := by decide +kernel
theorem dX0_seekCellOf_26 : decode cX0_seekCellOf 26 = .ok (.istore_n 2, 1) := by decide +kernel
theorem dX0_seekCellOf_27 : decode cX0_seekCellOf 27 = .ok (.aload_n 0, 1) := by decide +kernel
theorem dX0_seekCellOf_28 : decode cX0_seekCellOf 28 = .ok (.getfield 32, 3) := by decide +kernel
theorem dX0_seekCellOf_31 : decode cX0_seekCellOf 31 = .ok (.getfield 69, 3) := by decide +kernel
theorem dX0_seekCellOf_34 : decode cX0_seekCellOf 34 = .ok (.iload_n 1, 1) := by decide +kernel
theorem dX0_seekCellOf_35 : decode cX0_seekCellOf 35 = .ok (.iaload, 1) := by decide +kernel
theorem dX0_seekCellOf_36 : decode cX0_seekCellOf 36 = .ok (.istore_n 3, 1) := by decide +kernel
theorem dX0_seekCellOf_37 : decode cX0_seekCellOf 37 = .ok (.iconst 0, 1) := by decide +kernel
theorem dX0_seekCellOf_38 : decode cX0_seekCellOf 38 = .ok (.istore 4, 2) := by decide +kernel
theorem dX0_seekCellOf_40 : decode cX0_seekCellOf 40 = .ok (.iload 4, 2) := by decide +kernel
theorem dX0_seekCellOf_42 : decode cX0_seekCellOf 42 = .ok (.bipush 100, 2) := by decide +kernel
theorem dX0_seekCellOf_44 : decode cX0_seekCellOf 44 = .ok (.if_icmp .ge 63, 3) := by decide +kernel
theorem dX0_seekCellOf_47 : decode cX0_seekCellOf 47 = .ok (.iload 4, 2) := by decide +kernel
theorem dX0_seekCellOf_49 : decode cX0_seekCellOf 49 = .ok (.iload_n 2, 1) := by decide +kernel
theorem dX0_seekCellOf_50 : decode cX0_seekCellOf 50 = .ok (.if_icmp .eq 15, 3) := by decide +kernel
theorem dX0_seekCellOf_53 : decode cX0_seekCellOf 53 = .ok (.aload_n 0, 1) := by decide +kernel
theorem dX0_seekCellOf_54 : decode cX0_seekCellOf 54 = .ok (.getfield 32, 3) := by decide +kernel
theorem dX0_seekCellOf_57 : decode cX0_seekCellOf 57 = .ok (.iload 4, 2) := by decide +kernel
theorem dX0_seekCellOf_59 : decode cX0_seekCellOf 59 = .ok (.invokevirtual 72, 3) := by decide +kernel
theorem dX0_seekCellOf_62 : decode cX0_seekCellOf 62 = .ok (.ifCond .eq 39, 3) := by decide +kernel
theorem dX0_seekCellOf_65 : decode cX0_seekCellOf 65 = .ok (.aload_n 0, 1) := by decide +kernel
theorem dX0_seekCellOf_66 : decode cX0_seekCellOf 66 = .ok (.getfield 32, 3) := by decide +kernel
theorem dX0_seekCellOf_69 : decode cX0_seekCellOf 69 = .ok (.iload_n 1, 1) := by decide +kernel
theorem dX0_seekCellOf_70 : decode cX0_seekCellOf 70 = .ok (.iload 4, 2) := by decide +kernel
theorem dX0_seekCellOf_72 : decode cX0_seekCellOf 72 = .ok (.invokevirtual 75, 3) := by decide +kernel
theorem dX0_seekCellOf_75 : decode cX0_seekCellOf 75 = .ok (.aload_n 0, 1) := by decide +kernel
theorem dX0_seekCellOf_76 : decode cX0_seekCellOf 76 = .ok (.iload 4, 2) := by decide +kernel
theorem dX0_seekCellOf_78 : decode cX0_seekCellOf 78 = .ok (.aload_n 0, 1) := by decide +kernel
theorem dX0_seekCellOf_79 : decode cX0_seekCellOf 79 = .ok (.getfield 22, 3) := by decide +kernel
theorem dX0_seekCellOf_82 : decode cX0_seekCellOf 82 = .ok (.iload_n 3, 1) := by decide +kernel
theorem dX0_seekCellOf_83 : decode cX0_seekCellOf 83 = .ok (.invokevirtual 46, 3) := by decide +kernel
theorem dX0_seekCellOf_86 : decode cX0_seekCellOf 86 = .ok (.invokestatic 50, 3) := by decide +kernel
theorem dX0_seekCellOf_89 : decode cX0_seekCellOf 89 = .ok (.invokevirtual 55, 3) := by decide +kernel
theorem dX0_seekCellOf_92 : decode cX0_seekCellOf 92 = .ok (.aload_n 0, 1) := by decide +kernel
theorem dX0_seekCellOf_93 : decode cX0_seekCellOf 93 = .ok (.getfield 32, 3) := by decide +kernel
theorem dX0_seekCellOf_96 : decode cX0_seekCellOf 96 = .ok (.iload_n 1, 1) := by decide +kernel
theorem dX0_seekCellOf_97 : decode cX0_seekCellOf 97 = .ok (.iload_n 2, 1) := by decide +kernel
theorem dX0_seekCellOf_98 : decode cX0_seekCellOf 98 = .ok (.invokevirtual 75, 3) := by decide +kernel
theorem dX0_seekCellOf_101 : decode cX0_seekCellOf 101 = .ok (.iinc 4 1, 3) := by decide +kernel
theorem dX0_seekCellOf_104 : decode cX0_seekCellOf 104 = .ok (.goto (-64), 3) := by decide +kernel
theorem dX0_seekCellOf_107 : decode cX0_seekCellOf 107 = .ok (.return_, 1) := by decide +kernel
theorem dX0_seekNewSlug_0 : decode cX0_seekNewSlug 0 = .ok (.aload_n 0, 1) := by decide +kernel
theorem dX0_seekNewSlug_1 : decode cX0_seekNewSlug 1 = .ok (.bipush 7, 2) := by decide +kernel
theorem dX0_seekNewSlug_3 : decode cX0_seekNewSlug 3 = .ok (.invokevirtual 33, 3) := by decide +kernel
theorem dX0_seekNewSlug_6 : decode cX0_seekNewSlug 6 = .ok (.aload_n 0, 1) := by decide +kernel
theorem dX0_seekNewSlug_7 : decode cX0_seekNewSlug 7 = .ok (.getfield 32, 3) := by decide +kernel
theorem dX0_seekNewSlug_10 : decode cX0_seekNewSlug 10 = .ok (.getfield 78, 3) := by decide +kernel
theorem dX0_seekNewSlug_13 : decode cX0_seekNewSlug 13 = .ok (.istore_n 2, 1) := by decide +kernel
theorem dX0_seekNewSlug_14 : decode cX0_seekNewSlug 14 = .ok (.iconst 0, 1) := by decide +kernel
theorem dX0_seekNewSlug_15 : decode cX0_seekNewSlug 15 = .ok (.istore_n 3, 1) := by decide +kernel
theorem dX0_seekNewSlug_16 : decode cX0_seekNewSlug 16 = .ok (.iload_n 3, 1) := by decide +kernel
theorem dX0_seekNewSlug_17 : decode cX0_seekNewSlug 17 = .ok (.bipush 100, 2) := by decide +kernel
theorem dX0_seekNewSlug_19 : decode cX0_seekNewSlug 19 = .ok (.if_icmp .ge 44, 3) := by decide +kernel
theorem dX0_seekNewSlug_22 : decode cX0_seekNewSlug 22 = .ok (.aload_n 0, 1) := by decide +kernel
theorem dX0_seekNewSlug_23 : decode cX0_seekNewSlug 23 = .ok (.getfield 32, 3) := by decide +kernel
theorem dX0_seekNewSlug_26 : decode cX0_seekNewSlug 26 = .ok (.iload_n 3, 1) := by decide +kernel
theorem dX0_seekNewSlug_27 : decode cX0_seekNewSlug 27 = .ok (.invokevirtual 81, 3) := by decide +kernel
theorem dX0_seekNewSlug_30 : decode cX0_seekNewSlug 30 = .ok (.ifCond .le 27, 3) := by decide +kernel
theorem dX0_seekNewSlug_33 : decode cX0_seekNewSlug 33 = .ok (.aload_n 0, 1) := by decide +kernel
theorem dX0_seekNewSlug_34 : decode cX0_seekNewSlug 34 = .ok (.iload_n 3, 1) := by decide +kernel
theorem dX0_seekNewSlug_35 : decode cX0_seekNewSlug 35 = .ok (.aload_n 0, 1) := by decide +kernel
theorem dX0_seekNewSlug_36 : decode cX0_seekNewSlug 36 = .ok (.getfield 22, 3) := by decide +kernel
theorem dX0_seekNewSlug_39 : decode cX0_seekNewSlug 39 = .ok (.iload_n 1, 1) := by decide +kernel
theorem dX0_seekNewSlug_40 : decode cX0_seekNewSlug 40 = .ok (.invokevirtual 84, 3) := by decide +kernel
theorem dX0_seekNewSlug_43 : decode cX0_seekNewSlug 43 = .ok (.invokestatic 50, 3) := by decide +kernel
theorem dX0_seekNewSlug_46 : decode cX0_seekNewSlug 46 = .ok (.invokevirtual 87, 3) := by decide +kernel
theorem dX0_seekNewSlug_49 : decode cX0_seekNewSlug 49 = .ok (.aload_n 0, 1) := by decide +kernel
theorem dX0_seekNewSlug_50 : decode cX0_seekNewSlug 50 = .ok (.getfield 32, 3) := by decide +kernel
theorem dX0_seekNewSlug_53 : decode cX0_seekNewSlug 53 = .ok (.iload_n 2, 1) := by decide +kernel
theorem dX0_seekNewSlug_54 : decode cX0_seekNewSlug 54 = .ok (.invokevirtual 90, 3) := by decide +kernel
theorem dX0_seekNewSlug_57 : decode cX0_seekNewSlug 57 = .ok (.iinc 3 1, 3) := by decide +kernel
theorem dX0_seekNewSlug_60 : decode cX0_seekNewSlug 60 = .ok (.goto (-44), 3) := by decide +kernel
theorem dX0_seekNewSlug_63 : decode cX0_seekNewSlug 63 = .ok (.return_, 1) := by decide +kernel
theorem dX0_seekPair_0 : decode cX0_seekPair 0 = .ok (.aload_n 0, 1) := by decide +kernel
theorem dX0_seekPair_1 : decode cX0_seekPair 1 = .ok (.aload_n 0, 1) := by decide +kernel
theorem dX0_seekPair_2 : decode cX0_seekPair 2 = .ok (.getfield 22, 3) := by decide +kernel
theorem dX0_seekPair_5 : decode cX0_seekPair 5 = .ok (.iload_n 1, 1) := by decide +kernel
theorem dX0_seekPair_6 : decode cX0_seekPair 6 = .ok (.invokevirtual 46, 3) := by decide +kernel
theorem dX0_seekPair_9 : decode cX0_seekPair 9 = .ok (.invokestatic 50, 3) := by decide +kernel
theorem dX0_seekPair_12 : decode cX0_seekPair 12 = .ok (.invokevirtual 33, 3) := by decide +kernel
theorem dX0_seekPair_15 : decode cX0_seekPair 15 = .ok (.iconst 0, 1) := by decide +kernel
theorem dX0_seekPair_16 : decode cX0_seekPair 16 = .ok (.istore_n 2, 1) := by decide +kernel
theorem dX0_seekPair_17 : decode cX0_seekPair 17 = .ok (.iload_n 2, 1) := by decide +kernel
theorem dX0_seekPair_18 : decode cX0_seekPair 18 = .ok (.aload_n 0, 1) := by decide +kernel
theorem dX0_seekPair_19 : decode cX0_seekPair 19 = .ok (.getfield 32, 3) := by decide +kernel
theorem dX0_seekPair_22 : decode cX0_seekPair 22 = .ok (.getfield 93, 3) := by decide +kernel
theorem dX0_seekPair_25 : decode cX0_seekPair 25 = .ok (.if_icmp .ge 69, 3) := by decide +kernel
theorem dX0_seekPair_28 : decode cX0_seekPair 28 = .ok (.iload_n 2, 1) := by decide +kernel
theorem dX0_seekPair_29 : decode cX0_seekPair 29 = .ok (.iconst 1, 1) := by decide +kernel
theorem dX0_seekPair_30 : decode cX0_seekPair 30 = .ok (.iadd, 1) := by decide +kernel
theorem dX0_seekPair_31 : decode cX0_seekPair 31 = .ok (.istore_n 3, 1) := by decide +kernel
theorem dX0_seekPair_32 : decode cX0_seekPair 32 = .ok (.iload_n 3, 1) := by decide +kernel
theorem dX0_seekPair_33 : decode cX0_seekPair 33 = .ok (.aload_n 0, 1) := by decide +kernel
theorem dX0_seekPair_34 : decode cX0_seekPair 34 = .ok (.getfield 32, 3) := by decide +kernel
theorem dX0_seekPair_37 : decode cX0_seekPair 37 = .ok (.getfield 93, 3) := by decide +kernel
theorem dX0_seekPair_40 : decode cX0_seekPair 40 = .ok (.if_icmp .ge 48, 3) := by decide +kernel
theorem dX0_seekPair_43 : decode cX0_seekPair 43 = .ok (.aload_n 0, 1) := by decide +kernel
theorem dX0_seekPair_44 : decode cX0_seekPair 44 = .ok (.getfield 32, 3) := by decide +kernel
theorem dX0_seekPair_47 : decode cX0_seekPair 47 = .ok (.iload_n 2, 1) := by decide +kernel
theorem dX0_seekPair_48 : decode cX0_seekPair 48 = .ok (.iload_n 3, 1) := by decide +kernel
theorem dX0_seekPair_49 : decode cX0_seekPair 49 = .ok (.invokevirtual 96, 3) := by decide +kernel
theorem dX0_seekPair_52 : decode cX0_seekPair 52 = .ok (.aload_n 0, 1) := by decide +kernel
theorem dX0_seekPair_53 : decode cX0_seekPair 53 = .ok (.bipush 10, 2) := by decide +kernel
theorem dX0_seekPair_55 : decode cX0_seekPair 55 = .ok (.iload_n 2, 1) := by decide +kernel
theorem dX0_seekPair_56 : decode cX0_seekPair 56 = .ok (.imul, 1) := by decide +kernel
theorem dX0_seekPair_57 : decode cX0_seekPair 57 = .ok (.iload_n 3, 1) := by decide +kernel
theorem dX0_seekPair_58 : decode cX0_seekPair 58 = .ok (.iadd, 1) := by decide +kernel
theorem dX0_seekPair_59 : decode cX0_seekPair 59 = .ok (.aload_n 0, 1) := by decide +kernel
theorem dX0_seekPair_60 : decode cX0_seekPair 60 = .ok (.getfield 22, 3) := by decide +kernel
theorem dX0_seekPair_63 : decode cX0_seekPair 63 = .ok (.iload_n 1, 1) := by decide +kernel
theorem dX0_seekPair_64 : decode cX0_seekPair 64 = .ok (.invokevirtual 46, 3) := by decide +kernel
theorem dX0_seekPair_67 : decode cX0_seekPair 67 = .ok (.invokestatic 50, 3) := by decide +kernel
theorem dX0_seekPair_70 : decode cX0_seekPair 70 = .ok (.invokevirtual 55, 3) := by decide +kernel
theorem dX0_seekPair_73 : decode cX0_seekPair 73 = .ok (.aload_n 0, 1) := by decide +kernel
theorem dX0_seekPair_74 : decode cX0_seekPair 74 = .ok (.getfield 32, 3) := by decide +kernel
theorem dX0_seekPair_77 : decode cX0_seekPair 77 = .ok (.iload_n 2, 1) := by decide +kernel
theorem dX0_seekPair_78 : decode cX0_seekPair 78 = .ok (.iload_n 3, 1) := by decide +kernel
theorem dX0_seekPair_79 : decode cX0_seekPair 79 = .ok (.invokevirtual 96, 3) := by decide +kernel
theorem dX0_seekPair_82 : decode cX0_seekPair 82 = .ok (.iinc 3 1, 3) := by decide +kernel
theorem dX0_seekPair_85 : decode cX0_seekPair 85 = .ok (.goto (-53), 3) := by decide +kernel
theorem dX0_seekPair_88 : decode cX0_seekPair 88 = .ok (.iinc 2 1, 3) := by decide +kernel
theorem dX0_seekPair_91 : decode cX0_seekPair 91 = .ok (.goto (-74), 3) := by decide +kernel
theorem dX0_seekPair_94 : decode cX0_seekPair 94 = .ok (.return_, 1) := by decide +kernel
theorem dX0_seekNeedlessPeg_0 : decode cX0_seekNeedlessPeg 0 = .ok (.aload_n 0, 1) := by decide +kernel
theorem dX0_seekNeedlessPeg_1 : decode cX0_seekNeedlessPeg 1 = .ok (.aload_n 0, 1) := by decide +kernel
theorem dX0_seekNeedlessPeg_2 : decode cX0_seekNeedlessPeg 2 = .ok (.getfield 22, 3) := by decide +kernel
theorem dX0_seekNeedlessPeg_5 : decode cX0_seekNeedlessPeg 5 = .ok (.iload_n 1, 1) := by decide +kernel
theorem dX0_seekNeedlessPeg_6 : decode cX0_seekNeedlessPeg 6 = .ok (.invokevirtual 46, 3) := by decide +kernel
theorem dX0_seekNeedlessPeg_9 : decode cX0_seekNeedlessPeg 9 = .ok (.invokestatic 50, 3) := by decide +kernel
theorem dX0_seekNeedlessPeg_12 : decode cX0_seekNeedlessPeg 12 = .ok (.invokevirtual 33, 3) := by decide +kernel
theorem dX0_seekNeedlessPeg_15 : decode cX0_seekNeedlessPeg 15 = .ok (.iconst 0, 1) := by decide +kernel
theorem dX0_seekNeedlessPeg_16 : decode cX0_seekNeedlessPeg 16 = .ok (.istore_n 2, 1) := by decide +kernel
theorem dX0_seekNeedlessPeg_17 : decode cX0_seekNeedlessPeg 17 = .ok (.iload_n 2, 1) := by decide +kernel
theorem dX0_seekNeedlessPeg_18 : decode cX0_seekNeedlessPeg 18 = .ok (.aload_n 0, 1) := by decide +kernel
theorem dX0_seekNeedlessPeg_19 : decode cX0_seekNeedlessPeg 19 = .ok (.getfield 32, 3) := by decide +kernel
theorem dX0_seekNeedlessPeg_22 : decode cX0_seekNeedlessPeg 22 = .ok (.getfield 37, 3) := by decide +kernel
theorem dX0_seekNeedlessPeg_25 : decode cX0_seekNeedlessPeg 25 = .ok (.if_icmp .ge 41, 3) := by decide +kernel
theorem dX0_seekNeedlessPeg_28 : decode cX0_seekNeedlessPeg 28 = .ok (.aload_n 0, 1) := by decide +kernel
theorem dX0_seekNeedlessPeg_29 : decode cX0_seekNeedlessPeg 29 = .ok (.getfield 32, 3) := by decide +kernel
theorem dX0_seekNeedlessPeg_32 : decode cX0_seekNeedlessPeg 32 = .ok (.iload_n 2, 1) := by decide +kernel
theorem dX0_seekNeedlessPeg_33 : decode cX0_seekNeedlessPeg 33 = .ok (.invokevirtual 99, 3) := by decide +kernel
theorem dX0_seekNeedlessPeg_36 : decode cX0_seekNeedlessPeg 36 = .ok (.aload_n 0, 1) := by decide +kernel
theorem dX0_seekNeedlessPeg_37 : decode cX0_seekNeedlessPeg 37 = .ok (.iload_n 2, 1) := by decide +kernel
theorem dX0_seekNeedlessPeg_38 : decode cX0_seekNeedlessPeg 38 = .ok (.aload_n 0, 1) := by decide +kernel
theorem dX0_seekNeedlessPeg_39 : decode cX0_seekNeedlessPeg 39 = .ok (.getfield 22, 3) := by decide +kernel
theorem dX0_seekNeedlessPeg_42 : decode cX0_seekNeedlessPeg 42 = .ok (.iload_n 1, 1) := by decide +kernel
theorem dX0_seekNeedlessPeg_43 : decode cX0_seekNeedlessPeg 43 = .ok (.invokevirtual 46, 3) := by decide +kernel
theorem dX0_seekNeedlessPeg_46 : decode cX0_seekNeedlessPeg 46 = .ok (.invokestatic 50, 3) := by decide +kernel
theorem dX0_seekNeedlessPeg_49 : decode cX0_seekNeedlessPeg 49 = .ok (.invokevirtual 55, 3) := by decide +kernel
theorem dX0_seekNeedlessPeg_52 : decode cX0_seekNeedlessPeg 52 = .ok (.aload_n 0, 1) := by decide +kernel
theorem dX0_seekNeedlessPeg_53 : decode cX0_seekNeedlessPeg 53 = .ok (.getfield 32, 3) := by decide +kernel
theorem dX0_seekNeedlessPeg_56 : decode cX0_seekNeedlessPeg 56 = .ok (.iload_n 2, 1) := by decide +kernel
theorem dX0_seekNeedlessPeg_57 : decode cX0_seekNeedlessPeg 57 = .ok (.invokevirtual 102, 3) := by decide +kernel
theorem dX0_seekNeedlessPeg_60 : decode cX0_seekNeedlessPeg 60 = .ok (.iinc 2 1, 3) := by decide +kernel
theorem dX0_seekNeedlessPeg_63 : decode cX0_seekNeedlessPeg 63 = .ok (.goto (-46), 3) := by decide +kernel
theorem dX0_seekNeedlessPeg_66 : decode cX0_seekNeedlessPeg 66 = .ok (.return_, 1) := by decide +kernel
theorem dX0_seekQuestion_0 : decode cX0_seekQuestion 0 = .ok (.aload_n 0, 1) := by decide +kernel
theorem dX0_seekQuestion_1 : decode cX0_seekQuestion 1 = .ok (.iload_n 2, 1) := by decide +kernel
theorem dX0_seekQuestion_2 : decode cX0_seekQuestion 2 = .ok (.invokestatic 50, 3) := by decide +kernel
theorem dX0_seekQuestion_5 : decode cX0_seekQuestion 5 = .ok (.invokevirtual 33, 3) := by decide +kernel
theorem dX0_seekQuestion_8 : decode cX0_seekQuestion 8 = .ok (.iconst 0, 1) := by decide +kernel
theorem dX0_seekQuestion_9 : decode cX0_seekQuestion 9 = .ok (.istore_n 3, 1) := by decide +kernel
theorem dX0_seekQuestion_10 : decode cX0_seekQuestion 10 = .ok (.iload_n 3, 1) := by decide +kernel
theorem dX0_seekQuestion_11 : decode cX0_seekQuestion 11 = .ok (.bipush 8, 2) := by decide +kernel
theorem dX0_seekQuestion_13 : decode cX0_seekQuestion 13 = .ok (.if_icmp .ge 21, 3) := by decide +kernel
theorem dX0_seekQuestion_16 : decode cX0_seekQuestion 16 = .ok (.aload_n 0, 1) := by decide +kernel
theorem dX0_seekQuestion_17 : decode cX0_seekQuestion 17 = .ok (.iload_n 3, 1) := by decide +kernel
theorem dX0_seekQuestion_18 : decode cX0_seekQuestion 18 = .ok (.aload_n 0, 1) := by decide +kernel
theorem dX0_seekQuestion_19 : decode cX0_seekQuestion 19 = .ok (.iload_n 1, 1) := by decide +kernel
theorem dX0_seekQuestion_20 : decode cX0_seekQuestion 20 = .ok (.iload_n 2, 1) := by decide +kernel
theorem dX0_seekQuestion_21 : decode cX0_seekQuestion 21 = .ok (.iload_n 3, 1) := by decide +kernel
theorem dX0_seekQuestion_22 : decode cX0_seekQuestion 22 = .ok (.invokevirtual 105, 3) := by decide +kernel
theorem dX0_seekQuestion_25 : decode cX0_seekQuestion 25 = .ok (.invokevirtual 87, 3) := by decide +kernel
theorem dX0_seekQuestion_28 : decode cX0_seekQuestion 28 = .ok (.iinc 3 1, 3) := by decide +kernel
theorem dX0_seekQuestion_31 : decode cX0_seekQuestion 31 = .ok (.goto (-21), 3) := by decide +kernel
theorem dX0_seekQuestion_34 : decode cX0_seekQuestion 34 = .ok (.return_, 1) := by decide +kernel
theorem dX0_leftAtWorst_0 : decode cX0_leftAtWorst 0 = .ok (.aload_n 0, 1) := by decide +kernel
theorem dX0_leftAtWorst_1 : decode cX0_leftAtWorst 1 = .ok (.getfield 18, 3) := by decide +kernel
theorem dX0_leftAtWorst_4 : decode cX0_leftAtWorst 4 = .ok (.iconst 0, 1) := by decide +kernel
theorem dX0_leftAtWorst_5 : decode cX0_leftAtWorst 5 = .ok (.invokestatic 109, 3) := by decide +kernel
theorem dX0_leftAtWorst_8 : decode cX0_leftAtWorst 8 = .ok (.iconst 0, 1) := by decide +kernel
theorem dX0_leftAtWorst_9 : decode cX0_leftAtWorst 9 = .ok (.istore 4, 2) := by decide +kernel
theorem dX0_leftAtWorst_11 : decode cX0_leftAtWorst 11 = .ok (.iconst 1, 1) := by decide +kernel
theorem dX0_leftAtWorst_12 : decode cX0_leftAtWorst 12 = .ok (.istore 5, 2) := by decide +kernel
theorem dX0_leftAtWorst_14 : decode cX0_leftAtWorst 14 = .ok (.iload 5, 2) := by decide +kernel
theorem dX0_leftAtWorst_16 : decode cX0_leftAtWorst 16 = .ok (.bipush 9, 2) := by decide +kernel
theorem dX0_leftAtWorst_18 : decode cX0_leftAtWorst 18 = .ok (.if_icmp .gt 81, 3) := by decide +kernel
theorem dX0_leftAtWorst_21 : decode cX0_leftAtWorst 21 = .ok (.iload_n 2, 1) := by decide +kernel
theorem dX0_leftAtWorst_22 : decode cX0_leftAtWorst 22 = .ok (.iload 5, 2) := by decide +kernel
theorem dX0_leftAtWorst_24 : decode cX0_leftAtWorst 24 = .ok (.ishr, 1) := by decide +kernel
theorem dX0_leftAtWorst_25 : decode cX0_leftAtWorst 25 = .ok (.iconst 1, 1) := by decide +kernel
theorem dX0_leftAtWorst_26 : decode cX0_leftAtWorst 26 = .ok (.iand, 1) := by decide +kernel
theorem dX0_leftAtWorst_27 : decode cX0_leftAtWorst 27 = .ok (.iconst 1, 1) := by decide +kernel
theorem dX0_leftAtWorst_28 : decode cX0_leftAtWorst 28 = .ok (.if_icmp .ne 65, 3) := by decide +kernel
theorem dX0_leftAtWorst_31 : decode cX0_leftAtWorst 31 = .ok (.aload_n 0, 1) := by decide +kernel
theorem dX0_leftAtWorst_32 : decode cX0_leftAtWorst 32 = .ok (.getfield 22, 3) := by decide +kernel
theorem dX0_leftAtWorst_35 : decode cX0_leftAtWorst 35 = .ok (.iload_n 1, 1) := by decide +kernel
theorem dX0_leftAtWorst_36 : decode cX0_leftAtWorst 36 = .ok (.iload 5, 2) := by decide +kernel
theorem dX0_leftAtWorst_38 : decode cX0_leftAtWorst 38 = .ok (.iload_n 3, 1) := by decide +kernel
theorem dX0_leftAtWorst_39 : decode cX0_leftAtWorst 39 = .ok (.invokevirtual 115, 3) := by decide +kernel
theorem dX0_leftAtWorst_42 : decode cX0_leftAtWorst 42 = .ok (.getfield 119, 3) := by decide +kernel
theorem dX0_leftAtWorst_45 : decode cX0_leftAtWorst 45 = .ok (.istore 6, 2) := by decide +kernel
theorem dX0_leftAtWorst_47 : decode cX0_leftAtWorst 47 = .ok (.aload_n 0, 1) := by decide +kernel
theorem dX0_leftAtWorst_48 : decode cX0_leftAtWorst 48 = .ok (.getfield 32, 3) := by decide +kernel
theorem dX0_leftAtWorst_51 : decode cX0_leftAtWorst 51 = .ok (.iload 6, 2) := by decide +kernel
theorem dX0_leftAtWorst_53 : decode cX0_leftAtWorst 53 = .ok (.invokevirtual 62, 3) := by decide +kernel
theorem dX0_leftAtWorst_56 : decode cX0_leftAtWorst 56 = .ok (.ifCond .eq 8, 3) := by decide +kernel
theorem dX0_leftAtWorst_59 : decode cX0_leftAtWorst 59 = .ok (.iload 6, 2) := by decide +kernel
theorem dX0_leftAtWorst_61 : decode cX0_leftAtWorst 61 = .ok (.goto 5, 3) := by decide +kernel
theorem dX0_leftAtWorst_64 : decode cX0_leftAtWorst 64 = .ok (.bipush 7, 2) := by decide +kernel
theorem dX0_leftAtWorst_66 : decode cX0_leftAtWorst 66 = .ok (.istore 7, 2) := by decide +kernel
theorem dX0_leftAtWorst_68 : decode cX0_leftAtWorst 68 = .ok (.aload_n 0, 1) := by decide +kernel
theorem dX0_leftAtWorst_69 : decode cX0_leftAtWorst 69 = .ok (.getfield 18, 3) := by decide +kernel
theorem dX0_leftAtWorst_72 : decode cX0_leftAtWorst 72 = .ok (.iload 7, 2) := by decide +kernel
theorem dX0_leftAtWorst_74 : decode cX0_leftAtWorst 74 = .ok (.dup2, 1) := by decide +kernel
theorem dX0_leftAtWorst_75 : decode cX0_leftAtWorst 75 = .ok (.iaload, 1) := by decide +kernel
theorem dX0_leftAtWorst_76 : decode cX0_leftAtWorst 76 = .ok (.iconst 1, 1) := by decide +kernel
theorem dX0_leftAtWorst_77 : decode cX0_leftAtWorst 77 = .ok (.iadd, 1) := by decide +kernel
theorem dX0_leftAtWorst_78 : decode cX0_leftAtWorst 78 = .ok (.iastore, 1) := by decide +kernel
theorem dX0_leftAtWorst_79 : decode cX0_leftAtWorst 79 = .ok (.iload 4, 2) := by decide +kernel
theorem dX0_leftAtWorst_81 : decode cX0_leftAtWorst 81 = .ok (.aload_n 0, 1) := by decide +kernel
theorem dX0_leftAtWorst_82 : decode cX0_leftAtWorst 82 = .ok (.getfield 18, 3) := by decide +kernel
theorem dX0_leftAtWorst_85 : decode cX0_leftAtWorst 85 = .ok (.iload 7, 2) := by decide +kernel
theorem dX0_leftAtWorst_87 : decode cX0_leftAtWorst 87 = .ok (.iaload, 1) := by decide +kernel
theorem dX0_leftAtWorst_88 : decode cX0_leftAtWorst 88 = .ok (.invokestatic 124, 3) := by decide +kernel
theorem dX0_leftAtWorst_91 : decode cX0_leftAtWorst 91 = .ok (.istore 4, 2) := by decide +kernel
theorem dX0_leftAtWorst_93 : decode cX0_leftAtWorst 93 = .ok (.iinc 5 1, 3) := by decide +kernel
theorem dX0_leftAtWorst_96 : decode cX0_leftAtWorst 96 = .ok (.goto (-82), 3) := by decide +kernel
theorem dX0_leftAtWorst_99 : decode cX0_leftAtWorst 99 = .ok (.iload 4, 2) := by decide +kernel
theorem dX0_leftAtWorst_101 : decode cX0_leftAtWorst 101 = .ok (.ireturn, 1) := by decide +kernel
theorem dX1_init_0 : decode cX1_init 0 = .ok (.aload_n 0, 1) := by decide +kernel
theorem dX1_init_1 : decode cX1_init 1 = .ok (.invokespecial 3, 3) := by decide +kernel
theorem dX1_init_4 : decode cX1_init 4 = .ok (.aload_n 0, 1) := by decide +kernel
theorem dX1_init_5 : decode cX1_init 5 = .ok (.bipush (-4), 2) := by decide +kernel
theorem dX1_init_7 : decode cX1_init 7 = .ok (.putfield 9, 3) := by decide +kernel
theorem dX1_init_10 : decode cX1_init 10 = .ok (.aload_n 0, 1) := by decide +kernel
theorem dX1_init_11 : decode cX1_init 11 = .ok (.bipush (-4), 2) := by decide +kernel
theorem dX1_init_13 : decode cX1_init 13 = .ok (.putfield 15, 3) := by decide +kernel
theorem dX1_init_16 : decode cX1_init 16 = .ok (.aload_n 0, 1) := by decide +kernel
theorem dX1_init_17 : decode cX1_init 17 = .ok (.iconst 0, 1) := by decide +kernel
theorem dX1_init_18 : decode cX1_init 18 = .ok (.putfield 18, 3) := by decide +kernel
theorem dX1_init_21 : decode cX1_init 21 = .ok (.aload_n 0, 1) := by decide +kernel
theorem dX1_init_22 : decode cX1_init 22 = .ok (.iconst 0, 1) := by decide +kernel
theorem dX1_init_23 : decode cX1_init 23 = .ok (.putfield 21, 3) := by decide +kernel
theorem dX1_init_26 : decode cX1_init 26 = .ok (.aload_n 0, 1) := by decide +kernel
theorem dX1_init_27 : decode cX1_init 27 = .ok (.iconst 0, 1) := by decide +kernel
theorem dX1_init_28 : decode cX1_init 28 = .ok (.putfield 24, 3) := by decide +kernel
theorem dX1_init_31 : decode cX1_init 31 = .ok (.aload_n 0, 1) := by decide +kernel
theorem dX1_init_32 : decode cX1_init 32 = .ok (.bipush 10, 2) := by decide +kernel
theorem dX1_init_34 : decode cX1_init 34 = .ok (.newarray .int, 2) := by decide +kernel
theorem dX1_init_36 : decode cX1_init 36 = .ok (.putfield 28, 3) := by decide +kernel
theorem dX1_init_39 : decode cX1_init 39 = .ok (.return_, 1) := by decide +kernel
theorem dX1_loss_0 : decode cX1_loss 0 = .ok (.iload_n 0, 1) := by decide +kernel
theorem dX1_loss_1 : decode cX1_loss 1 = .ok (.tableswitch 34 1 3 #[27, 29, 31], 27) := by decide +kernel
theorem dX1_loss_28 : decode cX1_loss 28 = .ok (.iconst 3, 1) := by decide +kernel
theorem dX1_loss_29 : decode cX1_loss 29 = .ok (.ireturn, 1) := by decide +kernel
theorem dX1_loss_30 : decode cX1_loss 30 = .ok (.iconst 1, 1) := by decide +kernel
theorem dX1_loss_31 : decode cX1_loss 31 = .ok (.ireturn, 1) := by decide +kernel
theorem dX1_loss_32 : decode cX1_loss 32 = .ok (.bipush 6, 2) := by decide +kernel
theorem dX1_loss_34 : decode cX1_loss 34 = .ok (.ireturn, 1) := by decide +kernel
theorem dX1_loss_35 : decode cX1_loss 35 = .ok (.iconst 2, 1) := by decide +kernel
theorem dX1_loss_36 : decode cX1_loss 36 = .ok (.ireturn, 1) := by decide +kernel
theorem dX1_turn_0 : decode cX1_turn 0 = .ok (.iload_n 1, 1) := by decide +kernel
theorem dX1_turn_1 : decode cX1_turn 1 = .ok (.iconst 2, 1) := by decide +kernel
theorem dX1_turn_2 : decode cX1_turn 2 = .ok (.irem, 1) := by decide +kernel
theorem dX1_turn_3 : decode cX1_turn 3 = .ok (.ifCond .ne 7, 3) := by decide +kernel
theorem dX1_turn_6 : decode cX1_turn 6 = .ok (.iconst (-1), 1) := by decide +kernel
theorem dX1_turn_7 : decode cX1_turn 7 = .ok (.goto 4, 3) := by decide +kernel
theorem dX1_turn_10 : decode cX1_turn 10 = .ok (.iconst 1, 1) := by decide +kernel
theorem dX1_turn_11 : decode cX1_turn 11 = .ok (.istore_n 2, 1) := by decide +kernel
theorem dX1_turn_12 : decode cX1_turn 12 = .ok (.iload_n 0, 1) := by decide +kernel
theorem dX1_turn_13 : decode cX1_turn 13 = .ok (.tableswitch 37 1 3 #[27, 30, 32], 27) := by decide +kernel
theorem dX1_turn_40 : decode cX1_turn 40 = .ok (.iload_n 2, 1) := by decide +kernel
theorem dX1_turn_41 : decode cX1_turn 41 = .ok (.ineg, 1) := by decide +kernel
theorem dX1_turn_42 : decode cX1_turn 42 = .ok (.ireturn, 1) := by decide +kernel
theorem dX1_turn_43 : decode cX1_turn 43 = .ok (.iconst 1, 1) := by decide +kernel
theorem dX1_turn_44 : decode cX1_turn 44 = .ok (.ireturn, 1) := by decide +kernel
theorem dX1_turn_45 : decode cX1_turn 45 = .ok (.bipush (-2), 2) := by decide +kernel
theorem dX1_turn_47 : decode cX1_turn 47 = .ok (.iload_n 2, 1) := by decide +kernel
theorem dX1_turn_48 : decode cX1_turn 48 = .ok (.imul, 1) := by decide +kernel
theorem dX1_turn_49 : decode cX1_turn 49 = .ok (.ireturn, 1) := by decide +kernel
theorem dX1_turn_50 : decode cX1_turn 50 = .ok (.iload_n 2, 1) := by decide +kernel
theorem dX1_turn_51 : decode cX1_turn 51 = .ok (.ireturn, 1) := by decide +kernel
theorem dX1_columnBeside_0 : decode cX1_columnBeside 0 = .ok (.iconst 0, 1) := by decide +kernel
theorem dX1_columnBeside_1 : decode cX1_columnBeside 1 = .ok (.bipush 7, 2) := by decide +kernel
theorem dX1_columnBeside_3 : decode cX1_columnBeside 3 = .ok (.iload_n 0, 1) := by decide +kernel
theorem dX1_columnBeside_4 : decode cX1_columnBeside 4 = .ok (.iload_n 1, 1) := by decide +kernel
theorem dX1_columnBeside_5 : decode cX1_columnBeside 5 = .ok (.iadd, 1) := by decide +kernel
theorem dX1_columnBeside_6 : decode cX1_columnBeside 6 = .ok (.invokestatic 32, 3) := by decide +kernel
theorem dX1_columnBeside_9 : decode cX1_columnBeside 9 = .ok (.invokestatic 38, 3) := by decide +kernel
theorem dX1_columnBeside_12 : decode cX1_columnBeside 12 = .ok (.ireturn, 1) := by decide +kernel
theorem dX1_startAfresh_0 : decode cX1_startAfresh 0 = .ok (.aload_n 0, 1) := by decide +kernel
theorem dX1_startAfresh_1 : decode cX1_startAfresh 1 = .ok (.bipush (-4), 2) := by decide +kernel
theorem dX1_startAfresh_3 : decode cX1_startAfresh 3 = .ok (.putfield 9, 3) := by decide +kernel
theorem dX1_startAfresh_6 : decode cX1_startAfresh 6 = .ok (.aload_n 0, 1) := by decide +kernel
theorem dX1_startAfresh_7 : decode cX1_startAfresh 7 = .ok (.bipush (-4), 2) := by decide +kernel
theorem dX1_startAfresh_9 : decode cX1_startAfresh 9 = .ok (.putfield 15, 3) := by decide +kernel
theorem dX1_startAfresh_12 : decode cX1_startAfresh 12 = .ok (.aload_n 0, 1) := by decide +kernel
theorem dX1_startAfresh_13 : decode cX1_startAfresh 13 = .ok (.iconst 0, 1) := by decide +kernel
theorem dX1_startAfresh_14 : decode cX1_startAfresh 14 = .ok (.putfield 18, 3) := by decide +kernel
theorem dX1_startAfresh_17 : decode cX1_startAfresh 17 = .ok (.aload_n 0, 1) := by decide +kernel
theorem dX1_startAfresh_18 : decode cX1_startAfresh 18 = .ok (.iconst 0, 1) := by decide +kernel
theorem dX1_startAfresh_19 : decode cX1_startAfresh 19 = .ok (.putfield 21, 3) := by decide +kernel
theorem dX1_startAfresh_22 : decode cX1_startAfresh 22 = .ok (.aload_n 0, 1) := by decide +kernel
theorem dX1_startAfresh_23 : decode cX1_startAfresh 23 = .ok (.iconst 0, 1) := by decide +kernel
theorem dX1_startAfresh_24 : decode cX1_startAfresh 24 = .ok (.putfield 24, 3) := by decide +kernel
theorem dX1_startAfresh_27 : decode cX1_startAfresh 27 = .ok (.return_, 1) := by decide +kernel
theorem dX1_follow_0 : decode cX1_follow 0 = .ok (.aload_n 0, 1) := by decide +kernel
theorem dX1_follow_1 : decode cX1_follow 1 = .ok (.invokevirtual 41, 3) := by decide +kernel
theorem dX1_follow_4 : decode cX1_follow 4 = .ok (.iload 4, 2) := by decide +kernel
theorem dX1_follow_6 : decode cX1_follow 6 = .ok (.istore 5, 2) := by decide +kernel
theorem dX1_follow_8 : decode cX1_follow 8 = .ok (.iload_n 3, 1) := by decide +kernel
theorem dX1_follow_9 : decode cX1_follow 9 = .ok (.istore 6, 2) := by decide +kernel
theorem dX1_follow_11 : decode cX1_follow 11 = .ok (.iconst 0, 1) := by decide +kernel
theorem dX1_follow_12 : decode cX1_follow 12 = .ok (.istore 7, 2) := by decide +kernel
theorem dX1_follow_14 : decode cX1_follow 14 = .ok (.iload 7, 2) := by decide +kernel
theorem dX1_follow_16 : decode cX1_follow 16 = .ok (.bipush 10, 2) := by decide +kernel
theorem dX1_follow_18 : decode cX1_follow 18 = .ok (.if_icmp .ge 115, 3) := by decide +kernel
theorem dX1_follow_21 : decode cX1_follow 21 = .ok (.aload_n 0, 1) := by decide +kernel
theorem dX1_follow_22 : decode cX1_follow 22 = .ok (.iload 7, 2) := by decide +kernel
theorem dX1_follow_24 : decode cX1_follow 24 = .ok (.putfield 18, 3) := by decide +kernel
theorem dX1_follow_27 : decode cX1_follow 27 = .ok (.aload_n 0, 1) := by decide +kernel
theorem dX1_follow_28 : decode cX1_follow 28 = .ok (.getfield 28, 3) := by decide +kernel
theorem dX1_follow_31 : decode cX1_follow 31 = .ok (.iload 7, 2) := by decide +kernel
theorem dX1_follow_33 : decode cX1_follow 33 = .ok (.iload 5, 2) := by decide +kernel
theorem dX1_follow_35 : decode cX1_follow 35 = .ok (.iastore, 1) := by decide +kernel
theorem dX1_follow_36 : decode cX1_follow 36 = .ok (.aload_n 1, 1) := by decide +kernel
theorem dX1_follow_37 : decode cX1_follow 37 = .ok (.bipush 10, 2) := by decide +kernel
theorem dX1_follow_39 : decode cX1_follow 39 = .ok (.iload 7, 2) := by decide +kernel
theorem dX1_follow_41 : decode cX1_follow 41 = .ok (.imul, 1) := by decide +kernel
theorem dX1_follow_42 : decode cX1_follow 42 = .ok (.iload 5, 2) := by decide +kernel
theorem dX1_follow_44 : decode cX1_follow 44 = .ok (.iadd, 1) := by decide +kernel
theorem dX1_follow_45 : decode cX1_follow 45 = .ok (.invokevirtual 44, 3) := by decide +kernel
theorem dX1_follow_48 : decode cX1_follow 48 = .ok (.istore 8, 2) := by decide +kernel
theorem dX1_follow_50 : decode cX1_follow 50 = .ok (.iload 8, 2) := by decide +kernel
theorem dX1_follow_52 : decode cX1_follow 52 = .ok (.bipush (-2), 2) := by decide +kernel
theorem dX1_follow_54 : decode cX1_follow 54 = .ok (.if_icmp .ne 9, 3) := by decide +kernel
theorem dX1_follow_57 : decode cX1_follow 57 = .ok (.aload_n 0, 1) := by decide +kernel
theorem dX1_follow_58 : decode cX1_follow 58 = .ok (.iconst 1, 1) := by decide +kernel
theorem dX1_follow_59 : decode cX1_follow 59 = .ok (.putfield 24, 3) := by decide +kernel
theorem dX1_follow_62 : decode cX1_follow 62 = .ok (.return_, 1) := by decide +kernel
theorem dX1_follow_63 : decode cX1_follow 63 = .ok (.aload_n 1, 1) := by decide +kernel
theorem dX1_follow_64 : decode cX1_follow 64 = .ok (.iload 8, 2) := by decide +kernel
theorem dX1_follow_66 : decode cX1_follow 66 = .ok (.invokevirtual 50, 3) := by decide +kernel
theorem dX1_follow_69 : decode cX1_follow 69 = .ok (.ifCond .eq 58, 3) := by decide +kernel
theorem dX1_follow_72 : decode cX1_follow 72 = .ok (.aload_n 0, 1) := by decide +kernel
theorem dX1_follow_73 : decode cX1_follow 73 = .ok (.dup, 1) := by decide +kernel
theorem dX1_follow_74 : decode cX1_follow 74 = .ok (.getfield 21, 3) := by decide +kernel
theorem dX1_follow_77 : decode cX1_follow 77 = .ok (.iconst 1, 1) := by decide +kernel
theorem dX1_follow_78 : decode cX1_follow 78 = .ok (.iadd, 1) := by decide +kernel
theorem dX1_follow_79 : decode cX1_follow 79 = .ok (.putfield 21, 3) := by decide +kernel
theorem dX1_follow_82 : decode cX1_follow 82 = .ok (.iload 6, 2) := by decide +kernel
theorem dX1_follow_84 : decode cX1_follow 84 = .ok (.iload_n 2, 1) := by decide +kernel
theorem dX1_follow_85 : decode cX1_follow 85 = .ok (.invokestatic 54, 3) := by decide +kernel
theorem dX1_follow_88 : decode cX1_follow 88 = .ok (.isub, 1) := by decide +kernel
theorem dX1_follow_89 : decode cX1_follow 89 = .ok (.istore 6, 2) := by decide +kernel
theorem dX1_follow_91 : decode cX1_follow 91 = .ok (.iload 6, 2) := by decide +kernel
theorem dX1_follow_93 : decode cX1_follow 93 = .ok (.ifCond .gt 21, 3) := by decide +kernel
theorem dX1_follow_96 : decode cX1_follow 96 = .ok (.aload_n 0, 1) := by decide +kernel
theorem dX1_follow_97 : decode cX1_follow 97 = .ok (.iload 8, 2) := by decide +kernel
theorem dX1_follow_99 : decode cX1_follow 99 = .ok (.putfield 9, 3) := by decide +kernel
theorem dX1_follow_102 : decode cX1_follow 102 = .ok (.aload_n 0, 1) := by decide +kernel
theorem dX1_follow_103 : decode cX1_follow 103 = .ok (.aload_n 1, 1) := by decide +kernel
theorem dX1_follow_104 : decode cX1_follow 104 = .ok (.getfield 57, 3) := by decide +kernel
theorem dX1_follow_107 : decode cX1_follow 107 = .ok (.iload 8, 2) := by decide +kernel
theorem dX1_follow_109 : decode cX1_follow 109 = .ok (.iaload, 1) := by decide +kernel
theorem dX1_follow_110 : decode cX1_follow 110 = .ok (.putfield 15, 3) := by decide +kernel
theorem dX1_follow_113 : decode cX1_follow 113 = .ok (.return_, 1) := by decide +kernel
theorem dX1_follow_114 : decode cX1_follow 114 = .ok (.iload 5, 2) := by decide +kernel
theorem dX1_follow_116 : decode cX1_follow 116 = .ok (.iload_n 2, 1) := by decide +kernel
theorem dX1_follow_117 : decode cX1_follow 117 = .ok (.iload 7, 2) := by decide +kernel
theorem dX1_follow_119 : decode cX1_follow 119 = .ok (.invokestatic 60, 3) := by decide +kernel
theorem dX1_follow_122 : decode cX1_follow 122 = .ok (.invokestatic 63, 3) := by decide +kernel
theorem dX1_follow_125 : decode cX1_follow 125 = .ok (.istore 5, 2) := by decide +kernel
theorem dX1_follow_127 : decode cX1_follow 127 = .ok (.iinc 7 1, 3) := by decide +kernel
theorem dX1_follow_130 : decode cX1_follow 130 = .ok (.goto (-116), 3) := by decide +kernel
theorem dX1_follow_133 : decode cX1_follow 133 = .ok (.aload_n 0, 1) := by decide +kernel
theorem dX1_follow_134 : decode cX1_follow 134 = .ok (.bipush 10, 2) := by decide +kernel
theorem dX1_follow_136 : decode cX1_follow 136 = .ok (.putfield 18, 3) := by decide +kernel
theorem dX1_follow_139 : decode cX1_follow 139 = .ok (.return_, 1) := by decide +kernel
theorem dX2_init_0 : decode cX2_init 0 = .ok (.aload_n 0, 1) := by decide +kernel
theorem dX2_init_1 : decode cX2_init 1 = .ok (.invokespecial 3, 3) := by decide +kernel
theorem dX2_init_4 : decode cX2_init 4 = .ok (.aload_n 0, 1) := by decide +kernel
theorem dX2_init_5 : decode cX2_init 5 = .ok (.new 9, 3) := by decide +kernel
theorem dX2_init_8 : decode cX2_init 8 = .ok (.dup, 1) := by decide +kernel
theorem dX2_init_9 : decode cX2_init 9 = .ok (.invokespecial 11, 3) := by decide +kernel
theorem dX2_init_12 : decode cX2_init 12 = .ok (.putfield 12, 3) := by decide +kernel
theorem dX2_init_15 : decode cX2_init 15 = .ok (.aload_n 0, 1) := by decide +kernel
theorem dX2_init_16 : decode cX2_init 16 = .ok (.aload_n 1, 1) := by decide +kernel
theorem dX2_init_17 : decode cX2_init 17 = .ok (.putfield 18, 3) := by decide +kernel
theorem dX2_init_20 : decode cX2_init 20 = .ok (.return_, 1) := by decide +kernel
theorem dX2_letGo_0 : decode cX2_letGo 0 = .ok (.aload_n 0, 1) := by decide +kernel
theorem dX2_letGo_1 : decode cX2_letGo 1 = .ok (.getfield 12, 3) := by decide +kernel
theorem dX2_letGo_4 : decode cX2_letGo 4 = .ok (.invokevirtual 22, 3) := by decide +kernel
theorem dX2_letGo_7 : decode cX2_letGo 7 = .ok (.aload_n 0, 1) := by decide +kernel
theorem dX2_letGo_8 : decode cX2_letGo 8 = .ok (.getfield 18, 3) := by decide +kernel
theorem dX2_letGo_11 : decode cX2_letGo 11 = .ok (.iload_n 1, 1) := by decide +kernel
theorem dX2_letGo_12 : decode cX2_letGo 12 = .ok (.invokevirtual 25, 3) := by decide +kernel
theorem dX2_letGo_15 : decode cX2_letGo 15 = .ok (.ifCond .eq 33, 3) := by decide +kernel
theorem dX2_letGo_18 : decode cX2_letGo 18 = .ok (.aload_n 0, 1) := by decide +kernel
theorem dX2_letGo_19 : decode cX2_letGo 19 = .ok (.getfield 12, 3) := by decide +kernel
theorem dX2_letGo_22 : decode cX2_letGo 22 = .ok (.aload_n 0, 1) := by decide +kernel
theorem dX2_letGo_23 : decode cX2_letGo 23 = .ok (.getfield 18, 3) := by decide +kernel
theorem dX2_letGo_26 : decode cX2_letGo 26 = .ok (.aload_n 0, 1) := by decide +kernel
theorem dX2_letGo_27 : decode cX2_letGo 27 = .ok (.getfield 18, 3) := by decide +kernel
theorem dX2_letGo_30 : decode cX2_letGo 30 = .ok (.getfield 31, 3) := by decide +kernel
theorem dX2_letGo_33 : decode cX2_letGo 33 = .ok (.iload_n 1, 1) := by decide +kernel
theorem dX2_letGo_34 : decode cX2_letGo 34 = .ok (.iaload, 1) := by decide +kernel
theorem dX2_letGo_35 : decode cX2_letGo 35 = .ok (.aload_n 0, 1) := by decide +kernel
theorem dX2_letGo_36 : decode cX2_letGo 36 = .ok (.getfield 18, 3) := by decide +kernel
theorem dX2_letGo_39 : decode cX2_letGo 39 = .ok (.getfield 35, 3) := by decide +kernel
theorem dX2_letGo_42 : decode cX2_letGo 42 = .ok (.iload_n 1, 1) := by decide +kernel
theorem dX2_letGo_43 : decode cX2_letGo 43 = .ok (.iaload, 1) := by decide +kernel
theorem dX2_letGo_44 : decode cX2_letGo 44 = .ok (.iload_n 2, 1) := by decide +kernel
theorem dX2_letGo_45 : decode cX2_letGo 45 = .ok (.invokevirtual 38, 3) := by decide +kernel
theorem dX2_letGo_48 : decode cX2_letGo 48 = .ok (.aload_n 0, 1) := by decide +kernel
theorem dX2_letGo_49 : decode cX2_letGo 49 = .ok (.getfield 12, 3) := by decide +kernel
theorem dX2_letGo_52 : decode cX2_letGo 52 = .ok (.areturn, 1) := by decide +kernel
theorem dX2_letGoAs_0 : decode cX2_letGoAs 0 = .ok (.aload_n 0, 1) := by decide +kernel
theorem dX2_letGoAs_1 : decode cX2_letGoAs 1 = .ok (.getfield 12, 3) := by decide +kernel
theorem dX2_letGoAs_4 : decode cX2_letGoAs 4 = .ok (.aload_n 0, 1) := by decide +kernel
theorem dX2_letGoAs_5 : decode cX2_letGoAs 5 = .ok (.getfield 18, 3) := by decide +kernel
theorem dX2_letGoAs_8 : decode cX2_letGoAs 8 = .ok (.iload_n 1, 1) := by decide +kernel
theorem dX2_letGoAs_9 : decode cX2_letGoAs 9 = .ok (.iload_n 2, 1) := by decide +kernel
theorem dX2_letGoAs_10 : decode cX2_letGoAs 10 = .ok (.iload_n 3, 1) := by decide +kernel
theorem dX2_letGoAs_11 : decode cX2_letGoAs 11 = .ok (.invokevirtual 38, 3) := by decide +kernel
theorem dX2_letGoAs_14 : decode cX2_letGoAs 14 = .ok (.aload_n 0, 1) := by decide +kernel
theorem dX2_letGoAs_15 : decode cX2_letGoAs 15 = .ok (.getfield 12, 3) := by decide +kernel
theorem dX2_letGoAs_18 : decode cX2_letGoAs 18 = .ok (.areturn, 1) := by decide +kernel
theorem dX2_letGoInSuit_0 : decode cX2_letGoInSuit 0 = .ok (.aload_n 0, 1) := by decide +kernel
theorem dX2_letGoInSuit_1 : decode cX2_letGoInSuit 1 = .ok (.getfield 12, 3) := by decide +kernel
theorem dX2_letGoInSuit_4 : decode cX2_letGoInSuit 4 = .ok (.invokevirtual 22, 3) := by decide +kernel
theorem dX2_letGoInSuit_7 : decode cX2_letGoInSuit 7 = .ok (.aload_n 0, 1) := by decide +kernel
theorem dX2_letGoInSuit_8 : decode cX2_letGoInSuit 8 = .ok (.getfield 18, 3) := by decide +kernel
theorem dX2_letGoInSuit_11 : decode cX2_letGoInSuit 11 = .ok (.iload_n 1, 1) := by decide +kernel
theorem dX2_letGoInSuit_12 : decode cX2_letGoInSuit 12 = .ok (.invokevirtual 42, 3) := by decide +kernel
theorem dX2_letGoInSuit_15 : decode cX2_letGoInSuit 15 = .ok (.ifCond .eq 70, 3) := by decide +kernel
theorem dX2_letGoInSuit_18 : decode cX2_letGoInSuit 18 = .ok (.aload_n 0, 1) := by decide +kernel
theorem dX2_letGoInSuit_19 : decode cX2_letGoInSuit 19 = .ok (.getfield 18, 3) := by decide +kernel
theorem dX2_letGoInSuit_22 : decode cX2_letGoInSuit 22 = .ok (.aload_n 0, 1) := by decide +kernel
theorem dX2_letGoInSuit_23 : decode cX2_letGoInSuit 23 = .ok (.getfield 18, 3) := by decide +kernel
theorem dX2_letGoInSuit_26 : decode cX2_letGoInSuit 26 = .ok (.getfield 45, 3) := by decide +kernel
theorem dX2_letGoInSuit_29 : decode cX2_letGoInSuit 29 = .ok (.iload_n 1, 1) := by decide +kernel
theorem dX2_letGoInSuit_30 : decode cX2_letGoInSuit 30 = .ok (.iaload, 1) := by decide +kernel
theorem dX2_letGoInSuit_31 : decode cX2_letGoInSuit 31 = .ok (.invokevirtual 25, 3) := by decide +kernel
theorem dX2_letGoInSuit_34 : decode cX2_letGoInSuit 34 = .ok (.ifCond .eq 51, 3) := by decide +kernel
theorem dX2_letGoInSuit_37 : decode cX2_letGoInSuit 37 = .ok (.aload_n 0, 1) := by decide +kernel
theorem dX2_letGoInSuit_38 : decode cX2_letGoInSuit 38 = .ok (.getfield 18, 3) := by decide +kernel
theorem dX2_letGoInSuit_41 : decode cX2_letGoInSuit 41 = .ok (.getfield 45, 3) := by decide +kernel
theorem dX2_letGoInSuit_44 : decode cX2_letGoInSuit 44 = .ok (.iload_n 1, 1) := by decide +kernel
theorem dX2_letGoInSuit_45 : decode cX2_letGoInSuit 45 = .ok (.iaload, 1) := by decide +kernel
theorem dX2_letGoInSuit_46 : decode cX2_letGoInSuit 46 = .ok (.istore_n 2, 1) := by decide +kernel
theorem dX2_letGoInSuit_47 : decode cX2_letGoInSuit 47 = .ok (.aload_n 0, 1) := by decide +kernel
theorem dX2_letGoInSuit_48 : decode cX2_letGoInSuit 48 = .ok (.getfield 12, 3) := by decide +kernel
theorem dX2_letGoInSuit_51 : decode cX2_letGoInSuit 51 = .ok (.aload_n 0, 1) := by decide +kernel
theorem dX2_letGoInSuit_52 : decode cX2_letGoInSuit 52 = .ok (.getfield 18, 3) := by decide +kernel
theorem dX2_letGoInSuit_55 : decode cX2_letGoInSuit 55 = .ok (.aload_n 0, 1) := by decide +kernel
theorem dX2_letGoInSuit_56 : decode cX2_letGoInSuit 56 = .ok (.getfield 18, 3) := by decide +kernel
theorem dX2_letGoInSuit_59 : decode cX2_letGoInSuit 59 = .ok (.getfield 31, 3) := by decide +kernel
theorem dX2_letGoInSuit_62 : decode cX2_letGoInSuit 62 = .ok (.iload_n 2, 1) := by decide +kernel
theorem dX2_letGoInSuit_63 : decode cX2_letGoInSuit 63 = .ok (.iaload, 1) := by decide +kernel
theorem dX2_letGoInSuit_64 : decode cX2_letGoInSuit 64 = .ok (.aload_n 0, 1) := by decide +kernel
theorem dX2_letGoInSuit_65 : decode cX2_letGoInSuit 65 = .ok (.getfield 18, 3) := by decide +kernel
theorem dX2_letGoInSuit_68 : decode cX2_letGoInSuit 68 = .ok (.getfield 35, 3) := by decide +kernel
theorem dX2_letGoInSuit_71 : decode cX2_letGoInSuit 71 = .ok (.iload_n 2, 1) := by decide +kernel
theorem dX2_letGoInSuit_72 : decode cX2_letGoInSuit 72 = .ok (.iaload, 1) := by decide +kernel
theorem dX2_letGoInSuit_73 : decode cX2_letGoInSuit 73 = .ok (.aload_n 0, 1) := by decide +kernel
theorem dX2_letGoInSuit_74 : decode cX2_letGoInSuit 74 = .ok (.getfield 18, 3) := by decide +kernel
theorem dX2_letGoInSuit_77 : decode cX2_letGoInSuit 77 = .ok (.getfield 48, 3) := by decide +kernel
theorem dX2_letGoInSuit_80 : decode cX2_letGoInSuit 80 = .ok (.iload_n 1, 1) := by decide +kernel
theorem dX2_letGoInSuit_81 : decode cX2_letGoInSuit 81 = .ok (.iaload, 1) := by decide +kernel
theorem dX2_letGoInSuit_82 : decode cX2_letGoInSuit 82 = .ok (.invokevirtual 38, 3) := by decide +kernel
theorem dX2_letGoInSuit_85 : decode cX2_letGoInSuit 85 = .ok (.aload_n 0, 1) := by decide +kernel
theorem dX2_letGoInSuit_86 : decode cX2_letGoInSuit 86 = .ok (.getfield 12, 3) := by decide +kernel
theorem dX2_letGoInSuit_89 : decode cX2_letGoInSuit 89 = .ok (.areturn, 1) := by decide +kernel
theorem dX2_decided_0 : decode cX2_decided 0 = .ok (.iconst 0, 1) := by decide +kernel
theorem dX2_decided_1 : decode cX2_decided 1 = .ok (.istore_n 1, 1) := by decide +kernel
theorem dX2_decided_2 : decode cX2_decided 2 = .ok (.iconst 0, 1) := by decide +kernel
theorem dX2_decided_3 : decode cX2_decided 3 = .ok (.istore_n 2, 1) := by decide +kernel
theorem dX2_decided_4 : decode cX2_decided 4 = .ok (.iload_n 2, 1) := by decide +kernel
theorem dX2_decided_5 : decode cX2_decided 5 = .ok (.aload_n 0, 1) := by decide +kernel
theorem dX2_decided_6 : decode cX2_decided 6 = .ok (.getfield 18, 3) := by decide +kernel
theorem dX2_decided_9 : decode cX2_decided 9 = .ok (.getfield 51, 3) := by decide +kernel
theorem dX2_decided_12 : decode cX2_decided 12 = .ok (.if_icmp .ge 28, 3) := by decide +kernel
theorem dX2_decided_15 : decode cX2_decided 15 = .ok (.aload_n 0, 1) := by decide +kernel
theorem dX2_decided_16 : decode cX2_decided 16 = .ok (.iload_n 2, 1) := by decide +kernel
theorem dX2_decided_17 : decode cX2_decided 17 = .ok (.invokevirtual 55, 3) := by decide +kernel
theorem dX2_decided_20 : decode cX2_decided 20 = .ok (.getfield 59, 3) := by decide +kernel
theorem dX2_decided_23 : decode cX2_decided 23 = .ok (.bipush (-4), 2) := by decide +kernel
theorem dX2_decided_25 : decode cX2_decided 25 = .ok (.if_icmp .eq 9, 3) := by decide +kernel
theorem dX2_decided_28 : decode cX2_decided 28 = .ok (.iload_n 1, 1) := by decide +kernel
theorem dX2_decided_29 : decode cX2_decided 29 = .ok (.iconst 1, 1) := by decide +kernel
theorem dX2_decided_30 : decode cX2_decided 30 = .ok (.iload_n 2, 1) := by decide +kernel
theorem dX2_decided_31 : decode cX2_decided 31 = .ok (.ishl, 1) := by decide +kernel
theorem dX2_decided_32 : decode cX2_decided 32 = .ok (.ior, 1) := by decide +kernel
theorem dX2_decided_33 : decode cX2_decided 33 = .ok (.istore_n 1, 1) := by decide +kernel
theorem dX2_decided_34 : decode cX2_decided 34 = .ok (.iinc 2 1, 3) := by decide +kernel
theorem dX2_decided_37 : decode cX2_decided 37 = .ok (.goto (-33), 3) := by decide +kernel
theorem dX2_decided_40 : decode cX2_decided 40 = .ok (.iload_n 1, 1) := by decide +kernel
theorem dX2_decided_41 : decode cX2_decided 41 = .ok (.ireturn, 1) := by decide +kernel
theorem dX2_wonBy_0 : decode cX2_wonBy 0 = .ok (.iconst 0, 1) := by decide +kernel
theorem dX2_wonBy_1 : decode cX2_wonBy 1 = .ok (.istore_n 2, 1) := by decide +kernel
theorem dX2_wonBy_2 : decode cX2_wonBy 2 = .ok (.iconst 0, 1) := by decide +kernel
theorem dX2_wonBy_3 : decode cX2_wonBy 3 = .ok (.istore_n 3, 1) := by decide +kernel
theorem dX2_wonBy_4 : decode cX2_wonBy 4 = .ok (.iload_n 3, 1) := by decide +kernel
theorem dX2_wonBy_5 : decode cX2_wonBy 5 = .ok (.aload_n 0, 1) := by decide +kernel
theorem dX2_wonBy_6 : decode cX2_wonBy 6 = .ok (.getfield 18, 3) := by decide +kernel
theorem dX2_wonBy_9 : decode cX2_wonBy 9 = .ok (.getfield 51, 3) := by decide +kernel
theorem dX2_wonBy_12 : decode cX2_wonBy 12 = .ok (.if_icmp .ge 27, 3) := by decide +kernel
theorem dX2_wonBy_15 : decode cX2_wonBy 15 = .ok (.aload_n 0, 1) := by decide +kernel
theorem dX2_wonBy_16 : decode cX2_wonBy 16 = .ok (.iload_n 3, 1) := by decide +kernel
theorem dX2_wonBy_17 : decode cX2_wonBy 17 = .ok (.invokevirtual 55, 3) := by decide +kernel
theorem dX2_wonBy_20 : decode cX2_wonBy 20 = .ok (.getfield 59, 3) := by decide +kernel
theorem dX2_wonBy_23 : decode cX2_wonBy 23 = .ok (.iload_n 1, 1) := by decide +kernel
theorem dX2_wonBy_24 : decode cX2_wonBy 24 = .ok (.if_icmp .ne 9, 3) := by decide +kernel
theorem dX2_wonBy_27 : decode cX2_wonBy 27 = .ok (.iload_n 2, 1) := by decide +kernel
theorem dX2_wonBy_28 : decode cX2_wonBy 28 = .ok (.iconst 1, 1) := by decide +kernel
theorem dX2_wonBy_29 : decode cX2_wonBy 29 = .ok (.iload_n 3, 1) := by decide +kernel
theorem dX2_wonBy_30 : decode cX2_wonBy 30 = .ok (.ishl, 1) := by decide +kernel
theorem dX2_wonBy_31 : decode cX2_wonBy 31 = .ok (.ior, 1) := by decide +kernel
theorem dX2_wonBy_32 : decode cX2_wonBy 32 = .ok (.istore_n 2, 1) := by decide +kernel
theorem dX2_wonBy_33 : decode cX2_wonBy 33 = .ok (.iinc 3 1, 3) := by decide +kernel
theorem dX2_wonBy_36 : decode cX2_wonBy 36 = .ok (.goto (-32), 3) := by decide +kernel
theorem dX2_wonBy_39 : decode cX2_wonBy 39 = .ok (.iload_n 2, 1) := by decide +kernel
theorem dX2_wonBy_40 : decode cX2_wonBy 40 = .ok (.ireturn, 1) := by decide +kernel
theorem dX2_wonByOthers_0 : decode cX2_wonByOthers 0 = .ok (.iconst 0, 1) := by decide +kernel
theorem dX2_wonByOthers_1 : decode cX2_wonByOthers 1 = .ok (.istore_n 2, 1) := by decide +kernel
theorem dX2_wonByOthers_2 : decode cX2_wonByOthers 2 = .ok (.iconst 0, 1) := by decide +kernel
theorem dX2_wonByOthers_3 : decode cX2_wonByOthers 3 = .ok (.istore_n 3, 1) := by decide +kernel
theorem dX2_wonByOthers_4 : decode cX2_wonByOthers 4 = .ok (.iload_n 3, 1) := by decide +kernel
theorem dX2_wonByOthers_5 : decode cX2_wonByOthers 5 = .ok (.aload_n 0, 1) := by decide +kernel
theorem dX2_wonByOthers_6 : decode cX2_wonByOthers 6 = .ok (.getfield 18, 3) := by decide +kernel
theorem dX2_wonByOthers_9 : decode cX2_wonByOthers 9 = .ok (.getfield 51, 3) := by decide +kernel
theorem dX2_wonByOthers_12 : decode cX2_wonByOthers 12 = .ok (.if_icmp .ge 38, 3) := by decide +kernel
theorem dX2_wonByOthers_15 : decode cX2_wonByOthers 15 = .ok (.aload_n 0, 1) := by decide +kernel
theorem dX2_wonByOthers_16 : decode cX2_wonByOthers 16 = .ok (.iload_n 3, 1) := by decide +kernel
theorem dX2_wonByOthers_17 : decode cX2_wonByOthers 17 = .ok (.invokevirtual 55, 3) := by decide +kernel
theorem dX2_wonByOthers_20 : decode cX2_wonByOthers 20 = .ok (.getfield 59, 3) := by decide +kernel
theorem dX2_wonByOthers_23 : decode cX2_wonByOthers 23 = .ok (.istore 4, 2) := by decide +kernel
theorem dX2_wonByOthers_25 : decode cX2_wonByOthers 25 = .ok (.iload 4, 2) := by decide +kernel
theorem dX2_wonByOthers_27 : decode cX2_wonByOthers 27 = .ok (.bipush (-4), 2) := by decide +kernel
theorem dX2_wonByOthers_29 : decode cX2_wonByOthers 29 = .ok (.if_icmp .eq 15, 3) := by decide +kernel
theorem dX2_wonByOthers_32 : decode cX2_wonByOthers 32 = .ok (.iload 4, 2) := by decide +kernel
theorem dX2_wonByOthers_34 : decode cX2_wonByOthers 34 = .ok (.iload_n 1, 1) := by decide +kernel
theorem dX2_wonByOthers_35 : decode cX2_wonByOthers 35 = .ok (.if_icmp .eq 9, 3) := by decide +kernel
theorem dX2_wonByOthers_38 : decode cX2_wonByOthers 38 = .ok (.iload_n 2, 1) := by decide +kernel
theorem dX2_wonByOthers_39 : decode cX2_wonByOthers 39 = .ok (.iconst 1, 1) := by decide +kernel
theorem dX2_wonByOthers_40 : decode cX2_wonByOthers 40 = .ok (.iload_n 3, 1) := by decide +kernel
theorem dX2_wonByOthers_41 : decode cX2_wonByOthers 41 = .ok (.ishl, 1) := by decide +kernel
theorem dX2_wonByOthers_42 : decode cX2_wonByOthers 42 = .ok (.ior, 1) := by decide +kernel
theorem dX2_wonByOthers_43 : decode cX2_wonByOthers 43 = .ok (.istore_n 2, 1) := by decide +kernel
theorem dX2_wonByOthers_44 : decode cX2_wonByOthers 44 = .ok (.iinc 3 1, 3) := by decide +kernel
theorem dX2_wonByOthers_47 : decode cX2_wonByOthers 47 = .ok (.goto (-43), 3) := by decide +kernel
theorem dX2_wonByOthers_50 : decode cX2_wonByOthers 50 = .ok (.iload_n 2, 1) := by decide +kernel
theorem dX2_wonByOthers_51 : decode cX2_wonByOthers 51 = .ok (.ireturn, 1) := by decide +kernel
theorem dX2_opened_0 : decode cX2_opened 0 = .ok (.iconst 0, 1) := by decide +kernel
theorem dX2_opened_1 : decode cX2_opened 1 = .ok (.istore_n 1, 1) := by decide +kernel
theorem dX2_opened_2 : decode cX2_opened 2 = .ok (.iconst 0, 1) := by decide +kernel
theorem dX2_opened_3 : decode cX2_opened 3 = .ok (.istore_n 2, 1) := by decide +kernel
theorem dX2_opened_4 : decode cX2_opened 4 = .ok (.iload_n 2, 1) := by decide +kernel
theorem dX2_opened_5 : decode cX2_opened 5 = .ok (.aload_n 0, 1) := by decide +kernel
theorem dX2_opened_6 : decode cX2_opened 6 = .ok (.getfield 18, 3) := by decide +kernel
theorem dX2_opened_9 : decode cX2_opened 9 = .ok (.getfield 51, 3) := by decide +kernel
theorem dX2_opened_12 : decode cX2_opened 12 = .ok (.if_icmp .ge 26, 3) := by decide +kernel
theorem dX2_opened_15 : decode cX2_opened 15 = .ok (.aload_n 0, 1) := by decide +kernel
theorem dX2_opened_16 : decode cX2_opened 16 = .ok (.iload_n 2, 1) := by decide +kernel
theorem dX2_opened_17 : decode cX2_opened 17 = .ok (.invokevirtual 55, 3) := by decide +kernel
theorem dX2_opened_20 : decode cX2_opened 20 = .ok (.getfield 62, 3) := by decide +kernel
theorem dX2_opened_23 : decode cX2_opened 23 = .ok (.ifCond .eq 9, 3) := by decide +kernel
theorem dX2_opened_26 : decode cX2_opened 26 = .ok (.iload_n 1, 1) := by decide +kernel
theorem dX2_opened_27 : decode cX2_opened 27 = .ok (.iconst 1, 1) := by decide +kernel
theorem dX2_opened_28 : decode cX2_opened 28 = .ok (.iload_n 2, 1) := by decide +kernel
theorem dX2_opened_29 : decode cX2_opened 29 = .ok (.ishl, 1) := by decide +kernel
theorem dX2_opened_30 : decode cX2_opened 30 = .ok (.ior, 1) := by decide +kernel
theorem dX2_opened_31 : decode cX2_opened 31 = .ok (.istore_n 1, 1) := by decide +kernel
theorem dX2_opened_32 : decode cX2_opened 32 = .ok (.iinc 2 1, 3) := by decide +kernel
theorem dX2_opened_35 : decode cX2_opened 35 = .ok (.goto (-31), 3) := by decide +kernel
theorem dX2_opened_38 : decode cX2_opened 38 = .ok (.iload_n 1, 1) := by decide +kernel
theorem dX2_opened_39 : decode cX2_opened 39 = .ok (.ireturn, 1) := by decide +kernel
theorem dX2_restedOn_0 : decode cX2_restedOn 0 = .ok (.iconst 0, 1) := by decide +kernel
theorem dX2_restedOn_1 : decode cX2_restedOn 1 = .ok (.istore_n 2, 1) := by decide +kernel
theorem dX2_restedOn_2 : decode cX2_restedOn 2 = .ok (.iconst 0, 1) := by decide +kernel
theorem dX2_restedOn_3 : decode cX2_restedOn 3 = .ok (.istore_n 3, 1) := by decide +kernel
theorem dX2_restedOn_4 : decode cX2_restedOn 4 = .ok (.iload_n 3, 1) := by decide +kernel
theorem dX2_restedOn_5 : decode cX2_restedOn 5 = .ok (.aload_n 0, 1) := by decide +kernel
theorem dX2_restedOn_6 : decode cX2_restedOn 6 = .ok (.getfield 18, 3) := by decide +kernel
theorem dX2_restedOn_9 : decode cX2_restedOn 9 = .ok (.getfield 51, 3) := by decide +kernel
theorem dX2_restedOn_12 : decode cX2_restedOn 12 = .ok (.if_icmp .ge 27, 3) := by decide +kernel
theorem dX2_restedOn_15 : decode cX2_restedOn 15 = .ok (.aload_n 0, 1) := by decide +kernel
theorem dX2_restedOn_16 : decode cX2_restedOn 16 = .ok (.iload_n 3, 1) := by decide +kernel
theorem dX2_restedOn_17 : decode cX2_restedOn 17 = .ok (.invokevirtual 55, 3) := by decide +kernel
theorem dX2_restedOn_20 : decode cX2_restedOn 20 = .ok (.getfield 66, 3) := by decide +kernel
theorem dX2_restedOn_23 : decode cX2_restedOn 23 = .ok (.iload_n 1, 1) := by decide +kernel
theorem dX2_restedOn_24 : decode cX2_restedOn 24 = .ok (.if_icmp .ne 9, 3) := by decide +kernel
theorem dX2_restedOn_27 : decode cX2_restedOn 27 = .ok (.iload_n 2, 1) := by decide +kernel
theorem dX2_restedOn_28 : decode cX2_restedOn 28 = .ok (.iconst 1, 1) := by decide +kernel
theorem dX2_restedOn_29 : decode cX2_restedOn 29 = .ok (.iload_n 3, 1) := by decide +kernel
theorem dX2_restedOn_30 : decode cX2_restedOn 30 = .ok (.ishl, 1) := by decide +kernel
theorem dX2_restedOn_31 : decode cX2_restedOn 31 = .ok (.ior, 1) := by decide +kernel
theorem dX2_restedOn_32 : decode cX2_restedOn 32 = .ok (.istore_n 2, 1) := by decide +kernel
theorem dX2_restedOn_33 : decode cX2_restedOn 33 = .ok (.iinc 3 1, 3) := by decide +kernel
theorem dX2_restedOn_36 : decode cX2_restedOn 36 = .ok (.goto (-32), 3) := by decide +kernel
theorem dX2_restedOn_39 : decode cX2_restedOn 39 = .ok (.iload_n 2, 1) := by decide +kernel
theorem dX2_restedOn_40 : decode cX2_restedOn 40 = .ok (.ireturn, 1) := by decide +kernel
theorem dX2_restingColumns_0 : decode cX2_restingColumns 0 = .ok (.iconst 0, 1) := by decide +kernel
theorem dX2_restingColumns_1 : decode cX2_restingColumns 1 = .ok (.istore_n 2, 1) := by decide +kernel
theorem dX2_restingColumns_2 : decode cX2_restingColumns 2 = .ok (.iconst 0, 1) := by decide +kernel
theorem dX2_restingColumns_3 : decode cX2_restingColumns 3 = .ok (.istore_n 3, 1) := by decide +kernel
theorem dX2_restingColumns_4 : decode cX2_restingColumns 4 = .ok (.iload_n 3, 1) := by decide +kernel
theorem dX2_restingColumns_5 : decode cX2_restingColumns 5 = .ok (.bipush 8, 2) := by decide +kernel
theorem dX2_restingColumns_7 : decode cX2_restingColumns 7 = .ok (.if_icmp .ge 29, 3) := by decide +kernel
theorem dX2_restingColumns_10 : decode cX2_restingColumns 10 = .ok (.aload_n 0, 1) := by decide +kernel
theorem dX2_restingColumns_11 : decode cX2_restingColumns 11 = .ok (.iload_n 1, 1) := by decide +kernel
theorem dX2_restingColumns_12 : decode cX2_restingColumns 12 = .ok (.iload_n 3, 1) := by decide +kernel
theorem dX2_restingColumns_13 : decode cX2_restingColumns 13 = .ok (.invokevirtual 69, 3) := by decide +kernel
theorem dX2_restingColumns_16 : decode cX2_restingColumns 16 = .ok (.getfield 66, 3) := by decide +kernel
theorem dX2_restingColumns_19 : decode cX2_restingColumns 19 = .ok (.bipush (-4), 2) := by decide +kernel
theorem dX2_restingColumns_21 : decode cX2_restingColumns 21 = .ok (.if_icmp .eq 9, 3) := by decide +kernel
theorem dX2_restingColumns_24 : decode cX2_restingColumns 24 = .ok (.iload_n 2, 1) := by decide +kernel
theorem dX2_restingColumns_25 : decode cX2_restingColumns 25 = .ok (.iconst 1, 1) := by decide +kernel
theorem dX2_restingColumns_26 : decode cX2_restingColumns 26 = .ok (.iload_n 3, 1) := by decide +kernel
theorem dX2_restingColumns_27 : decode cX2_restingColumns 27 = .ok (.ishl, 1) := by decide +kernel
theorem dX2_restingColumns_28 : decode cX2_restingColumns 28 = .ok (.ior, 1) := by decide +kernel
theorem dX2_restingColumns_29 : decode cX2_restingColumns 29 = .ok (.istore_n 2, 1) := by decide +kernel
theorem dX2_restingColumns_30 : decode cX2_restingColumns 30 = .ok (.iinc 3 1, 3) := by decide +kernel
theorem dX2_restingColumns_33 : decode cX2_restingColumns 33 = .ok (.goto (-29), 3) := by decide +kernel
theorem dX2_restingColumns_36 : decode cX2_restingColumns 36 = .ok (.iload_n 2, 1) := by decide +kernel
theorem dX2_restingColumns_37 : decode cX2_restingColumns 37 = .ok (.ireturn, 1) := by decide +kernel
theorem dX2_winningColumns_0 : decode cX2_winningColumns 0 = .ok (.iconst 0, 1) := by decide +kernel
theorem dX2_winningColumns_1 : decode cX2_winningColumns 1 = .ok (.istore_n 3, 1) := by decide +kernel
theorem dX2_winningColumns_2 : decode cX2_winningColumns 2 = .ok (.iconst 0, 1) := by decide +kernel
theorem dX2_winningColumns_3 : decode cX2_winningColumns 3 = .ok (.istore 4, 2) := by decide +kernel
theorem dX2_winningColumns_5 : decode cX2_winningColumns 5 = .ok (.iload 4, 2) := by decide +kernel
theorem dX2_winningColumns_7 : decode cX2_winningColumns 7 = .ok (.bipush 8, 2) := by decide +kernel
theorem dX2_winningColumns_9 : decode cX2_winningColumns 9 = .ok (.if_icmp .ge 30, 3) := by decide +kernel
theorem dX2_winningColumns_12 : decode cX2_winningColumns 12 = .ok (.aload_n 0, 1) := by decide +kernel
theorem dX2_winningColumns_13 : decode cX2_winningColumns 13 = .ok (.iload_n 1, 1) := by decide +kernel
theorem dX2_winningColumns_14 : decode cX2_winningColumns 14 = .ok (.iload 4, 2) := by decide +kernel
theorem dX2_winningColumns_16 : decode cX2_winningColumns 16 = .ok (.invokevirtual 69, 3) := by decide +kernel
theorem dX2_winningColumns_19 : decode cX2_winningColumns 19 = .ok (.getfield 59, 3) := by decide +kernel
theorem dX2_winningColumns_22 : decode cX2_winningColumns 22 = .ok (.iload_n 2, 1) := by decide +kernel
theorem dX2_winningColumns_23 : decode cX2_winningColumns 23 = .ok (.if_icmp .ne 10, 3) := by decide +kernel
theorem dX2_winningColumns_26 : decode cX2_winningColumns 26 = .ok (.iload_n 3, 1) := by decide +kernel
theorem dX2_winningColumns_27 : decode cX2_winningColumns 27 = .ok (.iconst 1, 1) := by decide +kernel
theorem dX2_winningColumns_28 : decode cX2_winningColumns 28 = .ok (.iload 4, 2) := by decide +kernel
theorem dX2_winningColumns_30 : decode cX2_winningColumns 30 = .ok (.ishl, 1) := by decide +kernel
theorem dX2_winningColumns_31 : decode cX2_winningColumns 31 = .ok (.ior, 1) := by decide +kernel
theorem dX2_winningColumns_32 : decode cX2_winningColumns 32 = .ok (.istore_n 3, 1) := by decide +kernel
theorem dX2_winningColumns_33 : decode cX2_winningColumns 33 = .ok (.iinc 4 1, 3) := by decide +kernel
theorem dX2_winningColumns_36 : decode cX2_winningColumns 36 = .ok (.goto (-31), 3) := by decide +kernel
theorem dX2_winningColumns_39 : decode cX2_winningColumns 39 = .ok (.iload_n 3, 1) := by decide +kernel
theorem dX2_winningColumns_40 : decode cX2_winningColumns 40 = .ok (.ireturn, 1) := by decide +kernel
theorem dX3_init_0 : decode cX3_init 0 = .ok (.aload_n 0, 1) := by decide +kernel
theorem dX3_init_1 : decode cX3_init 1 = .ok (.invokespecial 3, 3) := by decide +kernel
theorem dX3_init_4 : decode cX3_init 4 = .ok (.aload_n 0, 1) := by decide +kernel
theorem dX3_init_5 : decode cX3_init 5 = .ok (.lconst 0, 1) := by decide +kernel
theorem dX3_init_6 : decode cX3_init 6 = .ok (.putfield 9, 3) := by decide +kernel
theorem dX3_init_9 : decode cX3_init 9 = .ok (.aload_n 0, 1) := by decide +kernel
theorem dX3_init_10 : decode cX3_init 10 = .ok (.lconst 0, 1) := by decide +kernel
theorem dX3_init_11 : decode cX3_init 11 = .ok (.putfield 15, 3) := by decide +kernel
theorem dX3_init_14 : decode cX3_init 14 = .ok (.aload_n 0, 1) := by decide +kernel
theorem dX3_init_15 : decode cX3_init 15 = .ok (.bipush 80, 2) := by decide +kernel
theorem dX3_init_17 : decode cX3_init 17 = .ok (.newarray .long, 2) := by decide +kernel
theorem dX3_init_19 : decode cX3_init 19 = .ok (.putfield 18, 3) := by decide +kernel
theorem dX3_init_22 : decode cX3_init 22 = .ok (.aload_n 0, 1) := by decide +kernel
theorem dX3_init_23 : decode cX3_init 23 = .ok (.bipush 80, 2) := by decide +kernel
theorem dX3_init_25 : decode cX3_init 25 = .ok (.newarray .long, 2) := by decide +kernel
theorem dX3_init_27 : decode cX3_init 27 = .ok (.putfield 22, 3) := by decide +kernel
theorem dX3_init_30 : decode cX3_init 30 = .ok (.return_, 1) := by decide +kernel
theorem dX3_follow_0 : decode cX3_follow 0 = .ok (.aload_n 0, 1) := by decide +kernel
theorem dX3_follow_1 : decode cX3_follow 1 = .ok (.lconst 0, 1) := by decide +kernel
theorem dX3_follow_2 : decode cX3_follow 2 = .ok (.putfield 9, 3) := by decide +kernel
theorem dX3_follow_5 : decode cX3_follow 5 = .ok (.aload_n 0, 1) := by decide +kernel
theorem dX3_follow_6 : decode cX3_follow 6 = .ok (.lconst 0, 1) := by decide +kernel
theorem dX3_follow_7 : decode cX3_follow 7 = .ok (.putfield 15, 3) := by decide +kernel
theorem dX3_follow_10 : decode cX3_follow 10 = .ok (.aload_n 0, 1) := by decide +kernel
theorem dX3_follow_11 : decode cX3_follow 11 = .ok (.getfield 18, 3) := by decide +kernel
theorem dX3_follow_14 : decode cX3_follow 14 = .ok (.lconst 0, 1) := by decide +kernel
theorem dX3_follow_15 : decode cX3_follow 15 = .ok (.invokestatic 25, 3) := by decide +kernel
theorem dX3_follow_18 : decode cX3_follow 18 = .ok (.aload_n 1, 1) := by decide +kernel
theorem dX3_follow_19 : decode cX3_follow 19 = .ok (.iload_n 3, 1) := by decide +kernel
theorem dX3_follow_20 : decode cX3_follow 20 = .ok (.invokevirtual 31, 3) := by decide +kernel
theorem dX3_follow_23 : decode cX3_follow 23 = .ok (.ifCond .eq 11, 3) := by decide +kernel
theorem dX3_follow_26 : decode cX3_follow 26 = .ok (.iload 4, 2) := by decide +kernel
theorem dX3_follow_28 : decode cX3_follow 28 = .ok (.invokestatic 37, 3) := by decide +kernel
theorem dX3_follow_31 : decode cX3_follow 31 = .ok (.ifCond .ne 4, 3) := by decide +kernel
theorem dX3_follow_34 : decode cX3_follow 34 = .ok (.return_, 1) := by decide +kernel
theorem dX3_follow_35 : decode cX3_follow 35 = .ok (.aload_n 1, 1) := by decide +kernel
theorem dX3_follow_36 : decode cX3_follow 36 = .ok (.getfield 40, 3) := by decide +kernel
theorem dX3_follow_39 : decode cX3_follow 39 = .ok (.iload_n 3, 1) := by decide +kernel
theorem dX3_follow_40 : decode cX3_follow 40 = .ok (.iaload, 1) := by decide +kernel
theorem dX3_follow_41 : decode cX3_follow 41 = .ok (.istore 6, 2) := by decide +kernel
theorem dX3_follow_43 : decode cX3_follow 43 = .ok (.aload_n 0, 1) := by decide +kernel
theorem dX3_follow_44 : decode cX3_follow 44 = .ok (.getfield 18, 3) := by decide +kernel
theorem dX3_follow_47 : decode cX3_follow 47 = .ok (.iload 4, 2) := by decide +kernel
theorem dX3_follow_49 : decode cX3_follow 49 = .ok (.aload_n 1, 1) := by decide +kernel
theorem dX3_follow_50 : decode cX3_follow 50 = .ok (.getfield 44, 3) := by decide +kernel
theorem dX3_follow_53 : decode cX3_follow 53 = .ok (.iload_n 3, 1) := by decide +kernel
theorem dX3_follow_54 : decode cX3_follow 54 = .ok (.iaload, 1) := by decide +kernel
theorem dX3_follow_55 : decode cX3_follow 55 = .ok (.ldc2_w 47, 3) := by decide +kernel
theorem dX3_follow_58 : decode cX3_follow 58 = .ok (.invokestatic 49, 3) := by decide +kernel
theorem dX3_follow_61 : decode cX3_follow 61 = .ok (.iconst 0, 1) := by decide +kernel
theorem dX3_follow_62 : decode cX3_follow 62 = .ok (.istore 7, 2) := by decide +kernel
theorem dX3_follow_64 : decode cX3_follow 64 = .ok (.iload 7, 2) := by decide +kernel
theorem dX3_follow_66 : decode cX3_follow 66 = .ok (.bipush 10, 2) := by decide +kernel
theorem dX3_follow_68 : decode cX3_follow 68 = .ok (.if_icmp .ge 119, 3) := by decide +kernel
theorem dX3_follow_71 : decode cX3_follow 71 = .ok (.aload_n 0, 1) := by decide +kernel
theorem dX3_follow_72 : decode cX3_follow 72 = .ok (.getfield 22, 3) := by decide +kernel
theorem dX3_follow_75 : decode cX3_follow 75 = .ok (.lconst 0, 1) := by decide +kernel
theorem dX3_follow_76 : decode cX3_follow 76 = .ok (.invokestatic 25, 3) := by decide +kernel
theorem dX3_follow_79 : decode cX3_follow 79 = .ok (.iconst 0, 1) := by decide +kernel
theorem dX3_follow_80 : decode cX3_follow 80 = .ok (.istore 8, 2) := by decide +kernel
theorem dX3_follow_82 : decode cX3_follow 82 = .ok (.iload 8, 2) := by decide +kernel
theorem dX3_follow_84 : decode cX3_follow 84 = .ok (.bipush 8, 2) := by decide +kernel
theorem dX3_follow_86 : decode cX3_follow 86 = .ok (.if_icmp .ge 80, 3) := by decide +kernel
theorem dX3_follow_89 : decode cX3_follow 89 = .ok (.aload_n 1, 1) := by decide +kernel
theorem dX3_follow_90 : decode cX3_follow 90 = .ok (.bipush 10, 2) := by decide +kernel
theorem dX3_follow_92 : decode cX3_follow 92 = .ok (.iload 7, 2) := by decide +kernel
theorem dX3_follow_94 : decode cX3_follow 94 = .ok (.imul, 1) := by decide +kernel
theorem dX3_follow_95 : decode cX3_follow 95 = .ok (.iload 8, 2) := by decide +kernel
theorem dX3_follow_97 : decode cX3_follow 97 = .ok (.iadd, 1) := by decide +kernel
theorem dX3_follow_98 : decode cX3_follow 98 = .ok (.invokevirtual 53, 3) := by decide +kernel
theorem dX3_follow_101 : decode cX3_follow 101 = .ok (.istore 9, 2) := by decide +kernel
theorem dX3_follow_103 : decode cX3_follow 103 = .ok (.aload_n 1, 1) := by decide +kernel
theorem dX3_follow_104 : decode cX3_follow 104 = .ok (.iload 9, 2) := by decide +kernel
theorem dX3_follow_106 : decode cX3_follow 106 = .ok (.invokevirtual 57, 3) := by decide +kernel
theorem dX3_follow_109 : decode cX3_follow 109 = .ok (.ifCond .eq 38, 3) := by decide +kernel
theorem dX3_follow_112 : decode cX3_follow 112 = .ok (.aload_n 1, 1) := by decide +kernel
theorem dX3_follow_113 : decode cX3_follow 113 = .ok (.getfield 60, 3) := by decide +kernel
theorem dX3_follow_116 : decode cX3_follow 116 = .ok (.iload 9, 2) := by decide +kernel
theorem dX3_follow_118 : decode cX3_follow 118 = .ok (.iaload, 1) := by decide +kernel
theorem dX3_follow_119 : decode cX3_follow 119 = .ok (.iload 5, 2) := by decide +kernel
theorem dX3_follow_121 : decode cX3_follow 121 = .ok (.if_icmp .ne 7, 3) := by decide +kernel
theorem dX3_follow_124 : decode cX3_follow 124 = .ok (.iconst 1, 1) := by decide +kernel
theorem dX3_follow_125 : decode cX3_follow 125 = .ok (.goto 4, 3) := by decide +kernel
theorem dX3_follow_128 : decode cX3_follow 128 = .ok (.iconst 0, 1) := by decide +kernel
theorem dX3_follow_129 : decode cX3_follow 129 = .ok (.istore 10, 2) := by decide +kernel
theorem dX3_follow_131 : decode cX3_follow 131 = .ok (.aload_n 0, 1) := by decide +kernel
theorem dX3_follow_132 : decode cX3_follow 132 = .ok (.iload 6, 2) := by decide +kernel
theorem dX3_follow_134 : decode cX3_follow 134 = .ok (.iload 7, 2) := by decide +kernel
theorem dX3_follow_136 : decode cX3_follow 136 = .ok (.iload 8, 2) := by decide +kernel
theorem dX3_follow_138 : decode cX3_follow 138 = .ok (.iload_n 2, 1) := by decide +kernel
theorem dX3_follow_139 : decode cX3_follow 139 = .ok (.iload 10, 2) := by decide +kernel
theorem dX3_follow_141 : decode cX3_follow 141 = .ok (.invokevirtual 63, 3) := by decide +kernel
theorem dX3_follow_144 : decode cX3_follow 144 = .ok (.goto 16, 3) := by decide +kernel
theorem dX3_follow_147 : decode cX3_follow 147 = .ok (.iload 9, 2) := by decide +kernel
theorem dX3_follow_149 : decode cX3_follow 149 = .ok (.bipush (-2), 2) := by decide +kernel
theorem dX3_follow_151 : decode cX3_follow 151 = .ok (.if_icmp .eq 9, 3) := by decide +kernel
theorem dX3_follow_154 : decode cX3_follow 154 = .ok (.aload_n 0, 1) := by decide +kernel
theorem dX3_follow_155 : decode cX3_follow 155 = .ok (.iload 8, 2) := by decide +kernel
theorem dX3_follow_157 : decode cX3_follow 157 = .ok (.invokevirtual 67, 3) := by decide +kernel
theorem dX3_follow_160 : decode cX3_follow 160 = .ok (.iinc 8 1, 3) := by decide +kernel
theorem dX3_follow_163 : decode cX3_follow 163 = .ok (.goto (-81), 3) := by decide +kernel
theorem dX3_follow_166 : decode cX3_follow 166 = .ok (.aload_n 0, 1) := by decide +kernel
theorem dX3_follow_167 : decode cX3_follow 167 = .ok (.getfield 22, 3) := by decide +kernel
theorem dX3_follow_170 : decode cX3_follow 170 = .ok (.iconst 0, 1) := by decide +kernel
theorem dX3_follow_171 : decode cX3_follow 171 = .ok (.aload_n 0, 1) := by decide +kernel
theorem dX3_follow_172 : decode cX3_follow 172 = .ok (.getfield 18, 3) := by decide +kernel
theorem dX3_follow_175 : decode cX3_follow 175 = .ok (.iconst 0, 1) := by decide +kernel
theorem dX3_follow_176 : decode cX3_follow 176 = .ok (.bipush 80, 2) := by decide +kernel
theorem dX3_follow_178 : decode cX3_follow 178 = .ok (.invokestatic 71, 3) := by decide +kernel
theorem dX3_follow_181 : decode cX3_follow 181 = .ok (.iinc 7 1, 3) := by decide +kernel
theorem dX3_follow_184 : decode cX3_follow 184 = .ok (.goto (-120), 3) := by decide +kernel
theorem dX3_follow_187 : decode cX3_follow 187 = .ok (.return_, 1) := by decide +kernel
theorem dX3_add_0 : decode cX3_add 0 = .ok (.bipush 10, 2) := by decide +kernel
theorem dX3_add_2 : decode cX3_add 2 = .ok (.iload_n 1, 1) := by decide +kernel
theorem dX3_add_3 : decode cX3_add 3 = .ok (.imul, 1) := by decide +kernel
theorem dX3_add_4 : decode cX3_add 4 = .ok (.iload_n 2, 1) := by decide +kernel
theorem dX3_add_5 : decode cX3_add 5 = .ok (.iadd, 1) := by decide +kernel
theorem dX3_add_6 : decode cX3_add 6 = .ok (.istore 5, 2) := by decide +kernel
theorem dX3_add_8 : decode cX3_add 8 = .ok (.iload 5, 2) := by decide +kernel
theorem dX3_add_10 : decode cX3_add 10 = .ok (.ifCond .lt 18, 3) := by decide +kernel
theorem dX3_add_13 : decode cX3_add 13 = .ok (.iload 5, 2) := by decide +kernel
theorem dX3_add_15 : decode cX3_add 15 = .ok (.aload_n 0, 1) := by decide +kernel
theorem dX3_add_16 : decode cX3_add 16 = .ok (.arraylength, 1) := by decide +kernel
theorem dX3_add_17 : decode cX3_add 17 = .ok (.if_icmp .ge 11, 3) := by decide +kernel
theorem dX3_add_20 : decode cX3_add 20 = .ok (.aload_n 0, 1) := by decide +kernel
theorem dX3_add_21 : decode cX3_add 21 = .ok (.iload 5, 2) := by decide +kernel
theorem dX3_add_23 : decode cX3_add 23 = .ok (.dup2, 1) := by decide +kernel
theorem dX3_add_24 : decode cX3_add 24 = .ok (.laload, 1) := by decide +kernel
theorem dX3_add_25 : decode cX3_add 25 = .ok (.lload_n 3, 1) := by decide +kernel
theorem dX3_add_26 : decode cX3_add 26 = .ok (.ladd, 1) := by decide +kernel
theorem dX3_add_27 : decode cX3_add 27 = .ok (.lastore, 1) := by decide +kernel
theorem dX3_add_28 : decode cX3_add 28 = .ok (.return_, 1) := by decide +kernel
theorem dX3_goOn_0 : decode cX3_goOn 0 = .ok (.iconst 1, 1) := by decide +kernel
theorem dX3_goOn_1 : decode cX3_goOn 1 = .ok (.istore_n 2, 1) := by decide +kernel
theorem dX3_goOn_2 : decode cX3_goOn 2 = .ok (.iload_n 2, 1) := by decide +kernel
theorem dX3_goOn_3 : decode cX3_goOn 3 = .ok (.bipush 10, 2) := by decide +kernel
theorem dX3_goOn_5 : decode cX3_goOn 5 = .ok (.if_icmp .ge 29, 3) := by decide +kernel
theorem dX3_goOn_8 : decode cX3_goOn 8 = .ok (.aload_n 0, 1) := by decide +kernel
theorem dX3_goOn_9 : decode cX3_goOn 9 = .ok (.getfield 22, 3) := by decide +kernel
theorem dX3_goOn_12 : decode cX3_goOn 12 = .ok (.iload_n 1, 1) := by decide +kernel
theorem dX3_goOn_13 : decode cX3_goOn 13 = .ok (.iload_n 2, 1) := by decide +kernel
theorem dX3_goOn_14 : decode cX3_goOn 14 = .ok (.aload_n 0, 1) := by decide +kernel
theorem dX3_goOn_15 : decode cX3_goOn 15 = .ok (.getfield 18, 3) := by decide +kernel
theorem dX3_goOn_18 : decode cX3_goOn 18 = .ok (.bipush 10, 2) := by decide +kernel
theorem dX3_goOn_20 : decode cX3_goOn 20 = .ok (.iload_n 1, 1) := by decide +kernel
theorem dX3_goOn_21 : decode cX3_goOn 21 = .ok (.imul, 1) := by decide +kernel
theorem dX3_goOn_22 : decode cX3_goOn 22 = .ok (.iload_n 2, 1) := by decide +kernel
theorem dX3_goOn_23 : decode cX3_goOn 23 = .ok (.iadd, 1) := by decide +kernel
theorem dX3_goOn_24 : decode cX3_goOn 24 = .ok (.laload, 1) := by decide +kernel
theorem dX3_goOn_25 : decode cX3_goOn 25 = .ok (.invokestatic 49, 3) := by decide +kernel
theorem dX3_goOn_28 : decode cX3_goOn 28 = .ok (.iinc 2 1, 3) := by decide +kernel
theorem dX3_goOn_31 : decode cX3_goOn 31 = .ok (.goto (-29), 3) := by decide +kernel
theorem dX3_goOn_34 : decode cX3_goOn 34 = .ok (.return_, 1) := by decide +kernel
theorem dX3_meet_0 : decode cX3_meet 0 = .ok (.iload_n 1, 1) := by decide +kernel
theorem dX3_meet_1 : decode cX3_meet 1 = .ok (.iload_n 2, 1) := by decide +kernel
theorem dX3_meet_2 : decode cX3_meet 2 = .ok (.invokestatic 77, 3) := by decide +kernel
theorem dX3_meet_5 : decode cX3_meet 5 = .ok (.istore 6, 2) := by decide +kernel
theorem dX3_meet_7 : decode cX3_meet 7 = .ok (.iload_n 3, 1) := by decide +kernel
theorem dX3_meet_8 : decode cX3_meet 8 = .ok (.iload 6, 2) := by decide +kernel
theorem dX3_meet_10 : decode cX3_meet 10 = .ok (.invokestatic 83, 3) := by decide +kernel
theorem dX3_meet_13 : decode cX3_meet 13 = .ok (.istore 7, 2) := by decide +kernel
theorem dX3_meet_15 : decode cX3_meet 15 = .ok (.iload_n 3, 1) := by decide +kernel
theorem dX3_meet_16 : decode cX3_meet 16 = .ok (.iload 6, 2) := by decide +kernel
theorem dX3_meet_18 : decode cX3_meet 18 = .ok (.ineg, 1) := by decide +kernel
theorem dX3_meet_19 : decode cX3_meet 19 = .ok (.invokestatic 83, 3) := by decide +kernel
theorem dX3_meet_22 : decode cX3_meet 22 = .ok (.istore 8, 2) := by decide +kernel
theorem dX3_meet_24 : decode cX3_meet 24 = .ok (.iconst 0, 1) := by decide +kernel
theorem dX3_meet_25 : decode cX3_meet 25 = .ok (.istore 9, 2) := by decide +kernel
theorem dX3_meet_27 : decode cX3_meet 27 = .ok (.iload 9, 2) := by decide +kernel
theorem dX3_meet_29 : decode cX3_meet 29 = .ok (.bipush 10, 2) := by decide +kernel
theorem dX3_meet_31 : decode cX3_meet 31 = .ok (.if_icmp .ge 112, 3) := by decide +kernel
theorem dX3_meet_34 : decode cX3_meet 34 = .ok (.aload_n 0, 1) := by decide +kernel
theorem dX3_meet_35 : decode cX3_meet 35 = .ok (.getfield 18, 3) := by decide +kernel
theorem dX3_meet_38 : decode cX3_meet 38 = .ok (.bipush 10, 2) := by decide +kernel
theorem dX3_meet_40 : decode cX3_meet 40 = .ok (.iload_n 3, 1) := by decide +kernel
theorem dX3_meet_41 : decode cX3_meet 41 = .ok (.imul, 1) := by decide +kernel
theorem dX3_meet_42 : decode cX3_meet 42 = .ok (.iload 9, 2) := by decide +kernel
theorem dX3_meet_44 : decode cX3_meet 44 = .ok (.iadd, 1) := by decide +kernel
theorem dX3_meet_45 : decode cX3_meet 45 = .ok (.laload, 1) := by decide +kernel
theorem dX3_meet_46 : decode cX3_meet 46 = .ok (.lstore 10, 2) := by decide +kernel
theorem dX3_meet_48 : decode cX3_meet 48 = .ok (.iload 9, 2) := by decide +kernel
theorem dX3_meet_50 : decode cX3_meet 50 = .ok (.iload_n 1, 1) := by decide +kernel
theorem dX3_meet_51 : decode cX3_meet 51 = .ok (.invokestatic 86, 3) := by decide +kernel
theorem dX3_meet_54 : decode cX3_meet 54 = .ok (.isub, 1) := by decide +kernel
theorem dX3_meet_55 : decode cX3_meet 55 = .ok (.istore 12, 2) := by decide +kernel
theorem dX3_meet_57 : decode cX3_meet 57 = .ok (.aload_n 0, 1) := by decide +kernel
theorem dX3_meet_58 : decode cX3_meet 58 = .ok (.dup, 1) := by decide +kernel
theorem dX3_meet_59 : decode cX3_meet 59 = .ok (.getfield 15, 3) := by decide +kernel
theorem dX3_meet_62 : decode cX3_meet 62 = .ok (.lload 10, 2) := by decide +kernel
theorem dX3_meet_64 : decode cX3_meet 64 = .ok (.ladd, 1) := by decide +kernel
theorem dX3_meet_65 : decode cX3_meet 65 = .ok (.putfield 15, 3) := by decide +kernel
theorem dX3_meet_68 : decode cX3_meet 68 = .ok (.iload 12, 2) := by decide +kernel
theorem dX3_meet_70 : decode cX3_meet 70 = .ok (.ifCond .le 51, 3) := by decide +kernel
theorem dX3_meet_73 : decode cX3_meet 73 = .ok (.aload_n 0, 1) := by decide +kernel
theorem dX3_meet_74 : decode cX3_meet 74 = .ok (.getfield 22, 3) := by decide +kernel
theorem dX3_meet_77 : decode cX3_meet 77 = .ok (.iload 7, 2) := by decide +kernel
theorem dX3_meet_79 : decode cX3_meet 79 = .ok (.iload 12, 2) := by decide +kernel
theorem dX3_meet_81 : decode cX3_meet 81 = .ok (.lload 10, 2) := by decide +kernel
theorem dX3_meet_83 : decode cX3_meet 83 = .ok (.ldc2_w 89, 3) := by decide +kernel
theorem dX3_meet_86 : decode cX3_meet 86 = .ok (.ldiv, 1) := by decide +kernel
theorem dX3_meet_87 : decode cX3_meet 87 = .ok (.bipush 10, 2) := by decide +kernel
theorem dX3_meet_89 : decode cX3_meet 89 = .ok (.iload 4, 2) := by decide +kernel
theorem dX3_meet_91 : decode cX3_meet 91 = .ok (.isub, 1) := by decide +kernel
theorem dX3_meet_92 : decode cX3_meet 92 = .ok (.i2l, 1) := by decide +kernel
theorem dX3_meet_93 : decode cX3_meet 93 = .ok (.lmul, 1) := by decide +kernel
theorem dX3_meet_94 : decode cX3_meet 94 = .ok (.invokestatic 49, 3) := by decide +kernel
theorem dX3_meet_97 : decode cX3_meet 97 = .ok (.aload_n 0, 1) := by decide +kernel
theorem dX3_meet_98 : decode cX3_meet 98 = .ok (.getfield 22, 3) := by decide +kernel
theorem dX3_meet_101 : decode cX3_meet 101 = .ok (.iload 8, 2) := by decide +kernel
theorem dX3_meet_103 : decode cX3_meet 103 = .ok (.iload 12, 2) := by decide +kernel
theorem dX3_meet_105 : decode cX3_meet 105 = .ok (.lload 10, 2) := by decide +kernel
theorem dX3_meet_107 : decode cX3_meet 107 = .ok (.ldc2_w 89, 3) := by decide +kernel
theorem dX3_meet_110 : decode cX3_meet 110 = .ok (.ldiv, 1) := by decide +kernel
theorem dX3_meet_111 : decode cX3_meet 111 = .ok (.iload 4, 2) := by decide +kernel
theorem dX3_meet_113 : decode cX3_meet 113 = .ok (.i2l, 1) := by decide +kernel
theorem dX3_meet_114 : decode cX3_meet 114 = .ok (.lmul, 1) := by decide +kernel
theorem dX3_meet_115 : decode cX3_meet 115 = .ok (.invokestatic 49, 3) := by decide +kernel
theorem dX3_meet_118 : decode cX3_meet 118 = .ok (.goto 19, 3) := by decide +kernel
theorem dX3_meet_121 : decode cX3_meet 121 = .ok (.iload 5, 2) := by decide +kernel
theorem dX3_meet_123 : decode cX3_meet 123 = .ok (.ifCond .eq 14, 3) := by decide +kernel
theorem dX3_meet_126 : decode cX3_meet 126 = .ok (.aload_n 0, 1) := by decide +kernel
theorem dX3_meet_127 : decode cX3_meet 127 = .ok (.dup, 1) := by decide +kernel
theorem dX3_meet_128 : decode cX3_meet 128 = .ok (.getfield 9, 3) := by decide +kernel
theorem dX3_meet_131 : decode cX3_meet 131 = .ok (.lload 10, 2) := by decide +kernel
theorem dX3_meet_133 : decode cX3_meet 133 = .ok (.ladd, 1) := by decide +kernel
theorem dX3_meet_134 : decode cX3_meet 134 = .ok (.putfield 9, 3) := by decide +kernel
theorem dX3_meet_137 : decode cX3_meet 137 = .ok (.iinc 9 1, 3) := by decide +kernel
theorem dX3_meet_140 : decode cX3_meet 140 = .ok (.goto (-113), 3) := by decide +kernel
theorem dX3_meet_143 : decode cX3_meet 143 = .ok (.return_, 1) := by decide +kernel
theorem dX4_init_0 : decode cX4_init 0 = .ok (.aload_n 0, 1) := by decide +kernel
theorem dX4_init_1 : decode cX4_init 1 = .ok (.invokespecial 3, 3) := by decide +kernel
theorem dX4_init_4 : decode cX4_init 4 = .ok (.aload_n 0, 1) := by decide +kernel
theorem dX4_init_5 : decode cX4_init 5 = .ok (.new 9, 3) := by decide +kernel
theorem dX4_init_8 : decode cX4_init 8 = .ok (.dup, 1) := by decide +kernel
theorem dX4_init_9 : decode cX4_init 9 = .ok (.invokespecial 11, 3) := by decide +kernel
theorem dX4_init_12 : decode cX4_init 12 = .ok (.putfield 12, 3) := by decide +kernel
theorem dX4_init_15 : decode cX4_init 15 = .ok (.aload_n 0, 1) := by decide +kernel
theorem dX4_init_16 : decode cX4_init 16 = .ok (.iconst 0, 1) := by decide +kernel
theorem dX4_init_17 : decode cX4_init 17 = .ok (.putfield 18, 3) := by decide +kernel
theorem dX4_init_20 : decode cX4_init 20 = .ok (.aload_n 0, 1) := by decide +kernel
theorem dX4_init_21 : decode cX4_init 21 = .ok (.iconst 0, 1) := by decide +kernel
theorem dX4_init_22 : decode cX4_init 22 = .ok (.putfield 22, 3) := by decide +kernel
theorem dX4_init_25 : decode cX4_init 25 = .ok (.aload_n 0, 1) := by decide +kernel
theorem dX4_init_26 : decode cX4_init 26 = .ok (.iconst 4, 1) := by decide +kernel
theorem dX4_init_27 : decode cX4_init 27 = .ok (.putfield 25, 3) := by decide +kernel
theorem dX4_init_30 : decode cX4_init 30 = .ok (.aload_n 0, 1) := by decide +kernel
theorem dX4_init_31 : decode cX4_init 31 = .ok (.iconst 0, 1) := by decide +kernel
theorem dX4_init_32 : decode cX4_init 32 = .ok (.putfield 28, 3) := by decide +kernel
theorem dX4_init_35 : decode cX4_init 35 = .ok (.aload_n 0, 1) := by decide +kernel
theorem dX4_init_36 : decode cX4_init 36 = .ok (.iconst 0, 1) := by decide +kernel
theorem dX4_init_37 : decode cX4_init 37 = .ok (.putfield 31, 3) := by decide +kernel
theorem dX4_init_40 : decode cX4_init 40 = .ok (.aload_n 0, 1) := by decide +kernel
theorem dX4_init_41 : decode cX4_init 41 = .ok (.iconst 0, 1) := by decide +kernel
theorem dX4_init_42 : decode cX4_init 42 = .ok (.putfield 34, 3) := by decide +kernel
theorem dX4_init_45 : decode cX4_init 45 = .ok (.aload_n 0, 1) := by decide +kernel
theorem dX4_init_46 : decode cX4_init 46 = .ok (.aload_n 1, 1) := by decide +kernel
theorem dX4_init_47 : decode cX4_init 47 = .ok (.putfield 37, 3) := by decide +kernel
theorem dX4_init_50 : decode cX4_init 50 = .ok (.return_, 1) := by decide +kernel
theorem dX4_readAll_0 : decode cX4_readAll 0 = .ok (.aload_n 0, 1) := by decide +kernel
theorem dX4_readAll_1 : decode cX4_readAll 1 = .ok (.getfield 12, 3) := by decide +kernel
theorem dX4_readAll_4 : decode cX4_readAll 4 = .ok (.invokevirtual 41, 3) := by decide +kernel
theorem dX4_readAll_7 : decode cX4_readAll 7 = .ok (.aload_n 0, 1) := by decide +kernel
theorem dX4_readAll_8 : decode cX4_readAll 8 = .ok (.iconst 0, 1) := by decide +kernel
theorem dX4_readAll_9 : decode cX4_readAll 9 = .ok (.putfield 18, 3) := by decide +kernel
theorem dX4_readAll_12 : decode cX4_readAll 12 = .ok (.aload_n 0, 1) := by decide +kernel
theorem dX4_readAll_13 : decode cX4_readAll 13 = .ok (.iconst 0, 1) := by decide +kernel
theorem dX4_readAll_14 : decode cX4_readAll 14 = .ok (.putfield 31, 3) := by decide +kernel
theorem dX4_readAll_17 : decode cX4_readAll 17 = .ok (.iconst 0, 1) := by decide +kernel
theorem dX4_readAll_18 : decode cX4_readAll 18 = .ok (.istore_n 1, 1) := by decide +kernel
theorem dX4_readAll_19 : decode cX4_readAll 19 = .ok (.aload_n 0, 1) := by decide +kernel
theorem dX4_readAll_20 : decode cX4_readAll 20 = .ok (.invokevirtual 44, 3) := by decide +kernel
theorem dX4_readAll_23 : decode cX4_readAll 23 = .ok (.iload_n 1, 1) := by decide +kernel
theorem dX4_readAll_24 : decode cX4_readAll 24 = .ok (.sipush 160, 3) := by decide +kernel
theorem dX4_readAll_27 : decode cX4_readAll 27 = .ok (.if_icmp .ge 32, 3) := by decide +kernel
theorem dX4_readAll_30 : decode cX4_readAll 30 = .ok (.aload_n 0, 1) := by decide +kernel
theorem dX4_readAll_31 : decode cX4_readAll 31 = .ok (.getfield 18, 3) := by decide +kernel
theorem dX4_readAll_34 : decode cX4_readAll 34 = .ok (.ifCond .ne 25, 3) := by decide +kernel
theorem dX4_readAll_37 : decode cX4_readAll 37 = .ok (.aload_n 0, 1) := by decide +kernel
theorem dX4_readAll_38 : decode cX4_readAll 38 = .ok (.getfield 25, 3) := by decide +kernel
theorem dX4_readAll_41 : decode cX4_readAll 41 = .ok (.iconst 4, 1) := by decide +kernel
theorem dX4_readAll_42 : decode cX4_readAll 42 = .ok (.if_icmp .eq 17, 3) := by decide +kernel
theorem dX4_readAll_45 : decode cX4_readAll 45 = .ok (.aload_n 0, 1) := by decide +kernel
theorem dX4_readAll_46 : decode cX4_readAll 46 = .ok (.invokevirtual 47, 3) := by decide +kernel
theorem dX4_readAll_49 : decode cX4_readAll 49 = .ok (.aload_n 0, 1) := by decide +kernel
theorem dX4_readAll_50 : decode cX4_readAll 50 = .ok (.invokevirtual 44, 3) := by decide +kernel
theorem dX4_readAll_53 : decode cX4_readAll 53 = .ok (.iinc 1 1, 3) := by decide +kernel
theorem dX4_readAll_56 : decode cX4_readAll 56 = .ok (.goto (-33), 3) := by decide +kernel
theorem dX4_readAll_59 : decode cX4_readAll 59 = .ok (.iconst 0, 1) := by decide +kernel
theorem dX4_readAll_60 : decode cX4_readAll 60 = .ok (.istore_n 2, 1) := by decide +kernel
theorem dX4_readAll_61 : decode cX4_readAll 61 = .ok (.iload_n 2, 1) := by decide +kernel
theorem dX4_readAll_62 : decode cX4_readAll 62 = .ok (.aload_n 0, 1) := by decide +kernel
theorem dX4_readAll_63 : decode cX4_readAll 63 = .ok (.getfield 12, 3) := by decide +kernel
theorem dX4_readAll_66 : decode cX4_readAll 66 = .ok (.getfield 50, 3) := by decide +kernel
theorem dX4_readAll_69 : decode cX4_readAll 69 = .ok (.if_icmp .ge 34, 3) := by decide +kernel
theorem dX4_readAll_72 : decode cX4_readAll 72 = .ok (.aload_n 0, 1) := by decide +kernel
theorem dX4_readAll_73 : decode cX4_readAll 73 = .ok (.getfield 12, 3) := by decide +kernel
theorem dX4_readAll_76 : decode cX4_readAll 76 = .ok (.aload_n 0, 1) := by decide +kernel
theorem dX4_readAll_77 : decode cX4_readAll 77 = .ok (.getfield 12, 3) := by decide +kernel
theorem dX4_readAll_80 : decode cX4_readAll 80 = .ok (.getfield 53, 3) := by decide +kernel
theorem dX4_readAll_83 : decode cX4_readAll 83 = .ok (.iload_n 2, 1) := by decide +kernel
theorem dX4_readAll_84 : decode cX4_readAll 84 = .ok (.iaload, 1) := by decide +kernel
theorem dX4_readAll_85 : decode cX4_readAll 85 = .ok (.invokevirtual 57, 3) := by decide +kernel
theorem dX4_readAll_88 : decode cX4_readAll 88 = .ok (.ifCond .ne 9, 3) := by decide +kernel
theorem dX4_readAll_91 : decode cX4_readAll 91 = .ok (.aload_n 0, 1) := by decide +kernel
theorem dX4_readAll_92 : decode cX4_readAll 92 = .ok (.bipush 6, 2) := by decide +kernel
theorem dX4_readAll_94 : decode cX4_readAll 94 = .ok (.invokevirtual 61, 3) := by decide +kernel
theorem dX4_readAll_97 : decode cX4_readAll 97 = .ok (.iinc 2 1, 3) := by decide +kernel
theorem dX4_readAll_100 : decode cX4_readAll 100 = .ok (.goto (-39), 3) := by decide +kernel
theorem dX4_readAll_103 : decode cX4_readAll 103 = .ok (.aload_n 0, 1) := by decide +kernel
theorem dX4_readAll_104 : decode cX4_readAll 104 = .ok (.getfield 18, 3) := by decide +kernel
theorem dX4_readAll_107 : decode cX4_readAll 107 = .ok (.ifCond .ne 7, 3) := by decide +kernel
theorem dX4_readAll_110 : decode cX4_readAll 110 = .ok (.iload_n 1, 1) := by decide +kernel
theorem dX4_readAll_111 : decode cX4_readAll 111 = .ok (.goto 10, 3) := by decide +kernel
theorem dX4_readAll_114 : decode cX4_readAll 114 = .ok (.bipush (-10), 2) := by decide +kernel
theorem dX4_readAll_116 : decode cX4_readAll 116 = .ok (.aload_n 0, 1) := by decide +kernel
theorem dX4_readAll_117 : decode cX4_readAll 117 = .ok (.getfield 22, 3) := by decide +kernel
theorem dX4_readAll_120 : decode cX4_readAll 120 = .ok (.isub, 1) := by decide +kernel
theorem dX4_readAll_121 : decode cX4_readAll 121 = .ok (.ireturn, 1) := by decide +kernel
theorem dX4_fail_0 : decode cX4_fail 0 = .ok (.aload_n 0, 1) := by decide +kernel
theorem dX4_fail_1 : decode cX4_fail 1 = .ok (.getfield 18, 3) := by decide +kernel
theorem dX4_fail_4 : decode cX4_fail 4 = .ok (.ifCond .ne 16, 3) := by decide +kernel
theorem dX4_fail_7 : decode cX4_fail 7 = .ok (.aload_n 0, 1) := by decide +kernel
theorem dX4_fail_8 : decode cX4_fail 8 = .ok (.iload_n 1, 1) := by decide +kernel
theorem dX4_fail_9 : decode cX4_fail 9 = .ok (.putfield 18, 3) := by decide +kernel
theorem dX4_fail_12 : decode cX4_fail 12 = .ok (.aload_n 0, 1) := by decide +kernel
theorem dX4_fail_13 : decode cX4_fail 13 = .ok (.aload_n 0, 1) := by decide +kernel
theorem dX4_fail_14 : decode cX4_fail 14 = .ok (.getfield 28, 3) := by decide +kernel
theorem dX4_fail_17 : decode cX4_fail 17 = .ok (.putfield 22, 3) := by decide +kernel
theorem dX4_fail_20 : decode cX4_fail 20 = .ok (.return_, 1) := by decide +kernel
theorem dX4_advance_0 : decode cX4_advance 0 = .ok (.aload_n 0, 1) := by decide +kernel
theorem dX4_advance_1 : decode cX4_advance 1 = .ok (.getfield 18, 3) := by decide +kernel
theorem dX4_advance_4 : decode cX4_advance 4 = .ok (.ifCond .eq 4, 3) := by decide +kernel
theorem dX4_advance_7 : decode cX4_advance 7 = .ok (.return_, 1) := by decide +kernel
theorem dX4_advance_8 : decode cX4_advance 8 = .ok (.aload_n 0, 1) := by decide +kernel
theorem dX4_advance_9 : decode cX4_advance 9 = .ok (.aload_n 0, 1) := by decide +kernel
theorem dX4_advance_10 : decode cX4_advance 10 = .ok (.getfield 37, 3) := by decide +kernel
theorem dX4_advance_13 : decode cX4_advance 13 = .ok (.aload_n 0, 1) := by decide +kernel
theorem dX4_advance_14 : decode cX4_advance 14 = .ok (.getfield 31, 3) := by decide +kernel
theorem dX4_advance_17 : decode cX4_advance 17 = .ok (.bipush 32, 2) := by decide +kernel
theorem dX4_advance_19 : decode cX4_advance 19 = .ok (.bipush 32, 2) := by decide +kernel
theorem dX4_advance_21 : decode cX4_advance 21 = .ok (.invokevirtual 65, 3) := by decide +kernel
theorem dX4_advance_24 : decode cX4_advance 24 = .ok (.putfield 28, 3) := by decide +kernel
theorem dX4_advance_27 : decode cX4_advance 27 = .ok (.aload_n 0, 1) := by decide +kernel
theorem dX4_advance_28 : decode cX4_advance 28 = .ok (.getfield 37, 3) := by decide +kernel
theorem dX4_advance_31 : decode cX4_advance 31 = .ok (.aload_n 0, 1) := by decide +kernel
theorem dX4_advance_32 : decode cX4_advance 32 = .ok (.getfield 28, 3) := by decide +kernel
theorem dX4_advance_35 : decode cX4_advance 35 = .ok (.invokevirtual 71, 3) := by decide +kernel
theorem dX4_advance_38 : decode cX4_advance 38 = .ok (.istore_n 1, 1) := by decide +kernel
theorem dX4_advance_39 : decode cX4_advance 39 = .ok (.aload_n 0, 1) := by decide +kernel
theorem dX4_advance_40 : decode cX4_advance 40 = .ok (.getfield 28, 3) := by decide +kernel
theorem dX4_advance_43 : decode cX4_advance 43 = .ok (.aload_n 0, 1) := by decide +kernel
theorem dX4_advance_44 : decode cX4_advance 44 = .ok (.getfield 37, 3) := by decide +kernel
theorem dX4_advance_47 : decode cX4_advance 47 = .ok (.getfield 75, 3) := by decide +kernel
theorem dX4_advance_50 : decode cX4_advance 50 = .ok (.if_icmp .lt 19, 3) := by decide +kernel
theorem dX4_advance_53 : decode cX4_advance 53 = .ok (.aload_n 0, 1) := by decide +kernel
theorem dX4_advance_54 : decode cX4_advance 54 = .ok (.iconst 4, 1) := by decide +kernel
theorem dX4_advance_55 : decode cX4_advance 55 = .ok (.putfield 25, 3) := by decide +kernel
theorem dX4_advance_58 : decode cX4_advance 58 = .ok (.aload_n 0, 1) := by decide +kernel
theorem dX4_advance_59 : decode cX4_advance 59 = .ok (.aload_n 0, 1) := by decide +kernel
theorem dX4_advance_60 : decode cX4_advance 60 = .ok (.getfield 28, 3) := by decide +kernel
theorem dX4_advance_63 : decode cX4_advance 63 = .ok (.putfield 31, 3) := by decide +kernel
theorem dX4_advance_66 : decode cX4_advance 66 = .ok (.goto 114, 3) := by decide +kernel
theorem dX4_advance_69 : decode cX4_advance 69 = .ok (.iload_n 1, 1) := by decide +kernel
theorem dX4_advance_70 : decode cX4_advance 70 = .ok (.bipush 97, 2) := by decide +kernel
theorem dX4_advance_72 : decode cX4_advance 72 = .ok (.if_icmp .lt 36, 3) := by decide +kernel
theorem dX4_advance_75 : decode cX4_advance 75 = .ok (.iload_n 1, 1) := by decide +kernel
theorem dX4_advance_76 : decode cX4_advance 76 = .ok (.bipush 122, 2) := by decide +kernel
theorem dX4_advance_78 : decode cX4_advance 78 = .ok (.if_icmp .gt 30, 3) := by decide +kernel
theorem dX4_advance_81 : decode cX4_advance 81 = .ok (.aload_n 0, 1) := by decide +kernel
theorem dX4_advance_82 : decode cX4_advance 82 = .ok (.iconst 1, 1) := by decide +kernel
theorem dX4_advance_83 : decode cX4_advance 83 = .ok (.putfield 25, 3) := by decide +kernel
theorem dX4_advance_86 : decode cX4_advance 86 = .ok (.aload_n 0, 1) := by decide +kernel
theorem dX4_advance_87 : decode cX4_advance 87 = .ok (.aload_n 0, 1) := by decide +kernel
theorem dX4_advance_88 : decode cX4_advance 88 = .ok (.getfield 37, 3) := by decide +kernel
theorem dX4_advance_91 : decode cX4_advance 91 = .ok (.aload_n 0, 1) := by decide +kernel
theorem dX4_advance_92 : decode cX4_advance 92 = .ok (.getfield 28, 3) := by decide +kernel
theorem dX4_advance_95 : decode cX4_advance 95 = .ok (.bipush 97, 2) := by decide +kernel
theorem dX4_advance_97 : decode cX4_advance 97 = .ok (.bipush 122, 2) := by decide +kernel
theorem dX4_advance_99 : decode cX4_advance 99 = .ok (.invokevirtual 65, 3) := by decide +kernel
theorem dX4_advance_102 : decode cX4_advance 102 = .ok (.putfield 31, 3) := by decide +kernel
theorem dX4_advance_105 : decode cX4_advance 105 = .ok (.goto 75, 3) := by decide +kernel
theorem dX4_advance_108 : decode cX4_advance 108 = .ok (.iload_n 1, 1) := by decide +kernel
theorem dX4_advance_109 : decode cX4_advance 109 = .ok (.bipush 48, 2) := by decide +kernel
theorem dX4_advance_111 : decode cX4_advance 111 = .ok (.if_icmp .lt 40, 3) := by decide +kernel
theorem dX4_advance_114 : decode cX4_advance 114 = .ok (.iload_n 1, 1) := by decide +kernel
theorem dX4_advance_115 : decode cX4_advance 115 = .ok (.bipush 57, 2) := by decide +kernel
theorem dX4_advance_117 : decode cX4_advance 117 = .ok (.if_icmp .gt 34, 3) := by decide +kernel
theorem dX4_advance_120 : decode cX4_advance 120 = .ok (.aload_n 0, 1) := by decide +kernel
theorem dX4_advance_121 : decode cX4_advance 121 = .ok (.iconst 2, 1) := by decide +kernel
theorem dX4_advance_122 : decode cX4_advance 122 = .ok (.putfield 25, 3) := by decide +kernel
theorem dX4_advance_125 : decode cX4_advance 125 = .ok (.aload_n 0, 1) := by decide +kernel
theorem dX4_advance_126 : decode cX4_advance 126 = .ok (.aload_n 0, 1) := by decide +kernel
theorem dX4_advance_127 : decode cX4_advance 127 = .ok (.getfield 37, 3) := by decide +kernel
theorem dX4_advance_130 : decode cX4_advance 130 = .ok (.aload_n 0, 1) := by decide +kernel
theorem dX4_advance_131 : decode cX4_advance 131 = .ok (.getfield 28, 3) := by decide +kernel
theorem dX4_advance_134 : decode cX4_advance 134 = .ok (.bipush 48, 2) := by decide +kernel
theorem dX4_advance_136 : decode cX4_advance 136 = .ok (.bipush 57, 2) := by decide +kernel
theorem dX4_advance_138 : decode cX4_advance 138 = .ok (.invokevirtual 65, 3) := by decide +kernel
theorem dX4_advance_141 : decode cX4_advance 141 = .ok (.putfield 31, 3) := by decide +kernel
theorem dX4_advance_144 : decode cX4_advance 144 = .ok (.aload_n 0, 1) := by decide +kernel
theorem dX4_advance_145 : decode cX4_advance 145 = .ok (.invokevirtual 78, 3) := by decide +kernel
theorem dX4_advance_148 : decode cX4_advance 148 = .ok (.goto 32, 3) := by decide +kernel
theorem dX4_advance_151 : decode cX4_advance 151 = .ok (.iload_n 1, 1) := by decide +kernel
theorem dX4_advance_152 : decode cX4_advance 152 = .ok (.bipush 59, 2) := by decide +kernel
theorem dX4_advance_154 : decode cX4_advance 154 = .ok (.if_icmp .ne 21, 3) := by decide +kernel
theorem dX4_advance_157 : decode cX4_advance 157 = .ok (.aload_n 0, 1) := by decide +kernel
theorem dX4_advance_158 : decode cX4_advance 158 = .ok (.iconst 3, 1) := by decide +kernel
theorem dX4_advance_159 : decode cX4_advance 159 = .ok (.putfield 25, 3) := by decide +kernel
theorem dX4_advance_162 : decode cX4_advance 162 = .ok (.aload_n 0, 1) := by decide +kernel
theorem dX4_advance_163 : decode cX4_advance 163 = .ok (.aload_n 0, 1) := by decide +kernel
theorem dX4_advance_164 : decode cX4_advance 164 = .ok (.getfield 28, 3) := by decide +kernel
theorem dX4_advance_167 : decode cX4_advance 167 = .ok (.iconst 1, 1) := by decide +kernel
theorem dX4_advance_168 : decode cX4_advance 168 = .ok (.iadd, 1) := by decide +kernel
theorem dX4_advance_169 : decode cX4_advance 169 = .ok (.putfield 31, 3) := by decide +kernel
theorem dX4_advance_172 : decode cX4_advance 172 = .ok (.goto 8, 3) := by decide +kernel
theorem dX4_advance_175 : decode cX4_advance 175 = .ok (.aload_n 0, 1) := by decide +kernel
theorem dX4_advance_176 : decode cX4_advance 176 = .ok (.iconst 1, 1) := by decide +kernel
theorem dX4_advance_177 : decode cX4_advance 177 = .ok (.invokevirtual 61, 3) := by decide +kernel
theorem dX4_advance_180 : decode cX4_advance 180 = .ok (.return_, 1) := by decide +kernel
theorem dX4_valueNumber_0 : decode cX4_valueNumber 0 = .ok (.aload_n 0, 1) := by decide +kernel
theorem dX4_valueNumber_1 : decode cX4_valueNumber 1 = .ok (.getfield 31, 3) := by decide +kernel
theorem dX4_valueNumber_4 : decode cX4_valueNumber 4 = .ok (.aload_n 0, 1) := by decide +kernel
theorem dX4_valueNumber_5 : decode cX4_valueNumber 5 = .ok (.getfield 28, 3) := by decide +kernel
theorem dX4_valueNumber_8 : decode cX4_valueNumber 8 = .ok (.isub, 1) := by decide +kernel
theorem dX4_valueNumber_9 : decode cX4_valueNumber 9 = .ok (.istore_n 1, 1) := by decide +kernel
theorem dX4_valueNumber_10 : decode cX4_valueNumber 10 = .ok (.iload_n 1, 1) := by decide +kernel
theorem dX4_valueNumber_11 : decode cX4_valueNumber 11 = .ok (.iconst 2, 1) := by decide +kernel
theorem dX4_valueNumber_12 : decode cX4_valueNumber 12 = .ok (.if_icmp .le 11, 3) := by decide +kernel
theorem dX4_valueNumber_15 : decode cX4_valueNumber 15 = .ok (.aload_n 0, 1) := by decide +kernel
theorem dX4_valueNumber_16 : decode cX4_valueNumber 16 = .ok (.iconst 1, 1) := by decide +kernel
theorem dX4_valueNumber_17 : decode cX4_valueNumber 17 = .ok (.invokevirtual 61, 3) := by decide +kernel
theorem dX4_valueNumber_20 : decode cX4_valueNumber 20 = .ok (.goto 52, 3) := by decide +kernel
theorem dX4_valueNumber_23 : decode cX4_valueNumber 23 = .ok (.aload_n 0, 1) := by decide +kernel
theorem dX4_valueNumber_24 : decode cX4_valueNumber 24 = .ok (.getfield 37, 3) := by decide +kernel
theorem dX4_valueNumber_27 : decode cX4_valueNumber 27 = .ok (.aload_n 0, 1) := by decide +kernel
theorem dX4_valueNumber_28 : decode cX4_valueNumber 28 = .ok (.getfield 31, 3) := by decide +kernel
theorem dX4_valueNumber_31 : decode cX4_valueNumber 31 = .ok (.iconst 1, 1) := by decide +kernel
theorem dX4_valueNumber_32 : decode cX4_valueNumber 32 = .ok (.isub, 1) := by decide +kernel
theorem dX4_valueNumber_33 : decode cX4_valueNumber 33 = .ok (.invokevirtual 71, 3) := by decide +kernel
theorem dX4_valueNumber_36 : decode cX4_valueNumber 36 = .ok (.bipush 48, 2) := by decide +kernel
theorem dX4_valueNumber_38 : decode cX4_valueNumber 38 = .ok (.isub, 1) := by decide +kernel
theorem dX4_valueNumber_39 : decode cX4_valueNumber 39 = .ok (.istore_n 2, 1) := by decide +kernel
theorem dX4_valueNumber_40 : decode cX4_valueNumber 40 = .ok (.aload_n 0, 1) := by decide +kernel
theorem dX4_valueNumber_41 : decode cX4_valueNumber 41 = .ok (.iload_n 1, 1) := by decide +kernel
theorem dX4_valueNumber_42 : decode cX4_valueNumber 42 = .ok (.iconst 2, 1) := by decide +kernel
theorem dX4_valueNumber_43 : decode cX4_valueNumber 43 = .ok (.if_icmp .ne 25, 3) := by decide +kernel
theorem dX4_valueNumber_46 : decode cX4_valueNumber 46 = .ok (.bipush 10, 2) := by decide +kernel
theorem dX4_valueNumber_48 : decode cX4_valueNumber 48 = .ok (.aload_n 0, 1) := by decide +kernel
theorem dX4_valueNumber_49 : decode cX4_valueNumber 49 = .ok (.getfield 37, 3) := by decide +kernel
theorem dX4_valueNumber_52 : decode cX4_valueNumber 52 = .ok (.aload_n 0, 1) := by decide +kernel
theorem dX4_valueNumber_53 : decode cX4_valueNumber 53 = .ok (.getfield 28, 3) := by decide +kernel
theorem dX4_valueNumber_56 : decode cX4_valueNumber 56 = .ok (.invokevirtual 71, 3) := by decide +kernel
theorem dX4_valueNumber_59 : decode cX4_valueNumber 59 = .ok (.bipush 48, 2) := by decide +kernel
theorem dX4_valueNumber_61 : decode cX4_valueNumber 61 = .ok (.isub, 1) := by decide +kernel
theorem dX4_valueNumber_62 : decode cX4_valueNumber 62 = .ok (.imul, 1) := by decide +kernel
theorem dX4_valueNumber_63 : decode cX4_valueNumber 63 = .ok (.iload_n 2, 1) := by decide +kernel
theorem dX4_valueNumber_64 : decode cX4_valueNumber 64 = .ok (.iadd, 1) := by decide +kernel
theorem dX4_valueNumber_65 : decode cX4_valueNumber 65 = .ok (.goto 4, 3) := by decide +kernel
theorem dX4_valueNumber_68 : decode cX4_valueNumber 68 = .ok (.iload_n 2, 1) := by decide +kernel
theorem dX4_valueNumber_69 : decode cX4_valueNumber 69 = .ok (.putfield 34, 3) := by decide +kernel
theorem dX4_valueNumber_72 : decode cX4_valueNumber 72 = .ok (.return_, 1) := by decide +kernel
theorem dX4_isNamed_0 : decode cX4_isNamed 0 = .ok (.aload_n 0, 1) := by decide +kernel
theorem dX4_isNamed_1 : decode cX4_isNamed 1 = .ok (.getfield 25, 3) := by decide +kernel
theorem dX4_isNamed_4 : decode cX4_isNamed 4 = .ok (.iconst 1, 1) := by decide +kernel
theorem dX4_isNamed_5 : decode cX4_isNamed 5 = .ok (.if_icmp .ne 19, 3) := by decide +kernel
theorem dX4_isNamed_8 : decode cX4_isNamed 8 = .ok (.aload_n 0, 1) := by decide +kernel
theorem dX4_isNamed_9 : decode cX4_isNamed 9 = .ok (.getfield 31, 3) := by decide +kernel
theorem dX4_isNamed_12 : decode cX4_isNamed 12 = .ok (.aload_n 0, 1) := by decide +kernel
theorem dX4_isNamed_13 : decode cX4_isNamed 13 = .ok (.getfield 28, 3) := by decide +kernel
theorem dX4_isNamed_16 : decode cX4_isNamed 16 = .ok (.isub, 1) := by decide +kernel
theorem dX4_isNamed_17 : decode cX4_isNamed 17 = .ok (.aload_n 1, 1) := by decide +kernel
theorem dX4_isNamed_18 : decode cX4_isNamed 18 = .ok (.invokevirtual 81, 3) := by decide +kernel
theorem dX4_isNamed_21 : decode cX4_isNamed 21 = .ok (.if_icmp .eq 5, 3) := by decide +kernel
theorem dX4_isNamed_24 : decode cX4_isNamed 24 = .ok (.iconst 0, 1) := by decide +kernel
theorem dX4_isNamed_25 : decode cX4_isNamed 25 = .ok (.ireturn, 1) := by decide +kernel
theorem dX4_isNamed_26 : decode cX4_isNamed 26 = .ok (.iconst 0, 1) := by decide +kernel
theorem dX4_isNamed_27 : decode cX4_isNamed 27 = .ok (.istore_n 2, 1) := by decide +kernel
theorem dX4_isNamed_28 : decode cX4_isNamed 28 = .ok (.iload_n 2, 1) := by decide +kernel
theorem dX4_isNamed_29 : decode cX4_isNamed 29 = .ok (.aload_n 1, 1) := by decide +kernel
theorem dX4_isNamed_30 : decode cX4_isNamed 30 = .ok (.invokevirtual 81, 3) := by decide +kernel
theorem dX4_isNamed_33 : decode cX4_isNamed 33 = .ok (.if_icmp .ge 32, 3) := by decide +kernel
theorem dX4_isNamed_36 : decode cX4_isNamed 36 = .ok (.aload_n 0, 1) := by decide +kernel
theorem dX4_isNamed_37 : decode cX4_isNamed 37 = .ok (.getfield 37, 3) := by decide +kernel
theorem dX4_isNamed_40 : decode cX4_isNamed 40 = .ok (.aload_n 0, 1) := by decide +kernel
theorem dX4_isNamed_41 : decode cX4_isNamed 41 = .ok (.getfield 28, 3) := by decide +kernel
theorem dX4_isNamed_44 : decode cX4_isNamed 44 = .ok (.iload_n 2, 1) := by decide +kernel
theorem dX4_isNamed_45 : decode cX4_isNamed 45 = .ok (.iadd, 1) := by decide +kernel
theorem dX4_isNamed_46 : decode cX4_isNamed 46 = .ok (.invokevirtual 71, 3) := by decide +kernel
theorem dX4_isNamed_49 : decode cX4_isNamed 49 = .ok (.aload_n 1, 1) := by decide +kernel
theorem dX4_isNamed_50 : decode cX4_isNamed 50 = .ok (.iload_n 2, 1) := by decide +kernel
theorem dX4_isNamed_51 : decode cX4_isNamed 51 = .ok (.invokevirtual 86, 3) := by decide +kernel
theorem dX4_isNamed_54 : decode cX4_isNamed 54 = .ok (.if_icmp .eq 5, 3) := by decide +kernel
theorem dX4_isNamed_57 : decode cX4_isNamed 57 = .ok (.iconst 0, 1) := by decide +kernel
theorem dX4_isNamed_58 : decode cX4_isNamed 58 = .ok (.ireturn, 1) := by decide +kernel
theorem dX4_isNamed_59 : decode cX4_isNamed 59 = .ok (.iinc 2 1, 3) := by decide +kernel
theorem dX4_isNamed_62 : decode cX4_isNamed 62 = .ok (.goto (-34), 3) := by decide +kernel
theorem dX4_isNamed_65 : decode cX4_isNamed 65 = .ok (.iconst 1, 1) := by decide +kernel
theorem dX4_isNamed_66 : decode cX4_isNamed 66 = .ok (.ireturn, 1) := by decide +kernel
theorem dX4_readLine_0 : decode cX4_readLine 0 = .ok (.aload_n 0, 1) := by decide +kernel
theorem dX4_readLine_1 : decode cX4_readLine 1 = .ok (.ldc 90, 2) := by decide +kernel
theorem dX4_readLine_3 : decode cX4_readLine 3 = .ok (.invokevirtual 92, 3) := by decide +kernel
theorem dX4_readLine_6 : decode cX4_readLine 6 = .ok (.ifCond .eq 10, 3) := by decide +kernel
theorem dX4_readLine_9 : decode cX4_readLine 9 = .ok (.aload_n 0, 1) := by decide +kernel
theorem dX4_readLine_10 : decode cX4_readLine 10 = .ok (.invokevirtual 96, 3) := by decide +kernel
theorem dX4_readLine_13 : decode cX4_readLine 13 = .ok (.goto 108, 3) := by decide +kernel
theorem dX4_readLine_16 : decode cX4_readLine 16 = .ok (.aload_n 0, 1) := by decide +kernel
theorem dX4_readLine_17 : decode cX4_readLine 17 = .ok (.ldc 99, 2) := by decide +kernel
theorem dX4_readLine_19 : decode cX4_readLine 19 = .ok (.invokevirtual 92, 3) := by decide +kernel
theorem dX4_readLine_22 : decode cX4_readLine 22 = .ok (.ifCond .eq 10, 3) := by decide +kernel
theorem dX4_readLine_25 : decode cX4_readLine 25 = .ok (.aload_n 0, 1) := by decide +kernel
theorem dX4_readLine_26 : decode cX4_readLine 26 = .ok (.invokevirtual 101, 3) := by decide +kernel
theorem dX4_readLine_29 : decode cX4_readLine 29 = .ok (.goto 92, 3) := by decide +kernel
theorem dX4_readLine_32 : decode cX4_readLine 32 = .ok (.aload_n 0, 1) := by decide +kernel
theorem dX4_readLine_33 : decode cX4_readLine 33 = .ok (.ldc 104, 2) := by decide +kernel
theorem dX4_readLine_35 : decode cX4_readLine 35 = .ok (.invokevirtual 92, 3) := by decide +kernel
theorem dX4_readLine_38 : decode cX4_readLine 38 = .ok (.ifCond .eq 10, 3) := by decide +kernel
theorem dX4_readLine_41 : decode cX4_readLine 41 = .ok (.aload_n 0, 1) := by decide +kernel
theorem dX4_readLine_42 : decode cX4_readLine 42 = .ok (.invokevirtual 106, 3) := by decide +kernel
theorem dX4_readLine_45 : decode cX4_readLine 45 = .ok (.goto 76, 3) := by decide +kernel
theorem dX4_readLine_48 : decode cX4_readLine 48 = .ok (.aload_n 0, 1) := by decide +kernel
theorem dX4_readLine_49 : decode cX4_readLine 49 = .ok (.ldc 109, 2) := by decide +kernel
theorem dX4_readLine_51 : decode cX4_readLine 51 = .ok (.invokevirtual 92, 3) := by decide +kernel
theorem dX4_readLine_54 : decode cX4_readLine 54 = .ok (.ifCond .eq 11, 3) := by decide +kernel
theorem dX4_readLine_57 : decode cX4_readLine 57 = .ok (.aload_n 0, 1) := by decide +kernel
theorem dX4_readLine_58 : decode cX4_readLine 58 = .ok (.iconst 0, 1) := by decide +kernel
theorem dX4_readLine_59 : decode cX4_readLine 59 = .ok (.invokevirtual 111, 3) := by decide +kernel
theorem dX4_readLine_62 : decode cX4_readLine 62 = .ok (.goto 59, 3) := by decide +kernel
theorem dX4_readLine_65 : decode cX4_readLine 65 = .ok (.aload_n 0, 1) := by decide +kernel
theorem dX4_readLine_66 : decode cX4_readLine 66 = .ok (.ldc 114, 2) := by decide +kernel
theorem dX4_readLine_68 : decode cX4_readLine 68 = .ok (.invokevirtual 92, 3) := by decide +kernel
theorem dX4_readLine_71 : decode cX4_readLine 71 = .ok (.ifCond .eq 11, 3) := by decide +kernel
theorem dX4_readLine_74 : decode cX4_readLine 74 = .ok (.aload_n 0, 1) := by decide +kernel
theorem dX4_readLine_75 : decode cX4_readLine 75 = .ok (.iconst 1, 1) := by decide +kernel
theorem dX4_readLine_76 : decode cX4_readLine 76 = .ok (.invokevirtual 111, 3) := by decide +kernel
theorem dX4_readLine_79 : decode cX4_readLine 79 = .ok (.goto 42, 3) := by decide +kernel
theorem dX4_readLine_82 : decode cX4_readLine 82 = .ok (.aload_n 0, 1) := by decide +kernel
theorem dX4_readLine_83 : decode cX4_readLine 83 = .ok (.ldc 116, 2) := by decide +kernel
theorem dX4_readLine_85 : decode cX4_readLine 85 = .ok (.invokevirtual 92, 3) := by decide +kernel
theorem dX4_readLine_88 : decode cX4_readLine 88 = .ok (.ifCond .eq 11, 3) := by decide +kernel
theorem dX4_readLine_91 : decode cX4_readLine 91 = .ok (.aload_n 0, 1) := by decide +kernel
theorem dX4_readLine_92 : decode cX4_readLine 92 = .ok (.iconst 2, 1) := by decide +kernel
theorem dX4_readLine_93 : decode cX4_readLine 93 = .ok (.invokevirtual 111, 3) := by decide +kernel
theorem dX4_readLine_96 : decode cX4_readLine 96 = .ok (.goto 25, 3) := by decide +kernel
theorem dX4_readLine_99 : decode cX4_readLine 99 = .ok (.aload_n 0, 1) := by decide +kernel
theorem dX4_readLine_100 : decode cX4_readLine 100 = .ok (.ldc 118, 2) := by decide +kernel
theorem dX4_readLine_102 : decode cX4_readLine 102 = .ok (.invokevirtual 92, 3) := by decide +kernel
theorem dX4_readLine_105 : decode cX4_readLine 105 = .ok (.ifCond .eq 11, 3) := by decide +kernel
theorem dX4_readLine_108 : decode cX4_readLine 108 = .ok (.aload_n 0, 1) := by decide +kernel
theorem dX4_readLine_109 : decode cX4_readLine 109 = .ok (.iconst 3, 1) := by decide +kernel
theorem dX4_readLine_110 : decode cX4_readLine 110 = .ok (.invokevirtual 111, 3) := by decide +kernel
theorem dX4_readLine_113 : decode cX4_readLine 113 = .ok (.goto 8, 3) := by decide +kernel
theorem dX4_readLine_116 : decode cX4_readLine 116 = .ok (.aload_n 0, 1) := by decide +kernel
theorem dX4_readLine_117 : decode cX4_readLine 117 = .ok (.iconst 2, 1) := by decide +kernel
theorem dX4_readLine_118 : decode cX4_readLine 118 = .ok (.invokevirtual 61, 3) := by decide +kernel
theorem dX4_readLine_121 : decode cX4_readLine 121 = .ok (.return_, 1) := by decide +kernel
theorem dX4_readPeg_0 : decode cX4_readPeg 0 = .ok (.aload_n 0, 1) := by decide +kernel
theorem dX4_readPeg_1 : decode cX4_readPeg 1 = .ok (.getfield 12, 3) := by decide +kernel
theorem dX4_readPeg_4 : decode cX4_readPeg 4 = .ok (.getfield 120, 3) := by decide +kernel
theorem dX4_readPeg_7 : decode cX4_readPeg 7 = .ok (.bipush 7, 2) := by decide +kernel
theorem dX4_readPeg_9 : decode cX4_readPeg 9 = .ok (.if_icmp .lt 8, 3) := by decide +kernel
theorem dX4_readPeg_12 : decode cX4_readPeg 12 = .ok (.aload_n 0, 1) := by decide +kernel
theorem dX4_readPeg_13 : decode cX4_readPeg 13 = .ok (.iconst 5, 1) := by decide +kernel
theorem dX4_readPeg_14 : decode cX4_readPeg 14 = .ok (.invokevirtual 61, 3) := by decide +kernel
theorem dX4_readPeg_17 : decode cX4_readPeg 17 = .ok (.aload_n 0, 1) := by decide +kernel
theorem dX4_readPeg_18 : decode cX4_readPeg 18 = .ok (.iconst 0, 1) := by decide +kernel
theorem dX4_readPeg_19 : decode cX4_readPeg 19 = .ok (.bipush 99, 2) := by decide +kernel
theorem dX4_readPeg_21 : decode cX4_readPeg 21 = .ok (.invokevirtual 123, 3) := by decide +kernel
theorem dX4_readPeg_24 : decode cX4_readPeg 24 = .ok (.istore_n 1, 1) := by decide +kernel
theorem dX4_readPeg_25 : decode cX4_readPeg 25 = .ok (.aload_n 0, 1) := by decide +kernel
theorem dX4_readPeg_26 : decode cX4_readPeg 26 = .ok (.iload_n 1, 1) := by decide +kernel
theorem dX4_readPeg_27 : decode cX4_readPeg 27 = .ok (.invokevirtual 127, 3) := by decide +kernel
theorem dX4_readPeg_30 : decode cX4_readPeg 30 = .ok (.aload_n 0, 1) := by decide +kernel
theorem dX4_readPeg_31 : decode cX4_readPeg 31 = .ok (.iconst 0, 1) := by decide +kernel
theorem dX4_readPeg_32 : decode cX4_readPeg 32 = .ok (.iconst 3, 1) := by decide +kernel
theorem dX4_readPeg_33 : decode cX4_readPeg 33 = .ok (.invokevirtual 123, 3) := by decide +kernel
theorem dX4_readPeg_36 : decode cX4_readPeg 36 = .ok (.istore_n 2, 1) := by decide +kernel
theorem dX4_readPeg_37 : decode cX4_readPeg 37 = .ok (.aload_n 0, 1) := by decide +kernel
theorem dX4_readPeg_38 : decode cX4_readPeg 38 = .ok (.invokevirtual 130, 3) := by decide +kernel
theorem dX4_readPeg_41 : decode cX4_readPeg 41 = .ok (.aload_n 0, 1) := by decide +kernel
theorem dX4_readPeg_42 : decode cX4_readPeg 42 = .ok (.getfield 18, 3) := by decide +kernel
theorem dX4_readPeg_45 : decode cX4_readPeg 45 = .ok (.ifCond .ne 13, 3) := by decide +kernel
theorem dX4_readPeg_48 : decode cX4_readPeg 48 = .ok (.aload_n 0, 1) := by decide +kernel
theorem dX4_readPeg_49 : decode cX4_readPeg 49 = .ok (.getfield 12, 3) := by decide +kernel
theorem dX4_readPeg_52 : decode cX4_readPeg 52 = .ok (.iload_n 1, 1) := by decide +kernel
theorem dX4_readPeg_53 : decode cX4_readPeg 53 = .ok (.iload_n 2, 1) := by decide +kernel
theorem dX4_readPeg_54 : decode cX4_readPeg 54 = .ok (.invokevirtual 133, 3) := by decide +kernel
theorem dX4_readPeg_57 : decode cX4_readPeg 57 = .ok (.pop, 1) := by decide +kernel
theorem dX4_readPeg_58 : decode cX4_readPeg 58 = .ok (.return_, 1) := by decide +kernel
theorem dX4_readSlug_0 : decode cX4_readSlug 0 = .ok (.aload_n 0, 1) := by decide +kernel
theorem dX4_readSlug_1 : decode cX4_readSlug 1 = .ok (.getfield 12, 3) := by decide +kernel
theorem dX4_readSlug_4 : decode cX4_readSlug 4 = .ok (.getfield 136, 3) := by decide +kernel
theorem dX4_readSlug_7 : decode cX4_readSlug 7 = .ok (.iconst 4, 1) := by decide +kernel
theorem dX4_readSlug_8 : decode cX4_readSlug 8 = .ok (.if_icmp .lt 8, 3) := by decide +kernel
theorem dX4_readSlug_11 : decode cX4_readSlug 11 = .ok (.aload_n 0, 1) := by decide +kernel
theorem dX4_readSlug_12 : decode cX4_readSlug 12 = .ok (.iconst 5, 1) := by decide +kernel
theorem dX4_readSlug_13 : decode cX4_readSlug 13 = .ok (.invokevirtual 61, 3) := by decide +kernel
theorem dX4_readSlug_16 : decode cX4_readSlug 16 = .ok (.aload_n 0, 1) := by decide +kernel
theorem dX4_readSlug_17 : decode cX4_readSlug 17 = .ok (.iconst 0, 1) := by decide +kernel
theorem dX4_readSlug_18 : decode cX4_readSlug 18 = .ok (.bipush 99, 2) := by decide +kernel
theorem dX4_readSlug_20 : decode cX4_readSlug 20 = .ok (.invokevirtual 123, 3) := by decide +kernel
theorem dX4_readSlug_23 : decode cX4_readSlug 23 = .ok (.istore_n 1, 1) := by decide +kernel
theorem dX4_readSlug_24 : decode cX4_readSlug 24 = .ok (.aload_n 0, 1) := by decide +kernel
theorem dX4_readSlug_25 : decode cX4_readSlug 25 = .ok (.iload_n 1, 1) := by decide +kernel
theorem dX4_readSlug_26 : decode cX4_readSlug 26 = .ok (.invokevirtual 127, 3) := by decide +kernel
theorem dX4_readSlug_29 : decode cX4_readSlug 29 = .ok (.aload_n 0, 1) := by decide +kernel
theorem dX4_readSlug_30 : decode cX4_readSlug 30 = .ok (.invokevirtual 130, 3) := by decide +kernel
theorem dX4_readSlug_33 : decode cX4_readSlug 33 = .ok (.aload_n 0, 1) := by decide +kernel
theorem dX4_readSlug_34 : decode cX4_readSlug 34 = .ok (.getfield 18, 3) := by decide +kernel
theorem dX4_readSlug_37 : decode cX4_readSlug 37 = .ok (.ifCond .ne 12, 3) := by decide +kernel
theorem dX4_readSlug_40 : decode cX4_readSlug 40 = .ok (.aload_n 0, 1) := by decide +kernel
theorem dX4_readSlug_41 : decode cX4_readSlug 41 = .ok (.getfield 12, 3) := by decide +kernel
theorem dX4_readSlug_44 : decode cX4_readSlug 44 = .ok (.iload_n 1, 1) := by decide +kernel
theorem dX4_readSlug_45 : decode cX4_readSlug 45 = .ok (.invokevirtual 139, 3) := by decide +kernel
theorem dX4_readSlug_48 : decode cX4_readSlug 48 = .ok (.pop, 1) := by decide +kernel
theorem dX4_readSlug_49 : decode cX4_readSlug 49 = .ok (.return_, 1) := by decide +kernel
theorem dX4_readHedgehog_0 : decode cX4_readHedgehog 0 = .ok (.aload_n 0, 1) := by decide +kernel
theorem dX4_readHedgehog_1 : decode cX4_readHedgehog 1 = .ok (.getfield 12, 3) := by decide +kernel
theorem dX4_readHedgehog_4 : decode cX4_readHedgehog 4 = .ok (.getfield 142, 3) := by decide +kernel
theorem dX4_readHedgehog_7 : decode cX4_readHedgehog 7 = .ok (.iconst 4, 1) := by decide +kernel
theorem dX4_readHedgehog_8 : decode cX4_readHedgehog 8 = .ok (.if_icmp .lt 8, 3) := by decide +kernel
theorem dX4_readHedgehog_11 : decode cX4_readHedgehog 11 = .ok (.aload_n 0, 1) := by decide +kernel
theorem dX4_readHedgehog_12 : decode cX4_readHedgehog 12 = .ok (.iconst 5, 1) := by decide +kernel
theorem dX4_readHedgehog_13 : decode cX4_readHedgehog 13 = .ok (.invokevirtual 61, 3) := by decide +kernel
theorem dX4_readHedgehog_16 : decode cX4_readHedgehog 16 = .ok (.aload_n 0, 1) := by decide +kernel
theorem dX4_readHedgehog_17 : decode cX4_readHedgehog 17 = .ok (.iconst 1, 1) := by decide +kernel
theorem dX4_readHedgehog_18 : decode cX4_readHedgehog 18 = .ok (.bipush 9, 2) := by decide +kernel
theorem dX4_readHedgehog_20 : decode cX4_readHedgehog 20 = .ok (.invokevirtual 123, 3) := by decide +kernel
theorem dX4_readHedgehog_23 : decode cX4_readHedgehog 23 = .ok (.istore_n 2, 1) := by decide +kernel
theorem dX4_readHedgehog_24 : decode cX4_readHedgehog 24 = .ok (.aload_n 0, 1) := by decide +kernel
theorem dX4_readHedgehog_25 : decode cX4_readHedgehog 25 = .ok (.invokevirtual 130, 3) := by decide +kernel
theorem dX4_readHedgehog_28 : decode cX4_readHedgehog 28 = .ok (.aload_n 0, 1) := by decide +kernel
theorem dX4_readHedgehog_29 : decode cX4_readHedgehog 29 = .ok (.getfield 18, 3) := by decide +kernel
theorem dX4_readHedgehog_32 : decode cX4_readHedgehog 32 = .ok (.ifCond .ne 13, 3) := by decide +kernel
theorem dX4_readHedgehog_35 : decode cX4_readHedgehog 35 = .ok (.aload_n 0, 1) := by decide +kernel
theorem dX4_readHedgehog_36 : decode cX4_readHedgehog 36 = .ok (.getfield 12, 3) := by decide +kernel
theorem dX4_readHedgehog_39 : decode cX4_readHedgehog 39 = .ok (.iload_n 1, 1) := by decide +kernel
theorem dX4_readHedgehog_40 : decode cX4_readHedgehog 40 = .ok (.iload_n 2, 1) := by decide +kernel
theorem dX4_readHedgehog_41 : decode cX4_readHedgehog 41 = .ok (.invokevirtual 145, 3) := by decide +kernel
theorem dX4_readHedgehog_44 : decode cX4_readHedgehog 44 = .ok (.pop, 1) := by decide +kernel
theorem dX4_readHedgehog_45 : decode cX4_readHedgehog 45 = .ok (.return_, 1) := by decide +kernel
theorem dX4_readSuit_0 : decode cX4_readSuit 0 = .ok (.aload_n 0, 1) := by decide +kernel
theorem dX4_readSuit_1 : decode cX4_readSuit 1 = .ok (.getfield 12, 3) := by decide +kernel
theorem dX4_readSuit_4 : decode cX4_readSuit 4 = .ok (.getfield 50, 3) := by decide +kernel
theorem dX4_readSuit_7 : decode cX4_readSuit 7 = .ok (.bipush 6, 2) := by decide +kernel
theorem dX4_readSuit_9 : decode cX4_readSuit 9 = .ok (.if_icmp .lt 8, 3) := by decide +kernel
theorem dX4_readSuit_12 : decode cX4_readSuit 12 = .ok (.aload_n 0, 1) := by decide +kernel
theorem dX4_readSuit_13 : decode cX4_readSuit 13 = .ok (.iconst 5, 1) := by decide +kernel
theorem dX4_readSuit_14 : decode cX4_readSuit 14 = .ok (.invokevirtual 61, 3) := by decide +kernel
theorem dX4_readSuit_17 : decode cX4_readSuit 17 = .ok (.aload_n 0, 1) := by decide +kernel
theorem dX4_readSuit_18 : decode cX4_readSuit 18 = .ok (.iconst 0, 1) := by decide +kernel
theorem dX4_readSuit_19 : decode cX4_readSuit 19 = .ok (.iconst 3, 1) := by decide +kernel
theorem dX4_readSuit_20 : decode cX4_readSuit 20 = .ok (.invokevirtual 123, 3) := by decide +kernel
theorem dX4_readSuit_23 : decode cX4_readSuit 23 = .ok (.istore_n 1, 1) := by decide +kernel
theorem dX4_readSuit_24 : decode cX4_readSuit 24 = .ok (.aload_n 0, 1) := by decide +kernel
theorem dX4_readSuit_25 : decode cX4_readSuit 25 = .ok (.iconst 0, 1) := by decide +kernel
theorem dX4_readSuit_26 : decode cX4_readSuit 26 = .ok (.bipush 7, 2) := by decide +kernel
theorem dX4_readSuit_28 : decode cX4_readSuit 28 = .ok (.invokevirtual 123, 3) := by decide +kernel
theorem dX4_readSuit_31 : decode cX4_readSuit 31 = .ok (.istore_n 2, 1) := by decide +kernel
theorem dX4_readSuit_32 : decode cX4_readSuit 32 = .ok (.aload_n 0, 1) := by decide +kernel
theorem dX4_readSuit_33 : decode cX4_readSuit 33 = .ok (.invokevirtual 130, 3) := by decide +kernel
theorem dX4_readSuit_36 : decode cX4_readSuit 36 = .ok (.aload_n 0, 1) := by decide +kernel
theorem dX4_readSuit_37 : decode cX4_readSuit 37 = .ok (.getfield 18, 3) := by decide +kernel
theorem dX4_readSuit_40 : decode cX4_readSuit 40 = .ok (.ifCond .ne 13, 3) := by decide +kernel
theorem dX4_readSuit_43 : decode cX4_readSuit 43 = .ok (.aload_n 0, 1) := by decide +kernel
theorem dX4_readSuit_44 : decode cX4_readSuit 44 = .ok (.getfield 12, 3) := by decide +kernel
theorem dX4_readSuit_47 : decode cX4_readSuit 47 = .ok (.iload_n 1, 1) := by decide +kernel
theorem dX4_readSuit_48 : decode cX4_readSuit 48 = .ok (.iload_n 2, 1) := by decide +kernel
theorem dX4_readSuit_49 : decode cX4_readSuit 49 = .ok (.invokevirtual 148, 3) := by decide +kernel
theorem dX4_readSuit_52 : decode cX4_readSuit 52 = .ok (.pop, 1) := by decide +kernel
theorem dX4_readSuit_53 : decode cX4_readSuit 53 = .ok (.return_, 1) := by decide +kernel
theorem dX4_takeNumber_0 : decode cX4_takeNumber 0 = .ok (.aload_n 0, 1) := by decide +kernel
theorem dX4_takeNumber_1 : decode cX4_takeNumber 1 = .ok (.invokevirtual 44, 3) := by decide +kernel
theorem dX4_takeNumber_4 : decode cX4_takeNumber 4 = .ok (.aload_n 0, 1) := by decide +kernel
theorem dX4_takeNumber_5 : decode cX4_takeNumber 5 = .ok (.getfield 25, 3) := by decide +kernel
theorem dX4_takeNumber_8 : decode cX4_takeNumber 8 = .ok (.iconst 2, 1) := by decide +kernel
theorem dX4_takeNumber_9 : decode cX4_takeNumber 9 = .ok (.if_icmp .eq 11, 3) := by decide +kernel
theorem dX4_takeNumber_12 : decode cX4_takeNumber 12 = .ok (.aload_n 0, 1) := by decide +kernel
theorem dX4_takeNumber_13 : decode cX4_takeNumber 13 = .ok (.iconst 2, 1) := by decide +kernel
theorem dX4_takeNumber_14 : decode cX4_takeNumber 14 = .ok (.invokevirtual 61, 3) := by decide +kernel
theorem dX4_takeNumber_17 : decode cX4_takeNumber 17 = .ok (.goto 24, 3) := by decide +kernel
theorem dX4_takeNumber_20 : decode cX4_takeNumber 20 = .ok (.aload_n 0, 1) := by decide +kernel
theorem dX4_takeNumber_21 : decode cX4_takeNumber 21 = .ok (.getfield 34, 3) := by decide +kernel
theorem dX4_takeNumber_24 : decode cX4_takeNumber 24 = .ok (.iload_n 1, 1) := by decide +kernel
theorem dX4_takeNumber_25 : decode cX4_takeNumber 25 = .ok (.if_icmp .lt 11, 3) := by decide +kernel
theorem dX4_takeNumber_28 : decode cX4_takeNumber 28 = .ok (.aload_n 0, 1) := by decide +kernel
theorem dX4_takeNumber_29 : decode cX4_takeNumber 29 = .ok (.getfield 34, 3) := by decide +kernel
theorem dX4_takeNumber_32 : decode cX4_takeNumber 32 = .ok (.iload_n 2, 1) := by decide +kernel
theorem dX4_takeNumber_33 : decode cX4_takeNumber 33 = .ok (.if_icmp .le 8, 3) := by decide +kernel
theorem dX4_takeNumber_36 : decode cX4_takeNumber 36 = .ok (.aload_n 0, 1) := by decide +kernel
theorem dX4_takeNumber_37 : decode cX4_takeNumber 37 = .ok (.iconst 3, 1) := by decide +kernel
theorem dX4_takeNumber_38 : decode cX4_takeNumber 38 = .ok (.invokevirtual 61, 3) := by decide +kernel
theorem dX4_takeNumber_41 : decode cX4_takeNumber 41 = .ok (.aload_n 0, 1) := by decide +kernel
theorem dX4_takeNumber_42 : decode cX4_takeNumber 42 = .ok (.getfield 34, 3) := by decide +kernel
theorem dX4_takeNumber_45 : decode cX4_takeNumber 45 = .ok (.ireturn, 1) := by decide +kernel
theorem dX4_mustBeFree_0 : decode cX4_mustBeFree 0 = .ok (.iload_n 1, 1) := by decide +kernel
theorem dX4_mustBeFree_1 : decode cX4_mustBeFree 1 = .ok (.invokestatic 151, 3) := by decide +kernel
theorem dX4_mustBeFree_4 : decode cX4_mustBeFree 4 = .ok (.ifCond .ne 11, 3) := by decide +kernel
theorem dX4_mustBeFree_7 : decode cX4_mustBeFree 7 = .ok (.aload_n 0, 1) := by decide +kernel
theorem dX4_mustBeFree_8 : decode cX4_mustBeFree 8 = .ok (.iconst 3, 1) := by decide +kernel
theorem dX4_mustBeFree_9 : decode cX4_mustBeFree 9 = .ok (.invokevirtual 61, 3) := by decide +kernel
theorem dX4_mustBeFree_12 : decode cX4_mustBeFree 12 = .ok (.goto 19, 3) := by decide +kernel
theorem dX4_mustBeFree_15 : decode cX4_mustBeFree 15 = .ok (.aload_n 0, 1) := by decide +kernel
theorem dX4_mustBeFree_16 : decode cX4_mustBeFree 16 = .ok (.getfield 12, 3) := by decide +kernel
theorem dX4_mustBeFree_19 : decode cX4_mustBeFree 19 = .ok (.iload_n 1, 1) := by decide +kernel
theorem dX4_mustBeFree_20 : decode cX4_mustBeFree 20 = .ok (.invokevirtual 154, 3) := by decide +kernel
theorem dX4_mustBeFree_23 : decode cX4_mustBeFree 23 = .ok (.ifCond .ne 8, 3) := by decide +kernel
theorem dX4_mustBeFree_26 : decode cX4_mustBeFree 26 = .ok (.aload_n 0, 1) := by decide +kernel
theorem dX4_mustBeFree_27 : decode cX4_mustBeFree 27 = .ok (.iconst 4, 1) := by decide +kernel
theorem dX4_mustBeFree_28 : decode cX4_mustBeFree 28 = .ok (.invokevirtual 61, 3) := by decide +kernel
theorem dX4_mustBeFree_31 : decode cX4_mustBeFree 31 = .ok (.return_, 1) := by decide +kernel
theorem dX4_takeSemicolon_0 : decode cX4_takeSemicolon 0 = .ok (.aload_n 0, 1) := by decide +kernel
theorem dX4_takeSemicolon_1 : decode cX4_takeSemicolon 1 = .ok (.invokevirtual 44, 3) := by decide +kernel
theorem dX4_takeSemicolon_4 : decode cX4_takeSemicolon 4 = .ok (.aload_n 0, 1) := by decide +kernel
theorem dX4_takeSemicolon_5 : decode cX4_takeSemicolon 5 = .ok (.getfield 25, 3) := by decide +kernel
theorem dX4_takeSemicolon_8 : decode cX4_takeSemicolon 8 = .ok (.iconst 3, 1) := by decide +kernel
theorem dX4_takeSemicolon_9 : decode cX4_takeSemicolon 9 = .ok (.if_icmp .eq 8, 3) := by decide +kernel
theorem dX4_takeSemicolon_12 : decode cX4_takeSemicolon 12 = .ok (.aload_n 0, 1) := by decide +kernel
theorem dX4_takeSemicolon_13 : decode cX4_takeSemicolon 13 = .ok (.iconst 2, 1) := by decide +kernel
theorem dX4_takeSemicolon_14 : decode cX4_takeSemicolon 14 = .ok (.invokevirtual 61, 3) := by decide +kernel
theorem dX4_takeSemicolon_17 : decode cX4_takeSemicolon 17 = .ok (.return_, 1) := by decide +kernel
theorem dX5_init_0 : decode cX5_init 0 = .ok (.aload_n 0, 1) := by decide +kernel
theorem dX5_init_1 : decode cX5_init 1 = .ok (.invokespecial 3, 3) := by decide +kernel
theorem dX5_init_4 : decode cX5_init 4 = .ok (.aload_n 0, 1) := by decide +kernel
theorem dX5_init_5 : decode cX5_init 5 = .ok (.bipush 6, 2) := by decide +kernel
theorem dX5_init_7 : decode cX5_init 7 = .ok (.newarray .int, 2) := by decide +kernel
theorem dX5_init_9 : decode cX5_init 9 = .ok (.putfield 9, 3) := by decide +kernel
theorem dX5_init_12 : decode cX5_init 12 = .ok (.aload_n 0, 1) := by decide +kernel
theorem dX5_init_13 : decode cX5_init 13 = .ok (.bipush 6, 2) := by decide +kernel
theorem dX5_init_15 : decode cX5_init 15 = .ok (.newarray .int, 2) := by decide +kernel
theorem dX5_init_17 : decode cX5_init 17 = .ok (.putfield 15, 3) := by decide +kernel
theorem dX5_init_20 : decode cX5_init 20 = .ok (.aload_n 0, 1) := by decide +kernel
theorem dX5_init_21 : decode cX5_init 21 = .ok (.bipush 6, 2) := by decide +kernel
theorem dX5_init_23 : decode cX5_init 23 = .ok (.newarray .int, 2) := by decide +kernel
theorem dX5_init_25 : decode cX5_init 25 = .ok (.putfield 18, 3) := by decide +kernel
theorem dX5_init_28 : decode cX5_init 28 = .ok (.aload_n 0, 1) := by decide +kernel
theorem dX5_init_29 : decode cX5_init 29 = .ok (.iconst 0, 1) := by decide +kernel
theorem dX5_init_30 : decode cX5_init 30 = .ok (.putfield 21, 3) := by decide +kernel
theorem dX5_init_33 : decode cX5_init 33 = .ok (.return_, 1) := by decide +kernel
theorem dX5_add_0 : decode cX5_add 0 = .ok (.aload_n 0, 1) := by decide +kernel
theorem dX5_add_1 : decode cX5_add 1 = .ok (.getfield 21, 3) := by decide +kernel
theorem dX5_add_4 : decode cX5_add 4 = .ok (.bipush 6, 2) := by decide +kernel
theorem dX5_add_6 : decode cX5_add 6 = .ok (.if_icmp .lt 6, 3) := by decide +kernel
theorem dX5_add_9 : decode cX5_add 9 = .ok (.bipush (-3), 2) := by decide +kernel
theorem dX5_add_11 : decode cX5_add 11 = .ok (.ireturn, 1) := by decide +kernel
theorem dX5_add_12 : decode cX5_add 12 = .ok (.aload_n 0, 1) := by decide +kernel
theorem dX5_add_13 : decode cX5_add 13 = .ok (.getfield 9, 3) := by decide +kernel
theorem dX5_add_16 : decode cX5_add 16 = .ok (.aload_n 0, 1) := by decide +kernel
theorem dX5_add_17 : decode cX5_add 17 = .ok (.getfield 21, 3) := by decide +kernel
theorem dX5_add_20 : decode cX5_add 20 = .ok (.iload_n 1, 1) := by decide +kernel
theorem dX5_add_21 : decode cX5_add 21 = .ok (.iastore, 1) := by decide +kernel
theorem dX5_add_22 : decode cX5_add 22 = .ok (.aload_n 0, 1) := by decide +kernel
theorem dX5_add_23 : decode cX5_add 23 = .ok (.getfield 15, 3) := by decide +kernel
theorem dX5_add_26 : decode cX5_add 26 = .ok (.aload_n 0, 1) := by decide +kernel
theorem dX5_add_27 : decode cX5_add 27 = .ok (.getfield 21, 3) := by decide +kernel
theorem dX5_add_30 : decode cX5_add 30 = .ok (.iload_n 2, 1) := by decide +kernel
theorem dX5_add_31 : decode cX5_add 31 = .ok (.iastore, 1) := by decide +kernel
theorem dX5_add_32 : decode cX5_add 32 = .ok (.aload_n 0, 1) := by decide +kernel
theorem dX5_add_33 : decode cX5_add 33 = .ok (.getfield 18, 3) := by decide +kernel
theorem dX5_add_36 : decode cX5_add 36 = .ok (.aload_n 0, 1) := by decide +kernel
theorem dX5_add_37 : decode cX5_add 37 = .ok (.getfield 21, 3) := by decide +kernel
theorem dX5_add_40 : decode cX5_add 40 = .ok (.iload_n 3, 1) := by decide +kernel
theorem dX5_add_41 : decode cX5_add 41 = .ok (.iastore, 1) := by decide +kernel
theorem dX5_add_42 : decode cX5_add 42 = .ok (.aload_n 0, 1) := by decide +kernel
theorem dX5_add_43 : decode cX5_add 43 = .ok (.dup, 1) := by decide +kernel
theorem dX5_add_44 : decode cX5_add 44 = .ok (.getfield 21, 3) := by decide +kernel
theorem dX5_add_47 : decode cX5_add 47 = .ok (.iconst 1, 1) := by decide +kernel
theorem dX5_add_48 : decode cX5_add 48 = .ok (.iadd, 1) := by decide +kernel
theorem dX5_add_49 : decode cX5_add 49 = .ok (.putfield 21, 3) := by decide +kernel
theorem dX5_add_52 : decode cX5_add 52 = .ok (.aload_n 0, 1) := by decide +kernel
theorem dX5_add_53 : decode cX5_add 53 = .ok (.getfield 21, 3) := by decide +kernel
theorem dX5_add_56 : decode cX5_add 56 = .ok (.ireturn, 1) := by decide +kernel
theorem dX5_holds_0 : decode cX5_holds 0 = .ok (.iconst 0, 1) := by decide +kernel
theorem dX5_holds_1 : decode cX5_holds 1 = .ok (.istore_n 2, 1) := by decide +kernel
theorem dX5_holds_2 : decode cX5_holds 2 = .ok (.iload_n 2, 1) := by decide +kernel
theorem dX5_holds_3 : decode cX5_holds 3 = .ok (.aload_n 0, 1) := by decide +kernel
theorem dX5_holds_4 : decode cX5_holds 4 = .ok (.getfield 21, 3) := by decide +kernel
theorem dX5_holds_7 : decode cX5_holds 7 = .ok (.if_icmp .ge 70, 3) := by decide +kernel
theorem dX5_holds_10 : decode cX5_holds 10 = .ok (.aload_n 1, 1) := by decide +kernel
theorem dX5_holds_11 : decode cX5_holds 11 = .ok (.getfield 25, 3) := by decide +kernel
theorem dX5_holds_14 : decode cX5_holds 14 = .ok (.aload_n 0, 1) := by decide +kernel
theorem dX5_holds_15 : decode cX5_holds 15 = .ok (.getfield 9, 3) := by decide +kernel
theorem dX5_holds_18 : decode cX5_holds 18 = .ok (.iload_n 2, 1) := by decide +kernel
theorem dX5_holds_19 : decode cX5_holds 19 = .ok (.iaload, 1) := by decide +kernel
theorem dX5_holds_20 : decode cX5_holds 20 = .ok (.invokevirtual 31, 3) := by decide +kernel
theorem dX5_holds_23 : decode cX5_holds 23 = .ok (.ifCond .ne 5, 3) := by decide +kernel
theorem dX5_holds_26 : decode cX5_holds 26 = .ok (.iconst 0, 1) := by decide +kernel
theorem dX5_holds_27 : decode cX5_holds 27 = .ok (.ireturn, 1) := by decide +kernel
theorem dX5_holds_28 : decode cX5_holds 28 = .ok (.aload_n 1, 1) := by decide +kernel
theorem dX5_holds_29 : decode cX5_holds 29 = .ok (.aload_n 0, 1) := by decide +kernel
theorem dX5_holds_30 : decode cX5_holds 30 = .ok (.getfield 9, 3) := by decide +kernel
theorem dX5_holds_33 : decode cX5_holds 33 = .ok (.iload_n 2, 1) := by decide +kernel
theorem dX5_holds_34 : decode cX5_holds 34 = .ok (.iaload, 1) := by decide +kernel
theorem dX5_holds_35 : decode cX5_holds 35 = .ok (.aload_n 0, 1) := by decide +kernel
theorem dX5_holds_36 : decode cX5_holds 36 = .ok (.getfield 15, 3) := by decide +kernel
theorem dX5_holds_39 : decode cX5_holds 39 = .ok (.iload_n 2, 1) := by decide +kernel
theorem dX5_holds_40 : decode cX5_holds 40 = .ok (.iaload, 1) := by decide +kernel
theorem dX5_holds_41 : decode cX5_holds 41 = .ok (.invokevirtual 37, 3) := by decide +kernel
theorem dX5_holds_44 : decode cX5_holds 44 = .ok (.getfield 41, 3) := by decide +kernel
theorem dX5_holds_47 : decode cX5_holds 47 = .ok (.istore_n 3, 1) := by decide +kernel
theorem dX5_holds_48 : decode cX5_holds 48 = .ok (.aload_n 0, 1) := by decide +kernel
theorem dX5_holds_49 : decode cX5_holds 49 = .ok (.getfield 18, 3) := by decide +kernel
theorem dX5_holds_52 : decode cX5_holds 52 = .ok (.iload_n 2, 1) := by decide +kernel
theorem dX5_holds_53 : decode cX5_holds 53 = .ok (.iaload, 1) := by decide +kernel
theorem dX5_holds_54 : decode cX5_holds 54 = .ok (.iload_n 3, 1) := by decide +kernel
theorem dX5_holds_55 : decode cX5_holds 55 = .ok (.bipush (-4), 2) := by decide +kernel
theorem dX5_holds_57 : decode cX5_holds 57 = .ok (.if_icmp .ne 8, 3) := by decide +kernel
theorem dX5_holds_60 : decode cX5_holds 60 = .ok (.bipush 9, 2) := by decide +kernel
theorem dX5_holds_62 : decode cX5_holds 62 = .ok (.goto 4, 3) := by decide +kernel
theorem dX5_holds_65 : decode cX5_holds 65 = .ok (.iload_n 3, 1) := by decide +kernel
theorem dX5_holds_66 : decode cX5_holds 66 = .ok (.if_icmp .eq 5, 3) := by decide +kernel
theorem dX5_holds_69 : decode cX5_holds 69 = .ok (.iconst 0, 1) := by decide +kernel
theorem dX5_holds_70 : decode cX5_holds 70 = .ok (.ireturn, 1) := by decide +kernel
theorem dX5_holds_71 : decode cX5_holds 71 = .ok (.iinc 2 1, 3) := by decide +kernel
theorem dX5_holds_74 : decode cX5_holds 74 = .ok (.goto (-72), 3) := by decide +kernel
theorem dX5_holds_77 : decode cX5_holds 77 = .ok (.iconst 1, 1) := by decide +kernel
theorem dX5_holds_78 : decode cX5_holds 78 = .ok (.ireturn, 1) := by decide +kernel
theorem dX5_fittingKinds_0 : decode cX5_fittingKinds 0 = .ok (.aload_n 1, 1) := by decide +kernel
theorem dX5_fittingKinds_1 : decode cX5_fittingKinds 1 = .ok (.getfield 25, 3) := by decide +kernel
theorem dX5_fittingKinds_4 : decode cX5_fittingKinds 4 = .ok (.astore_n 3, 1) := by decide +kernel
theorem dX5_fittingKinds_5 : decode cX5_fittingKinds 5 = .ok (.iconst 0, 1) := by decide +kernel
theorem dX5_fittingKinds_6 : decode cX5_fittingKinds 6 = .ok (.istore 4, 2) := by decide +kernel
theorem dX5_fittingKinds_8 : decode cX5_fittingKinds 8 = .ok (.aload_n 3, 1) := by decide +kernel
theorem dX5_fittingKinds_9 : decode cX5_fittingKinds 9 = .ok (.iload_n 2, 1) := by decide +kernel
theorem dX5_fittingKinds_10 : decode cX5_fittingKinds 10 = .ok (.invokevirtual 31, 3) := by decide +kernel
theorem dX5_fittingKinds_13 : decode cX5_fittingKinds 13 = .ok (.ifCond .eq 59, 3) := by decide +kernel
theorem dX5_fittingKinds_16 : decode cX5_fittingKinds 16 = .ok (.aload_n 3, 1) := by decide +kernel
theorem dX5_fittingKinds_17 : decode cX5_fittingKinds 17 = .ok (.getfield 46, 3) := by decide +kernel
theorem dX5_fittingKinds_20 : decode cX5_fittingKinds 20 = .ok (.iload_n 2, 1) := by decide +kernel
theorem dX5_fittingKinds_21 : decode cX5_fittingKinds 21 = .ok (.iaload, 1) := by decide +kernel
theorem dX5_fittingKinds_22 : decode cX5_fittingKinds 22 = .ok (.istore 5, 2) := by decide +kernel
theorem dX5_fittingKinds_24 : decode cX5_fittingKinds 24 = .ok (.iconst 0, 1) := by decide +kernel
theorem dX5_fittingKinds_25 : decode cX5_fittingKinds 25 = .ok (.istore 6, 2) := by decide +kernel
theorem dX5_fittingKinds_27 : decode cX5_fittingKinds 27 = .ok (.iload 6, 2) := by decide +kernel
theorem dX5_fittingKinds_29 : decode cX5_fittingKinds 29 = .ok (.iconst 4, 1) := by decide +kernel
theorem dX5_fittingKinds_30 : decode cX5_fittingKinds 30 = .ok (.if_icmp .ge 34, 3) := by decide +kernel
theorem dX5_fittingKinds_33 : decode cX5_fittingKinds 33 = .ok (.aload_n 3, 1) := by decide +kernel
theorem dX5_fittingKinds_34 : decode cX5_fittingKinds 34 = .ok (.getfield 46, 3) := by decide +kernel
theorem dX5_fittingKinds_37 : decode cX5_fittingKinds 37 = .ok (.iload_n 2, 1) := by decide +kernel
theorem dX5_fittingKinds_38 : decode cX5_fittingKinds 38 = .ok (.iload 6, 2) := by decide +kernel
theorem dX5_fittingKinds_40 : decode cX5_fittingKinds 40 = .ok (.iastore, 1) := by decide +kernel
theorem dX5_fittingKinds_41 : decode cX5_fittingKinds 41 = .ok (.aload_n 0, 1) := by decide +kernel
theorem dX5_fittingKinds_42 : decode cX5_fittingKinds 42 = .ok (.aload_n 1, 1) := by decide +kernel
theorem dX5_fittingKinds_43 : decode cX5_fittingKinds 43 = .ok (.invokevirtual 49, 3) := by decide +kernel
theorem dX5_fittingKinds_46 : decode cX5_fittingKinds 46 = .ok (.ifCond .eq 12, 3) := by decide +kernel
theorem dX5_fittingKinds_49 : decode cX5_fittingKinds 49 = .ok (.iload 4, 2) := by decide +kernel
theorem dX5_fittingKinds_51 : decode cX5_fittingKinds 51 = .ok (.iconst 1, 1) := by decide +kernel
theorem dX5_fittingKinds_52 : decode cX5_fittingKinds 52 = .ok (.iload 6, 2) := by decide +kernel
theorem dX5_fittingKinds_54 : decode cX5_fittingKinds 54 = .ok (.ishl, 1) := by decide +kernel
theorem dX5_fittingKinds_55 : decode cX5_fittingKinds 55 = .ok (.ior, 1) := by decide +kernel
theorem dX5_fittingKinds_56 : decode cX5_fittingKinds 56 = .ok (.istore 4, 2) := by decide +kernel
theorem dX5_fittingKinds_58 : decode cX5_fittingKinds 58 = .ok (.iinc 6 1, 3) := by decide +kernel
theorem dX5_fittingKinds_61 : decode cX5_fittingKinds 61 = .ok (.goto (-34), 3) := by decide +kernel
theorem dX5_fittingKinds_64 : decode cX5_fittingKinds 64 = .ok (.aload_n 3, 1) := by decide +kernel
theorem dX5_fittingKinds_65 : decode cX5_fittingKinds 65 = .ok (.getfield 46, 3) := by decide +kernel
theorem dX5_fittingKinds_68 : decode cX5_fittingKinds 68 = .ok (.iload_n 2, 1) := by decide +kernel
theorem dX5_fittingKinds_69 : decode cX5_fittingKinds 69 = .ok (.iload 5, 2) := by decide +kernel
theorem dX5_fittingKinds_71 : decode cX5_fittingKinds 71 = .ok (.iastore, 1) := by decide +kernel
theorem dX5_fittingKinds_72 : decode cX5_fittingKinds 72 = .ok (.iload 4, 2) := by decide +kernel
theorem dX5_fittingKinds_74 : decode cX5_fittingKinds 74 = .ok (.ireturn, 1) := by decide +kernel
theorem dX5_fittingSpeeds_0 : decode cX5_fittingSpeeds 0 = .ok (.aload_n 1, 1) := by decide +kernel
theorem dX5_fittingSpeeds_1 : decode cX5_fittingSpeeds 1 = .ok (.getfield 25, 3) := by decide +kernel
theorem dX5_fittingSpeeds_4 : decode cX5_fittingSpeeds 4 = .ok (.astore_n 3, 1) := by decide +kernel
theorem dX5_fittingSpeeds_5 : decode cX5_fittingSpeeds 5 = .ok (.iconst 0, 1) := by decide +kernel
theorem dX5_fittingSpeeds_6 : decode cX5_fittingSpeeds 6 = .ok (.istore 4, 2) := by decide +kernel
theorem dX5_fittingSpeeds_8 : decode cX5_fittingSpeeds 8 = .ok (.aload_n 3, 1) := by decide +kernel
theorem dX5_fittingSpeeds_9 : decode cX5_fittingSpeeds 9 = .ok (.iload_n 2, 1) := by decide +kernel
theorem dX5_fittingSpeeds_10 : decode cX5_fittingSpeeds 10 = .ok (.invokevirtual 31, 3) := by decide +kernel
theorem dX5_fittingSpeeds_13 : decode cX5_fittingSpeeds 13 = .ok (.ifCond .eq 60, 3) := by decide +kernel
theorem dX5_fittingSpeeds_16 : decode cX5_fittingSpeeds 16 = .ok (.aload_n 3, 1) := by decide +kernel
theorem dX5_fittingSpeeds_17 : decode cX5_fittingSpeeds 17 = .ok (.getfield 53, 3) := by decide +kernel
theorem dX5_fittingSpeeds_20 : decode cX5_fittingSpeeds 20 = .ok (.iload_n 2, 1) := by decide +kernel
theorem dX5_fittingSpeeds_21 : decode cX5_fittingSpeeds 21 = .ok (.iaload, 1) := by decide +kernel
theorem dX5_fittingSpeeds_22 : decode cX5_fittingSpeeds 22 = .ok (.istore 5, 2) := by decide +kernel
theorem dX5_fittingSpeeds_24 : decode cX5_fittingSpeeds 24 = .ok (.iconst 1, 1) := by decide +kernel
theorem dX5_fittingSpeeds_25 : decode cX5_fittingSpeeds 25 = .ok (.istore 6, 2) := by decide +kernel
theorem dX5_fittingSpeeds_27 : decode cX5_fittingSpeeds 27 = .ok (.iload 6, 2) := by decide +kernel
theorem dX5_fittingSpeeds_29 : decode cX5_fittingSpeeds 29 = .ok (.bipush 9, 2) := by decide +kernel
theorem dX5_fittingSpeeds_31 : decode cX5_fittingSpeeds 31 = .ok (.if_icmp .gt 34, 3) := by decide +kernel
theorem dX5_fittingSpeeds_34 : decode cX5_fittingSpeeds 34 = .ok (.aload_n 3, 1) := by decide +kernel
theorem dX5_fittingSpeeds_35 : decode cX5_fittingSpeeds 35 = .ok (.getfield 53, 3) := by decide +kernel
theorem dX5_fittingSpeeds_38 : decode cX5_fittingSpeeds 38 = .ok (.iload_n 2, 1) := by decide +kernel
theorem dX5_fittingSpeeds_39 : decode cX5_fittingSpeeds 39 = .ok (.iload 6, 2) := by decide +kernel
theorem dX5_fittingSpeeds_41 : decode cX5_fittingSpeeds 41 = .ok (.iastore, 1) := by decide +kernel
theorem dX5_fittingSpeeds_42 : decode cX5_fittingSpeeds 42 = .ok (.aload_n 0, 1) := by decide +kernel
theorem dX5_fittingSpeeds_43 : decode cX5_fittingSpeeds 43 = .ok (.aload_n 1, 1) := by decide +kernel
theorem dX5_fittingSpeeds_44 : decode cX5_fittingSpeeds 44 = .ok (.invokevirtual 49, 3) := by decide +kernel
theorem dX5_fittingSpeeds_47 : decode cX5_fittingSpeeds 47 = .ok (.ifCond .eq 12, 3) := by decide +kernel
theorem dX5_fittingSpeeds_50 : decode cX5_fittingSpeeds 50 = .ok (.iload 4, 2) := by decide +kernel
theorem dX5_fittingSpeeds_52 : decode cX5_fittingSpeeds 52 = .ok (.iconst 1, 1) := by decide +kernel
theorem dX5_fittingSpeeds_53 : decode cX5_fittingSpeeds 53 = .ok (.iload 6, 2) := by decide +kernel
theorem dX5_fittingSpeeds_55 : decode cX5_fittingSpeeds 55 = .ok (.ishl, 1) := by decide +kernel
theorem dX5_fittingSpeeds_56 : decode cX5_fittingSpeeds 56 = .ok (.ior, 1) := by decide +kernel
theorem dX5_fittingSpeeds_57 : decode cX5_fittingSpeeds 57 = .ok (.istore 4, 2) := by decide +kernel
theorem dX5_fittingSpeeds_59 : decode cX5_fittingSpeeds 59 = .ok (.iinc 6 1, 3) := by decide +kernel
theorem dX5_fittingSpeeds_62 : decode cX5_fittingSpeeds 62 = .ok (.goto (-35), 3) := by decide +kernel
theorem dX5_fittingSpeeds_65 : decode cX5_fittingSpeeds 65 = .ok (.aload_n 3, 1) := by decide +kernel
theorem dX5_fittingSpeeds_66 : decode cX5_fittingSpeeds 66 = .ok (.getfield 53, 3) := by decide +kernel
theorem dX5_fittingSpeeds_69 : decode cX5_fittingSpeeds 69 = .ok (.iload_n 2, 1) := by decide +kernel
theorem dX5_fittingSpeeds_70 : decode cX5_fittingSpeeds 70 = .ok (.iload 5, 2) := by decide +kernel
theorem dX5_fittingSpeeds_72 : decode cX5_fittingSpeeds 72 = .ok (.iastore, 1) := by decide +kernel
theorem dX5_fittingSpeeds_73 : decode cX5_fittingSpeeds 73 = .ok (.iload 4, 2) := by decide +kernel
theorem dX5_fittingSpeeds_75 : decode cX5_fittingSpeeds 75 = .ok (.ireturn, 1) := by decide +kernel
theorem dX6_init_0 : decode cX6_init 0 = .ok (.aload_n 0, 1) := by decide +kernel
theorem dX6_init_1 : decode cX6_init 1 = .ok (.invokespecial 3, 3) := by decide +kernel
theorem dX6_init_4 : decode cX6_init 4 = .ok (.aload_n 0, 1) := by decide +kernel
theorem dX6_init_5 : decode cX6_init 5 = .ok (.iconst (-1), 1) := by decide +kernel
theorem dX6_init_6 : decode cX6_init 6 = .ok (.putfield 11, 3) := by decide +kernel
theorem dX6_init_9 : decode cX6_init 9 = .ok (.aload_n 0, 1) := by decide +kernel
theorem dX6_init_10 : decode cX6_init 10 = .ok (.iconst 0, 1) := by decide +kernel
theorem dX6_init_11 : decode cX6_init 11 = .ok (.putfield 15, 3) := by decide +kernel
theorem dX6_init_14 : decode cX6_init 14 = .ok (.aload_n 0, 1) := by decide +kernel
theorem dX6_init_15 : decode cX6_init 15 = .ok (.bipush 40, 2) := by decide +kernel
theorem dX6_init_17 : decode cX6_init 17 = .ok (.newarray .int, 2) := by decide +kernel
theorem dX6_init_19 : decode cX6_init 19 = .ok (.putfield 18, 3) := by decide +kernel
theorem dX6_init_22 : decode cX6_init 22 = .ok (.return_, 1) := by decide +kernel
theorem dX6_renew_0 : decode cX6_renew 0 = .ok (.aload_n 0, 1) := by decide +kernel
theorem dX6_renew_1 : decode cX6_renew 1 = .ok (.iload_n 1, 1) := by decide +kernel
theorem dX6_renew_2 : decode cX6_renew 2 = .ok (.putfield 11, 3) := by decide +kernel
theorem dX6_renew_5 : decode cX6_renew 5 = .ok (.aload_n 0, 1) := by decide +kernel
theorem dX6_renew_6 : decode cX6_renew 6 = .ok (.iconst 0, 1) := by decide +kernel
theorem dX6_renew_7 : decode cX6_renew 7 = .ok (.bipush 40, 2) := by decide +kernel
theorem dX6_renew_9 : decode cX6_renew 9 = .ok (.iload_n 2, 1) := by decide +kernel
theorem dX6_renew_10 : decode cX6_renew 10 = .ok (.invokestatic 22, 3) := by decide +kernel
theorem dX6_renew_13 : decode cX6_renew 13 = .ok (.invokestatic 28, 3) := by decide +kernel
theorem dX6_renew_16 : decode cX6_renew 16 = .ok (.putfield 15, 3) := by decide +kernel
theorem dX6_renew_19 : decode cX6_renew 19 = .ok (.aload_n 0, 1) := by decide +kernel
theorem dX6_renew_20 : decode cX6_renew 20 = .ok (.getfield 18, 3) := by decide +kernel
theorem dX6_renew_23 : decode cX6_renew 23 = .ok (.iconst 0, 1) := by decide +kernel
theorem dX6_renew_24 : decode cX6_renew 24 = .ok (.invokestatic 31, 3) := by decide +kernel
theorem dX6_renew_27 : decode cX6_renew 27 = .ok (.return_, 1) := by decide +kernel
theorem dX6_refusal_0 : decode cX6_refusal 0 = .ok (.aload_n 0, 1) := by decide +kernel
theorem dX6_refusal_1 : decode cX6_refusal 1 = .ok (.getfield 11, 3) := by decide +kernel
theorem dX6_refusal_4 : decode cX6_refusal 4 = .ok (.iconst (-1), 1) := by decide +kernel
theorem dX6_refusal_5 : decode cX6_refusal 5 = .ok (.if_icmp .ne 5, 3) := by decide +kernel
theorem dX6_refusal_8 : decode cX6_refusal 8 = .ok (.iconst 1, 1) := by decide +kernel
theorem dX6_refusal_9 : decode cX6_refusal 9 = .ok (.ireturn, 1) := by decide +kernel
theorem dX6_refusal_10 : decode cX6_refusal 10 = .ok (.aload_n 0, 1) := by decide +kernel
theorem dX6_refusal_11 : decode cX6_refusal 11 = .ok (.getfield 11, 3) := by decide +kernel
theorem dX6_refusal_14 : decode cX6_refusal 14 = .ok (.iload_n 1, 1) := by decide +kernel
theorem dX6_refusal_15 : decode cX6_refusal 15 = .ok (.if_icmp .eq 5, 3) := by decide +kernel
theorem dX6_refusal_18 : decode cX6_refusal 18 = .ok (.iconst 3, 1) := by decide +kernel
theorem dX6_refusal_19 : decode cX6_refusal 19 = .ok (.ireturn, 1) := by decide +kernel
theorem dX6_refusal_20 : decode cX6_refusal 20 = .ok (.iload_n 2, 1) := by decide +kernel
theorem dX6_refusal_21 : decode cX6_refusal 21 = .ok (.ifCond .lt 11, 3) := by decide +kernel
theorem dX6_refusal_24 : decode cX6_refusal 24 = .ok (.iload_n 2, 1) := by decide +kernel
theorem dX6_refusal_25 : decode cX6_refusal 25 = .ok (.aload_n 0, 1) := by decide +kernel
theorem dX6_refusal_26 : decode cX6_refusal 26 = .ok (.getfield 15, 3) := by decide +kernel
theorem dX6_refusal_29 : decode cX6_refusal 29 = .ok (.if_icmp .lt 7, 3) := by decide +kernel
theorem dX6_refusal_32 : decode cX6_refusal 32 = .ok (.iconst 2, 1) := by decide +kernel
theorem dX6_refusal_33 : decode cX6_refusal 33 = .ok (.goto 4, 3) := by decide +kernel
theorem dX6_refusal_36 : decode cX6_refusal 36 = .ok (.iconst 0, 1) := by decide +kernel
theorem dX6_refusal_37 : decode cX6_refusal 37 = .ok (.ireturn, 1) := by decide +kernel
theorem dX6_refusalOfTwo_0 : decode cX6_refusalOfTwo 0 = .ok (.aload_n 0, 1) := by decide +kernel
theorem dX6_refusalOfTwo_1 : decode cX6_refusalOfTwo 1 = .ok (.iload_n 1, 1) := by decide +kernel
theorem dX6_refusalOfTwo_2 : decode cX6_refusalOfTwo 2 = .ok (.iload_n 2, 1) := by decide +kernel
theorem dX6_refusalOfTwo_3 : decode cX6_refusalOfTwo 3 = .ok (.invokevirtual 37, 3) := by decide +kernel
theorem dX6_refusalOfTwo_6 : decode cX6_refusalOfTwo 6 = .ok (.istore_n 3, 1) := by decide +kernel
theorem dX6_refusalOfTwo_7 : decode cX6_refusalOfTwo 7 = .ok (.iload_n 3, 1) := by decide +kernel
theorem dX6_refusalOfTwo_8 : decode cX6_refusalOfTwo 8 = .ok (.ifCond .eq 7, 3) := by decide +kernel
theorem dX6_refusalOfTwo_11 : decode cX6_refusalOfTwo 11 = .ok (.iload_n 3, 1) := by decide +kernel
theorem dX6_refusalOfTwo_12 : decode cX6_refusalOfTwo 12 = .ok (.goto 11, 3) := by decide +kernel
theorem dX6_refusalOfTwo_15 : decode cX6_refusalOfTwo 15 = .ok (.aload_n 0, 1) := by decide +kernel
theorem dX6_refusalOfTwo_16 : decode cX6_refusalOfTwo 16 = .ok (.iload_n 1, 1) := by decide +kernel
theorem dX6_refusalOfTwo_17 : decode cX6_refusalOfTwo 17 = .ok (.iload_n 2, 1) := by decide +kernel
theorem dX6_refusalOfTwo_18 : decode cX6_refusalOfTwo 18 = .ok (.iconst 1, 1) := by decide +kernel
theorem dX6_refusalOfTwo_19 : decode cX6_refusalOfTwo 19 = .ok (.iadd, 1) := by decide +kernel
theorem dX6_refusalOfTwo_20 : decode cX6_refusalOfTwo 20 = .ok (.invokevirtual 37, 3) := by decide +kernel
theorem dX6_refusalOfTwo_23 : decode cX6_refusalOfTwo 23 = .ok (.ireturn, 1) := by decide +kernel
theorem dX6_store_0 : decode cX6_store 0 = .ok (.iload_n 1, 1) := by decide +kernel
theorem dX6_store_1 : decode cX6_store 1 = .ok (.ifCond .lt 11, 3) := by decide +kernel
theorem dX6_store_4 : decode cX6_store 4 = .ok (.iload_n 1, 1) := by decide +kernel
theorem dX6_store_5 : decode cX6_store 5 = .ok (.aload_n 0, 1) := by decide +kernel
theorem dX6_store_6 : decode cX6_store 6 = .ok (.getfield 15, 3) := by decide +kernel
theorem dX6_store_9 : decode cX6_store 9 = .ok (.if_icmp .lt 4, 3) := by decide +kernel
theorem dX6_store_12 : decode cX6_store 12 = .ok (.return_, 1) := by decide +kernel
theorem dX6_store_13 : decode cX6_store 13 = .ok (.aload_n 0, 1) := by decide +kernel
theorem dX6_store_14 : decode cX6_store 14 = .ok (.getfield 11, 3) := by decide +kernel
theorem dX6_store_17 : decode cX6_store 17 = .ok (.lookupswitch 49 #[(0, 27), (1, 38)], 27) := by decide +kernel
theorem dX6_store_44 : decode cX6_store 44 = .ok (.aload_n 0, 1) := by decide +kernel
theorem dX6_store_45 : decode cX6_store 45 = .ok (.getfield 18, 3) := by decide +kernel
theorem dX6_store_48 : decode cX6_store 48 = .ok (.iload_n 1, 1) := by decide +kernel
theorem dX6_store_49 : decode cX6_store 49 = .ok (.iload_n 2, 1) := by decide +kernel
theorem dX6_store_50 : decode cX6_store 50 = .ok (.i2b, 1) := by decide +kernel
theorem dX6_store_51 : decode cX6_store 51 = .ok (.iastore, 1) := by decide +kernel
theorem dX6_store_52 : decode cX6_store 52 = .ok (.goto 21, 3) := by decide +kernel
theorem dX6_store_55 : decode cX6_store 55 = .ok (.aload_n 0, 1) := by decide +kernel
theorem dX6_store_56 : decode cX6_store 56 = .ok (.getfield 18, 3) := by decide +kernel
theorem dX6_store_59 : decode cX6_store 59 = .ok (.iload_n 1, 1) := by decide +kernel
theorem dX6_store_60 : decode cX6_store 60 = .ok (.iload_n 2, 1) := by decide +kernel
theorem dX6_store_61 : decode cX6_store 61 = .ok (.i2s, 1) := by decide +kernel
theorem dX6_store_62 : decode cX6_store 62 = .ok (.iastore, 1) := by decide +kernel
theorem dX6_store_63 : decode cX6_store 63 = .ok (.goto 10, 3) := by decide +kernel
theorem dX6_store_66 : decode cX6_store 66 = .ok (.aload_n 0, 1) := by decide +kernel
theorem dX6_store_67 : decode cX6_store 67 = .ok (.getfield 18, 3) := by decide +kernel
theorem dX6_store_70 : decode cX6_store 70 = .ok (.iload_n 1, 1) := by decide +kernel
theorem dX6_store_71 : decode cX6_store 71 = .ok (.iload_n 2, 1) := by decide +kernel
theorem dX6_store_72 : decode cX6_store 72 = .ok (.iastore, 1) := by decide +kernel
theorem dX6_store_73 : decode cX6_store 73 = .ok (.return_, 1) := by decide +kernel
theorem dX6_stored_0 : decode cX6_stored 0 = .ok (.iload_n 1, 1) := by decide +kernel
theorem dX6_stored_1 : decode cX6_stored 1 = .ok (.ifCond .lt 20, 3) := by decide +kernel
theorem dX6_stored_4 : decode cX6_stored 4 = .ok (.iload_n 1, 1) := by decide +kernel
theorem dX6_stored_5 : decode cX6_stored 5 = .ok (.aload_n 0, 1) := by decide +kernel
theorem dX6_stored_6 : decode cX6_stored 6 = .ok (.getfield 15, 3) := by decide +kernel
theorem dX6_stored_9 : decode cX6_stored 9 = .ok (.if_icmp .ge 12, 3) := by decide +kernel
theorem dX6_stored_12 : decode cX6_stored 12 = .ok (.aload_n 0, 1) := by decide +kernel
theorem dX6_stored_13 : decode cX6_stored 13 = .ok (.getfield 18, 3) := by decide +kernel
theorem dX6_stored_16 : decode cX6_stored 16 = .ok (.iload_n 1, 1) := by decide +kernel
theorem dX6_stored_17 : decode cX6_stored 17 = .ok (.iaload, 1) := by decide +kernel
theorem dX6_stored_18 : decode cX6_stored 18 = .ok (.goto 4, 3) := by decide +kernel
theorem dX6_stored_21 : decode cX6_stored 21 = .ok (.iconst 0, 1) := by decide +kernel
theorem dX6_stored_22 : decode cX6_stored 22 = .ok (.ireturn, 1) := by decide +kernel
theorem dX7_init_0 : decode cX7_init 0 = .ok (.aload_n 0, 1) := by decide +kernel
theorem dX7_init_1 : decode cX7_init 1 = .ok (.invokespecial 3, 3) := by decide +kernel
theorem dX7_init_4 : decode cX7_init 4 = .ok (.aload_n 0, 1) := by decide +kernel
theorem dX7_init_5 : decode cX7_init 5 = .ok (.bipush 7, 2) := by decide +kernel
theorem dX7_init_7 : decode cX7_init 7 = .ok (.newarray .int, 2) := by decide +kernel
theorem dX7_init_9 : decode cX7_init 9 = .ok (.putfield 9, 3) := by decide +kernel
theorem dX7_init_12 : decode cX7_init 12 = .ok (.aload_n 0, 1) := by decide +kernel
theorem dX7_init_13 : decode cX7_init 13 = .ok (.bipush 7, 2) := by decide +kernel
theorem dX7_init_15 : decode cX7_init 15 = .ok (.newarray .int, 2) := by decide +kernel
theorem dX7_init_17 : decode cX7_init 17 = .ok (.putfield 15, 3) := by decide +kernel
theorem dX7_init_20 : decode cX7_init 20 = .ok (.aload_n 0, 1) := by decide +kernel
theorem dX7_init_21 : decode cX7_init 21 = .ok (.iconst 0, 1) := by decide +kernel
theorem dX7_init_22 : decode cX7_init 22 = .ok (.putfield 18, 3) := by decide +kernel
theorem dX7_init_25 : decode cX7_init 25 = .ok (.aload_n 0, 1) := by decide +kernel
theorem dX7_init_26 : decode cX7_init 26 = .ok (.iconst 4, 1) := by decide +kernel
theorem dX7_init_27 : decode cX7_init 27 = .ok (.newarray .int, 2) := by decide +kernel
theorem dX7_init_29 : decode cX7_init 29 = .ok (.putfield 22, 3) := by decide +kernel
theorem dX7_init_32 : decode cX7_init 32 = .ok (.aload_n 0, 1) := by decide +kernel
theorem dX7_init_33 : decode cX7_init 33 = .ok (.iconst 0, 1) := by decide +kernel
theorem dX7_init_34 : decode cX7_init 34 = .ok (.putfield 25, 3) := by decide +kernel
theorem dX7_init_37 : decode cX7_init 37 = .ok (.aload_n 0, 1) := by decide +kernel
theorem dX7_init_38 : decode cX7_init 38 = .ok (.iconst 4, 1) := by decide +kernel
theorem dX7_init_39 : decode cX7_init 39 = .ok (.newarray .int, 2) := by decide +kernel
theorem dX7_init_41 : decode cX7_init 41 = .ok (.putfield 28, 3) := by decide +kernel
theorem dX7_init_44 : decode cX7_init 44 = .ok (.aload_n 0, 1) := by decide +kernel
theorem dX7_init_45 : decode cX7_init 45 = .ok (.iconst 4, 1) := by decide +kernel
theorem dX7_init_46 : decode cX7_init 46 = .ok (.newarray .int, 2) := by decide +kernel
theorem dX7_init_48 : decode cX7_init 48 = .ok (.putfield 31, 3) := by decide +kernel
theorem dX7_init_51 : decode cX7_init 51 = .ok (.aload_n 0, 1) := by decide +kernel
theorem dX7_init_52 : decode cX7_init 52 = .ok (.iconst 0, 1) := by decide +kernel
theorem dX7_init_53 : decode cX7_init 53 = .ok (.putfield 34, 3) := by decide +kernel
theorem dX7_init_56 : decode cX7_init 56 = .ok (.aload_n 0, 1) := by decide +kernel
theorem dX7_init_57 : decode cX7_init 57 = .ok (.bipush 6, 2) := by decide +kernel
theorem dX7_init_59 : decode cX7_init 59 = .ok (.newarray .int, 2) := by decide +kernel
theorem dX7_init_61 : decode cX7_init 61 = .ok (.putfield 37, 3) := by decide +kernel
theorem dX7_init_64 : decode cX7_init 64 = .ok (.aload_n 0, 1) := by decide +kernel
theorem dX7_init_65 : decode cX7_init 65 = .ok (.bipush 6, 2) := by decide +kernel
theorem dX7_init_67 : decode cX7_init 67 = .ok (.newarray .int, 2) := by decide +kernel
theorem dX7_init_69 : decode cX7_init 69 = .ok (.putfield 40, 3) := by decide +kernel
theorem dX7_init_72 : decode cX7_init 72 = .ok (.aload_n 0, 1) := by decide +kernel
theorem dX7_init_73 : decode cX7_init 73 = .ok (.iconst 0, 1) := by decide +kernel
theorem dX7_init_74 : decode cX7_init 74 = .ok (.putfield 43, 3) := by decide +kernel
theorem dX7_init_77 : decode cX7_init 77 = .ok (.aload_n 0, 1) := by decide +kernel
theorem dX7_init_78 : decode cX7_init 78 = .ok (.bipush 100, 2) := by decide +kernel
theorem dX7_init_80 : decode cX7_init 80 = .ok (.newarray .int, 2) := by decide +kernel
theorem dX7_init_82 : decode cX7_init 82 = .ok (.putfield 46, 3) := by decide +kernel
theorem dX7_init_85 : decode cX7_init 85 = .ok (.aload_n 0, 1) := by decide +kernel
theorem dX7_init_86 : decode cX7_init 86 = .ok (.getfield 46, 3) := by decide +kernel
theorem dX7_init_89 : decode cX7_init 89 = .ok (.iconst (-1), 1) := by decide +kernel
theorem dX7_init_90 : decode cX7_init 90 = .ok (.invokestatic 49, 3) := by decide +kernel
theorem dX7_init_93 : decode cX7_init 93 = .ok (.return_, 1) := by decide +kernel
theorem dX7_isColumn_0 : decode cX7_isColumn 0 = .ok (.iload_n 0, 1) := by decide +kernel
theorem dX7_isColumn_1 : decode cX7_isColumn 1 = .ok (.ifCond .lt 13, 3) := by decide +kernel
theorem dX7_isColumn_4 : decode cX7_isColumn 4 = .ok (.iload_n 0, 1) := by decide +kernel
theorem dX7_isColumn_5 : decode cX7_isColumn 5 = .ok (.bipush 8, 2) := by decide +kernel
theorem dX7_isColumn_7 : decode cX7_isColumn 7 = .ok (.if_icmp .ge 7, 3) := by decide +kernel
theorem dX7_isColumn_10 : decode cX7_isColumn 10 = .ok (.iconst 1, 1) := by decide +kernel
theorem dX7_isColumn_11 : decode cX7_isColumn 11 = .ok (.goto 4, 3) := by decide +kernel
theorem dX7_isColumn_14 : decode cX7_isColumn 14 = .ok (.iconst 0, 1) := by decide +kernel
theorem dX7_isColumn_15 : decode cX7_isColumn 15 = .ok (.ireturn, 1) := by decide +kernel
theorem dX7_isCell_0 : decode cX7_isCell 0 = .ok (.iload_n 0, 1) := by decide +kernel
theorem dX7_isCell_1 : decode cX7_isCell 1 = .ok (.ifCond .lt 22, 3) := by decide +kernel
theorem dX7_isCell_4 : decode cX7_isCell 4 = .ok (.iload_n 0, 1) := by decide +kernel
theorem dX7_isCell_5 : decode cX7_isCell 5 = .ok (.bipush 100, 2) := by decide +kernel
theorem dX7_isCell_7 : decode cX7_isCell 7 = .ok (.if_icmp .ge 16, 3) := by decide +kernel
theorem dX7_isCell_10 : decode cX7_isCell 10 = .ok (.iload_n 0, 1) := by decide +kernel
theorem dX7_isCell_11 : decode cX7_isCell 11 = .ok (.bipush 10, 2) := by decide +kernel
theorem dX7_isCell_13 : decode cX7_isCell 13 = .ok (.irem, 1) := by decide +kernel
theorem dX7_isCell_14 : decode cX7_isCell 14 = .ok (.bipush 8, 2) := by decide +kernel
theorem dX7_isCell_16 : decode cX7_isCell 16 = .ok (.if_icmp .ge 7, 3) := by decide +kernel
theorem dX7_isCell_19 : decode cX7_isCell 19 = .ok (.iconst 1, 1) := by decide +kernel
theorem dX7_isCell_20 : decode cX7_isCell 20 = .ok (.goto 4, 3) := by decide +kernel
theorem dX7_isCell_23 : decode cX7_isCell 23 = .ok (.iconst 0, 1) := by decide +kernel
theorem dX7_isCell_24 : decode cX7_isCell 24 = .ok (.ireturn, 1) := by decide +kernel
theorem dX7_isPeg_0 : decode cX7_isPeg 0 = .ok (.iload_n 1, 1) := by decide +kernel
theorem dX7_isPeg_1 : decode cX7_isPeg 1 = .ok (.ifCond .lt 15, 3) := by decide +kernel
theorem dX7_isPeg_4 : decode cX7_isPeg 4 = .ok (.iload_n 1, 1) := by decide +kernel
theorem dX7_isPeg_5 : decode cX7_isPeg 5 = .ok (.aload_n 0, 1) := by decide +kernel
theorem dX7_isPeg_6 : decode cX7_isPeg 6 = .ok (.getfield 18, 3) := by decide +kernel
theorem dX7_isPeg_9 : decode cX7_isPeg 9 = .ok (.if_icmp .ge 7, 3) := by decide +kernel
theorem dX7_isPeg_12 : decode cX7_isPeg 12 = .ok (.iconst 1, 1) := by decide +kernel
theorem dX7_isPeg_13 : decode cX7_isPeg 13 = .ok (.goto 4, 3) := by decide +kernel
theorem dX7_isPeg_16 : decode cX7_isPeg 16 = .ok (.iconst 0, 1) := by decide +kernel
theorem dX7_isPeg_17 : decode cX7_isPeg 17 = .ok (.ireturn, 1) := by decide +kernel
theorem dX7_isSlug_0 : decode cX7_isSlug 0 = .ok (.iload_n 1, 1) := by decide +kernel
theorem dX7_isSlug_1 : decode cX7_isSlug 1 = .ok (.ifCond .lt 15, 3) := by decide +kernel
theorem dX7_isSlug_4 : decode cX7_isSlug 4 = .ok (.iload_n 1, 1) := by decide +kernel
theorem dX7_isSlug_5 : decode cX7_isSlug 5 = .ok (.aload_n 0, 1) := by decide +kernel
theorem dX7_isSlug_6 : decode cX7_isSlug 6 = .ok (.getfield 25, 3) := by decide +kernel
theorem dX7_isSlug_9 : decode cX7_isSlug 9 = .ok (.if_icmp .ge 7, 3) := by decide +kernel
theorem dX7_isSlug_12 : decode cX7_isSlug 12 = .ok (.iconst 1, 1) := by decide +kernel
theorem dX7_isSlug_13 : decode cX7_isSlug 13 = .ok (.goto 4, 3) := by decide +kernel
theorem dX7_isSlug_16 : decode cX7_isSlug 16 = .ok (.iconst 0, 1) := by decide +kernel
theorem dX7_isSlug_17 : decode cX7_isSlug 17 = .ok (.ireturn, 1) := by decide +kernel
theorem dX7_isHedgehog_0 : decode cX7_isHedgehog 0 = .ok (.iload_n 1, 1) := by decide +kernel
theorem dX7_isHedgehog_1 : decode cX7_isHedgehog 1 = .ok (.ifCond .lt 15, 3) := by decide +kernel
theorem dX7_isHedgehog_4 : decode cX7_isHedgehog 4 = .ok (.iload_n 1, 1) := by decide +kernel
theorem dX7_isHedgehog_5 : decode cX7_isHedgehog 5 = .ok (.aload_n 0, 1) := by decide +kernel
theorem dX7_isHedgehog_6 : decode cX7_isHedgehog 6 = .ok (.getfield 34, 3) := by decide +kernel
theorem dX7_isHedgehog_9 : decode cX7_isHedgehog 9 = .ok (.if_icmp .ge 7, 3) := by decide +kernel
theorem dX7_isHedgehog_12 : decode cX7_isHedgehog 12 = .ok (.iconst 1, 1) := by decide +kernel
theorem dX7_isHedgehog_13 : decode cX7_isHedgehog 13 = .ok (.goto 4, 3) := by decide +kernel
theorem dX7_isHedgehog_16 : decode cX7_isHedgehog 16 = .ok (.iconst 0, 1) := by decide +kernel
theorem dX7_isHedgehog_17 : decode cX7_isHedgehog 17 = .ok (.ireturn, 1) := by decide +kernel
theorem dX7_isSuit_0 : decode cX7_isSuit 0 = .ok (.iload_n 1, 1) := by decide +kernel
theorem dX7_isSuit_1 : decode cX7_isSuit 1 = .ok (.ifCond .lt 15, 3) := by decide +kernel
theorem dX7_isSuit_4 : decode cX7_isSuit 4 = .ok (.iload_n 1, 1) := by decide +kernel
theorem dX7_isSuit_5 : decode cX7_isSuit 5 = .ok (.aload_n 0, 1) := by decide +kernel
theorem dX7_isSuit_6 : decode cX7_isSuit 6 = .ok (.getfield 43, 3) := by decide +kernel
theorem dX7_isSuit_9 : decode cX7_isSuit 9 = .ok (.if_icmp .ge 7, 3) := by decide +kernel
theorem dX7_isSuit_12 : decode cX7_isSuit 12 = .ok (.iconst 1, 1) := by decide +kernel
theorem dX7_isSuit_13 : decode cX7_isSuit 13 = .ok (.goto 4, 3) := by decide +kernel
theorem dX7_isSuit_16 : decode cX7_isSuit 16 = .ok (.iconst 0, 1) := by decide +kernel
theorem dX7_isSuit_17 : decode cX7_isSuit 17 = .ok (.ireturn, 1) := by decide +kernel
theorem dX7_standingAt_0 : decode cX7_standingAt 0 = .ok (.iload_n 1, 1) := by decide +kernel
theorem dX7_standingAt_1 : decode cX7_standingAt 1 = .ok (.ifCond .lt 18, 3) := by decide +kernel
theorem dX7_standingAt_4 : decode cX7_standingAt 4 = .ok (.iload_n 1, 1) := by decide +kernel
theorem dX7_standingAt_5 : decode cX7_standingAt 5 = .ok (.bipush 100, 2) := by decide +kernel
theorem dX7_standingAt_7 : decode cX7_standingAt 7 = .ok (.if_icmp .ge 12, 3) := by decide +kernel
theorem dX7_standingAt_10 : decode cX7_standingAt 10 = .ok (.aload_n 0, 1) := by decide +kernel
theorem dX7_standingAt_11 : decode cX7_standingAt 11 = .ok (.getfield 46, 3) := by decide +kernel
theorem dX7_standingAt_14 : decode cX7_standingAt 14 = .ok (.iload_n 1, 1) := by decide +kernel
theorem dX7_standingAt_15 : decode cX7_standingAt 15 = .ok (.iaload, 1) := by decide +kernel
theorem dX7_standingAt_16 : decode cX7_standingAt 16 = .ok (.goto 4, 3) := by decide +kernel
theorem dX7_standingAt_19 : decode cX7_standingAt 19 = .ok (.iconst (-1), 1) := by decide +kernel
theorem dX7_standingAt_20 : decode cX7_standingAt 20 = .ok (.ireturn, 1) := by decide +kernel
theorem dX7_stand_0 : decode cX7_stand 0 = .ok (.iload_n 1, 1) := by decide +kernel
theorem dX7_stand_1 : decode cX7_stand 1 = .ok (.ifCond .lt 16, 3) := by decide +kernel
theorem dX7_stand_4 : decode cX7_stand 4 = .ok (.iload_n 1, 1) := by decide +kernel
theorem dX7_stand_5 : decode cX7_stand 5 = .ok (.bipush 100, 2) := by decide +kernel
theorem dX7_stand_7 : decode cX7_stand 7 = .ok (.if_icmp .ge 10, 3) := by decide +kernel
theorem dX7_stand_10 : decode cX7_stand 10 = .ok (.aload_n 0, 1) := by decide +kernel
theorem dX7_stand_11 : decode cX7_stand 11 = .ok (.getfield 46, 3) := by decide +kernel
theorem dX7_stand_14 : decode cX7_stand 14 = .ok (.iload_n 1, 1) := by decide +kernel
theorem dX7_stand_15 : decode cX7_stand 15 = .ok (.iload_n 2, 1) := by decide +kernel
theorem dX7_stand_16 : decode cX7_stand 16 = .ok (.iastore, 1) := by decide +kernel
theorem dX7_stand_17 : decode cX7_stand 17 = .ok (.return_, 1) := by decide +kernel
theorem dX7_isFree_0 : decode cX7_isFree 0 = .ok (.iload_n 1, 1) := by decide +kernel
theorem dX7_isFree_1 : decode cX7_isFree 1 = .ok (.invokestatic 55, 3) := by decide +kernel
theorem dX7_isFree_4 : decode cX7_isFree 4 = .ok (.ifCond .eq 17, 3) := by decide +kernel
theorem dX7_isFree_7 : decode cX7_isFree 7 = .ok (.aload_n 0, 1) := by decide +kernel
theorem dX7_isFree_8 : decode cX7_isFree 8 = .ok (.getfield 46, 3) := by decide +kernel
theorem dX7_isFree_11 : decode cX7_isFree 11 = .ok (.iload_n 1, 1) := by decide +kernel
theorem dX7_isFree_12 : decode cX7_isFree 12 = .ok (.iaload, 1) := by decide +kernel
theorem dX7_isFree_13 : decode cX7_isFree 13 = .ok (.iconst (-1), 1) := by decide +kernel
theorem dX7_isFree_14 : decode cX7_isFree 14 = .ok (.if_icmp .ne 7, 3) := by decide +kernel
theorem dX7_isFree_17 : decode cX7_isFree 17 = .ok (.iconst 1, 1) := by decide +kernel
theorem dX7_isFree_18 : decode cX7_isFree 18 = .ok (.goto 4, 3) := by decide +kernel
theorem dX7_isFree_21 : decode cX7_isFree 21 = .ok (.iconst 0, 1) := by decide +kernel
theorem dX7_isFree_22 : decode cX7_isFree 22 = .ok (.ireturn, 1) := by decide +kernel
theorem dX7_empty_0 : decode cX7_empty 0 = .ok (.aload_n 0, 1) := by decide +kernel
theorem dX7_empty_1 : decode cX7_empty 1 = .ok (.iconst 0, 1) := by decide +kernel
theorem dX7_empty_2 : decode cX7_empty 2 = .ok (.putfield 18, 3) := by decide +kernel
theorem dX7_empty_5 : decode cX7_empty 5 = .ok (.aload_n 0, 1) := by decide +kernel
theorem dX7_empty_6 : decode cX7_empty 6 = .ok (.iconst 0, 1) := by decide +kernel
theorem dX7_empty_7 : decode cX7_empty 7 = .ok (.putfield 25, 3) := by decide +kernel
theorem dX7_empty_10 : decode cX7_empty 10 = .ok (.aload_n 0, 1) := by decide +kernel
theorem dX7_empty_11 : decode cX7_empty 11 = .ok (.iconst 0, 1) := by decide +kernel
theorem dX7_empty_12 : decode cX7_empty 12 = .ok (.putfield 34, 3) := by decide +kernel
theorem dX7_empty_15 : decode cX7_empty 15 = .ok (.aload_n 0, 1) := by decide +kernel
theorem dX7_empty_16 : decode cX7_empty 16 = .ok (.iconst 0, 1) := by decide +kernel
theorem dX7_empty_17 : decode cX7_empty 17 = .ok (.putfield 43, 3) := by decide +kernel
theorem dX7_empty_20 : decode cX7_empty 20 = .ok (.aload_n 0, 1) := by decide +kernel
theorem dX7_empty_21 : decode cX7_empty 21 = .ok (.getfield 46, 3) := by decide +kernel
theorem dX7_empty_24 : decode cX7_empty 24 = .ok (.iconst (-1), 1) := by decide +kernel
theorem dX7_empty_25 : decode cX7_empty 25 = .ok (.invokestatic 49, 3) := by decide +kernel
theorem dX7_empty_28 : decode cX7_empty 28 = .ok (.return_, 1) := by decide +kernel
theorem dX7_copyFrom_0 : decode cX7_copyFrom 0 = .ok (.aload_n 1, 1) := by decide +kernel
theorem dX7_copyFrom_1 : decode cX7_copyFrom 1 = .ok (.getfield 9, 3) := by decide +kernel
theorem dX7_copyFrom_4 : decode cX7_copyFrom 4 = .ok (.iconst 0, 1) := by decide +kernel
theorem dX7_copyFrom_5 : decode cX7_copyFrom 5 = .ok (.aload_n 0, 1) := by decide +kernel
theorem dX7_copyFrom_6 : decode cX7_copyFrom 6 = .ok (.getfield 9, 3) := by decide +kernel
theorem dX7_copyFrom_9 : decode cX7_copyFrom 9 = .ok (.iconst 0, 1) := by decide +kernel
theorem dX7_copyFrom_10 : decode cX7_copyFrom 10 = .ok (.bipush 7, 2) := by decide +kernel
theorem dX7_copyFrom_12 : decode cX7_copyFrom 12 = .ok (.invokestatic 59, 3) := by decide +kernel
theorem dX7_copyFrom_15 : decode cX7_copyFrom 15 = .ok (.aload_n 1, 1) := by decide +kernel
theorem dX7_copyFrom_16 : decode cX7_copyFrom 16 = .ok (.getfield 15, 3) := by decide +kernel
theorem dX7_copyFrom_19 : decode cX7_copyFrom 19 = .ok (.iconst 0, 1) := by decide +kernel
theorem dX7_copyFrom_20 : decode cX7_copyFrom 20 = .ok (.aload_n 0, 1) := by decide +kernel
theorem dX7_copyFrom_21 : decode cX7_copyFrom 21 = .ok (.getfield 15, 3) := by decide +kernel
theorem dX7_copyFrom_24 : decode cX7_copyFrom 24 = .ok (.iconst 0, 1) := by decide +kernel
theorem dX7_copyFrom_25 : decode cX7_copyFrom 25 = .ok (.bipush 7, 2) := by decide +kernel
theorem dX7_copyFrom_27 : decode cX7_copyFrom 27 = .ok (.invokestatic 59, 3) := by decide +kernel
theorem dX7_copyFrom_30 : decode cX7_copyFrom 30 = .ok (.aload_n 0, 1) := by decide +kernel
theorem dX7_copyFrom_31 : decode cX7_copyFrom 31 = .ok (.aload_n 1, 1) := by decide +kernel
theorem dX7_copyFrom_32 : decode cX7_copyFrom 32 = .ok (.getfield 18, 3) := by decide +kernel
theorem dX7_copyFrom_35 : decode cX7_copyFrom 35 = .ok (.putfield 18, 3) := by decide +kernel
theorem dX7_copyFrom_38 : decode cX7_copyFrom 38 = .ok (.aload_n 1, 1) := by decide +kernel
theorem dX7_copyFrom_39 : decode cX7_copyFrom 39 = .ok (.getfield 22, 3) := by decide +kernel
theorem dX7_copyFrom_42 : decode cX7_copyFrom 42 = .ok (.iconst 0, 1) := by decide +kernel
theorem dX7_copyFrom_43 : decode cX7_copyFrom 43 = .ok (.aload_n 0, 1) := by decide +kernel
theorem dX7_copyFrom_44 : decode cX7_copyFrom 44 = .ok (.getfield 22, 3) := by decide +kernel
theorem dX7_copyFrom_47 : decode cX7_copyFrom 47 = .ok (.iconst 0, 1) := by decide +kernel
theorem dX7_copyFrom_48 : decode cX7_copyFrom 48 = .ok (.iconst 4, 1) := by decide +kernel
theorem dX7_copyFrom_49 : decode cX7_copyFrom 49 = .ok (.invokestatic 59, 3) := by decide +kernel
theorem dX7_copyFrom_52 : decode cX7_copyFrom 52 = .ok (.aload_n 0, 1) := by decide +kernel
theorem dX7_copyFrom_53 : decode cX7_copyFrom 53 = .ok (.aload_n 1, 1) := by decide +kernel
theorem dX7_copyFrom_54 : decode cX7_copyFrom 54 = .ok (.getfield 25, 3) := by decide +kernel
theorem dX7_copyFrom_57 : decode cX7_copyFrom 57 = .ok (.putfield 25, 3) := by decide +kernel
theorem dX7_copyFrom_60 : decode cX7_copyFrom 60 = .ok (.aload_n 1, 1) := by decide +kernel
theorem dX7_copyFrom_61 : decode cX7_copyFrom 61 = .ok (.getfield 28, 3) := by decide +kernel
theorem dX7_copyFrom_64 : decode cX7_copyFrom 64 = .ok (.iconst 0, 1) := by decide +kernel
theorem dX7_copyFrom_65 : decode cX7_copyFrom 65 = .ok (.aload_n 0, 1) := by decide +kernel
theorem dX7_copyFrom_66 : decode cX7_copyFrom 66 = .ok (.getfield 28, 3) := by decide +kernel
theorem dX7_copyFrom_69 : decode cX7_copyFrom 69 = .ok (.iconst 0, 1) := by decide +kernel
theorem dX7_copyFrom_70 : decode cX7_copyFrom 70 = .ok (.iconst 4, 1) := by decide +kernel
theorem dX7_copyFrom_71 : decode cX7_copyFrom 71 = .ok (.invokestatic 59, 3) := by decide +kernel
theorem dX7_copyFrom_74 : decode cX7_copyFrom 74 = .ok (.aload_n 1, 1) := by decide +kernel
theorem dX7_copyFrom_75 : decode cX7_copyFrom 75 = .ok (.getfield 31, 3) := by decide +kernel
theorem dX7_copyFrom_78 : decode cX7_copyFrom 78 = .ok (.iconst 0, 1) := by decide +kernel
theorem dX7_copyFrom_79 : decode cX7_copyFrom 79 = .ok (.aload_n 0, 1) := by decide +kernel
theorem dX7_copyFrom_80 : decode cX7_copyFrom 80 = .ok (.getfield 31, 3) := by decide +kernel
theorem dX7_copyFrom_83 : decode cX7_copyFrom 83 = .ok (.iconst 0, 1) := by decide +kernel
theorem dX7_copyFrom_84 : decode cX7_copyFrom 84 = .ok (.iconst 4, 1) := by decide +kernel
theorem dX7_copyFrom_85 : decode cX7_copyFrom 85 = .ok (.invokestatic 59, 3) := by decide +kernel
theorem dX7_copyFrom_88 : decode cX7_copyFrom 88 = .ok (.aload_n 0, 1) := by decide +kernel
theorem dX7_copyFrom_89 : decode cX7_copyFrom 89 = .ok (.aload_n 1, 1) := by decide +kernel
theorem dX7_copyFrom_90 : decode cX7_copyFrom 90 = .ok (.getfield 34, 3) := by decide +kernel
theorem dX7_copyFrom_93 : decode cX7_copyFrom 93 = .ok (.putfield 34, 3) := by decide +kernel
theorem dX7_copyFrom_96 : decode cX7_copyFrom 96 = .ok (.aload_n 1, 1) := by decide +kernel
theorem dX7_copyFrom_97 : decode cX7_copyFrom 97 = .ok (.getfield 37, 3) := by decide +kernel
theorem dX7_copyFrom_100 : decode cX7_copyFrom 100 = .ok (.iconst 0, 1) := by decide +kernel
theorem dX7_copyFrom_101 : decode cX7_copyFrom 101 = .ok (.aload_n 0, 1) := by decide +kernel
theorem dX7_copyFrom_102 : decode cX7_copyFrom 102 = .ok (.getfield 37, 3) := by decide +kernel
theorem dX7_copyFrom_105 : decode cX7_copyFrom 105 = .ok (.iconst 0, 1) := by decide +kernel
theorem dX7_copyFrom_106 : decode cX7_copyFrom 106 = .ok (.bipush 6, 2) := by decide +kernel
theorem dX7_copyFrom_108 : decode cX7_copyFrom 108 = .ok (.invokestatic 59, 3) := by decide +kernel
theorem dX7_copyFrom_111 : decode cX7_copyFrom 111 = .ok (.aload_n 1, 1) := by decide +kernel
theorem dX7_copyFrom_112 : decode cX7_copyFrom 112 = .ok (.getfield 40, 3) := by decide +kernel
theorem dX7_copyFrom_115 : decode cX7_copyFrom 115 = .ok (.iconst 0, 1) := by decide +kernel
theorem dX7_copyFrom_116 : decode cX7_copyFrom 116 = .ok (.aload_n 0, 1) := by decide +kernel
theorem dX7_copyFrom_117 : decode cX7_copyFrom 117 = .ok (.getfield 40, 3) := by decide +kernel
theorem dX7_copyFrom_120 : decode cX7_copyFrom 120 = .ok (.iconst 0, 1) := by decide +kernel
theorem dX7_copyFrom_121 : decode cX7_copyFrom 121 = .ok (.bipush 6, 2) := by decide +kernel
theorem dX7_copyFrom_123 : decode cX7_copyFrom 123 = .ok (.invokestatic 59, 3) := by decide +kernel
theorem dX7_copyFrom_126 : decode cX7_copyFrom 126 = .ok (.aload_n 0, 1) := by decide +kernel
theorem dX7_copyFrom_127 : decode cX7_copyFrom 127 = .ok (.aload_n 1, 1) := by decide +kernel
theorem dX7_copyFrom_128 : decode cX7_copyFrom 128 = .ok (.getfield 43, 3) := by decide +kernel
theorem dX7_copyFrom_131 : decode cX7_copyFrom 131 = .ok (.putfield 43, 3) := by decide +kernel
theorem dX7_copyFrom_134 : decode cX7_copyFrom 134 = .ok (.aload_n 1, 1) := by decide +kernel
theorem dX7_copyFrom_135 : decode cX7_copyFrom 135 = .ok (.getfield 46, 3) := by decide +kernel
theorem dX7_copyFrom_138 : decode cX7_copyFrom 138 = .ok (.iconst 0, 1) := by decide +kernel
theorem dX7_copyFrom_139 : decode cX7_copyFrom 139 = .ok (.aload_n 0, 1) := by decide +kernel
theorem dX7_copyFrom_140 : decode cX7_copyFrom 140 = .ok (.getfield 46, 3) := by decide +kernel
theorem dX7_copyFrom_143 : decode cX7_copyFrom 143 = .ok (.iconst 0, 1) := by decide +kernel
theorem dX7_copyFrom_144 : decode cX7_copyFrom 144 = .ok (.bipush 100, 2) := by decide +kernel
theorem dX7_copyFrom_146 : decode cX7_copyFrom 146 = .ok (.invokestatic 59, 3) := by decide +kernel
theorem dX7_copyFrom_149 : decode cX7_copyFrom 149 = .ok (.return_, 1) := by decide +kernel
theorem dX7_addPeg_0 : decode cX7_addPeg 0 = .ok (.iload_n 1, 1) := by decide +kernel
theorem dX7_addPeg_1 : decode cX7_addPeg 1 = .ok (.invokestatic 55, 3) := by decide +kernel
theorem dX7_addPeg_4 : decode cX7_addPeg 4 = .ok (.ifCond .eq 10, 3) := by decide +kernel
theorem dX7_addPeg_7 : decode cX7_addPeg 7 = .ok (.iload_n 2, 1) := by decide +kernel
theorem dX7_addPeg_8 : decode cX7_addPeg 8 = .ok (.invokestatic 65, 3) := by decide +kernel
theorem dX7_addPeg_11 : decode cX7_addPeg 11 = .ok (.ifCond .ne 5, 3) := by decide +kernel
theorem dX7_addPeg_14 : decode cX7_addPeg 14 = .ok (.iconst (-1), 1) := by decide +kernel
theorem dX7_addPeg_15 : decode cX7_addPeg 15 = .ok (.ireturn, 1) := by decide +kernel
theorem dX7_addPeg_16 : decode cX7_addPeg 16 = .ok (.aload_n 0, 1) := by decide +kernel
theorem dX7_addPeg_17 : decode cX7_addPeg 17 = .ok (.iload_n 1, 1) := by decide +kernel
theorem dX7_addPeg_18 : decode cX7_addPeg 18 = .ok (.invokevirtual 68, 3) := by decide +kernel
theorem dX7_addPeg_21 : decode cX7_addPeg 21 = .ok (.ifCond .ne 6, 3) := by decide +kernel
theorem dX7_addPeg_24 : decode cX7_addPeg 24 = .ok (.bipush (-2), 2) := by decide +kernel
theorem dX7_addPeg_26 : decode cX7_addPeg 26 = .ok (.ireturn, 1) := by decide +kernel
theorem dX7_addPeg_27 : decode cX7_addPeg 27 = .ok (.aload_n 0, 1) := by decide +kernel
theorem dX7_addPeg_28 : decode cX7_addPeg 28 = .ok (.getfield 18, 3) := by decide +kernel
theorem dX7_addPeg_31 : decode cX7_addPeg 31 = .ok (.bipush 7, 2) := by decide +kernel
theorem dX7_addPeg_33 : decode cX7_addPeg 33 = .ok (.if_icmp .lt 6, 3) := by decide +kernel
theorem dX7_addPeg_36 : decode cX7_addPeg 36 = .ok (.bipush (-3), 2) := by decide +kernel
theorem dX7_addPeg_38 : decode cX7_addPeg 38 = .ok (.ireturn, 1) := by decide +kernel
theorem dX7_addPeg_39 : decode cX7_addPeg 39 = .ok (.aload_n 0, 1) := by decide +kernel
theorem dX7_addPeg_40 : decode cX7_addPeg 40 = .ok (.getfield 9, 3) := by decide +kernel
theorem dX7_addPeg_43 : decode cX7_addPeg 43 = .ok (.aload_n 0, 1) := by decide +kernel
theorem dX7_addPeg_44 : decode cX7_addPeg 44 = .ok (.getfield 18, 3) := by decide +kernel
theorem dX7_addPeg_47 : decode cX7_addPeg 47 = .ok (.iload_n 1, 1) := by decide +kernel
theorem dX7_addPeg_48 : decode cX7_addPeg 48 = .ok (.iastore, 1) := by decide +kernel
theorem dX7_addPeg_49 : decode cX7_addPeg 49 = .ok (.aload_n 0, 1) := by decide +kernel
theorem dX7_addPeg_50 : decode cX7_addPeg 50 = .ok (.getfield 15, 3) := by decide +kernel
theorem dX7_addPeg_53 : decode cX7_addPeg 53 = .ok (.aload_n 0, 1) := by decide +kernel
theorem dX7_addPeg_54 : decode cX7_addPeg 54 = .ok (.getfield 18, 3) := by decide +kernel
theorem dX7_addPeg_57 : decode cX7_addPeg 57 = .ok (.iload_n 2, 1) := by decide +kernel
theorem dX7_addPeg_58 : decode cX7_addPeg 58 = .ok (.iastore, 1) := by decide +kernel
theorem dX7_addPeg_59 : decode cX7_addPeg 59 = .ok (.aload_n 0, 1) := by decide +kernel
theorem dX7_addPeg_60 : decode cX7_addPeg 60 = .ok (.iload_n 1, 1) := by decide +kernel
theorem dX7_addPeg_61 : decode cX7_addPeg 61 = .ok (.aload_n 0, 1) := by decide +kernel
theorem dX7_addPeg_62 : decode cX7_addPeg 62 = .ok (.getfield 18, 3) := by decide +kernel
theorem dX7_addPeg_65 : decode cX7_addPeg 65 = .ok (.invokevirtual 71, 3) := by decide +kernel
theorem dX7_addPeg_68 : decode cX7_addPeg 68 = .ok (.aload_n 0, 1) := by decide +kernel
theorem dX7_addPeg_69 : decode cX7_addPeg 69 = .ok (.dup, 1) := by decide +kernel
theorem dX7_addPeg_70 : decode cX7_addPeg 70 = .ok (.getfield 18, 3) := by decide +kernel
theorem dX7_addPeg_73 : decode cX7_addPeg 73 = .ok (.iconst 1, 1) := by decide +kernel
theorem dX7_addPeg_74 : decode cX7_addPeg 74 = .ok (.iadd, 1) := by decide +kernel
theorem dX7_addPeg_75 : decode cX7_addPeg 75 = .ok (.putfield 18, 3) := by decide +kernel
theorem dX7_addPeg_78 : decode cX7_addPeg 78 = .ok (.aload_n 0, 1) := by decide +kernel
theorem dX7_addPeg_79 : decode cX7_addPeg 79 = .ok (.getfield 18, 3) := by decide +kernel
theorem dX7_addPeg_82 : decode cX7_addPeg 82 = .ok (.ireturn, 1) := by decide +kernel
theorem dX7_cutPegs_0 : decode cX7_cutPegs 0 = .ok (.iload_n 1, 1) := by decide +kernel
theorem dX7_cutPegs_1 : decode cX7_cutPegs 1 = .ok (.iconst 0, 1) := by decide +kernel
theorem dX7_cutPegs_2 : decode cX7_cutPegs 2 = .ok (.invokestatic 75, 3) := by decide +kernel
theorem dX7_cutPegs_5 : decode cX7_cutPegs 5 = .ok (.istore_n 2, 1) := by decide +kernel
theorem dX7_cutPegs_6 : decode cX7_cutPegs 6 = .ok (.iload_n 2, 1) := by decide +kernel
theorem dX7_cutPegs_7 : decode cX7_cutPegs 7 = .ok (.aload_n 0, 1) := by decide +kernel
theorem dX7_cutPegs_8 : decode cX7_cutPegs 8 = .ok (.getfield 18, 3) := by decide +kernel
theorem dX7_cutPegs_11 : decode cX7_cutPegs 11 = .ok (.if_icmp .ge 20, 3) := by decide +kernel
theorem dX7_cutPegs_14 : decode cX7_cutPegs 14 = .ok (.aload_n 0, 1) := by decide +kernel
theorem dX7_cutPegs_15 : decode cX7_cutPegs 15 = .ok (.aload_n 0, 1) := by decide +kernel
theorem dX7_cutPegs_16 : decode cX7_cutPegs 16 = .ok (.getfield 9, 3) := by decide +kernel
theorem dX7_cutPegs_19 : decode cX7_cutPegs 19 = .ok (.iload_n 2, 1) := by decide +kernel
theorem dX7_cutPegs_20 : decode cX7_cutPegs 20 = .ok (.iaload, 1) := by decide +kernel
theorem dX7_cutPegs_21 : decode cX7_cutPegs 21 = .ok (.iconst (-1), 1) := by decide +kernel
theorem dX7_cutPegs_22 : decode cX7_cutPegs 22 = .ok (.invokevirtual 71, 3) := by decide +kernel
theorem dX7_cutPegs_25 : decode cX7_cutPegs 25 = .ok (.iinc 2 1, 3) := by decide +kernel
theorem dX7_cutPegs_28 : decode cX7_cutPegs 28 = .ok (.goto (-22), 3) := by decide +kernel
theorem dX7_cutPegs_31 : decode cX7_cutPegs 31 = .ok (.aload_n 0, 1) := by decide +kernel
theorem dX7_cutPegs_32 : decode cX7_cutPegs 32 = .ok (.iconst 0, 1) := by decide +kernel
theorem dX7_cutPegs_33 : decode cX7_cutPegs 33 = .ok (.iload_n 1, 1) := by decide +kernel
theorem dX7_cutPegs_34 : decode cX7_cutPegs 34 = .ok (.aload_n 0, 1) := by decide +kernel
theorem dX7_cutPegs_35 : decode cX7_cutPegs 35 = .ok (.getfield 18, 3) := by decide +kernel
theorem dX7_cutPegs_38 : decode cX7_cutPegs 38 = .ok (.invokestatic 81, 3) := by decide +kernel
theorem dX7_cutPegs_41 : decode cX7_cutPegs 41 = .ok (.invokestatic 75, 3) := by decide +kernel
theorem dX7_cutPegs_44 : decode cX7_cutPegs 44 = .ok (.putfield 18, 3) := by decide +kernel
theorem dX7_cutPegs_47 : decode cX7_cutPegs 47 = .ok (.return_, 1) := by decide +kernel
theorem dX7_movePeg_0 : decode cX7_movePeg 0 = .ok (.aload_n 0, 1) := by decide +kernel
theorem dX7_movePeg_1 : decode cX7_movePeg 1 = .ok (.iload_n 1, 1) := by decide +kernel
theorem dX7_movePeg_2 : decode cX7_movePeg 2 = .ok (.invokevirtual 84, 3) := by decide +kernel
theorem dX7_movePeg_5 : decode cX7_movePeg 5 = .ok (.ifCond .eq 34, 3) := by decide +kernel
theorem dX7_movePeg_8 : decode cX7_movePeg 8 = .ok (.iload_n 2, 1) := by decide +kernel
theorem dX7_movePeg_9 : decode cX7_movePeg 9 = .ok (.invokestatic 55, 3) := by decide +kernel
theorem dX7_movePeg_12 : decode cX7_movePeg 12 = .ok (.ifCond .eq 27, 3) := by decide +kernel
theorem dX7_movePeg_15 : decode cX7_movePeg 15 = .ok (.aload_n 0, 1) := by decide +kernel
theorem dX7_movePeg_16 : decode cX7_movePeg 16 = .ok (.aload_n 0, 1) := by decide +kernel
theorem dX7_movePeg_17 : decode cX7_movePeg 17 = .ok (.getfield 9, 3) := by decide +kernel
theorem dX7_movePeg_20 : decode cX7_movePeg 20 = .ok (.iload_n 1, 1) := by decide +kernel
theorem dX7_movePeg_21 : decode cX7_movePeg 21 = .ok (.iaload, 1) := by decide +kernel
theorem dX7_movePeg_22 : decode cX7_movePeg 22 = .ok (.iconst (-1), 1) := by decide +kernel
theorem dX7_movePeg_23 : decode cX7_movePeg 23 = .ok (.invokevirtual 71, 3) := by decide +kernel
theorem dX7_movePeg_26 : decode cX7_movePeg 26 = .ok (.aload_n 0, 1) := by decide +kernel
theorem dX7_movePeg_27 : decode cX7_movePeg 27 = .ok (.getfield 9, 3) := by decide +kernel
theorem dX7_movePeg_30 : decode cX7_movePeg 30 = .ok (.iload_n 1, 1) := by decide +kernel
theorem dX7_movePeg_31 : decode cX7_movePeg 31 = .ok (.iload_n 2, 1) := by decide +kernel
theorem dX7_movePeg_32 : decode cX7_movePeg 32 = .ok (.iastore, 1) := by decide +kernel
theorem dX7_movePeg_33 : decode cX7_movePeg 33 = .ok (.aload_n 0, 1) := by decide +kernel
theorem dX7_movePeg_34 : decode cX7_movePeg 34 = .ok (.iload_n 2, 1) := by decide +kernel
theorem dX7_movePeg_35 : decode cX7_movePeg 35 = .ok (.iload_n 1, 1) := by decide +kernel
theorem dX7_movePeg_36 : decode cX7_movePeg 36 = .ok (.invokevirtual 71, 3) := by decide +kernel
theorem dX7_movePeg_39 : decode cX7_movePeg 39 = .ok (.return_, 1) := by decide +kernel
theorem dX7_hidePeg_0 : decode cX7_hidePeg 0 = .ok (.aload_n 0, 1) := by decide +kernel
theorem dX7_hidePeg_1 : decode cX7_hidePeg 1 = .ok (.iload_n 1, 1) := by decide +kernel
theorem dX7_hidePeg_2 : decode cX7_hidePeg 2 = .ok (.invokevirtual 84, 3) := by decide +kernel
theorem dX7_hidePeg_5 : decode cX7_hidePeg 5 = .ok (.ifCond .eq 14, 3) := by decide +kernel
theorem dX7_hidePeg_8 : decode cX7_hidePeg 8 = .ok (.aload_n 0, 1) := by decide +kernel
theorem dX7_hidePeg_9 : decode cX7_hidePeg 9 = .ok (.aload_n 0, 1) := by decide +kernel
theorem dX7_hidePeg_10 : decode cX7_hidePeg 10 = .ok (.getfield 9, 3) := by decide +kernel
theorem dX7_hidePeg_13 : decode cX7_hidePeg 13 = .ok (.iload_n 1, 1) := by decide +kernel
theorem dX7_hidePeg_14 : decode cX7_hidePeg 14 = .ok (.iaload, 1) := by decide +kernel
theorem dX7_hidePeg_15 : decode cX7_hidePeg 15 = .ok (.iconst (-1), 1) := by decide +kernel
theorem dX7_hidePeg_16 : decode cX7_hidePeg 16 = .ok (.invokevirtual 71, 3) := by decide +kernel
theorem dX7_hidePeg_19 : decode cX7_hidePeg 19 = .ok (.return_, 1) := by decide +kernel
theorem dX7_showPeg_0 : decode cX7_showPeg 0 = .ok (.aload_n 0, 1) := by decide +kernel
theorem dX7_showPeg_1 : decode cX7_showPeg 1 = .ok (.iload_n 1, 1) := by decide +kernel
theorem dX7_showPeg_2 : decode cX7_showPeg 2 = .ok (.invokevirtual 84, 3) := by decide +kernel
theorem dX7_showPeg_5 : decode cX7_showPeg 5 = .ok (.ifCond .eq 14, 3) := by decide +kernel
theorem dX7_showPeg_8 : decode cX7_showPeg 8 = .ok (.aload_n 0, 1) := by decide +kernel
theorem dX7_showPeg_9 : decode cX7_showPeg 9 = .ok (.aload_n 0, 1) := by decide +kernel
theorem dX7_showPeg_10 : decode cX7_showPeg 10 = .ok (.getfield 9, 3) := by decide +kernel
theorem dX7_showPeg_13 : decode cX7_showPeg 13 = .ok (.iload_n 1, 1) := by decide +kernel
theorem dX7_showPeg_14 : decode cX7_showPeg 14 = .ok (.iaload, 1) := by decide +kernel
theorem dX7_showPeg_15 : decode cX7_showPeg 15 = .ok (.iload_n 1, 1) := by decide +kernel
theorem dX7_showPeg_16 : decode cX7_showPeg 16 = .ok (.invokevirtual 71, 3) := by decide +kernel
theorem dX7_showPeg_19 : decode cX7_showPeg 19 = .ok (.return_, 1) := by decide +kernel
theorem dX7_addSlug_0 : decode cX7_addSlug 0 = .ok (.iload_n 1, 1) := by decide +kernel
theorem dX7_addSlug_1 : decode cX7_addSlug 1 = .ok (.invokestatic 55, 3) := by decide +kernel
theorem dX7_addSlug_4 : decode cX7_addSlug 4 = .ok (.ifCond .ne 5, 3) := by decide +kernel
theorem dX7_addSlug_7 : decode cX7_addSlug 7 = .ok (.iconst (-1), 1) := by decide +kernel
theorem dX7_addSlug_8 : decode cX7_addSlug 8 = .ok (.ireturn, 1) := by decide +kernel
theorem dX7_addSlug_9 : decode cX7_addSlug 9 = .ok (.aload_n 0, 1) := by decide +kernel
theorem dX7_addSlug_10 : decode cX7_addSlug 10 = .ok (.iload_n 1, 1) := by decide +kernel
theorem dX7_addSlug_11 : decode cX7_addSlug 11 = .ok (.invokevirtual 68, 3) := by decide +kernel
theorem dX7_addSlug_14 : decode cX7_addSlug 14 = .ok (.ifCond .ne 6, 3) := by decide +kernel
theorem dX7_addSlug_17 : decode cX7_addSlug 17 = .ok (.bipush (-2), 2) := by decide +kernel
theorem dX7_addSlug_19 : decode cX7_addSlug 19 = .ok (.ireturn, 1) := by decide +kernel
theorem dX7_addSlug_20 : decode cX7_addSlug 20 = .ok (.aload_n 0, 1) := by decide +kernel
theorem dX7_addSlug_21 : decode cX7_addSlug 21 = .ok (.getfield 25, 3) := by decide +kernel
theorem dX7_addSlug_24 : decode cX7_addSlug 24 = .ok (.iconst 4, 1) := by decide +kernel
theorem dX7_addSlug_25 : decode cX7_addSlug 25 = .ok (.if_icmp .lt 6, 3) := by decide +kernel
theorem dX7_addSlug_28 : decode cX7_addSlug 28 = .ok (.bipush (-3), 2) := by decide +kernel
theorem dX7_addSlug_30 : decode cX7_addSlug 30 = .ok (.ireturn, 1) := by decide +kernel
theorem dX7_addSlug_31 : decode cX7_addSlug 31 = .ok (.aload_n 0, 1) := by decide +kernel
theorem dX7_addSlug_32 : decode cX7_addSlug 32 = .ok (.getfield 22, 3) := by decide +kernel
theorem dX7_addSlug_35 : decode cX7_addSlug 35 = .ok (.aload_n 0, 1) := by decide +kernel
theorem dX7_addSlug_36 : decode cX7_addSlug 36 = .ok (.getfield 25, 3) := by decide +kernel
theorem dX7_addSlug_39 : decode cX7_addSlug 39 = .ok (.iload_n 1, 1) := by decide +kernel
theorem dX7_addSlug_40 : decode cX7_addSlug 40 = .ok (.iastore, 1) := by decide +kernel
theorem dX7_addSlug_41 : decode cX7_addSlug 41 = .ok (.aload_n 0, 1) := by decide +kernel
theorem dX7_addSlug_42 : decode cX7_addSlug 42 = .ok (.iload_n 1, 1) := by decide +kernel
theorem dX7_addSlug_43 : decode cX7_addSlug 43 = .ok (.bipush (-2), 2) := by decide +kernel
theorem dX7_addSlug_45 : decode cX7_addSlug 45 = .ok (.invokevirtual 71, 3) := by decide +kernel
theorem dX7_addSlug_48 : decode cX7_addSlug 48 = .ok (.aload_n 0, 1) := by decide +kernel
theorem dX7_addSlug_49 : decode cX7_addSlug 49 = .ok (.dup, 1) := by decide +kernel
theorem dX7_addSlug_50 : decode cX7_addSlug 50 = .ok (.getfield 25, 3) := by decide +kernel
theorem dX7_addSlug_53 : decode cX7_addSlug 53 = .ok (.iconst 1, 1) := by decide +kernel
theorem dX7_addSlug_54 : decode cX7_addSlug 54 = .ok (.iadd, 1) := by decide +kernel
theorem dX7_addSlug_55 : decode cX7_addSlug 55 = .ok (.putfield 25, 3) := by decide +kernel
theorem dX7_addSlug_58 : decode cX7_addSlug 58 = .ok (.aload_n 0, 1) := by decide +kernel
theorem dX7_addSlug_59 : decode cX7_addSlug 59 = .ok (.getfield 25, 3) := by decide +kernel
theorem dX7_addSlug_62 : decode cX7_addSlug 62 = .ok (.ireturn, 1) := by decide +kernel
theorem dX7_cutSlugs_0 : decode cX7_cutSlugs 0 = .ok (.iload_n 1, 1) := by decide +kernel
theorem dX7_cutSlugs_1 : decode cX7_cutSlugs 1 = .ok (.iconst 0, 1) := by decide +kernel
theorem dX7_cutSlugs_2 : decode cX7_cutSlugs 2 = .ok (.invokestatic 75, 3) := by decide +kernel
theorem dX7_cutSlugs_5 : decode cX7_cutSlugs 5 = .ok (.istore_n 2, 1) := by decide +kernel
theorem dX7_cutSlugs_6 : decode cX7_cutSlugs 6 = .ok (.iload_n 2, 1) := by decide +kernel
theorem dX7_cutSlugs_7 : decode cX7_cutSlugs 7 = .ok (.aload_n 0, 1) := by decide +kernel
theorem dX7_cutSlugs_8 : decode cX7_cutSlugs 8 = .ok (.getfield 25, 3) := by decide +kernel
theorem dX7_cutSlugs_11 : decode cX7_cutSlugs 11 = .ok (.if_icmp .ge 20, 3) := by decide +kernel
theorem dX7_cutSlugs_14 : decode cX7_cutSlugs 14 = .ok (.aload_n 0, 1) := by decide +kernel
theorem dX7_cutSlugs_15 : decode cX7_cutSlugs 15 = .ok (.aload_n 0, 1) := by decide +kernel
theorem dX7_cutSlugs_16 : decode cX7_cutSlugs 16 = .ok (.getfield 22, 3) := by decide +kernel
theorem dX7_cutSlugs_19 : decode cX7_cutSlugs 19 = .ok (.iload_n 2, 1) := by decide +kernel
theorem dX7_cutSlugs_20 : decode cX7_cutSlugs 20 = .ok (.iaload, 1) := by decide +kernel
theorem dX7_cutSlugs_21 : decode cX7_cutSlugs 21 = .ok (.iconst (-1), 1) := by decide +kernel
theorem dX7_cutSlugs_22 : decode cX7_cutSlugs 22 = .ok (.invokevirtual 71, 3) := by decide +kernel
theorem dX7_cutSlugs_25 : decode cX7_cutSlugs 25 = .ok (.iinc 2 1, 3) := by decide +kernel
theorem dX7_cutSlugs_28 : decode cX7_cutSlugs 28 = .ok (.goto (-22), 3) := by decide +kernel
theorem dX7_cutSlugs_31 : decode cX7_cutSlugs 31 = .ok (.aload_n 0, 1) := by decide +kernel
theorem dX7_cutSlugs_32 : decode cX7_cutSlugs 32 = .ok (.iconst 0, 1) := by decide +kernel
theorem dX7_cutSlugs_33 : decode cX7_cutSlugs 33 = .ok (.iload_n 1, 1) := by decide +kernel
theorem dX7_cutSlugs_34 : decode cX7_cutSlugs 34 = .ok (.aload_n 0, 1) := by decide +kernel
theorem dX7_cutSlugs_35 : decode cX7_cutSlugs 35 = .ok (.getfield 25, 3) := by decide +kernel
theorem dX7_cutSlugs_38 : decode cX7_cutSlugs 38 = .ok (.invokestatic 81, 3) := by decide +kernel
theorem dX7_cutSlugs_41 : decode cX7_cutSlugs 41 = .ok (.invokestatic 75, 3) := by decide +kernel
theorem dX7_cutSlugs_44 : decode cX7_cutSlugs 44 = .ok (.putfield 25, 3) := by decide +kernel
theorem dX7_cutSlugs_47 : decode cX7_cutSlugs 47 = .ok (.return_, 1) := by decide +kernel
theorem dX7_addHedgehog_0 : decode cX7_addHedgehog 0 = .ok (.aload_n 0, 1) := by decide +kernel
theorem dX7_addHedgehog_1 : decode cX7_addHedgehog 1 = .ok (.getfield 34, 3) := by decide +kernel
theorem dX7_addHedgehog_4 : decode cX7_addHedgehog 4 = .ok (.iconst 4, 1) := by decide +kernel
theorem dX7_addHedgehog_5 : decode cX7_addHedgehog 5 = .ok (.if_icmp .lt 6, 3) := by decide +kernel
theorem dX7_addHedgehog_8 : decode cX7_addHedgehog 8 = .ok (.bipush (-3), 2) := by decide +kernel
theorem dX7_addHedgehog_10 : decode cX7_addHedgehog 10 = .ok (.ireturn, 1) := by decide +kernel
theorem dX7_addHedgehog_11 : decode cX7_addHedgehog 11 = .ok (.aload_n 0, 1) := by decide +kernel
theorem dX7_addHedgehog_12 : decode cX7_addHedgehog 12 = .ok (.getfield 28, 3) := by decide +kernel
theorem dX7_addHedgehog_15 : decode cX7_addHedgehog 15 = .ok (.aload_n 0, 1) := by decide +kernel
theorem dX7_addHedgehog_16 : decode cX7_addHedgehog 16 = .ok (.getfield 34, 3) := by decide +kernel
theorem dX7_addHedgehog_19 : decode cX7_addHedgehog 19 = .ok (.iload_n 1, 1) := by decide +kernel
theorem dX7_addHedgehog_20 : decode cX7_addHedgehog 20 = .ok (.iastore, 1) := by decide +kernel
theorem dX7_addHedgehog_21 : decode cX7_addHedgehog 21 = .ok (.aload_n 0, 1) := by decide +kernel
theorem dX7_addHedgehog_22 : decode cX7_addHedgehog 22 = .ok (.getfield 31, 3) := by decide +kernel
theorem dX7_addHedgehog_25 : decode cX7_addHedgehog 25 = .ok (.aload_n 0, 1) := by decide +kernel
theorem dX7_addHedgehog_26 : decode cX7_addHedgehog 26 = .ok (.getfield 34, 3) := by decide +kernel
theorem dX7_addHedgehog_29 : decode cX7_addHedgehog 29 = .ok (.iload_n 2, 1) := by decide +kernel
theorem dX7_addHedgehog_30 : decode cX7_addHedgehog 30 = .ok (.iastore, 1) := by decide +kernel
theorem dX7_addHedgehog_31 : decode cX7_addHedgehog 31 = .ok (.aload_n 0, 1) := by decide +kernel
theorem dX7_addHedgehog_32 : decode cX7_addHedgehog 32 = .ok (.dup, 1) := by decide +kernel
theorem dX7_addHedgehog_33 : decode cX7_addHedgehog 33 = .ok (.getfield 34, 3) := by decide +kernel
theorem dX7_addHedgehog_36 : decode cX7_addHedgehog 36 = .ok (.iconst 1, 1) := by decide +kernel
theorem dX7_addHedgehog_37 : decode cX7_addHedgehog 37 = .ok (.iadd, 1) := by decide +kernel
theorem dX7_addHedgehog_38 : decode cX7_addHedgehog 38 = .ok (.putfield 34, 3) := by decide +kernel
theorem dX7_addHedgehog_41 : decode cX7_addHedgehog 41 = .ok (.aload_n 0, 1) := by decide +kernel
theorem dX7_addHedgehog_42 : decode cX7_addHedgehog 42 = .ok (.getfield 34, 3) := by decide +kernel
theorem dX7_addHedgehog_45 : decode cX7_addHedgehog 45 = .ok (.ireturn, 1) := by decide +kernel
theorem dX7_exchangeHedgehogs_0 : decode cX7_exchangeHedgehogs 0 = .ok (.aload_n 0, 1) := by decide +kernel
theorem dX7_exchangeHedgehogs_1 : decode cX7_exchangeHedgehogs 1 = .ok (.iload_n 1, 1) := by decide +kernel
theorem dX7_exchangeHedgehogs_2 : decode cX7_exchangeHedgehogs 2 = .ok (.invokevirtual 87, 3) := by decide +kernel
theorem dX7_exchangeHedgehogs_5 : decode cX7_exchangeHedgehogs 5 = .ok (.ifCond .eq 65, 3) := by decide +kernel
theorem dX7_exchangeHedgehogs_8 : decode cX7_exchangeHedgehogs 8 = .ok (.aload_n 0, 1) := by decide +kernel
theorem dX7_exchangeHedgehogs_9 : decode cX7_exchangeHedgehogs 9 = .ok (.iload_n 2, 1) := by decide +kernel
theorem dX7_exchangeHedgehogs_10 : decode cX7_exchangeHedgehogs 10 = .ok (.invokevirtual 87, 3) := by decide +kernel
theorem dX7_exchangeHedgehogs_13 : decode cX7_exchangeHedgehogs 13 = .ok (.ifCond .eq 57, 3) := by decide +kernel
theorem dX7_exchangeHedgehogs_16 : decode cX7_exchangeHedgehogs 16 = .ok (.aload_n 0, 1) := by decide +kernel
theorem dX7_exchangeHedgehogs_17 : decode cX7_exchangeHedgehogs 17 = .ok (.getfield 28, 3) := by decide +kernel
theorem dX7_exchangeHedgehogs_20 : decode cX7_exchangeHedgehogs 20 = .ok (.iload_n 1, 1) := by decide +kernel
theorem dX7_exchangeHedgehogs_21 : decode cX7_exchangeHedgehogs 21 = .ok (.iaload, 1) := by decide +kernel
theorem dX7_exchangeHedgehogs_22 : decode cX7_exchangeHedgehogs 22 = .ok (.istore_n 3, 1) := by decide +kernel
theorem dX7_exchangeHedgehogs_23 : decode cX7_exchangeHedgehogs 23 = .ok (.aload_n 0, 1) := by decide +kernel
theorem dX7_exchangeHedgehogs_24 : decode cX7_exchangeHedgehogs 24 = .ok (.getfield 28, 3) := by decide +kernel
theorem dX7_exchangeHedgehogs_27 : decode cX7_exchangeHedgehogs 27 = .ok (.iload_n 1, 1) := by decide +kernel
theorem dX7_exchangeHedgehogs_28 : decode cX7_exchangeHedgehogs 28 = .ok (.aload_n 0, 1) := by decide +kernel
theorem dX7_exchangeHedgehogs_29 : decode cX7_exchangeHedgehogs 29 = .ok (.getfield 28, 3) := by decide +kernel
theorem dX7_exchangeHedgehogs_32 : decode cX7_exchangeHedgehogs 32 = .ok (.iload_n 2, 1) := by decide +kernel
theorem dX7_exchangeHedgehogs_33 : decode cX7_exchangeHedgehogs 33 = .ok (.iaload, 1) := by decide +kernel
theorem dX7_exchangeHedgehogs_34 : decode cX7_exchangeHedgehogs 34 = .ok (.iastore, 1) := by decide +kernel
theorem dX7_exchangeHedgehogs_35 : decode cX7_exchangeHedgehogs 35 = .ok (.aload_n 0, 1) := by decide +kernel
theorem dX7_exchangeHedgehogs_36 : decode cX7_exchangeHedgehogs 36 = .ok (.getfield 28, 3) := by decide +kernel
theorem dX7_exchangeHedgehogs_39 : decode cX7_exchangeHedgehogs 39 = .ok (.iload_n 2, 1) := by decide +kernel
theorem dX7_exchangeHedgehogs_40 : decode cX7_exchangeHedgehogs 40 = .ok (.iload_n 3, 1) := by decide +kernel
theorem dX7_exchangeHedgehogs_41 : decode cX7_exchangeHedgehogs 41 = .ok (.iastore, 1) := by decide +kernel
theorem dX7_exchangeHedgehogs_42 : decode cX7_exchangeHedgehogs 42 = .ok (.aload_n 0, 1) := by decide +kernel
theorem dX7_exchangeHedgehogs_43 : decode cX7_exchangeHedgehogs 43 = .ok (.getfield 31, 3) := by decide +kernel
theorem dX7_exchangeHedgehogs_46 : decode cX7_exchangeHedgehogs 46 = .ok (.iload_n 1, 1) := by decide +kernel
theorem dX7_exchangeHedgehogs_47 : decode cX7_exchangeHedgehogs 47 = .ok (.iaload, 1) := by decide +kernel
theorem dX7_exchangeHedgehogs_48 : decode cX7_exchangeHedgehogs 48 = .ok (.istore 4, 2) := by decide +kernel
theorem dX7_exchangeHedgehogs_50 : decode cX7_exchangeHedgehogs 50 = .ok (.aload_n 0, 1) := by decide +kernel
theorem dX7_exchangeHedgehogs_51 : decode cX7_exchangeHedgehogs 51 = .ok (.getfield 31, 3) := by decide +kernel
theorem dX7_exchangeHedgehogs_54 : decode cX7_exchangeHedgehogs 54 = .ok (.iload_n 1, 1) := by decide +kernel
theorem dX7_exchangeHedgehogs_55 : decode cX7_exchangeHedgehogs 55 = .ok (.aload_n 0, 1) := by decide +kernel
theorem dX7_exchangeHedgehogs_56 : decode cX7_exchangeHedgehogs 56 = .ok (.getfield 31, 3) := by decide +kernel
theorem dX7_exchangeHedgehogs_59 : decode cX7_exchangeHedgehogs 59 = .ok (.iload_n 2, 1) := by decide +kernel
theorem dX7_exchangeHedgehogs_60 : decode cX7_exchangeHedgehogs 60 = .ok (.iaload, 1) := by decide +kernel
theorem dX7_exchangeHedgehogs_61 : decode cX7_exchangeHedgehogs 61 = .ok (.iastore, 1) := by decide +kernel
theorem dX7_exchangeHedgehogs_62 : decode cX7_exchangeHedgehogs 62 = .ok (.aload_n 0, 1) := by decide +kernel
theorem dX7_exchangeHedgehogs_63 : decode cX7_exchangeHedgehogs 63 = .ok (.getfield 31, 3) := by decide +kernel
theorem dX7_exchangeHedgehogs_66 : decode cX7_exchangeHedgehogs 66 = .ok (.iload_n 2, 1) := by decide +kernel
theorem dX7_exchangeHedgehogs_67 : decode cX7_exchangeHedgehogs 67 = .ok (.iload 4, 2) := by decide +kernel
theorem dX7_exchangeHedgehogs_69 : decode cX7_exchangeHedgehogs 69 = .ok (.iastore, 1) := by decide +kernel
theorem dX7_exchangeHedgehogs_70 : decode cX7_exchangeHedgehogs 70 = .ok (.return_, 1) := by decide +kernel
theorem dX7_addSuit_0 : decode cX7_addSuit 0 = .ok (.aload_n 0, 1) := by decide +kernel
theorem dX7_addSuit_1 : decode cX7_addSuit 1 = .ok (.getfield 43, 3) := by decide +kernel
theorem dX7_addSuit_4 : decode cX7_addSuit 4 = .ok (.bipush 6, 2) := by decide +kernel
theorem dX7_addSuit_6 : decode cX7_addSuit 6 = .ok (.if_icmp .lt 6, 3) := by decide +kernel
theorem dX7_addSuit_9 : decode cX7_addSuit 9 = .ok (.bipush (-3), 2) := by decide +kernel
theorem dX7_addSuit_11 : decode cX7_addSuit 11 = .ok (.ireturn, 1) := by decide +kernel
theorem dX7_addSuit_12 : decode cX7_addSuit 12 = .ok (.aload_n 0, 1) := by decide +kernel
theorem dX7_addSuit_13 : decode cX7_addSuit 13 = .ok (.getfield 37, 3) := by decide +kernel
theorem dX7_addSuit_16 : decode cX7_addSuit 16 = .ok (.aload_n 0, 1) := by decide +kernel
theorem dX7_addSuit_17 : decode cX7_addSuit 17 = .ok (.getfield 43, 3) := by decide +kernel
theorem dX7_addSuit_20 : decode cX7_addSuit 20 = .ok (.iload_n 1, 1) := by decide +kernel
theorem dX7_addSuit_21 : decode cX7_addSuit 21 = .ok (.iastore, 1) := by decide +kernel
theorem dX7_addSuit_22 : decode cX7_addSuit 22 = .ok (.aload_n 0, 1) := by decide +kernel
theorem dX7_addSuit_23 : decode cX7_addSuit 23 = .ok (.getfield 40, 3) := by decide +kernel
theorem dX7_addSuit_26 : decode cX7_addSuit 26 = .ok (.aload_n 0, 1) := by decide +kernel
theorem dX7_addSuit_27 : decode cX7_addSuit 27 = .ok (.getfield 43, 3) := by decide +kernel
theorem dX7_addSuit_30 : decode cX7_addSuit 30 = .ok (.iload_n 2, 1) := by decide +kernel
theorem dX7_addSuit_31 : decode cX7_addSuit 31 = .ok (.iastore, 1) := by decide +kernel
theorem dX7_addSuit_32 : decode cX7_addSuit 32 = .ok (.aload_n 0, 1) := by decide +kernel
theorem dX7_addSuit_33 : decode cX7_addSuit 33 = .ok (.dup, 1) := by decide +kernel
theorem dX7_addSuit_34 : decode cX7_addSuit 34 = .ok (.getfield 43, 3) := by decide +kernel
theorem dX7_addSuit_37 : decode cX7_addSuit 37 = .ok (.iconst 1, 1) := by decide +kernel
theorem dX7_addSuit_38 : decode cX7_addSuit 38 = .ok (.iadd, 1) := by decide +kernel
theorem dX7_addSuit_39 : decode cX7_addSuit 39 = .ok (.putfield 43, 3) := by decide +kernel
theorem dX7_addSuit_42 : decode cX7_addSuit 42 = .ok (.aload_n 0, 1) := by decide +kernel
theorem dX7_addSuit_43 : decode cX7_addSuit 43 = .ok (.getfield 43, 3) := by decide +kernel
theorem dX7_addSuit_46 : decode cX7_addSuit 46 = .ok (.ireturn, 1) := by decide +kernel
theorem dX7_pegsOfRag_0 : decode cX7_pegsOfRag 0 = .ok (.iconst 0, 1) := by decide +kernel
theorem dX7_pegsOfRag_1 : decode cX7_pegsOfRag 1 = .ok (.istore_n 2, 1) := by decide +kernel
theorem dX7_pegsOfRag_2 : decode cX7_pegsOfRag 2 = .ok (.iconst 0, 1) := by decide +kernel
theorem dX7_pegsOfRag_3 : decode cX7_pegsOfRag 3 = .ok (.istore_n 3, 1) := by decide +kernel
theorem dX7_pegsOfRag_4 : decode cX7_pegsOfRag 4 = .ok (.iload_n 3, 1) := by decide +kernel
theorem dX7_pegsOfRag_5 : decode cX7_pegsOfRag 5 = .ok (.aload_n 0, 1) := by decide +kernel
theorem dX7_pegsOfRag_6 : decode cX7_pegsOfRag 6 = .ok (.getfield 18, 3) := by decide +kernel
theorem dX7_pegsOfRag_9 : decode cX7_pegsOfRag 9 = .ok (.if_icmp .ge 22, 3) := by decide +kernel
theorem dX7_pegsOfRag_12 : decode cX7_pegsOfRag 12 = .ok (.aload_n 0, 1) := by decide +kernel
theorem dX7_pegsOfRag_13 : decode cX7_pegsOfRag 13 = .ok (.getfield 15, 3) := by decide +kernel
theorem dX7_pegsOfRag_16 : decode cX7_pegsOfRag 16 = .ok (.iload_n 3, 1) := by decide +kernel
theorem dX7_pegsOfRag_17 : decode cX7_pegsOfRag 17 = .ok (.iaload, 1) := by decide +kernel
theorem dX7_pegsOfRag_18 : decode cX7_pegsOfRag 18 = .ok (.iload_n 1, 1) := by decide +kernel
theorem dX7_pegsOfRag_19 : decode cX7_pegsOfRag 19 = .ok (.if_icmp .ne 6, 3) := by decide +kernel
theorem dX7_pegsOfRag_22 : decode cX7_pegsOfRag 22 = .ok (.iinc 2 1, 3) := by decide +kernel
theorem dX7_pegsOfRag_25 : decode cX7_pegsOfRag 25 = .ok (.iinc 3 1, 3) := by decide +kernel
theorem dX7_pegsOfRag_28 : decode cX7_pegsOfRag 28 = .ok (.goto (-24), 3) := by decide +kernel
theorem dX7_pegsOfRag_31 : decode cX7_pegsOfRag 31 = .ok (.iload_n 2, 1) := by decide +kernel
theorem dX7_pegsOfRag_32 : decode cX7_pegsOfRag 32 = .ok (.ireturn, 1) := by decide +kernel
theorem dX7_speedOfAll_0 : decode cX7_speedOfAll 0 = .ok (.iconst 0, 1) := by decide +kernel
theorem dX7_speedOfAll_1 : decode cX7_speedOfAll 1 = .ok (.istore_n 1, 1) := by decide +kernel
theorem dX7_speedOfAll_2 : decode cX7_speedOfAll 2 = .ok (.iconst 0, 1) := by decide +kernel
theorem dX7_speedOfAll_3 : decode cX7_speedOfAll 3 = .ok (.istore_n 2, 1) := by decide +kernel
theorem dX7_speedOfAll_4 : decode cX7_speedOfAll 4 = .ok (.iload_n 2, 1) := by decide +kernel
theorem dX7_speedOfAll_5 : decode cX7_speedOfAll 5 = .ok (.aload_n 0, 1) := by decide +kernel
theorem dX7_speedOfAll_6 : decode cX7_speedOfAll 6 = .ok (.getfield 34, 3) := by decide +kernel
theorem dX7_speedOfAll_9 : decode cX7_speedOfAll 9 = .ok (.if_icmp .ge 18, 3) := by decide +kernel
theorem dX7_speedOfAll_12 : decode cX7_speedOfAll 12 = .ok (.iload_n 1, 1) := by decide +kernel
theorem dX7_speedOfAll_13 : decode cX7_speedOfAll 13 = .ok (.aload_n 0, 1) := by decide +kernel
theorem dX7_speedOfAll_14 : decode cX7_speedOfAll 14 = .ok (.getfield 31, 3) := by decide +kernel
theorem dX7_speedOfAll_17 : decode cX7_speedOfAll 17 = .ok (.iload_n 2, 1) := by decide +kernel
theorem dX7_speedOfAll_18 : decode cX7_speedOfAll 18 = .ok (.iaload, 1) := by decide +kernel
theorem dX7_speedOfAll_19 : decode cX7_speedOfAll 19 = .ok (.iadd, 1) := by decide +kernel
theorem dX7_speedOfAll_20 : decode cX7_speedOfAll 20 = .ok (.istore_n 1, 1) := by decide +kernel
theorem dX7_speedOfAll_21 : decode cX7_speedOfAll 21 = .ok (.iinc 2 1, 3) := by decide +kernel
theorem dX7_speedOfAll_24 : decode cX7_speedOfAll 24 = .ok (.goto (-20), 3) := by decide +kernel
theorem dX7_speedOfAll_27 : decode cX7_speedOfAll 27 = .ok (.iload_n 1, 1) := by decide +kernel
theorem dX7_speedOfAll_28 : decode cX7_speedOfAll 28 = .ok (.ireturn, 1) := by decide +kernel
theorem dX8_init_0 : decode cX8_init 0 = .ok (.aload_n 0, 1) := by decide +kernel
theorem dX8_init_1 : decode cX8_init 1 = .ok (.invokespecial 3, 3) := by decide +kernel
theorem dX8_init_4 : decode cX8_init 4 = .ok (.aload_n 0, 1) := by decide +kernel
theorem dX8_init_5 : decode cX8_init 5 = .ok (.sipush 160, 3) := by decide +kernel
theorem dX8_init_8 : decode cX8_init 8 = .ok (.newarray .int, 2) := by decide +kernel
theorem dX8_init_10 : decode cX8_init 10 = .ok (.putfield 9, 3) := by decide +kernel
theorem dX8_init_13 : decode cX8_init 13 = .ok (.aload_n 0, 1) := by decide +kernel
theorem dX8_init_14 : decode cX8_init 14 = .ok (.iconst 0, 1) := by decide +kernel
theorem dX8_init_15 : decode cX8_init 15 = .ok (.putfield 15, 3) := by decide +kernel
theorem dX8_init_18 : decode cX8_init 18 = .ok (.return_, 1) := by decide +kernel
theorem dX8_add_0 : decode cX8_add 0 = .ok (.aload_n 0, 1) := by decide +kernel
theorem dX8_add_1 : decode cX8_add 1 = .ok (.getfield 15, 3) := by decide +kernel
theorem dX8_add_4 : decode cX8_add 4 = .ok (.sipush 160, 3) := by decide +kernel
theorem dX8_add_7 : decode cX8_add 7 = .ok (.if_icmp .lt 6, 3) := by decide +kernel
theorem dX8_add_10 : decode cX8_add 10 = .ok (.bipush (-3), 2) := by decide +kernel
theorem dX8_add_12 : decode cX8_add 12 = .ok (.ireturn, 1) := by decide +kernel
theorem dX8_add_13 : decode cX8_add 13 = .ok (.aload_n 0, 1) := by decide +kernel
theorem dX8_add_14 : decode cX8_add 14 = .ok (.getfield 9, 3) := by decide +kernel
theorem dX8_add_17 : decode cX8_add 17 = .ok (.aload_n 0, 1) := by decide +kernel
theorem dX8_add_18 : decode cX8_add 18 = .ok (.getfield 15, 3) := by decide +kernel
theorem dX8_add_21 : decode cX8_add 21 = .ok (.iload_n 1, 1) := by decide +kernel
theorem dX8_add_22 : decode cX8_add 22 = .ok (.iastore, 1) := by decide +kernel
theorem dX8_add_23 : decode cX8_add 23 = .ok (.aload_n 0, 1) := by decide +kernel
theorem dX8_add_24 : decode cX8_add 24 = .ok (.dup, 1) := by decide +kernel
theorem dX8_add_25 : decode cX8_add 25 = .ok (.getfield 15, 3) := by decide +kernel
theorem dX8_add_28 : decode cX8_add 28 = .ok (.iconst 1, 1) := by decide +kernel
theorem dX8_add_29 : decode cX8_add 29 = .ok (.iadd, 1) := by decide +kernel
theorem dX8_add_30 : decode cX8_add 30 = .ok (.putfield 15, 3) := by decide +kernel
theorem dX8_add_33 : decode cX8_add 33 = .ok (.aload_n 0, 1) := by decide +kernel
theorem dX8_add_34 : decode cX8_add 34 = .ok (.getfield 15, 3) := by decide +kernel
theorem dX8_add_37 : decode cX8_add 37 = .ok (.ireturn, 1) := by decide +kernel
theorem dX8_byteAt_0 : decode cX8_byteAt 0 = .ok (.iload_n 1, 1) := by decide +kernel
theorem dX8_byteAt_1 : decode cX8_byteAt 1 = .ok (.ifCond .lt 27, 3) := by decide +kernel
theorem dX8_byteAt_4 : decode cX8_byteAt 4 = .ok (.iload_n 1, 1) := by decide +kernel
theorem dX8_byteAt_5 : decode cX8_byteAt 5 = .ok (.aload_n 0, 1) := by decide +kernel
theorem dX8_byteAt_6 : decode cX8_byteAt 6 = .ok (.getfield 15, 3) := by decide +kernel
theorem dX8_byteAt_9 : decode cX8_byteAt 9 = .ok (.if_icmp .ge 19, 3) := by decide +kernel
theorem dX8_byteAt_12 : decode cX8_byteAt 12 = .ok (.iload_n 1, 1) := by decide +kernel
theorem dX8_byteAt_13 : decode cX8_byteAt 13 = .ok (.sipush 160, 3) := by decide +kernel
theorem dX8_byteAt_16 : decode cX8_byteAt 16 = .ok (.if_icmp .ge 12, 3) := by decide +kernel
theorem dX8_byteAt_19 : decode cX8_byteAt 19 = .ok (.aload_n 0, 1) := by decide +kernel
theorem dX8_byteAt_20 : decode cX8_byteAt 20 = .ok (.getfield 9, 3) := by decide +kernel
theorem dX8_byteAt_23 : decode cX8_byteAt 23 = .ok (.iload_n 1, 1) := by decide +kernel
theorem dX8_byteAt_24 : decode cX8_byteAt 24 = .ok (.iaload, 1) := by decide +kernel
theorem dX8_byteAt_25 : decode cX8_byteAt 25 = .ok (.goto 4, 3) := by decide +kernel
theorem dX8_byteAt_28 : decode cX8_byteAt 28 = .ok (.iconst (-1), 1) := by decide +kernel
theorem dX8_byteAt_29 : decode cX8_byteAt 29 = .ok (.ireturn, 1) := by decide +kernel
theorem dX8_endOfRun_0 : decode cX8_endOfRun 0 = .ok (.iconst 0, 1) := by decide +kernel
theorem dX8_endOfRun_1 : decode cX8_endOfRun 1 = .ok (.iload_n 1, 1) := by decide +kernel
theorem dX8_endOfRun_2 : decode cX8_endOfRun 2 = .ok (.invokestatic 19, 3) := by decide +kernel
theorem dX8_endOfRun_5 : decode cX8_endOfRun 5 = .ok (.istore 4, 2) := by decide +kernel
theorem dX8_endOfRun_7 : decode cX8_endOfRun 7 = .ok (.iload 4, 2) := by decide +kernel
theorem dX8_endOfRun_9 : decode cX8_endOfRun 9 = .ok (.aload_n 0, 1) := by decide +kernel
theorem dX8_endOfRun_10 : decode cX8_endOfRun 10 = .ok (.getfield 15, 3) := by decide +kernel
theorem dX8_endOfRun_13 : decode cX8_endOfRun 13 = .ok (.if_icmp .ge 39, 3) := by decide +kernel
theorem dX8_endOfRun_16 : decode cX8_endOfRun 16 = .ok (.iload 4, 2) := by decide +kernel
theorem dX8_endOfRun_18 : decode cX8_endOfRun 18 = .ok (.sipush 160, 3) := by decide +kernel
theorem dX8_endOfRun_21 : decode cX8_endOfRun 21 = .ok (.if_icmp .ge 31, 3) := by decide +kernel
theorem dX8_endOfRun_24 : decode cX8_endOfRun 24 = .ok (.aload_n 0, 1) := by decide +kernel
theorem dX8_endOfRun_25 : decode cX8_endOfRun 25 = .ok (.getfield 9, 3) := by decide +kernel
theorem dX8_endOfRun_28 : decode cX8_endOfRun 28 = .ok (.iload 4, 2) := by decide +kernel
theorem dX8_endOfRun_30 : decode cX8_endOfRun 30 = .ok (.iaload, 1) := by decide +kernel
theorem dX8_endOfRun_31 : decode cX8_endOfRun 31 = .ok (.iload_n 2, 1) := by decide +kernel
theorem dX8_endOfRun_32 : decode cX8_endOfRun 32 = .ok (.if_icmp .lt 20, 3) := by decide +kernel
theorem dX8_endOfRun_35 : decode cX8_endOfRun 35 = .ok (.aload_n 0, 1) := by decide +kernel
theorem dX8_endOfRun_36 : decode cX8_endOfRun 36 = .ok (.getfield 9, 3) := by decide +kernel
theorem dX8_endOfRun_39 : decode cX8_endOfRun 39 = .ok (.iload 4, 2) := by decide +kernel
theorem dX8_endOfRun_41 : decode cX8_endOfRun 41 = .ok (.iaload, 1) := by decide +kernel
theorem dX8_endOfRun_42 : decode cX8_endOfRun 42 = .ok (.iload_n 3, 1) := by decide +kernel
theorem dX8_endOfRun_43 : decode cX8_endOfRun 43 = .ok (.if_icmp .gt 9, 3) := by decide +kernel
theorem dX8_endOfRun_46 : decode cX8_endOfRun 46 = .ok (.iinc 4 1, 3) := by decide +kernel
theorem dX8_endOfRun_49 : decode cX8_endOfRun 49 = .ok (.goto (-42), 3) := by decide +kernel
theorem dX8_endOfRun_52 : decode cX8_endOfRun 52 = .ok (.iload 4, 2) := by decide +kernel
theorem dX8_endOfRun_54 : decode cX8_endOfRun 54 = .ok (.ireturn, 1) := by decide +kernel
theorem dX9_init_0 : decode cX9_init 0 = .ok (.aload_n 0, 1) := by decide +kernel
theorem dX9_init_1 : decode cX9_init 1 = .ok (.invokespecial 1, 3) := by decide +kernel
theorem dX9_init_4 : decode cX9_init 4 = .ok (.aload_n 0, 1) := by decide +kernel
theorem dX9_init_5 : decode cX9_init 5 = .ok (.new 7, 3) := by decide +kernel
theorem dX9_init_8 : decode cX9_init 8 = .ok (.dup, 1) := by decide +kernel
theorem dX9_init_9 : decode cX9_init 9 = .ok (.invokespecial 9, 3) := by decide +kernel
theorem dX9_init_12 : decode cX9_init 12 = .ok (.putfield 10, 3) := by decide +kernel
theorem dX9_init_15 : decode cX9_init 15 = .ok (.aload_n 0, 1) := by decide +kernel
theorem dX9_init_16 : decode cX9_init 16 = .ok (.new 16, 3) := by decide +kernel
theorem dX9_init_19 : decode cX9_init 19 = .ok (.dup, 1) := by decide +kernel
theorem dX9_init_20 : decode cX9_init 20 = .ok (.aload_n 0, 1) := by decide +kernel
theorem dX9_init_21 : decode cX9_init 21 = .ok (.getfield 10, 3) := by decide +kernel
theorem dX9_init_24 : decode cX9_init 24 = .ok (.invokespecial 18, 3) := by decide +kernel
theorem dX9_init_27 : decode cX9_init 27 = .ok (.putfield 21, 3) := by decide +kernel
theorem dX9_init_30 : decode cX9_init 30 = .ok (.aload_n 0, 1) := by decide +kernel
theorem dX9_init_31 : decode cX9_init 31 = .ok (.new 7, 3) := by decide +kernel
theorem dX9_init_34 : decode cX9_init 34 = .ok (.dup, 1) := by decide +kernel
theorem dX9_init_35 : decode cX9_init 35 = .ok (.invokespecial 9, 3) := by decide +kernel
theorem dX9_init_38 : decode cX9_init 38 = .ok (.putfield 25, 3) := by decide +kernel
theorem dX9_init_41 : decode cX9_init 41 = .ok (.aload_n 0, 1) := by decide +kernel
theorem dX9_init_42 : decode cX9_init 42 = .ok (.new 16, 3) := by decide +kernel
theorem dX9_init_45 : decode cX9_init 45 = .ok (.dup, 1) := by decide +kernel
theorem dX9_init_46 : decode cX9_init 46 = .ok (.aload_n 0, 1) := by decide +kernel
theorem dX9_init_47 : decode cX9_init 47 = .ok (.getfield 25, 3) := by decide +kernel
theorem dX9_init_50 : decode cX9_init 50 = .ok (.invokespecial 18, 3) := by decide +kernel
theorem dX9_init_53 : decode cX9_init 53 = .ok (.putfield 28, 3) := by decide +kernel
theorem dX9_init_56 : decode cX9_init 56 = .ok (.aload_n 0, 1) := by decide +kernel
theorem dX9_init_57 : decode cX9_init 57 = .ok (.new 31, 3) := by decide +kernel
theorem dX9_init_60 : decode cX9_init 60 = .ok (.dup, 1) := by decide +kernel
theorem dX9_init_61 : decode cX9_init 61 = .ok (.aload_n 0, 1) := by decide +kernel
theorem dX9_init_62 : decode cX9_init 62 = .ok (.getfield 28, 3) := by decide +kernel
theorem dX9_init_65 : decode cX9_init 65 = .ok (.invokespecial 33, 3) := by decide +kernel
theorem dX9_init_68 : decode cX9_init 68 = .ok (.putfield 36, 3) := by decide +kernel
theorem dX9_init_71 : decode cX9_init 71 = .ok (.aload_n 0, 1) := by decide +kernel
theorem dX9_init_72 : decode cX9_init 72 = .ok (.new 40, 3) := by decide +kernel
theorem dX9_init_75 : decode cX9_init 75 = .ok (.dup, 1) := by decide +kernel
theorem dX9_init_76 : decode cX9_init 76 = .ok (.invokespecial 42, 3) := by decide +kernel
theorem dX9_init_79 : decode cX9_init 79 = .ok (.putfield 43, 3) := by decide +kernel
theorem dX9_init_82 : decode cX9_init 82 = .ok (.aload_n 0, 1) := by decide +kernel
theorem dX9_init_83 : decode cX9_init 83 = .ok (.new 47, 3) := by decide +kernel
theorem dX9_init_86 : decode cX9_init 86 = .ok (.dup, 1) := by decide +kernel
theorem dX9_init_87 : decode cX9_init 87 = .ok (.invokespecial 49, 3) := by decide +kernel
theorem dX9_init_90 : decode cX9_init 90 = .ok (.putfield 50, 3) := by decide +kernel
theorem dX9_init_93 : decode cX9_init 93 = .ok (.aload_n 0, 1) := by decide +kernel
theorem dX9_init_94 : decode cX9_init 94 = .ok (.iconst 2, 1) := by decide +kernel
theorem dX9_init_95 : decode cX9_init 95 = .ok (.anewarray 7, 3) := by decide +kernel
theorem dX9_init_98 : decode cX9_init 98 = .ok (.putfield 54, 3) := by decide +kernel
theorem dX9_init_101 : decode cX9_init 101 = .ok (.aload_n 0, 1) := by decide +kernel
theorem dX9_init_102 : decode cX9_init 102 = .ok (.iconst 2, 1) := by decide +kernel
theorem dX9_init_103 : decode cX9_init 103 = .ok (.newarray .boolean, 2) := by decide +kernel
theorem dX9_init_105 : decode cX9_init 105 = .ok (.putfield 58, 3) := by decide +kernel
theorem dX9_init_108 : decode cX9_init 108 = .ok (.iconst 0, 1) := by decide +kernel
theorem dX9_init_109 : decode cX9_init 109 = .ok (.istore_n 1, 1) := by decide +kernel
theorem dX9_init_110 : decode cX9_init 110 = .ok (.iload_n 1, 1) := by decide +kernel
theorem dX9_init_111 : decode cX9_init 111 = .ok (.iconst 2, 1) := by decide +kernel
theorem dX9_init_112 : decode cX9_init 112 = .ok (.if_icmp .ge 22, 3) := by decide +kernel
theorem dX9_init_115 : decode cX9_init 115 = .ok (.aload_n 0, 1) := by decide +kernel
theorem dX9_init_116 : decode cX9_init 116 = .ok (.getfield 54, 3) := by decide +kernel
theorem dX9_init_119 : decode cX9_init 119 = .ok (.iload_n 1, 1) := by decide +kernel
theorem dX9_init_120 : decode cX9_init 120 = .ok (.new 7, 3) := by decide +kernel
theorem dX9_init_123 : decode cX9_init 123 = .ok (.dup, 1) := by decide +kernel
theorem dX9_init_124 : decode cX9_init 124 = .ok (.invokespecial 9, 3) := by decide +kernel
theorem dX9_init_127 : decode cX9_init 127 = .ok (.aastore, 1) := by decide +kernel
theorem dX9_init_128 : decode cX9_init 128 = .ok (.iinc 1 1, 3) := by decide +kernel
theorem dX9_init_131 : decode cX9_init 131 = .ok (.goto (-21), 3) := by decide +kernel
theorem dX9_init_134 : decode cX9_init 134 = .ok (.aload_n 0, 1) := by decide +kernel
theorem dX9_init_135 : decode cX9_init 135 = .ok (.new 62, 3) := by decide +kernel
theorem dX9_init_138 : decode cX9_init 138 = .ok (.dup, 1) := by decide +kernel
theorem dX9_init_139 : decode cX9_init 139 = .ok (.invokespecial 64, 3) := by decide +kernel
theorem dX9_init_142 : decode cX9_init 142 = .ok (.putfield 65, 3) := by decide +kernel
theorem dX9_init_145 : decode cX9_init 145 = .ok (.aload_n 0, 1) := by decide +kernel
theorem dX9_init_146 : decode cX9_init 146 = .ok (.new 69, 3) := by decide +kernel
theorem dX9_init_149 : decode cX9_init 149 = .ok (.dup, 1) := by decide +kernel
theorem dX9_init_150 : decode cX9_init 150 = .ok (.aload_n 0, 1) := by decide +kernel
theorem dX9_init_151 : decode cX9_init 151 = .ok (.getfield 65, 3) := by decide +kernel
theorem dX9_init_154 : decode cX9_init 154 = .ok (.invokespecial 71, 3) := by decide +kernel
theorem dX9_init_157 : decode cX9_init 157 = .ok (.putfield 74, 3) := by decide +kernel
theorem dX9_init_160 : decode cX9_init 160 = .ok (.aload_n 0, 1) := by decide +kernel
theorem dX9_init_161 : decode cX9_init 161 = .ok (.iconst 0, 1) := by decide +kernel
theorem dX9_init_162 : decode cX9_init 162 = .ok (.putfield 78, 3) := by decide +kernel
theorem dX9_init_165 : decode cX9_init 165 = .ok (.aload_n 0, 1) := by decide +kernel
theorem dX9_init_166 : decode cX9_init 166 = .ok (.iconst 4, 1) := by decide +kernel
theorem dX9_init_167 : decode cX9_init 167 = .ok (.anewarray 82, 3) := by decide +kernel
theorem dX9_init_170 : decode cX9_init 170 = .ok (.putfield 84, 3) := by decide +kernel
theorem dX9_init_173 : decode cX9_init 173 = .ok (.iconst 0, 1) := by decide +kernel
theorem dX9_init_174 : decode cX9_init 174 = .ok (.istore_n 1, 1) := by decide +kernel
theorem dX9_init_175 : decode cX9_init 175 = .ok (.iload_n 1, 1) := by decide +kernel
theorem dX9_init_176 : decode cX9_init 176 = .ok (.iconst 4, 1) := by decide +kernel
theorem dX9_init_177 : decode cX9_init 177 = .ok (.if_icmp .ge 22, 3) := by decide +kernel
theorem dX9_init_180 : decode cX9_init 180 = .ok (.aload_n 0, 1) := by decide +kernel
theorem dX9_init_181 : decode cX9_init 181 = .ok (.getfield 84, 3) := by decide +kernel
theorem dX9_init_184 : decode cX9_init 184 = .ok (.iload_n 1, 1) := by decide +kernel
theorem dX9_init_185 : decode cX9_init 185 = .ok (.new 82, 3) := by decide +kernel
theorem dX9_init_188 : decode cX9_init 188 = .ok (.dup, 1) := by decide +kernel
theorem dX9_init_189 : decode cX9_init 189 = .ok (.invokespecial 88, 3) := by decide +kernel
theorem dX9_init_192 : decode cX9_init 192 = .ok (.aastore, 1) := by decide +kernel
theorem dX9_init_193 : decode cX9_init 193 = .ok (.iinc 1 1, 3) := by decide +kernel
theorem dX9_init_196 : decode cX9_init 196 = .ok (.goto (-21), 3) := by decide +kernel
theorem dX9_init_199 : decode cX9_init 199 = .ok (.aload_n 0, 1) := by decide +kernel
theorem dX9_init_200 : decode cX9_init 200 = .ok (.iconst 0, 1) := by decide +kernel
theorem dX9_init_201 : decode cX9_init 201 = .ok (.putfield 89, 3) := by decide +kernel
theorem dX9_init_204 : decode cX9_init 204 = .ok (.return_, 1) := by decide +kernel
theorem dX9_feed_0 : decode cX9_feed 0 = .ok (.iload_n 1, 1) := by decide +kernel
theorem dX9_feed_1 : decode cX9_feed 1 = .ok (.ifCond .lt 9, 3) := by decide +kernel
theorem dX9_feed_4 : decode cX9_feed 4 = .ok (.iload_n 1, 1) := by decide +kernel
theorem dX9_feed_5 : decode cX9_feed 5 = .ok (.bipush 127, 2) := by decide +kernel
theorem dX9_feed_7 : decode cX9_feed 7 = .ok (.if_icmp .le 5, 3) := by decide +kernel
theorem dX9_feed_10 : decode cX9_feed 10 = .ok (.iconst (-1), 1) := by decide +kernel
theorem dX9_feed_11 : decode cX9_feed 11 = .ok (.ireturn, 1) := by decide +kernel
theorem dX9_feed_12 : decode cX9_feed 12 = .ok (.aload_n 0, 1) := by decide +kernel
theorem dX9_feed_13 : decode cX9_feed 13 = .ok (.getfield 65, 3) := by decide +kernel
theorem dX9_feed_16 : decode cX9_feed 16 = .ok (.iload_n 1, 1) := by decide +kernel
theorem dX9_feed_17 : decode cX9_feed 17 = .ok (.invokevirtual 92, 3) := by decide +kernel
theorem dX9_feed_20 : decode cX9_feed 20 = .ok (.ireturn, 1) := by decide +kernel
theorem dX9_end_0 : decode cX9_end 0 = .ok (.iload_n 1, 1) := by decide +kernel
theorem dX9_end_1 : decode cX9_end 1 = .ok (.ifCond .lt 14, 3) := by decide +kernel
theorem dX9_end_4 : decode cX9_end 4 = .ok (.iload_n 1, 1) := by decide +kernel
theorem dX9_end_5 : decode cX9_end 5 = .ok (.aload_n 0, 1) := by decide +kernel
theorem dX9_end_6 : decode cX9_end 6 = .ok (.getfield 65, 3) := by decide +kernel
theorem dX9_end_9 : decode cX9_end 9 = .ok (.getfield 96, 3) := by decide +kernel
theorem dX9_end_12 : decode cX9_end 12 = .ok (.if_icmp .le 5, 3) := by decide +kernel
theorem dX9_end_15 : decode cX9_end 15 = .ok (.iconst (-1), 1) := by decide +kernel
theorem dX9_end_16 : decode cX9_end 16 = .ok (.ireturn, 1) := by decide +kernel
theorem dX9_end_17 : decode cX9_end 17 = .ok (.aload_n 0, 1) := by decide +kernel
theorem dX9_end_18 : decode cX9_end 18 = .ok (.getfield 65, 3) := by decide +kernel
theorem dX9_end_21 : decode cX9_end 21 = .ok (.getfield 96, 3) := by decide +kernel
theorem dX9_end_24 : decode cX9_end 24 = .ok (.istore_n 2, 1) := by decide +kernel
theorem dX9_end_25 : decode cX9_end 25 = .ok (.aload_n 0, 1) := by decide +kernel
theorem dX9_end_26 : decode cX9_end 26 = .ok (.getfield 65, 3) := by decide +kernel
theorem dX9_end_29 : decode cX9_end 29 = .ok (.iload_n 1, 1) := by decide +kernel
theorem dX9_end_30 : decode cX9_end 30 = .ok (.putfield 96, 3) := by decide +kernel
theorem dX9_end_33 : decode cX9_end 33 = .ok (.iload_n 2, 1) := by decide +kernel
theorem dX9_end_34 : decode cX9_end 34 = .ok (.ireturn, 1) := by decide +kernel
theorem dX9_text_0 : decode cX9_text 0 = .ok (.aload_n 0, 1) := by decide +kernel
theorem dX9_text_1 : decode cX9_text 1 = .ok (.getfield 74, 3) := by decide +kernel
theorem dX9_text_4 : decode cX9_text 4 = .ok (.invokevirtual 99, 3) := by decide +kernel
theorem dX9_text_7 : decode cX9_text 7 = .ok (.istore_n 1, 1) := by decide +kernel
theorem dX9_text_8 : decode cX9_text 8 = .ok (.aload_n 0, 1) := by decide +kernel
theorem dX9_text_9 : decode cX9_text 9 = .ok (.getfield 65, 3) := by decide +kernel
theorem dX9_text_12 : decode cX9_text 12 = .ok (.iconst 0, 1) := by decide +kernel
theorem dX9_text_13 : decode cX9_text 13 = .ok (.putfield 96, 3) := by decide +kernel
theorem dX9_text_16 : decode cX9_text 16 = .ok (.aload_n 0, 1) := by decide +kernel
theorem dX9_text_17 : decode cX9_text 17 = .ok (.aload_n 0, 1) := by decide +kernel
theorem dX9_text_18 : decode cX9_text 18 = .ok (.getfield 74, 3) := by decide +kernel
theorem dX9_text_21 : decode cX9_text 21 = .ok (.getfield 103, 3) := by decide +kernel
theorem dX9_text_24 : decode cX9_text 24 = .ok (.putfield 78, 3) := by decide +kernel
theorem dX9_text_27 : decode cX9_text 27 = .ok (.aload_n 0, 1) := by decide +kernel
theorem dX9_text_28 : decode cX9_text 28 = .ok (.getfield 78, 3) := by decide +kernel
theorem dX9_text_31 : decode cX9_text 31 = .ok (.ifCond .ne 45, 3) := by decide +kernel
theorem dX9_text_34 : decode cX9_text 34 = .ok (.aload_n 0, 1) := by decide +kernel
theorem dX9_text_35 : decode cX9_text 35 = .ok (.getfield 10, 3) := by decide +kernel
theorem dX9_text_38 : decode cX9_text 38 = .ok (.aload_n 0, 1) := by decide +kernel
theorem dX9_text_39 : decode cX9_text 39 = .ok (.getfield 74, 3) := by decide +kernel
theorem dX9_text_42 : decode cX9_text 42 = .ok (.getfield 106, 3) := by decide +kernel
theorem dX9_text_45 : decode cX9_text 45 = .ok (.invokevirtual 109, 3) := by decide +kernel
theorem dX9_text_48 : decode cX9_text 48 = .ok (.aload_n 0, 1) := by decide +kernel
theorem dX9_text_49 : decode cX9_text 49 = .ok (.getfield 50, 3) := by decide +kernel
theorem dX9_text_52 : decode cX9_text 52 = .ok (.iconst 0, 1) := by decide +kernel
theorem dX9_text_53 : decode cX9_text 53 = .ok (.putfield 112, 3) := by decide +kernel
theorem dX9_text_56 : decode cX9_text 56 = .ok (.iconst 0, 1) := by decide +kernel
theorem dX9_text_57 : decode cX9_text 57 = .ok (.istore_n 2, 1) := by decide +kernel
theorem dX9_text_58 : decode cX9_text 58 = .ok (.iload_n 2, 1) := by decide +kernel
theorem dX9_text_59 : decode cX9_text 59 = .ok (.iconst 2, 1) := by decide +kernel
theorem dX9_text_60 : decode cX9_text 60 = .ok (.if_icmp .ge 16, 3) := by decide +kernel
theorem dX9_text_63 : decode cX9_text 63 = .ok (.aload_n 0, 1) := by decide +kernel
theorem dX9_text_64 : decode cX9_text 64 = .ok (.getfield 58, 3) := by decide +kernel
theorem dX9_text_67 : decode cX9_text 67 = .ok (.iload_n 2, 1) := by decide +kernel
theorem dX9_text_68 : decode cX9_text 68 = .ok (.iconst 0, 1) := by decide +kernel
theorem dX9_text_69 : decode cX9_text 69 = .ok (.bastore, 1) := by decide +kernel
theorem dX9_text_70 : decode cX9_text 70 = .ok (.iinc 2 1, 3) := by decide +kernel
theorem dX9_text_73 : decode cX9_text 73 = .ok (.goto (-15), 3) := by decide +kernel
theorem dX9_text_76 : decode cX9_text 76 = .ok (.iload_n 1, 1) := by decide +kernel
theorem dX9_text_77 : decode cX9_text 77 = .ok (.ireturn, 1) := by decide +kernel
theorem dX9_fault_0 : decode cX9_fault 0 = .ok (.aload_n 0, 1) := by decide +kernel
theorem dX9_fault_1 : decode cX9_fault 1 = .ok (.getfield 78, 3) := by decide +kernel
theorem dX9_fault_4 : decode cX9_fault 4 = .ok (.ireturn, 1) := by decide +kernel
theorem dX9_rule_0 : decode cX9_rule 0 = .ok (.iload_n 1, 1) := by decide +kernel
theorem dX9_rule_1 : decode cX9_rule 1 = .ok (.tableswitch 87 0 5 #[39, 47, 55, 63, 71, 79], 39) := by decide +kernel
theorem dX9_rule_40 : decode cX9_rule 40 = .ok (.aload_n 0, 1) := by decide +kernel
theorem dX9_rule_41 : decode cX9_rule 41 = .ok (.getfield 10, 3) := by decide +kernel
theorem dX9_rule_44 : decode cX9_rule 44 = .ok (.getfield 115, 3) := by decide +kernel
theorem dX9_rule_47 : decode cX9_rule 47 = .ok (.ireturn, 1) := by decide +kernel
theorem dX9_rule_48 : decode cX9_rule 48 = .ok (.aload_n 0, 1) := by decide +kernel
theorem dX9_rule_49 : decode cX9_rule 49 = .ok (.getfield 10, 3) := by decide +kernel
theorem dX9_rule_52 : decode cX9_rule 52 = .ok (.getfield 118, 3) := by decide +kernel
theorem dX9_rule_55 : decode cX9_rule 55 = .ok (.ireturn, 1) := by decide +kernel
theorem dX9_rule_56 : decode cX9_rule 56 = .ok (.aload_n 0, 1) := by decide +kernel
theorem dX9_rule_57 : decode cX9_rule 57 = .ok (.getfield 10, 3) := by decide +kernel
theorem dX9_rule_60 : decode cX9_rule 60 = .ok (.getfield 121, 3) := by decide +kernel
theorem dX9_rule_63 : decode cX9_rule 63 = .ok (.ireturn, 1) := by decide +kernel
theorem dX9_rule_64 : decode cX9_rule 64 = .ok (.aload_n 0, 1) := by decide +kernel
theorem dX9_rule_65 : decode cX9_rule 65 = .ok (.getfield 10, 3) := by decide +kernel
theorem dX9_rule_68 : decode cX9_rule 68 = .ok (.getfield 124, 3) := by decide +kernel
theorem dX9_rule_71 : decode cX9_rule 71 = .ok (.ireturn, 1) := by decide +kernel
theorem dX9_rule_72 : decode cX9_rule 72 = .ok (.aload_n 0, 1) := by decide +kernel
theorem dX9_rule_73 : decode cX9_rule 73 = .ok (.getfield 21, 3) := by decide +kernel
theorem dX9_rule_76 : decode cX9_rule 76 = .ok (.invokevirtual 127, 3) := by decide +kernel
theorem dX9_rule_79 : decode cX9_rule 79 = .ok (.ireturn, 1) := by decide +kernel
theorem dX9_rule_80 : decode cX9_rule 80 = .ok (.aload_n 0, 1) := by decide +kernel
theorem dX9_rule_81 : decode cX9_rule 81 = .ok (.getfield 21, 3) := by decide +kernel
theorem dX9_rule_84 : decode cX9_rule 84 = .ok (.invokevirtual 130, 3) := by decide +kernel
theorem dX9_rule_87 : decode cX9_rule 87 = .ok (.ireturn, 1) := by decide +kernel
theorem dX9_rule_88 : decode cX9_rule 88 = .ok (.iconst (-1), 1) := by decide +kernel
theorem dX9_rule_89 : decode cX9_rule 89 = .ok (.ireturn, 1) := by decide +kernel
theorem dX9_peg_0 : decode cX9_peg 0 = .ok (.aload_n 0, 1) := by decide +kernel
theorem dX9_peg_1 : decode cX9_peg 1 = .ok (.getfield 10, 3) := by decide +kernel
theorem dX9_peg_4 : decode cX9_peg 4 = .ok (.iload_n 1, 1) := by decide +kernel
theorem dX9_peg_5 : decode cX9_peg 5 = .ok (.invokevirtual 133, 3) := by decide +kernel
theorem dX9_peg_8 : decode cX9_peg 8 = .ok (.ifCond .ne 5, 3) := by decide +kernel
theorem dX9_peg_11 : decode cX9_peg 11 = .ok (.iconst (-1), 1) := by decide +kernel
theorem dX9_peg_12 : decode cX9_peg 12 = .ok (.ireturn, 1) := by decide +kernel
theorem dX9_peg_13 : decode cX9_peg 13 = .ok (.iload_n 2, 1) := by decide +kernel
theorem dX9_peg_14 : decode cX9_peg 14 = .ok (.tableswitch 55 0 2 #[26, 36, 46], 26) := by decide +kernel
theorem dX9_peg_40 : decode cX9_peg 40 = .ok (.aload_n 0, 1) := by decide +kernel
theorem dX9_peg_41 : decode cX9_peg 41 = .ok (.getfield 10, 3) := by decide +kernel
theorem dX9_peg_44 : decode cX9_peg 44 = .ok (.getfield 137, 3) := by decide +kernel
theorem dX9_peg_47 : decode cX9_peg 47 = .ok (.iload_n 1, 1) := by decide +kernel
theorem dX9_peg_48 : decode cX9_peg 48 = .ok (.iaload, 1) := by decide +kernel
theorem dX9_peg_49 : decode cX9_peg 49 = .ok (.ireturn, 1) := by decide +kernel
theorem dX9_peg_50 : decode cX9_peg 50 = .ok (.aload_n 0, 1) := by decide +kernel
theorem dX9_peg_51 : decode cX9_peg 51 = .ok (.getfield 10, 3) := by decide +kernel
theorem dX9_peg_54 : decode cX9_peg 54 = .ok (.getfield 141, 3) := by decide +kernel
theorem dX9_peg_57 : decode cX9_peg 57 = .ok (.iload_n 1, 1) := by decide +kernel
theorem dX9_peg_58 : decode cX9_peg 58 = .ok (.iaload, 1) := by decide +kernel
theorem dX9_peg_59 : decode cX9_peg 59 = .ok (.ireturn, 1) := by decide +kernel
theorem dX9_peg_60 : decode cX9_peg 60 = .ok (.aload_n 0, 1) := by decide +kernel
theorem dX9_peg_61 : decode cX9_peg 61 = .ok (.getfield 21, 3) := by decide +kernel
theorem dX9_peg_64 : decode cX9_peg 64 = .ok (.iload_n 1, 1) := by decide +kernel
theorem dX9_peg_65 : decode cX9_peg 65 = .ok (.invokevirtual 144, 3) := by decide +kernel
theorem dX9_peg_68 : decode cX9_peg 68 = .ok (.ireturn, 1) := by decide +kernel
theorem dX9_peg_69 : decode cX9_peg 69 = .ok (.iconst (-1), 1) := by decide +kernel
theorem dX9_peg_70 : decode cX9_peg 70 = .ok (.ireturn, 1) := by decide +kernel
theorem dX9_slug_0 : decode cX9_slug 0 = .ok (.aload_n 0, 1) := by decide +kernel
theorem dX9_slug_1 : decode cX9_slug 1 = .ok (.getfield 10, 3) := by decide +kernel
theorem dX9_slug_4 : decode cX9_slug 4 = .ok (.iload_n 1, 1) := by decide +kernel
theorem dX9_slug_5 : decode cX9_slug 5 = .ok (.invokevirtual 147, 3) := by decide +kernel
theorem dX9_slug_8 : decode cX9_slug 8 = .ok (.ifCond .eq 15, 3) := by decide +kernel
theorem dX9_slug_11 : decode cX9_slug 11 = .ok (.aload_n 0, 1) := by decide +kernel
theorem dX9_slug_12 : decode cX9_slug 12 = .ok (.getfield 10, 3) := by decide +kernel
theorem dX9_slug_15 : decode cX9_slug 15 = .ok (.getfield 150, 3) := by decide +kernel
theorem dX9_slug_18 : decode cX9_slug 18 = .ok (.iload_n 1, 1) := by decide +kernel
theorem dX9_slug_19 : decode cX9_slug 19 = .ok (.iaload, 1) := by decide +kernel
theorem dX9_slug_20 : decode cX9_slug 20 = .ok (.goto 4, 3) := by decide +kernel
theorem dX9_slug_23 : decode cX9_slug 23 = .ok (.iconst (-1), 1) := by decide +kernel
theorem dX9_slug_24 : decode cX9_slug 24 = .ok (.ireturn, 1) := by decide +kernel
theorem dX9_hedgehog_0 : decode cX9_hedgehog 0 = .ok (.aload_n 0, 1) := by decide +kernel
theorem dX9_hedgehog_1 : decode cX9_hedgehog 1 = .ok (.getfield 10, 3) := by decide +kernel
theorem dX9_hedgehog_4 : decode cX9_hedgehog 4 = .ok (.iload_n 1, 1) := by decide +kernel
theorem dX9_hedgehog_5 : decode cX9_hedgehog 5 = .ok (.invokevirtual 153, 3) := by decide +kernel
theorem dX9_hedgehog_8 : decode cX9_hedgehog 8 = .ok (.ifCond .ne 5, 3) := by decide +kernel
theorem dX9_hedgehog_11 : decode cX9_hedgehog 11 = .ok (.iconst (-1), 1) := by decide +kernel
theorem dX9_hedgehog_12 : decode cX9_hedgehog 12 = .ok (.ireturn, 1) := by decide +kernel
theorem dX9_hedgehog_13 : decode cX9_hedgehog 13 = .ok (.iload_n 2, 1) := by decide +kernel
theorem dX9_hedgehog_14 : decode cX9_hedgehog 14 = .ok (.tableswitch 72 0 3 #[30, 40, 50, 63], 30) := by decide +kernel
theorem dX9_hedgehog_44 : decode cX9_hedgehog 44 = .ok (.aload_n 0, 1) := by decide +kernel
theorem dX9_hedgehog_45 : decode cX9_hedgehog 45 = .ok (.getfield 10, 3) := by decide +kernel
theorem dX9_hedgehog_48 : decode cX9_hedgehog 48 = .ok (.getfield 156, 3) := by decide +kernel
theorem dX9_hedgehog_51 : decode cX9_hedgehog 51 = .ok (.iload_n 1, 1) := by decide +kernel
theorem dX9_hedgehog_52 : decode cX9_hedgehog 52 = .ok (.iaload, 1) := by decide +kernel
theorem dX9_hedgehog_53 : decode cX9_hedgehog 53 = .ok (.ireturn, 1) := by decide +kernel
theorem dX9_hedgehog_54 : decode cX9_hedgehog 54 = .ok (.aload_n 0, 1) := by decide +kernel
theorem dX9_hedgehog_55 : decode cX9_hedgehog 55 = .ok (.getfield 10, 3) := by decide +kernel
theorem dX9_hedgehog_58 : decode cX9_hedgehog 58 = .ok (.getfield 159, 3) := by decide +kernel
theorem dX9_hedgehog_61 : decode cX9_hedgehog 61 = .ok (.iload_n 1, 1) := by decide +kernel
theorem dX9_hedgehog_62 : decode cX9_hedgehog 62 = .ok (.iaload, 1) := by decide +kernel
theorem dX9_hedgehog_63 : decode cX9_hedgehog 63 = .ok (.ireturn, 1) := by decide +kernel
theorem dX9_hedgehog_64 : decode cX9_hedgehog 64 = .ok (.aload_n 0, 1) := by decide +kernel
theorem dX9_hedgehog_65 : decode cX9_hedgehog 65 = .ok (.getfield 10, 3) := by decide +kernel
theorem dX9_hedgehog_68 : decode cX9_hedgehog 68 = .ok (.getfield 156, 3) := by decide +kernel
theorem dX9_hedgehog_71 : decode cX9_hedgehog 71 = .ok (.iload_n 1, 1) := by decide +kernel
theorem dX9_hedgehog_72 : decode cX9_hedgehog 72 = .ok (.iaload, 1) := by decide +kernel
theorem dX9_hedgehog_73 : decode cX9_hedgehog 73 = .ok (.invokestatic 162, 3) := by decide +kernel
theorem dX9_hedgehog_76 : decode cX9_hedgehog 76 = .ok (.ireturn, 1) := by decide +kernel
theorem dX9_hedgehog_77 : decode cX9_hedgehog 77 = .ok (.aload_n 0, 1) := by decide +kernel
theorem dX9_hedgehog_78 : decode cX9_hedgehog 78 = .ok (.getfield 21, 3) := by decide +kernel
theorem dX9_hedgehog_81 : decode cX9_hedgehog 81 = .ok (.iload_n 1, 1) := by decide +kernel
theorem dX9_hedgehog_82 : decode cX9_hedgehog 82 = .ok (.invokevirtual 167, 3) := by decide +kernel
theorem dX9_hedgehog_85 : decode cX9_hedgehog 85 = .ok (.ireturn, 1) := by decide +kernel
theorem dX9_hedgehog_86 : decode cX9_hedgehog 86 = .ok (.iconst (-1), 1) := by decide +kernel
theorem dX9_hedgehog_87 : decode cX9_hedgehog 87 = .ok (.ireturn, 1) := by decide +kernel
theorem dX9_suit_0 : decode cX9_suit 0 = .ok (.aload_n 0, 1) := by decide +kernel
theorem dX9_suit_1 : decode cX9_suit 1 = .ok (.getfield 10, 3) := by decide +kernel
theorem dX9_suit_4 : decode cX9_suit 4 = .ok (.iload_n 1, 1) := by decide +kernel
theorem dX9_suit_5 : decode cX9_suit 5 = .ok (.invokevirtual 170, 3) := by decide +kernel
theorem dX9_suit_8 : decode cX9_suit 8 = .ok (.ifCond .ne 5, 3) := by decide +kernel
theorem dX9_suit_11 : decode cX9_suit 11 = .ok (.iconst (-1), 1) := by decide +kernel
theorem dX9_suit_12 : decode cX9_suit 12 = .ok (.ireturn, 1) := by decide +kernel
theorem dX9_suit_13 : decode cX9_suit 13 = .ok (.iload_n 2, 1) := by decide +kernel
theorem dX9_suit_14 : decode cX9_suit 14 = .ok (.tableswitch 58 0 2 #[26, 36, 46], 26) := by decide +kernel
theorem dX9_suit_40 : decode cX9_suit 40 = .ok (.aload_n 0, 1) := by decide +kernel
theorem dX9_suit_41 : decode cX9_suit 41 = .ok (.getfield 10, 3) := by decide +kernel
theorem dX9_suit_44 : decode cX9_suit 44 = .ok (.getfield 173, 3) := by decide +kernel
theorem dX9_suit_47 : decode cX9_suit 47 = .ok (.iload_n 1, 1) := by decide +kernel
theorem dX9_suit_48 : decode cX9_suit 48 = .ok (.iaload, 1) := by decide +kernel
theorem dX9_suit_49 : decode cX9_suit 49 = .ok (.ireturn, 1) := by decide +kernel
theorem dX9_suit_50 : decode cX9_suit 50 = .ok (.aload_n 0, 1) := by decide +kernel
theorem dX9_suit_51 : decode cX9_suit 51 = .ok (.getfield 10, 3) := by decide +kernel
theorem dX9_suit_54 : decode cX9_suit 54 = .ok (.getfield 176, 3) := by decide +kernel
theorem dX9_suit_57 : decode cX9_suit 57 = .ok (.iload_n 1, 1) := by decide +kernel
theorem dX9_suit_58 : decode cX9_suit 58 = .ok (.iaload, 1) := by decide +kernel
theorem dX9_suit_59 : decode cX9_suit 59 = .ok (.ireturn, 1) := by decide +kernel
theorem dX9_suit_60 : decode cX9_suit 60 = .ok (.aload_n 0, 1) := by decide +kernel
theorem dX9_suit_61 : decode cX9_suit 61 = .ok (.getfield 21, 3) := by decide +kernel
theorem dX9_suit_64 : decode cX9_suit 64 = .ok (.iload_n 1, 1) := by decide +kernel
theorem dX9_suit_65 : decode cX9_suit 65 = .ok (.invokevirtual 179, 3) := by decide +kernel
theorem dX9_suit_68 : decode cX9_suit 68 = .ok (.getfield 183, 3) := by decide +kernel
theorem dX9_suit_71 : decode cX9_suit 71 = .ok (.ireturn, 1) := by decide +kernel
theorem dX9_suit_72 : decode cX9_suit 72 = .ok (.iconst (-1), 1) := by decide +kernel
theorem dX9_suit_73 : decode cX9_suit 73 = .ok (.ireturn, 1) := by decide +kernel
theorem dX9_shift_0 : decode cX9_shift 0 = .ok (.aload_n 0, 1) := by decide +kernel
theorem dX9_shift_1 : decode cX9_shift 1 = .ok (.getfield 10, 3) := by decide +kernel
theorem dX9_shift_4 : decode cX9_shift 4 = .ok (.iload_n 1, 1) := by decide +kernel
theorem dX9_shift_5 : decode cX9_shift 5 = .ok (.invokevirtual 133, 3) := by decide +kernel
theorem dX9_shift_8 : decode cX9_shift 8 = .ok (.ifCond .eq 10, 3) := by decide +kernel
theorem dX9_shift_11 : decode cX9_shift 11 = .ok (.iload_n 2, 1) := by decide +kernel
theorem dX9_shift_12 : decode cX9_shift 12 = .ok (.invokestatic 186, 3) := by decide +kernel
theorem dX9_shift_15 : decode cX9_shift 15 = .ok (.ifCond .ne 5, 3) := by decide +kernel
theorem dX9_shift_18 : decode cX9_shift 18 = .ok (.iconst (-1), 1) := by decide +kernel
theorem dX9_shift_19 : decode cX9_shift 19 = .ok (.ireturn, 1) := by decide +kernel
theorem dX9_shift_20 : decode cX9_shift 20 = .ok (.aload_n 0, 1) := by decide +kernel
theorem dX9_shift_21 : decode cX9_shift 21 = .ok (.getfield 10, 3) := by decide +kernel
theorem dX9_shift_24 : decode cX9_shift 24 = .ok (.getfield 137, 3) := by decide +kernel
theorem dX9_shift_27 : decode cX9_shift 27 = .ok (.iload_n 1, 1) := by decide +kernel
theorem dX9_shift_28 : decode cX9_shift 28 = .ok (.iaload, 1) := by decide +kernel
theorem dX9_shift_29 : decode cX9_shift 29 = .ok (.istore_n 3, 1) := by decide +kernel
theorem dX9_shift_30 : decode cX9_shift 30 = .ok (.iload_n 2, 1) := by decide +kernel
theorem dX9_shift_31 : decode cX9_shift 31 = .ok (.iload_n 3, 1) := by decide +kernel
theorem dX9_shift_32 : decode cX9_shift 32 = .ok (.if_icmp .eq 17, 3) := by decide +kernel
theorem dX9_shift_35 : decode cX9_shift 35 = .ok (.aload_n 0, 1) := by decide +kernel
theorem dX9_shift_36 : decode cX9_shift 36 = .ok (.getfield 10, 3) := by decide +kernel
theorem dX9_shift_39 : decode cX9_shift 39 = .ok (.iload_n 2, 1) := by decide +kernel
theorem dX9_shift_40 : decode cX9_shift 40 = .ok (.invokevirtual 189, 3) := by decide +kernel
theorem dX9_shift_43 : decode cX9_shift 43 = .ok (.ifCond .ne 6, 3) := by decide +kernel
theorem dX9_shift_46 : decode cX9_shift 46 = .ok (.bipush (-2), 2) := by decide +kernel
theorem dX9_shift_48 : decode cX9_shift 48 = .ok (.ireturn, 1) := by decide +kernel
theorem dX9_shift_49 : decode cX9_shift 49 = .ok (.aload_n 0, 1) := by decide +kernel
theorem dX9_shift_50 : decode cX9_shift 50 = .ok (.getfield 10, 3) := by decide +kernel
theorem dX9_shift_53 : decode cX9_shift 53 = .ok (.iload_n 1, 1) := by decide +kernel
theorem dX9_shift_54 : decode cX9_shift 54 = .ok (.iload_n 2, 1) := by decide +kernel
theorem dX9_shift_55 : decode cX9_shift 55 = .ok (.invokevirtual 192, 3) := by decide +kernel
theorem dX9_shift_58 : decode cX9_shift 58 = .ok (.iload_n 3, 1) := by decide +kernel
theorem dX9_shift_59 : decode cX9_shift 59 = .ok (.ireturn, 1) := by decide +kernel
theorem dX9_rag_0 : decode cX9_rag 0 = .ok (.aload_n 0, 1) := by decide +kernel
theorem dX9_rag_1 : decode cX9_rag 1 = .ok (.getfield 10, 3) := by decide +kernel
theorem dX9_rag_4 : decode cX9_rag 4 = .ok (.iload_n 1, 1) := by decide +kernel
theorem dX9_rag_5 : decode cX9_rag 5 = .ok (.invokevirtual 133, 3) := by decide +kernel
theorem dX9_rag_8 : decode cX9_rag 8 = .ok (.ifCond .eq 10, 3) := by decide +kernel
theorem dX9_rag_11 : decode cX9_rag 11 = .ok (.iload_n 2, 1) := by decide +kernel
theorem dX9_rag_12 : decode cX9_rag 12 = .ok (.invokestatic 196, 3) := by decide +kernel
theorem dX9_rag_15 : decode cX9_rag 15 = .ok (.ifCond .ne 5, 3) := by decide +kernel
theorem dX9_rag_18 : decode cX9_rag 18 = .ok (.iconst (-1), 1) := by decide +kernel
theorem dX9_rag_19 : decode cX9_rag 19 = .ok (.ireturn, 1) := by decide +kernel
theorem dX9_rag_20 : decode cX9_rag 20 = .ok (.aload_n 0, 1) := by decide +kernel
theorem dX9_rag_21 : decode cX9_rag 21 = .ok (.getfield 10, 3) := by decide +kernel
theorem dX9_rag_24 : decode cX9_rag 24 = .ok (.getfield 141, 3) := by decide +kernel
theorem dX9_rag_27 : decode cX9_rag 27 = .ok (.iload_n 1, 1) := by decide +kernel
theorem dX9_rag_28 : decode cX9_rag 28 = .ok (.iaload, 1) := by decide +kernel
theorem dX9_rag_29 : decode cX9_rag 29 = .ok (.istore_n 3, 1) := by decide +kernel
theorem dX9_rag_30 : decode cX9_rag 30 = .ok (.aload_n 0, 1) := by decide +kernel
theorem dX9_rag_31 : decode cX9_rag 31 = .ok (.getfield 10, 3) := by decide +kernel
theorem dX9_rag_34 : decode cX9_rag 34 = .ok (.getfield 141, 3) := by decide +kernel
theorem dX9_rag_37 : decode cX9_rag 37 = .ok (.iload_n 1, 1) := by decide +kernel
theorem dX9_rag_38 : decode cX9_rag 38 = .ok (.iload_n 2, 1) := by decide +kernel
theorem dX9_rag_39 : decode cX9_rag 39 = .ok (.iastore, 1) := by decide +kernel
theorem dX9_rag_40 : decode cX9_rag 40 = .ok (.iload_n 3, 1) := by decide +kernel
theorem dX9_rag_41 : decode cX9_rag 41 = .ok (.ireturn, 1) := by decide +kernel
theorem dX9_alter_0 : decode cX9_alter 0 = .ok (.aload_n 0, 1) := by decide +kernel
theorem dX9_alter_1 : decode cX9_alter 1 = .ok (.getfield 10, 3) := by decide +kernel
theorem dX9_alter_4 : decode cX9_alter 4 = .ok (.iload_n 1, 1) := by decide +kernel
theorem dX9_alter_5 : decode cX9_alter 5 = .ok (.invokevirtual 153, 3) := by decide +kernel
theorem dX9_alter_8 : decode cX9_alter 8 = .ok (.ifCond .ne 5, 3) := by decide +kernel
theorem dX9_alter_11 : decode cX9_alter 11 = .ok (.iconst (-1), 1) := by decide +kernel
theorem dX9_alter_12 : decode cX9_alter 12 = .ok (.ireturn, 1) := by decide +kernel
theorem dX9_alter_13 : decode cX9_alter 13 = .ok (.iload_n 2, 1) := by decide +kernel
theorem dX9_alter_14 : decode cX9_alter 14 = .ok (.ifCond .ne 36, 3) := by decide +kernel
theorem dX9_alter_17 : decode cX9_alter 17 = .ok (.iload_n 3, 1) := by decide +kernel
theorem dX9_alter_18 : decode cX9_alter 18 = .ok (.ifCond .lt 32, 3) := by decide +kernel
theorem dX9_alter_21 : decode cX9_alter 21 = .ok (.iload_n 3, 1) := by decide +kernel
theorem dX9_alter_22 : decode cX9_alter 22 = .ok (.iconst 4, 1) := by decide +kernel
theorem dX9_alter_23 : decode cX9_alter 23 = .ok (.if_icmp .ge 27, 3) := by decide +kernel
theorem dX9_alter_26 : decode cX9_alter 26 = .ok (.aload_n 0, 1) := by decide +kernel
theorem dX9_alter_27 : decode cX9_alter 27 = .ok (.getfield 10, 3) := by decide +kernel
theorem dX9_alter_30 : decode cX9_alter 30 = .ok (.getfield 156, 3) := by decide +kernel
theorem dX9_alter_33 : decode cX9_alter 33 = .ok (.iload_n 1, 1) := by decide +kernel
theorem dX9_alter_34 : decode cX9_alter 34 = .ok (.iaload, 1) := by decide +kernel
theorem dX9_alter_35 : decode cX9_alter 35 = .ok (.istore 4, 2) := by decide +kernel
theorem dX9_alter_37 : decode cX9_alter 37 = .ok (.aload_n 0, 1) := by decide +kernel
theorem dX9_alter_38 : decode cX9_alter 38 = .ok (.getfield 10, 3) := by decide +kernel
theorem dX9_alter_41 : decode cX9_alter 41 = .ok (.getfield 156, 3) := by decide +kernel
theorem dX9_alter_44 : decode cX9_alter 44 = .ok (.iload_n 1, 1) := by decide +kernel
theorem dX9_alter_45 : decode cX9_alter 45 = .ok (.iload_n 3, 1) := by decide +kernel
theorem dX9_alter_46 : decode cX9_alter 46 = .ok (.iastore, 1) := by decide +kernel
theorem dX9_alter_47 : decode cX9_alter 47 = .ok (.iload 4, 2) := by decide +kernel
theorem dX9_alter_49 : decode cX9_alter 49 = .ok (.ireturn, 1) := by decide +kernel
theorem dX9_alter_50 : decode cX9_alter 50 = .ok (.iload_n 2, 1) := by decide +kernel
theorem dX9_alter_51 : decode cX9_alter 51 = .ok (.iconst 1, 1) := by decide +kernel
theorem dX9_alter_52 : decode cX9_alter 52 = .ok (.if_icmp .ne 38, 3) := by decide +kernel
theorem dX9_alter_55 : decode cX9_alter 55 = .ok (.iload_n 3, 1) := by decide +kernel
theorem dX9_alter_56 : decode cX9_alter 56 = .ok (.iconst 1, 1) := by decide +kernel
theorem dX9_alter_57 : decode cX9_alter 57 = .ok (.if_icmp .lt 33, 3) := by decide +kernel
theorem dX9_alter_60 : decode cX9_alter 60 = .ok (.iload_n 3, 1) := by decide +kernel
theorem dX9_alter_61 : decode cX9_alter 61 = .ok (.bipush 9, 2) := by decide +kernel
theorem dX9_alter_63 : decode cX9_alter 63 = .ok (.if_icmp .gt 27, 3) := by decide +kernel
theorem dX9_alter_66 : decode cX9_alter 66 = .ok (.aload_n 0, 1) := by decide +kernel
theorem dX9_alter_67 : decode cX9_alter 67 = .ok (.getfield 10, 3) := by decide +kernel
theorem dX9_alter_70 : decode cX9_alter 70 = .ok (.getfield 159, 3) := by decide +kernel
theorem dX9_alter_73 : decode cX9_alter 73 = .ok (.iload_n 1, 1) := by decide +kernel
theorem dX9_alter_74 : decode cX9_alter 74 = .ok (.iaload, 1) := by decide +kernel
theorem dX9_alter_75 : decode cX9_alter 75 = .ok (.istore 4, 2) := by decide +kernel
theorem dX9_alter_77 : decode cX9_alter 77 = .ok (.aload_n 0, 1) := by decide +kernel
theorem dX9_alter_78 : decode cX9_alter 78 = .ok (.getfield 10, 3) := by decide +kernel
theorem dX9_alter_81 : decode cX9_alter 81 = .ok (.getfield 159, 3) := by decide +kernel
theorem dX9_alter_84 : decode cX9_alter 84 = .ok (.iload_n 1, 1) := by decide +kernel
theorem dX9_alter_85 : decode cX9_alter 85 = .ok (.iload_n 3, 1) := by decide +kernel
theorem dX9_alter_86 : decode cX9_alter 86 = .ok (.iastore, 1) := by decide +kernel
theorem dX9_alter_87 : decode cX9_alter 87 = .ok (.iload 4, 2) := by decide +kernel
theorem dX9_alter_89 : decode cX9_alter 89 = .ok (.ireturn, 1) := by decide +kernel
theorem dX9_alter_90 : decode cX9_alter 90 = .ok (.iconst (-1), 1) := by decide +kernel
theorem dX9_alter_91 : decode cX9_alter 91 = .ok (.ireturn, 1) := by decide +kernel
theorem dX9_drive_0 : decode cX9_drive 0 = .ok (.aload_n 0, 1) := by decide +kernel
theorem dX9_drive_1 : decode cX9_drive 1 = .ok (.getfield 10, 3) := by decide +kernel
theorem dX9_drive_4 : decode cX9_drive 4 = .ok (.iload_n 1, 1) := by decide +kernel
theorem dX9_drive_5 : decode cX9_drive 5 = .ok (.iload_n 2, 1) := by decide +kernel
theorem dX9_drive_6 : decode cX9_drive 6 = .ok (.invokevirtual 199, 3) := by decide +kernel
theorem dX9_drive_9 : decode cX9_drive 9 = .ok (.ireturn, 1) := by decide +kernel
theorem dX9_lay_0 : decode cX9_lay 0 = .ok (.aload_n 0, 1) := by decide +kernel
theorem dX9_lay_1 : decode cX9_lay 1 = .ok (.getfield 10, 3) := by decide +kernel
theorem dX9_lay_4 : decode cX9_lay 4 = .ok (.iload_n 1, 1) := by decide +kernel
theorem dX9_lay_5 : decode cX9_lay 5 = .ok (.invokevirtual 203, 3) := by decide +kernel
theorem dX9_lay_8 : decode cX9_lay 8 = .ok (.ireturn, 1) := by decide +kernel
theorem dX9_clear_0 : decode cX9_clear 0 = .ok (.iload_n 1, 1) := by decide +kernel
theorem dX9_clear_1 : decode cX9_clear 1 = .ok (.ifCond .lt 14, 3) := by decide +kernel
theorem dX9_clear_4 : decode cX9_clear 4 = .ok (.iload_n 1, 1) := by decide +kernel
theorem dX9_clear_5 : decode cX9_clear 5 = .ok (.aload_n 0, 1) := by decide +kernel
theorem dX9_clear_6 : decode cX9_clear 6 = .ok (.getfield 10, 3) := by decide +kernel
theorem dX9_clear_9 : decode cX9_clear 9 = .ok (.getfield 118, 3) := by decide +kernel
theorem dX9_clear_12 : decode cX9_clear 12 = .ok (.if_icmp .le 5, 3) := by decide +kernel
theorem dX9_clear_15 : decode cX9_clear 15 = .ok (.iconst (-1), 1) := by decide +kernel
theorem dX9_clear_16 : decode cX9_clear 16 = .ok (.ireturn, 1) := by decide +kernel
theorem dX9_clear_17 : decode cX9_clear 17 = .ok (.aload_n 0, 1) := by decide +kernel
theorem dX9_clear_18 : decode cX9_clear 18 = .ok (.getfield 10, 3) := by decide +kernel
theorem dX9_clear_21 : decode cX9_clear 21 = .ok (.getfield 118, 3) := by decide +kernel
theorem dX9_clear_24 : decode cX9_clear 24 = .ok (.istore_n 2, 1) := by decide +kernel
theorem dX9_clear_25 : decode cX9_clear 25 = .ok (.aload_n 0, 1) := by decide +kernel
theorem dX9_clear_26 : decode cX9_clear 26 = .ok (.getfield 10, 3) := by decide +kernel
theorem dX9_clear_29 : decode cX9_clear 29 = .ok (.iload_n 1, 1) := by decide +kernel
theorem dX9_clear_30 : decode cX9_clear 30 = .ok (.invokevirtual 206, 3) := by decide +kernel
theorem dX9_clear_33 : decode cX9_clear 33 = .ok (.iload_n 2, 1) := by decide +kernel
theorem dX9_clear_34 : decode cX9_clear 34 = .ok (.ireturn, 1) := by decide +kernel
theorem dX9_sue_0 : decode cX9_sue 0 = .ok (.aload_n 0, 1) := by decide +kernel
theorem dX9_sue_1 : decode cX9_sue 1 = .ok (.iload_n 1, 1) := by decide +kernel
theorem dX9_sue_2 : decode cX9_sue 2 = .ok (.iload_n 2, 1) := by decide +kernel
theorem dX9_sue_3 : decode cX9_sue 3 = .ok (.invokevirtual 210, 3) := by decide +kernel
theorem dX9_sue_6 : decode cX9_sue 6 = .ok (.ifCond .ne 5, 3) := by decide +kernel
theorem dX9_sue_9 : decode cX9_sue 9 = .ok (.iconst (-1), 1) := by decide +kernel
theorem dX9_sue_10 : decode cX9_sue 10 = .ok (.ireturn, 1) := by decide +kernel
theorem dX9_sue_11 : decode cX9_sue 11 = .ok (.aload_n 0, 1) := by decide +kernel
theorem dX9_sue_12 : decode cX9_sue 12 = .ok (.getfield 10, 3) := by decide +kernel
theorem dX9_sue_15 : decode cX9_sue 15 = .ok (.iload_n 1, 1) := by decide +kernel
theorem dX9_sue_16 : decode cX9_sue 16 = .ok (.iload_n 2, 1) := by decide +kernel
theorem dX9_sue_17 : decode cX9_sue 17 = .ok (.invokevirtual 214, 3) := by decide +kernel
theorem dX9_sue_20 : decode cX9_sue 20 = .ok (.ireturn, 1) := by decide +kernel
theorem dX9_drop_0 : decode cX9_drop 0 = .ok (.iload_n 1, 1) := by decide +kernel
theorem dX9_drop_1 : decode cX9_drop 1 = .ok (.ifCond .lt 14, 3) := by decide +kernel
theorem dX9_drop_4 : decode cX9_drop 4 = .ok (.iload_n 1, 1) := by decide +kernel
theorem dX9_drop_5 : decode cX9_drop 5 = .ok (.aload_n 0, 1) := by decide +kernel
theorem dX9_drop_6 : decode cX9_drop 6 = .ok (.getfield 10, 3) := by decide +kernel
theorem dX9_drop_9 : decode cX9_drop 9 = .ok (.getfield 124, 3) := by decide +kernel
theorem dX9_drop_12 : decode cX9_drop 12 = .ok (.if_icmp .le 5, 3) := by decide +kernel
theorem dX9_drop_15 : decode cX9_drop 15 = .ok (.iconst (-1), 1) := by decide +kernel
theorem dX9_drop_16 : decode cX9_drop 16 = .ok (.ireturn, 1) := by decide +kernel
theorem dX9_drop_17 : decode cX9_drop 17 = .ok (.aload_n 0, 1) := by decide +kernel
theorem dX9_drop_18 : decode cX9_drop 18 = .ok (.getfield 10, 3) := by decide +kernel
theorem dX9_drop_21 : decode cX9_drop 21 = .ok (.getfield 124, 3) := by decide +kernel
theorem dX9_drop_24 : decode cX9_drop 24 = .ok (.istore_n 2, 1) := by decide +kernel
theorem dX9_drop_25 : decode cX9_drop 25 = .ok (.aload_n 0, 1) := by decide +kernel
theorem dX9_drop_26 : decode cX9_drop 26 = .ok (.getfield 10, 3) := by decide +kernel
theorem dX9_drop_29 : decode cX9_drop 29 = .ok (.iload_n 1, 1) := by decide +kernel
theorem dX9_drop_30 : decode cX9_drop 30 = .ok (.putfield 124, 3) := by decide +kernel
theorem dX9_drop_33 : decode cX9_drop 33 = .ok (.iload_n 2, 1) := by decide +kernel
theorem dX9_drop_34 : decode cX9_drop 34 = .ok (.ireturn, 1) := by decide +kernel
theorem dX9_run_0 : decode cX9_run 0 = .ok (.aload_n 0, 1) := by decide +kernel
theorem dX9_run_1 : decode cX9_run 1 = .ok (.iload_n 1, 1) := by decide +kernel
theorem dX9_run_2 : decode cX9_run 2 = .ok (.iload_n 2, 1) := by decide +kernel
theorem dX9_run_3 : decode cX9_run 3 = .ok (.invokevirtual 210, 3) := by decide +kernel
theorem dX9_run_6 : decode cX9_run 6 = .ok (.ifCond .ne 5, 3) := by decide +kernel
theorem dX9_run_9 : decode cX9_run 9 = .ok (.iconst (-1), 1) := by decide +kernel
theorem dX9_run_10 : decode cX9_run 10 = .ok (.ireturn, 1) := by decide +kernel
theorem dX9_run_11 : decode cX9_run 11 = .ok (.aload_n 0, 1) := by decide +kernel
theorem dX9_run_12 : decode cX9_run 12 = .ok (.getfield 21, 3) := by decide +kernel
theorem dX9_run_15 : decode cX9_run 15 = .ok (.iload_n 1, 1) := by decide +kernel
theorem dX9_run_16 : decode cX9_run 16 = .ok (.iload_n 2, 1) := by decide +kernel
theorem dX9_run_17 : decode cX9_run 17 = .ok (.invokevirtual 217, 3) := by decide +kernel
theorem dX9_run_20 : decode cX9_run 20 = .ok (.astore 4, 2) := by decide +kernel
theorem dX9_run_22 : decode cX9_run 22 = .ok (.iload_n 3, 1) := by decide +kernel
theorem dX9_run_23 : decode cX9_run 23 = .ok (.tableswitch 71 0 4 #[33, 39, 45, 51, 57], 33) := by decide +kernel
theorem dX9_run_56 : decode cX9_run 56 = .ok (.aload 4, 2) := by decide +kernel
theorem dX9_run_58 : decode cX9_run 58 = .ok (.getfield 221, 3) := by decide +kernel
theorem dX9_run_61 : decode cX9_run 61 = .ok (.ireturn, 1) := by decide +kernel
theorem dX9_run_62 : decode cX9_run 62 = .ok (.aload 4, 2) := by decide +kernel
theorem dX9_run_64 : decode cX9_run 64 = .ok (.getfield 183, 3) := by decide +kernel
theorem dX9_run_67 : decode cX9_run 67 = .ok (.ireturn, 1) := by decide +kernel
theorem dX9_run_68 : decode cX9_run 68 = .ok (.aload 4, 2) := by decide +kernel
theorem dX9_run_70 : decode cX9_run 70 = .ok (.getfield 224, 3) := by decide +kernel
theorem dX9_run_73 : decode cX9_run 73 = .ok (.ireturn, 1) := by decide +kernel
theorem dX9_run_74 : decode cX9_run 74 = .ok (.aload 4, 2) := by decide +kernel
theorem dX9_run_76 : decode cX9_run 76 = .ok (.getfield 227, 3) := by decide +kernel
theorem dX9_run_79 : decode cX9_run 79 = .ok (.ireturn, 1) := by decide +kernel
theorem dX9_run_80 : decode cX9_run 80 = .ok (.aload 4, 2) := by decide +kernel
theorem dX9_run_82 : decode cX9_run 82 = .ok (.getfield 230, 3) := by decide +kernel
theorem dX9_run_85 : decode cX9_run 85 = .ok (.ifCond .eq 7, 3) := by decide +kernel
theorem dX9_run_88 : decode cX9_run 88 = .ok (.iconst 1, 1) := by decide +kernel
theorem dX9_run_89 : decode cX9_run 89 = .ok (.goto 4, 3) := by decide +kernel
theorem dX9_run_92 : decode cX9_run 92 = .ok (.iconst 0, 1) := by decide +kernel
theorem dX9_run_93 : decode cX9_run 93 = .ok (.ireturn, 1) := by decide +kernel
theorem dX9_run_94 : decode cX9_run 94 = .ok (.iconst (-1), 1) := by decide +kernel
theorem dX9_run_95 : decode cX9_run 95 = .ok (.ireturn, 1) := by decide +kernel
theorem dX9_way_0 : decode cX9_way 0 = .ok (.aload_n 0, 1) := by decide +kernel
theorem dX9_way_1 : decode cX9_way 1 = .ok (.iload_n 1, 1) := by decide +kernel
theorem dX9_way_2 : decode cX9_way 2 = .ok (.iload_n 2, 1) := by decide +kernel
theorem dX9_way_3 : decode cX9_way 3 = .ok (.invokevirtual 210, 3) := by decide +kernel
theorem dX9_way_6 : decode cX9_way 6 = .ok (.ifCond .eq 13, 3) := by decide +kernel
theorem dX9_way_9 : decode cX9_way 9 = .ok (.iload_n 3, 1) := by decide +kernel
theorem dX9_way_10 : decode cX9_way 10 = .ok (.ifCond .lt 9, 3) := by decide +kernel
theorem dX9_way_13 : decode cX9_way 13 = .ok (.iload_n 3, 1) := by decide +kernel
theorem dX9_way_14 : decode cX9_way 14 = .ok (.bipush 10, 2) := by decide +kernel
theorem dX9_way_16 : decode cX9_way 16 = .ok (.if_icmp .lt 5, 3) := by decide +kernel
theorem dX9_way_19 : decode cX9_way 19 = .ok (.iconst (-1), 1) := by decide +kernel
theorem dX9_way_20 : decode cX9_way 20 = .ok (.ireturn, 1) := by decide +kernel
theorem dX9_way_21 : decode cX9_way 21 = .ok (.aload_n 0, 1) := by decide +kernel
theorem dX9_way_22 : decode cX9_way 22 = .ok (.getfield 21, 3) := by decide +kernel
theorem dX9_way_25 : decode cX9_way 25 = .ok (.iload_n 1, 1) := by decide +kernel
theorem dX9_way_26 : decode cX9_way 26 = .ok (.iload_n 2, 1) := by decide +kernel
theorem dX9_way_27 : decode cX9_way 27 = .ok (.invokevirtual 217, 3) := by decide +kernel
theorem dX9_way_30 : decode cX9_way 30 = .ok (.astore 4, 2) := by decide +kernel
theorem dX9_way_32 : decode cX9_way 32 = .ok (.iload_n 3, 1) := by decide +kernel
theorem dX9_way_33 : decode cX9_way 33 = .ok (.aload 4, 2) := by decide +kernel
theorem dX9_way_35 : decode cX9_way 35 = .ok (.getfield 224, 3) := by decide +kernel
theorem dX9_way_38 : decode cX9_way 38 = .ok (.if_icmp .le 8, 3) := by decide +kernel
theorem dX9_way_41 : decode cX9_way 41 = .ok (.bipush (-4), 2) := by decide +kernel
theorem dX9_way_43 : decode cX9_way 43 = .ok (.goto 10, 3) := by decide +kernel
theorem dX9_way_46 : decode cX9_way 46 = .ok (.aload 4, 2) := by decide +kernel
theorem dX9_way_48 : decode cX9_way 48 = .ok (.getfield 234, 3) := by decide +kernel
theorem dX9_way_51 : decode cX9_way 51 = .ok (.iload_n 3, 1) := by decide +kernel
theorem dX9_way_52 : decode cX9_way 52 = .ok (.iaload, 1) := by decide +kernel
theorem dX9_way_53 : decode cX9_way 53 = .ok (.ireturn, 1) := by decide +kernel
theorem dX9_wins_0 : decode cX9_wins 0 = .ok (.iload_n 1, 1) := by decide +kernel
theorem dX9_wins_1 : decode cX9_wins 1 = .ok (.invokestatic 196, 3) := by decide +kernel
theorem dX9_wins_4 : decode cX9_wins 4 = .ok (.ifCond .eq 14, 3) := by decide +kernel
theorem dX9_wins_7 : decode cX9_wins 7 = .ok (.aload_n 0, 1) := by decide +kernel
theorem dX9_wins_8 : decode cX9_wins 8 = .ok (.getfield 21, 3) := by decide +kernel
theorem dX9_wins_11 : decode cX9_wins 11 = .ok (.iload_n 1, 1) := by decide +kernel
theorem dX9_wins_12 : decode cX9_wins 12 = .ok (.invokevirtual 237, 3) := by decide +kernel
theorem dX9_wins_15 : decode cX9_wins 15 = .ok (.goto 4, 3) := by decide +kernel
theorem dX9_wins_18 : decode cX9_wins 18 = .ok (.iconst (-1), 1) := by decide +kernel
theorem dX9_wins_19 : decode cX9_wins 19 = .ok (.ireturn, 1) := by decide +kernel
theorem dX9_share_0 : decode cX9_share 0 = .ok (.aload_n 0, 1) := by decide +kernel
theorem dX9_share_1 : decode cX9_share 1 = .ok (.getfield 10, 3) := by decide +kernel
theorem dX9_share_4 : decode cX9_share 4 = .ok (.iload_n 1, 1) := by decide +kernel
theorem dX9_share_5 : decode cX9_share 5 = .ok (.invokevirtual 153, 3) := by decide +kernel
theorem dX9_share_8 : decode cX9_share 8 = .ok (.ifCond .eq 10, 3) := by decide +kernel
theorem dX9_share_11 : decode cX9_share 11 = .ok (.iload_n 2, 1) := by decide +kernel
theorem dX9_share_12 : decode cX9_share 12 = .ok (.invokestatic 196, 3) := by decide +kernel
theorem dX9_share_15 : decode cX9_share 15 = .ok (.ifCond .ne 5, 3) := by decide +kernel
theorem dX9_share_18 : decode cX9_share 18 = .ok (.iconst (-1), 1) := by decide +kernel
theorem dX9_share_19 : decode cX9_share 19 = .ok (.ireturn, 1) := by decide +kernel
theorem dX9_share_20 : decode cX9_share 20 = .ok (.aload_n 0, 1) := by decide +kernel
theorem dX9_share_21 : decode cX9_share 21 = .ok (.getfield 21, 3) := by decide +kernel
theorem dX9_share_24 : decode cX9_share 24 = .ok (.iload_n 1, 1) := by decide +kernel
theorem dX9_share_25 : decode cX9_share 25 = .ok (.iload_n 2, 1) := by decide +kernel
theorem dX9_share_26 : decode cX9_share 26 = .ok (.invokevirtual 240, 3) := by decide +kernel
theorem dX9_share_29 : decode cX9_share 29 = .ok (.invokestatic 243, 3) := by decide +kernel
theorem dX9_share_32 : decode cX9_share 32 = .ok (.ireturn, 1) := by decide +kernel
theorem dX9_first_0 : decode cX9_first 0 = .ok (.aload_n 0, 1) := by decide +kernel
theorem dX9_first_1 : decode cX9_first 1 = .ok (.getfield 10, 3) := by decide +kernel
theorem dX9_first_4 : decode cX9_first 4 = .ok (.iload_n 1, 1) := by decide +kernel
theorem dX9_first_5 : decode cX9_first 5 = .ok (.invokevirtual 153, 3) := by decide +kernel
theorem dX9_first_8 : decode cX9_first 8 = .ok (.ifCond .eq 10, 3) := by decide +kernel
theorem dX9_first_11 : decode cX9_first 11 = .ok (.iload_n 2, 1) := by decide +kernel
theorem dX9_first_12 : decode cX9_first 12 = .ok (.invokestatic 196, 3) := by decide +kernel
theorem dX9_first_15 : decode cX9_first 15 = .ok (.ifCond .ne 5, 3) := by decide +kernel
theorem dX9_first_18 : decode cX9_first 18 = .ok (.iconst (-1), 1) := by decide +kernel
theorem dX9_first_19 : decode cX9_first 19 = .ok (.ireturn, 1) := by decide +kernel
theorem dX9_first_20 : decode cX9_first 20 = .ok (.aload_n 0, 1) := by decide +kernel
theorem dX9_first_21 : decode cX9_first 21 = .ok (.getfield 21, 3) := by decide +kernel
theorem dX9_first_24 : decode cX9_first 24 = .ok (.iload_n 1, 1) := by decide +kernel
theorem dX9_first_25 : decode cX9_first 25 = .ok (.iload_n 2, 1) := by decide +kernel
theorem dX9_first_26 : decode cX9_first 26 = .ok (.invokevirtual 240, 3) := by decide +kernel
theorem dX9_first_29 : decode cX9_first 29 = .ok (.istore_n 3, 1) := by decide +kernel
theorem dX9_first_30 : decode cX9_first 30 = .ok (.iload_n 3, 1) := by decide +kernel
theorem dX9_first_31 : decode cX9_first 31 = .ok (.ifCond .ne 8, 3) := by decide +kernel
theorem dX9_first_34 : decode cX9_first 34 = .ok (.bipush (-4), 2) := by decide +kernel
theorem dX9_first_36 : decode cX9_first 36 = .ok (.goto 7, 3) := by decide +kernel
theorem dX9_first_39 : decode cX9_first 39 = .ok (.iload_n 3, 1) := by decide +kernel
theorem dX9_first_40 : decode cX9_first 40 = .ok (.invokestatic 248, 3) := by decide +kernel
theorem dX9_first_43 : decode cX9_first 43 = .ok (.ireturn, 1) := by decide +kernel
theorem dX9_kindly_0 : decode cX9_kindly 0 = .ok (.aload_n 0, 1) := by decide +kernel
theorem dX9_kindly_1 : decode cX9_kindly 1 = .ok (.iload_n 1, 1) := by decide +kernel
theorem dX9_kindly_2 : decode cX9_kindly 2 = .ok (.iload_n 2, 1) := by decide +kernel
theorem dX9_kindly_3 : decode cX9_kindly 3 = .ok (.invokevirtual 210, 3) := by decide +kernel
theorem dX9_kindly_6 : decode cX9_kindly 6 = .ok (.ifCond .eq 10, 3) := by decide +kernel
theorem dX9_kindly_9 : decode cX9_kindly 9 = .ok (.iload_n 3, 1) := by decide +kernel
theorem dX9_kindly_10 : decode cX9_kindly 10 = .ok (.invokestatic 196, 3) := by decide +kernel
theorem dX9_kindly_13 : decode cX9_kindly 13 = .ok (.ifCond .ne 5, 3) := by decide +kernel
theorem dX9_kindly_16 : decode cX9_kindly 16 = .ok (.iconst (-1), 1) := by decide +kernel
theorem dX9_kindly_17 : decode cX9_kindly 17 = .ok (.ireturn, 1) := by decide +kernel
theorem dX9_kindly_18 : decode cX9_kindly 18 = .ok (.iconst 0, 1) := by decide +kernel
theorem dX9_kindly_19 : decode cX9_kindly 19 = .ok (.istore 4, 2) := by decide +kernel
theorem dX9_kindly_21 : decode cX9_kindly 21 = .ok (.iconst 0, 1) := by decide +kernel
theorem dX9_kindly_22 : decode cX9_kindly 22 = .ok (.istore 5, 2) := by decide +kernel
theorem dX9_kindly_24 : decode cX9_kindly 24 = .ok (.iload 5, 2) := by decide +kernel
theorem dX9_kindly_26 : decode cX9_kindly 26 = .ok (.iconst 4, 1) := by decide +kernel
theorem dX9_kindly_27 : decode cX9_kindly 27 = .ok (.if_icmp .ge 44, 3) := by decide +kernel
theorem dX9_kindly_30 : decode cX9_kindly 30 = .ok (.aload_n 0, 1) := by decide +kernel
theorem dX9_kindly_31 : decode cX9_kindly 31 = .ok (.getfield 21, 3) := by decide +kernel
theorem dX9_kindly_34 : decode cX9_kindly 34 = .ok (.iload 5, 2) := by decide +kernel
theorem dX9_kindly_36 : decode cX9_kindly 36 = .ok (.aload_n 0, 1) := by decide +kernel
theorem dX9_kindly_37 : decode cX9_kindly 37 = .ok (.getfield 10, 3) := by decide +kernel
theorem dX9_kindly_40 : decode cX9_kindly 40 = .ok (.getfield 159, 3) := by decide +kernel
theorem dX9_kindly_43 : decode cX9_kindly 43 = .ok (.iload_n 1, 1) := by decide +kernel
theorem dX9_kindly_44 : decode cX9_kindly 44 = .ok (.iaload, 1) := by decide +kernel
theorem dX9_kindly_45 : decode cX9_kindly 45 = .ok (.iload_n 2, 1) := by decide +kernel
theorem dX9_kindly_46 : decode cX9_kindly 46 = .ok (.invokevirtual 251, 3) := by decide +kernel
theorem dX9_kindly_49 : decode cX9_kindly 49 = .ok (.getfield 183, 3) := by decide +kernel
theorem dX9_kindly_52 : decode cX9_kindly 52 = .ok (.iload_n 3, 1) := by decide +kernel
theorem dX9_kindly_53 : decode cX9_kindly 53 = .ok (.if_icmp .ne 12, 3) := by decide +kernel
theorem dX9_kindly_56 : decode cX9_kindly 56 = .ok (.iload 4, 2) := by decide +kernel
theorem dX9_kindly_58 : decode cX9_kindly 58 = .ok (.iconst 1, 1) := by decide +kernel
theorem dX9_kindly_59 : decode cX9_kindly 59 = .ok (.iload 5, 2) := by decide +kernel
theorem dX9_kindly_61 : decode cX9_kindly 61 = .ok (.ishl, 1) := by decide +kernel
theorem dX9_kindly_62 : decode cX9_kindly 62 = .ok (.ior, 1) := by decide +kernel
theorem dX9_kindly_63 : decode cX9_kindly 63 = .ok (.istore 4, 2) := by decide +kernel
theorem dX9_kindly_65 : decode cX9_kindly 65 = .ok (.iinc 5 1, 3) := by decide +kernel
theorem dX9_kindly_68 : decode cX9_kindly 68 = .ok (.goto (-44), 3) := by decide +kernel
theorem dX9_kindly_71 : decode cX9_kindly 71 = .ok (.iload 4, 2) := by decide +kernel
theorem dX9_kindly_73 : decode cX9_kindly 73 = .ok (.ireturn, 1) := by decide +kernel
theorem dX9_place_0 : decode cX9_place 0 = .ok (.iload_n 1, 1) := by decide +kernel
theorem dX9_place_1 : decode cX9_place 1 = .ok (.invokestatic 196, 3) := by decide +kernel
theorem dX9_place_4 : decode cX9_place 4 = .ok (.ifCond .eq 10, 3) := by decide +kernel
theorem dX9_place_7 : decode cX9_place 7 = .ok (.iload_n 2, 1) := by decide +kernel
theorem dX9_place_8 : decode cX9_place 8 = .ok (.invokestatic 255, 3) := by decide +kernel
theorem dX9_place_11 : decode cX9_place 11 = .ok (.ifCond .ne 5, 3) := by decide +kernel
theorem dX9_place_14 : decode cX9_place 14 = .ok (.iconst (-1), 1) := by decide +kernel
theorem dX9_place_15 : decode cX9_place 15 = .ok (.ireturn, 1) := by decide +kernel
theorem dX9_place_16 : decode cX9_place 16 = .ok (.aload_n 0, 1) := by decide +kernel
theorem dX9_place_17 : decode cX9_place 17 = .ok (.getfield 10, 3) := by decide +kernel
theorem dX9_place_20 : decode cX9_place 20 = .ok (.getfield 115, 3) := by decide +kernel
theorem dX9_place_23 : decode cX9_place 23 = .ok (.bipush 7, 2) := by decide +kernel
theorem dX9_place_25 : decode cX9_place 25 = .ok (.if_icmp .lt 6, 3) := by decide +kernel
theorem dX9_place_28 : decode cX9_place 28 = .ok (.bipush (-3), 2) := by decide +kernel
theorem dX9_place_30 : decode cX9_place 30 = .ok (.ireturn, 1) := by decide +kernel
theorem dX9_place_31 : decode cX9_place 31 = .ok (.aload_n 0, 1) := by decide +kernel
theorem dX9_place_32 : decode cX9_place 32 = .ok (.getfield 25, 3) := by decide +kernel
theorem dX9_place_35 : decode cX9_place 35 = .ok (.aload_n 0, 1) := by decide +kernel
theorem dX9_place_36 : decode cX9_place 36 = .ok (.getfield 10, 3) := by decide +kernel
theorem dX9_place_39 : decode cX9_place 39 = .ok (.invokevirtual 109, 3) := by decide +kernel
theorem dX9_place_42 : decode cX9_place 42 = .ok (.aload_n 0, 1) := by decide +kernel
theorem dX9_place_43 : decode cX9_place 43 = .ok (.getfield 36, 3) := by decide +kernel
theorem dX9_place_46 : decode cX9_place 46 = .ok (.iload_n 1, 1) := by decide +kernel
theorem dX9_place_47 : decode cX9_place 47 = .ok (.invokevirtual 258, 3) := by decide +kernel
theorem dX9_place_50 : decode cX9_place 50 = .ok (.aload_n 0, 1) := by decide +kernel
theorem dX9_place_51 : decode cX9_place 51 = .ok (.getfield 36, 3) := by decide +kernel
theorem dX9_place_54 : decode cX9_place 54 = .ok (.iload_n 2, 1) := by decide +kernel
theorem dX9_place_55 : decode cX9_place 55 = .ok (.invokevirtual 261, 3) := by decide +kernel
theorem dX9_place_58 : decode cX9_place 58 = .ok (.ireturn, 1) := by decide +kernel
theorem dX9_move_0 : decode cX9_move 0 = .ok (.aload_n 0, 1) := by decide +kernel
theorem dX9_move_1 : decode cX9_move 1 = .ok (.getfield 10, 3) := by decide +kernel
theorem dX9_move_4 : decode cX9_move 4 = .ok (.iload_n 1, 1) := by decide +kernel
theorem dX9_move_5 : decode cX9_move 5 = .ok (.invokevirtual 133, 3) := by decide +kernel
theorem dX9_move_8 : decode cX9_move 8 = .ok (.ifCond .eq 10, 3) := by decide +kernel
theorem dX9_move_11 : decode cX9_move 11 = .ok (.iload_n 2, 1) := by decide +kernel
theorem dX9_move_12 : decode cX9_move 12 = .ok (.invokestatic 255, 3) := by decide +kernel
theorem dX9_move_15 : decode cX9_move 15 = .ok (.ifCond .ne 5, 3) := by decide +kernel
theorem dX9_move_18 : decode cX9_move 18 = .ok (.iconst (-1), 1) := by decide +kernel
theorem dX9_move_19 : decode cX9_move 19 = .ok (.ireturn, 1) := by decide +kernel
theorem dX9_move_20 : decode cX9_move 20 = .ok (.aload_n 0, 1) := by decide +kernel
theorem dX9_move_21 : decode cX9_move 21 = .ok (.getfield 25, 3) := by decide +kernel
theorem dX9_move_24 : decode cX9_move 24 = .ok (.aload_n 0, 1) := by decide +kernel
theorem dX9_move_25 : decode cX9_move 25 = .ok (.getfield 10, 3) := by decide +kernel
theorem dX9_move_28 : decode cX9_move 28 = .ok (.invokevirtual 109, 3) := by decide +kernel
theorem dX9_move_31 : decode cX9_move 31 = .ok (.aload_n 0, 1) := by decide +kernel
theorem dX9_move_32 : decode cX9_move 32 = .ok (.getfield 36, 3) := by decide +kernel
theorem dX9_move_35 : decode cX9_move 35 = .ok (.iload_n 1, 1) := by decide +kernel
theorem dX9_move_36 : decode cX9_move 36 = .ok (.invokevirtual 264, 3) := by decide +kernel
theorem dX9_move_39 : decode cX9_move 39 = .ok (.aload_n 0, 1) := by decide +kernel
theorem dX9_move_40 : decode cX9_move 40 = .ok (.getfield 36, 3) := by decide +kernel
theorem dX9_move_43 : decode cX9_move 43 = .ok (.iload_n 2, 1) := by decide +kernel
theorem dX9_move_44 : decode cX9_move 44 = .ok (.invokevirtual 261, 3) := by decide +kernel
theorem dX9_move_47 : decode cX9_move 47 = .ok (.ireturn, 1) := by decide +kernel
theorem dX9_bribe_0 : decode cX9_bribe 0 = .ok (.iload_n 1, 1) := by decide +kernel
theorem dX9_bribe_1 : decode cX9_bribe 1 = .ok (.invokestatic 196, 3) := by decide +kernel
theorem dX9_bribe_4 : decode cX9_bribe 4 = .ok (.ifCond .eq 10, 3) := by decide +kernel
theorem dX9_bribe_7 : decode cX9_bribe 7 = .ok (.iload_n 2, 1) := by decide +kernel
theorem dX9_bribe_8 : decode cX9_bribe 8 = .ok (.invokestatic 255, 3) := by decide +kernel
theorem dX9_bribe_11 : decode cX9_bribe 11 = .ok (.ifCond .ne 5, 3) := by decide +kernel
theorem dX9_bribe_14 : decode cX9_bribe 14 = .ok (.iconst (-1), 1) := by decide +kernel
theorem dX9_bribe_15 : decode cX9_bribe 15 = .ok (.ireturn, 1) := by decide +kernel
theorem dX9_bribe_16 : decode cX9_bribe 16 = .ok (.aload_n 0, 1) := by decide +kernel
theorem dX9_bribe_17 : decode cX9_bribe 17 = .ok (.getfield 10, 3) := by decide +kernel
theorem dX9_bribe_20 : decode cX9_bribe 20 = .ok (.getfield 118, 3) := by decide +kernel
theorem dX9_bribe_23 : decode cX9_bribe 23 = .ok (.iconst 4, 1) := by decide +kernel
theorem dX9_bribe_24 : decode cX9_bribe 24 = .ok (.if_icmp .lt 6, 3) := by decide +kernel
theorem dX9_bribe_27 : decode cX9_bribe 27 = .ok (.bipush (-3), 2) := by decide +kernel
theorem dX9_bribe_29 : decode cX9_bribe 29 = .ok (.ireturn, 1) := by decide +kernel
theorem dX9_bribe_30 : decode cX9_bribe 30 = .ok (.aload_n 0, 1) := by decide +kernel
theorem dX9_bribe_31 : decode cX9_bribe 31 = .ok (.getfield 25, 3) := by decide +kernel
theorem dX9_bribe_34 : decode cX9_bribe 34 = .ok (.aload_n 0, 1) := by decide +kernel
theorem dX9_bribe_35 : decode cX9_bribe 35 = .ok (.getfield 10, 3) := by decide +kernel
theorem dX9_bribe_38 : decode cX9_bribe 38 = .ok (.invokevirtual 109, 3) := by decide +kernel
theorem dX9_bribe_41 : decode cX9_bribe 41 = .ok (.aload_n 0, 1) := by decide +kernel
theorem dX9_bribe_42 : decode cX9_bribe 42 = .ok (.getfield 36, 3) := by decide +kernel
theorem dX9_bribe_45 : decode cX9_bribe 45 = .ok (.iload_n 1, 1) := by decide +kernel
theorem dX9_bribe_46 : decode cX9_bribe 46 = .ok (.invokevirtual 267, 3) := by decide +kernel
theorem dX9_bribe_49 : decode cX9_bribe 49 = .ok (.aload_n 0, 1) := by decide +kernel
theorem dX9_bribe_50 : decode cX9_bribe 50 = .ok (.getfield 36, 3) := by decide +kernel
theorem dX9_bribe_53 : decode cX9_bribe 53 = .ok (.iload_n 2, 1) := by decide +kernel
theorem dX9_bribe_54 : decode cX9_bribe 54 = .ok (.invokevirtual 261, 3) := by decide +kernel
theorem dX9_bribe_57 : decode cX9_bribe 57 = .ok (.ireturn, 1) := by decide +kernel
theorem dX9_need_0 : decode cX9_need 0 = .ok (.aload_n 0, 1) := by decide +kernel
theorem dX9_need_1 : decode cX9_need 1 = .ok (.iload_n 1, 1) := by decide +kernel
theorem dX9_need_2 : decode cX9_need 2 = .ok (.iload_n 2, 1) := by decide +kernel
theorem dX9_need_3 : decode cX9_need 3 = .ok (.invokevirtual 210, 3) := by decide +kernel
theorem dX9_need_6 : decode cX9_need 6 = .ok (.ifCond .ne 5, 3) := by decide +kernel
theorem dX9_need_9 : decode cX9_need 9 = .ok (.iconst (-1), 1) := by decide +kernel
theorem dX9_need_10 : decode cX9_need 10 = .ok (.ireturn, 1) := by decide +kernel
theorem dX9_need_11 : decode cX9_need 11 = .ok (.iconst 1, 1) := by decide +kernel
theorem dX9_need_12 : decode cX9_need 12 = .ok (.istore_n 3, 1) := by decide +kernel
theorem dX9_need_13 : decode cX9_need 13 = .ok (.iload_n 3, 1) := by decide +kernel
theorem dX9_need_14 : decode cX9_need 14 = .ok (.bipush 9, 2) := by decide +kernel
theorem dX9_need_16 : decode cX9_need 16 = .ok (.if_icmp .gt 37, 3) := by decide +kernel
theorem dX9_need_19 : decode cX9_need 19 = .ok (.aload_n 0, 1) := by decide +kernel
theorem dX9_need_20 : decode cX9_need 20 = .ok (.getfield 21, 3) := by decide +kernel
theorem dX9_need_23 : decode cX9_need 23 = .ok (.aload_n 0, 1) := by decide +kernel
theorem dX9_need_24 : decode cX9_need 24 = .ok (.getfield 10, 3) := by decide +kernel
theorem dX9_need_27 : decode cX9_need 27 = .ok (.getfield 156, 3) := by decide +kernel
theorem dX9_need_30 : decode cX9_need 30 = .ok (.iload_n 1, 1) := by decide +kernel
theorem dX9_need_31 : decode cX9_need 31 = .ok (.iaload, 1) := by decide +kernel
theorem dX9_need_32 : decode cX9_need 32 = .ok (.iload_n 3, 1) := by decide +kernel
theorem dX9_need_33 : decode cX9_need 33 = .ok (.iload_n 2, 1) := by decide +kernel
theorem dX9_need_34 : decode cX9_need 34 = .ok (.invokevirtual 251, 3) := by decide +kernel
theorem dX9_need_37 : decode cX9_need 37 = .ok (.getfield 224, 3) := by decide +kernel
theorem dX9_need_40 : decode cX9_need 40 = .ok (.bipush 10, 2) := by decide +kernel
theorem dX9_need_42 : decode cX9_need 42 = .ok (.if_icmp .ne 5, 3) := by decide +kernel
theorem dX9_need_45 : decode cX9_need 45 = .ok (.iload_n 3, 1) := by decide +kernel
theorem dX9_need_46 : decode cX9_need 46 = .ok (.ireturn, 1) := by decide +kernel
theorem dX9_need_47 : decode cX9_need 47 = .ok (.iinc 3 1, 3) := by decide +kernel
theorem dX9_need_50 : decode cX9_need 50 = .ok (.goto (-37), 3) := by decide +kernel
theorem dX9_need_53 : decode cX9_need 53 = .ok (.bipush (-4), 2) := by decide +kernel
theorem dX9_need_55 : decode cX9_need 55 = .ok (.ireturn, 1) := by decide +kernel
theorem dX9_swap_0 : decode cX9_swap 0 = .ok (.iload_n 1, 1) := by decide +kernel
theorem dX9_swap_1 : decode cX9_swap 1 = .ok (.invokestatic 196, 3) := by decide +kernel
theorem dX9_swap_4 : decode cX9_swap 4 = .ok (.ifCond .eq 10, 3) := by decide +kernel
theorem dX9_swap_7 : decode cX9_swap 7 = .ok (.iload_n 2, 1) := by decide +kernel
theorem dX9_swap_8 : decode cX9_swap 8 = .ok (.invokestatic 255, 3) := by decide +kernel
theorem dX9_swap_11 : decode cX9_swap 11 = .ok (.ifCond .ne 5, 3) := by decide +kernel
theorem dX9_swap_14 : decode cX9_swap 14 = .ok (.iconst (-1), 1) := by decide +kernel
theorem dX9_swap_15 : decode cX9_swap 15 = .ok (.ireturn, 1) := by decide +kernel
theorem dX9_swap_16 : decode cX9_swap 16 = .ok (.aload_n 0, 1) := by decide +kernel
theorem dX9_swap_17 : decode cX9_swap 17 = .ok (.getfield 25, 3) := by decide +kernel
theorem dX9_swap_20 : decode cX9_swap 20 = .ok (.aload_n 0, 1) := by decide +kernel
theorem dX9_swap_21 : decode cX9_swap 21 = .ok (.getfield 10, 3) := by decide +kernel
theorem dX9_swap_24 : decode cX9_swap 24 = .ok (.invokevirtual 109, 3) := by decide +kernel
theorem dX9_swap_27 : decode cX9_swap 27 = .ok (.aload_n 0, 1) := by decide +kernel
theorem dX9_swap_28 : decode cX9_swap 28 = .ok (.getfield 36, 3) := by decide +kernel
theorem dX9_swap_31 : decode cX9_swap 31 = .ok (.iload_n 1, 1) := by decide +kernel
theorem dX9_swap_32 : decode cX9_swap 32 = .ok (.invokevirtual 270, 3) := by decide +kernel
theorem dX9_swap_35 : decode cX9_swap 35 = .ok (.aload_n 0, 1) := by decide +kernel
theorem dX9_swap_36 : decode cX9_swap 36 = .ok (.getfield 36, 3) := by decide +kernel
theorem dX9_swap_39 : decode cX9_swap 39 = .ok (.iload_n 2, 1) := by decide +kernel
theorem dX9_swap_40 : decode cX9_swap 40 = .ok (.invokevirtual 261, 3) := by decide +kernel
theorem dX9_swap_43 : decode cX9_swap 43 = .ok (.ireturn, 1) := by decide +kernel
theorem dX9_pull_0 : decode cX9_pull 0 = .ok (.iload_n 1, 1) := by decide +kernel
theorem dX9_pull_1 : decode cX9_pull 1 = .ok (.invokestatic 196, 3) := by decide +kernel
theorem dX9_pull_4 : decode cX9_pull 4 = .ok (.ifCond .eq 10, 3) := by decide +kernel
theorem dX9_pull_7 : decode cX9_pull 7 = .ok (.iload_n 2, 1) := by decide +kernel
theorem dX9_pull_8 : decode cX9_pull 8 = .ok (.invokestatic 255, 3) := by decide +kernel
theorem dX9_pull_11 : decode cX9_pull 11 = .ok (.ifCond .ne 5, 3) := by decide +kernel
theorem dX9_pull_14 : decode cX9_pull 14 = .ok (.iconst (-1), 1) := by decide +kernel
theorem dX9_pull_15 : decode cX9_pull 15 = .ok (.ireturn, 1) := by decide +kernel
theorem dX9_pull_16 : decode cX9_pull 16 = .ok (.aload_n 0, 1) := by decide +kernel
theorem dX9_pull_17 : decode cX9_pull 17 = .ok (.getfield 25, 3) := by decide +kernel
theorem dX9_pull_20 : decode cX9_pull 20 = .ok (.aload_n 0, 1) := by decide +kernel
theorem dX9_pull_21 : decode cX9_pull 21 = .ok (.getfield 10, 3) := by decide +kernel
theorem dX9_pull_24 : decode cX9_pull 24 = .ok (.invokevirtual 109, 3) := by decide +kernel
theorem dX9_pull_27 : decode cX9_pull 27 = .ok (.aload_n 0, 1) := by decide +kernel
theorem dX9_pull_28 : decode cX9_pull 28 = .ok (.getfield 36, 3) := by decide +kernel
theorem dX9_pull_31 : decode cX9_pull 31 = .ok (.iload_n 1, 1) := by decide +kernel
theorem dX9_pull_32 : decode cX9_pull 32 = .ok (.invokevirtual 273, 3) := by decide +kernel
theorem dX9_pull_35 : decode cX9_pull 35 = .ok (.aload_n 0, 1) := by decide +kernel
theorem dX9_pull_36 : decode cX9_pull 36 = .ok (.getfield 36, 3) := by decide +kernel
theorem dX9_pull_39 : decode cX9_pull 39 = .ok (.iload_n 2, 1) := by decide +kernel
theorem dX9_pull_40 : decode cX9_pull 40 = .ok (.invokevirtual 261, 3) := by decide +kernel
theorem dX9_pull_43 : decode cX9_pull 43 = .ok (.ireturn, 1) := by decide +kernel
theorem dX9_luck_0 : decode cX9_luck 0 = .ok (.iload_n 1, 1) := by decide +kernel
theorem dX9_luck_1 : decode cX9_luck 1 = .ok (.invokestatic 276, 3) := by decide +kernel
theorem dX9_luck_4 : decode cX9_luck 4 = .ok (.ifCond .eq 28, 3) := by decide +kernel
theorem dX9_luck_7 : decode cX9_luck 7 = .ok (.aload_n 0, 1) := by decide +kernel
theorem dX9_luck_8 : decode cX9_luck 8 = .ok (.iload_n 2, 1) := by decide +kernel
theorem dX9_luck_9 : decode cX9_luck 9 = .ok (.iload_n 3, 1) := by decide +kernel
theorem dX9_luck_10 : decode cX9_luck 10 = .ok (.invokevirtual 210, 3) := by decide +kernel
theorem dX9_luck_13 : decode cX9_luck 13 = .ok (.ifCond .eq 19, 3) := by decide +kernel
theorem dX9_luck_16 : decode cX9_luck 16 = .ok (.iload 4, 2) := by decide +kernel
theorem dX9_luck_18 : decode cX9_luck 18 = .ok (.invokestatic 196, 3) := by decide +kernel
theorem dX9_luck_21 : decode cX9_luck 21 = .ok (.ifCond .eq 11, 3) := by decide +kernel
theorem dX9_luck_24 : decode cX9_luck 24 = .ok (.iload 5, 2) := by decide +kernel
theorem dX9_luck_26 : decode cX9_luck 26 = .ok (.invokestatic 255, 3) := by decide +kernel
theorem dX9_luck_29 : decode cX9_luck 29 = .ok (.ifCond .ne 7, 3) := by decide +kernel
theorem dX9_luck_32 : decode cX9_luck 32 = .ok (.ldc2_w 279, 3) := by decide +kernel
theorem dX9_luck_35 : decode cX9_luck 35 = .ok (.lreturn, 1) := by decide +kernel
theorem dX9_luck_36 : decode cX9_luck 36 = .ok (.aload_n 0, 1) := by decide +kernel
theorem dX9_luck_37 : decode cX9_luck 37 = .ok (.getfield 43, 3) := by decide +kernel
theorem dX9_luck_40 : decode cX9_luck 40 = .ok (.aload_n 0, 1) := by decide +kernel
theorem dX9_luck_41 : decode cX9_luck 41 = .ok (.getfield 10, 3) := by decide +kernel
theorem dX9_luck_44 : decode cX9_luck 44 = .ok (.iload_n 1, 1) := by decide +kernel
theorem dX9_luck_45 : decode cX9_luck 45 = .ok (.iload_n 2, 1) := by decide +kernel
theorem dX9_luck_46 : decode cX9_luck 46 = .ok (.iload_n 3, 1) := by decide +kernel
theorem dX9_luck_47 : decode cX9_luck 47 = .ok (.iload 4, 2) := by decide +kernel
theorem dX9_luck_49 : decode cX9_luck 49 = .ok (.invokevirtual 281, 3) := by decide +kernel
theorem dX9_luck_52 : decode cX9_luck 52 = .ok (.aload_n 0, 1) := by decide +kernel
theorem dX9_luck_53 : decode cX9_luck 53 = .ok (.getfield 43, 3) := by decide +kernel
theorem dX9_luck_56 : decode cX9_luck 56 = .ok (.getfield 285, 3) := by decide +kernel
theorem dX9_luck_59 : decode cX9_luck 59 = .ok (.iload 5, 2) := by decide +kernel
theorem dX9_luck_61 : decode cX9_luck 61 = .ok (.invokestatic 289, 3) := by decide +kernel
theorem dX9_luck_64 : decode cX9_luck 64 = .ok (.lreturn, 1) := by decide +kernel
theorem dX9_mean_0 : decode cX9_mean 0 = .ok (.iload_n 1, 1) := by decide +kernel
theorem dX9_mean_1 : decode cX9_mean 1 = .ok (.invokestatic 276, 3) := by decide +kernel
theorem dX9_mean_4 : decode cX9_mean 4 = .ok (.ifCond .eq 20, 3) := by decide +kernel
theorem dX9_mean_7 : decode cX9_mean 7 = .ok (.aload_n 0, 1) := by decide +kernel
theorem dX9_mean_8 : decode cX9_mean 8 = .ok (.iload_n 2, 1) := by decide +kernel
theorem dX9_mean_9 : decode cX9_mean 9 = .ok (.iload_n 3, 1) := by decide +kernel
theorem dX9_mean_10 : decode cX9_mean 10 = .ok (.invokevirtual 210, 3) := by decide +kernel
theorem dX9_mean_13 : decode cX9_mean 13 = .ok (.ifCond .eq 11, 3) := by decide +kernel
theorem dX9_mean_16 : decode cX9_mean 16 = .ok (.iload 4, 2) := by decide +kernel
theorem dX9_mean_18 : decode cX9_mean 18 = .ok (.invokestatic 255, 3) := by decide +kernel
theorem dX9_mean_21 : decode cX9_mean 21 = .ok (.ifCond .ne 7, 3) := by decide +kernel
theorem dX9_mean_24 : decode cX9_mean 24 = .ok (.ldc2_w 279, 3) := by decide +kernel
theorem dX9_mean_27 : decode cX9_mean 27 = .ok (.lreturn, 1) := by decide +kernel
theorem dX9_mean_28 : decode cX9_mean 28 = .ok (.aload_n 0, 1) := by decide +kernel
theorem dX9_mean_29 : decode cX9_mean 29 = .ok (.getfield 43, 3) := by decide +kernel
theorem dX9_mean_32 : decode cX9_mean 32 = .ok (.aload_n 0, 1) := by decide +kernel
theorem dX9_mean_33 : decode cX9_mean 33 = .ok (.getfield 10, 3) := by decide +kernel
theorem dX9_mean_36 : decode cX9_mean 36 = .ok (.iload_n 1, 1) := by decide +kernel
theorem dX9_mean_37 : decode cX9_mean 37 = .ok (.iload_n 2, 1) := by decide +kernel
theorem dX9_mean_38 : decode cX9_mean 38 = .ok (.iload_n 3, 1) := by decide +kernel
theorem dX9_mean_39 : decode cX9_mean 39 = .ok (.iconst 0, 1) := by decide +kernel
theorem dX9_mean_40 : decode cX9_mean 40 = .ok (.invokevirtual 281, 3) := by decide +kernel
theorem dX9_mean_43 : decode cX9_mean 43 = .ok (.aload_n 0, 1) := by decide +kernel
theorem dX9_mean_44 : decode cX9_mean 44 = .ok (.getfield 43, 3) := by decide +kernel
theorem dX9_mean_47 : decode cX9_mean 47 = .ok (.getfield 293, 3) := by decide +kernel
theorem dX9_mean_50 : decode cX9_mean 50 = .ok (.iload 4, 2) := by decide +kernel
theorem dX9_mean_52 : decode cX9_mean 52 = .ok (.invokestatic 289, 3) := by decide +kernel
theorem dX9_mean_55 : decode cX9_mean 55 = .ok (.lreturn, 1) := by decide +kernel
theorem dX9_see_0 : decode cX9_see 0 = .ok (.iload_n 3, 1) := by decide +kernel
theorem dX9_see_1 : decode cX9_see 1 = .ok (.ifCond .lt 9, 3) := by decide +kernel
theorem dX9_see_4 : decode cX9_see 4 = .ok (.iload_n 3, 1) := by decide +kernel
theorem dX9_see_5 : decode cX9_see 5 = .ok (.bipush 7, 2) := by decide +kernel
theorem dX9_see_7 : decode cX9_see 7 = .ok (.if_icmp .lt 9, 3) := by decide +kernel
theorem dX9_see_10 : decode cX9_see 10 = .ok (.iload_n 3, 1) := by decide +kernel
theorem dX9_see_11 : decode cX9_see 11 = .ok (.bipush 9, 2) := by decide +kernel
theorem dX9_see_13 : decode cX9_see 13 = .ok (.if_icmp .ne 7, 3) := by decide +kernel
theorem dX9_see_16 : decode cX9_see 16 = .ok (.iconst 1, 1) := by decide +kernel
theorem dX9_see_17 : decode cX9_see 17 = .ok (.goto 4, 3) := by decide +kernel
theorem dX9_see_20 : decode cX9_see 20 = .ok (.iconst 0, 1) := by decide +kernel
theorem dX9_see_21 : decode cX9_see 21 = .ok (.istore 4, 2) := by decide +kernel
theorem dX9_see_23 : decode cX9_see 23 = .ok (.aload_n 0, 1) := by decide +kernel
theorem dX9_see_24 : decode cX9_see 24 = .ok (.iload_n 1, 1) := by decide +kernel
theorem dX9_see_25 : decode cX9_see 25 = .ok (.iload_n 2, 1) := by decide +kernel
theorem dX9_see_26 : decode cX9_see 26 = .ok (.invokevirtual 210, 3) := by decide +kernel
theorem dX9_see_29 : decode cX9_see 29 = .ok (.ifCond .eq 8, 3) := by decide +kernel
theorem dX9_see_32 : decode cX9_see 32 = .ok (.iload 4, 2) := by decide +kernel
theorem dX9_see_34 : decode cX9_see 34 = .ok (.ifCond .ne 5, 3) := by decide +kernel
theorem dX9_see_37 : decode cX9_see 37 = .ok (.iconst (-1), 1) := by decide +kernel
theorem dX9_see_38 : decode cX9_see 38 = .ok (.ireturn, 1) := by decide +kernel
theorem dX9_see_39 : decode cX9_see 39 = .ok (.aload_n 0, 1) := by decide +kernel
theorem dX9_see_40 : decode cX9_see 40 = .ok (.getfield 50, 3) := by decide +kernel
theorem dX9_see_43 : decode cX9_see 43 = .ok (.iload_n 1, 1) := by decide +kernel
theorem dX9_see_44 : decode cX9_see 44 = .ok (.iload_n 2, 1) := by decide +kernel
theorem dX9_see_45 : decode cX9_see 45 = .ok (.iload_n 3, 1) := by decide +kernel
theorem dX9_see_46 : decode cX9_see 46 = .ok (.invokevirtual 295, 3) := by decide +kernel
theorem dX9_see_49 : decode cX9_see 49 = .ok (.ireturn, 1) := by decide +kernel
theorem dX9_forget_0 : decode cX9_forget 0 = .ok (.iload_n 1, 1) := by decide +kernel
theorem dX9_forget_1 : decode cX9_forget 1 = .ok (.ifCond .lt 14, 3) := by decide +kernel
theorem dX9_forget_4 : decode cX9_forget 4 = .ok (.iload_n 1, 1) := by decide +kernel
theorem dX9_forget_5 : decode cX9_forget 5 = .ok (.aload_n 0, 1) := by decide +kernel
theorem dX9_forget_6 : decode cX9_forget 6 = .ok (.getfield 50, 3) := by decide +kernel
theorem dX9_forget_9 : decode cX9_forget 9 = .ok (.getfield 112, 3) := by decide +kernel
theorem dX9_forget_12 : decode cX9_forget 12 = .ok (.if_icmp .le 5, 3) := by decide +kernel
theorem dX9_forget_15 : decode cX9_forget 15 = .ok (.iconst (-1), 1) := by decide +kernel
theorem dX9_forget_16 : decode cX9_forget 16 = .ok (.ireturn, 1) := by decide +kernel
theorem dX9_forget_17 : decode cX9_forget 17 = .ok (.aload_n 0, 1) := by decide +kernel
theorem dX9_forget_18 : decode cX9_forget 18 = .ok (.getfield 50, 3) := by decide +kernel
theorem dX9_forget_21 : decode cX9_forget 21 = .ok (.getfield 112, 3) := by decide +kernel
theorem dX9_forget_24 : decode cX9_forget 24 = .ok (.istore_n 2, 1) := by decide +kernel
theorem dX9_forget_25 : decode cX9_forget 25 = .ok (.aload_n 0, 1) := by decide +kernel
theorem dX9_forget_26 : decode cX9_forget 26 = .ok (.getfield 50, 3) := by decide +kernel
theorem dX9_forget_29 : decode cX9_forget 29 = .ok (.iload_n 1, 1) := by decide +kernel
theorem dX9_forget_30 : decode cX9_forget 30 = .ok (.putfield 112, 3) := by decide +kernel
theorem dX9_forget_33 : decode cX9_forget 33 = .ok (.iload_n 2, 1) := by decide +kernel
theorem dX9_forget_34 : decode cX9_forget 34 = .ok (.ireturn, 1) := by decide +kernel
theorem dX9_kinds_0 : decode cX9_kinds 0 = .ok (.aload_n 0, 1) := by decide +kernel
theorem dX9_kinds_1 : decode cX9_kinds 1 = .ok (.getfield 10, 3) := by decide +kernel
theorem dX9_kinds_4 : decode cX9_kinds 4 = .ok (.iload_n 1, 1) := by decide +kernel
theorem dX9_kinds_5 : decode cX9_kinds 5 = .ok (.invokevirtual 153, 3) := by decide +kernel
theorem dX9_kinds_8 : decode cX9_kinds 8 = .ok (.ifCond .ne 5, 3) := by decide +kernel
theorem dX9_kinds_11 : decode cX9_kinds 11 = .ok (.iconst (-1), 1) := by decide +kernel
theorem dX9_kinds_12 : decode cX9_kinds 12 = .ok (.ireturn, 1) := by decide +kernel
theorem dX9_kinds_13 : decode cX9_kinds 13 = .ok (.aload_n 0, 1) := by decide +kernel
theorem dX9_kinds_14 : decode cX9_kinds 14 = .ok (.getfield 25, 3) := by decide +kernel
theorem dX9_kinds_17 : decode cX9_kinds 17 = .ok (.aload_n 0, 1) := by decide +kernel
theorem dX9_kinds_18 : decode cX9_kinds 18 = .ok (.getfield 10, 3) := by decide +kernel
theorem dX9_kinds_21 : decode cX9_kinds 21 = .ok (.invokevirtual 109, 3) := by decide +kernel
theorem dX9_kinds_24 : decode cX9_kinds 24 = .ok (.aload_n 0, 1) := by decide +kernel
theorem dX9_kinds_25 : decode cX9_kinds 25 = .ok (.getfield 50, 3) := by decide +kernel
theorem dX9_kinds_28 : decode cX9_kinds 28 = .ok (.aload_n 0, 1) := by decide +kernel
theorem dX9_kinds_29 : decode cX9_kinds 29 = .ok (.getfield 28, 3) := by decide +kernel
theorem dX9_kinds_32 : decode cX9_kinds 32 = .ok (.iload_n 1, 1) := by decide +kernel
theorem dX9_kinds_33 : decode cX9_kinds 33 = .ok (.invokevirtual 298, 3) := by decide +kernel
theorem dX9_kinds_36 : decode cX9_kinds 36 = .ok (.ireturn, 1) := by decide +kernel
theorem dX9_speeds_0 : decode cX9_speeds 0 = .ok (.aload_n 0, 1) := by decide +kernel
theorem dX9_speeds_1 : decode cX9_speeds 1 = .ok (.getfield 10, 3) := by decide +kernel
theorem dX9_speeds_4 : decode cX9_speeds 4 = .ok (.iload_n 1, 1) := by decide +kernel
theorem dX9_speeds_5 : decode cX9_speeds 5 = .ok (.invokevirtual 153, 3) := by decide +kernel
theorem dX9_speeds_8 : decode cX9_speeds 8 = .ok (.ifCond .ne 5, 3) := by decide +kernel
theorem dX9_speeds_11 : decode cX9_speeds 11 = .ok (.iconst (-1), 1) := by decide +kernel
theorem dX9_speeds_12 : decode cX9_speeds 12 = .ok (.ireturn, 1) := by decide +kernel
theorem dX9_speeds_13 : decode cX9_speeds 13 = .ok (.aload_n 0, 1) := by decide +kernel
theorem dX9_speeds_14 : decode cX9_speeds 14 = .ok (.getfield 25, 3) := by decide +kernel
theorem dX9_speeds_17 : decode cX9_speeds 17 = .ok (.aload_n 0, 1) := by decide +kernel
theorem dX9_speeds_18 : decode cX9_speeds 18 = .ok (.getfield 10, 3) := by decide +kernel
theorem dX9_speeds_21 : decode cX9_speeds 21 = .ok (.invokevirtual 109, 3) := by decide +kernel
theorem dX9_speeds_24 : decode cX9_speeds 24 = .ok (.aload_n 0, 1) := by decide +kernel
theorem dX9_speeds_25 : decode cX9_speeds 25 = .ok (.getfield 50, 3) := by decide +kernel
theorem dX9_speeds_28 : decode cX9_speeds 28 = .ok (.aload_n 0, 1) := by decide +kernel
theorem dX9_speeds_29 : decode cX9_speeds 29 = .ok (.getfield 28, 3) := by decide +kernel
theorem dX9_speeds_32 : decode cX9_speeds 32 = .ok (.iload_n 1, 1) := by decide +kernel
theorem dX9_speeds_33 : decode cX9_speeds 33 = .ok (.invokevirtual 302, 3) := by decide +kernel
theorem dX9_speeds_36 : decode cX9_speeds 36 = .ok (.ireturn, 1) := by decide +kernel
theorem dX9_ask_0 : decode cX9_ask 0 = .ok (.aload_n 0, 1) := by decide +kernel
theorem dX9_ask_1 : decode cX9_ask 1 = .ok (.getfield 10, 3) := by decide +kernel
theorem dX9_ask_4 : decode cX9_ask 4 = .ok (.iload_n 1, 1) := by decide +kernel
theorem dX9_ask_5 : decode cX9_ask 5 = .ok (.invokevirtual 153, 3) := by decide +kernel
theorem dX9_ask_8 : decode cX9_ask 8 = .ok (.ifCond .eq 10, 3) := by decide +kernel
theorem dX9_ask_11 : decode cX9_ask 11 = .ok (.iload_n 2, 1) := by decide +kernel
theorem dX9_ask_12 : decode cX9_ask 12 = .ok (.invokestatic 255, 3) := by decide +kernel
theorem dX9_ask_15 : decode cX9_ask 15 = .ok (.ifCond .ne 5, 3) := by decide +kernel
theorem dX9_ask_18 : decode cX9_ask 18 = .ok (.iconst (-1), 1) := by decide +kernel
theorem dX9_ask_19 : decode cX9_ask 19 = .ok (.ireturn, 1) := by decide +kernel
theorem dX9_ask_20 : decode cX9_ask 20 = .ok (.aload_n 0, 1) := by decide +kernel
theorem dX9_ask_21 : decode cX9_ask 21 = .ok (.getfield 25, 3) := by decide +kernel
theorem dX9_ask_24 : decode cX9_ask 24 = .ok (.aload_n 0, 1) := by decide +kernel
theorem dX9_ask_25 : decode cX9_ask 25 = .ok (.getfield 10, 3) := by decide +kernel
theorem dX9_ask_28 : decode cX9_ask 28 = .ok (.invokevirtual 109, 3) := by decide +kernel
theorem dX9_ask_31 : decode cX9_ask 31 = .ok (.aload_n 0, 1) := by decide +kernel
theorem dX9_ask_32 : decode cX9_ask 32 = .ok (.getfield 50, 3) := by decide +kernel
theorem dX9_ask_35 : decode cX9_ask 35 = .ok (.aload_n 0, 1) := by decide +kernel
theorem dX9_ask_36 : decode cX9_ask 36 = .ok (.getfield 28, 3) := by decide +kernel
theorem dX9_ask_39 : decode cX9_ask 39 = .ok (.iload_n 1, 1) := by decide +kernel
theorem dX9_ask_40 : decode cX9_ask 40 = .ok (.invokevirtual 302, 3) := by decide +kernel
theorem dX9_ask_43 : decode cX9_ask 43 = .ok (.istore_n 3, 1) := by decide +kernel
theorem dX9_ask_44 : decode cX9_ask 44 = .ok (.aload_n 0, 1) := by decide +kernel
theorem dX9_ask_45 : decode cX9_ask 45 = .ok (.getfield 36, 3) := by decide +kernel
theorem dX9_ask_48 : decode cX9_ask 48 = .ok (.aload_n 0, 1) := by decide +kernel
theorem dX9_ask_49 : decode cX9_ask 49 = .ok (.getfield 10, 3) := by decide +kernel
theorem dX9_ask_52 : decode cX9_ask 52 = .ok (.getfield 156, 3) := by decide +kernel
theorem dX9_ask_55 : decode cX9_ask 55 = .ok (.iload_n 1, 1) := by decide +kernel
theorem dX9_ask_56 : decode cX9_ask 56 = .ok (.iaload, 1) := by decide +kernel
theorem dX9_ask_57 : decode cX9_ask 57 = .ok (.iload_n 3, 1) := by decide +kernel
theorem dX9_ask_58 : decode cX9_ask 58 = .ok (.invokevirtual 305, 3) := by decide +kernel
theorem dX9_ask_61 : decode cX9_ask 61 = .ok (.aload_n 0, 1) := by decide +kernel
theorem dX9_ask_62 : decode cX9_ask 62 = .ok (.getfield 36, 3) := by decide +kernel
theorem dX9_ask_65 : decode cX9_ask 65 = .ok (.iload_n 2, 1) := by decide +kernel
theorem dX9_ask_66 : decode cX9_ask 66 = .ok (.invokevirtual 261, 3) := by decide +kernel
theorem dX9_ask_69 : decode cX9_ask 69 = .ok (.ireturn, 1) := by decide +kernel
theorem dX9_drift_0 : decode cX9_drift 0 = .ok (.iload_n 2, 1) := by decide +kernel
theorem dX9_drift_1 : decode cX9_drift 1 = .ok (.iconst 1, 1) := by decide +kernel
theorem dX9_drift_2 : decode cX9_drift 2 = .ok (.if_icmp .lt 16, 3) := by decide +kernel
theorem dX9_drift_5 : decode cX9_drift 5 = .ok (.iload_n 2, 1) := by decide +kernel
theorem dX9_drift_6 : decode cX9_drift 6 = .ok (.bipush 60, 2) := by decide +kernel
theorem dX9_drift_8 : decode cX9_drift 8 = .ok (.if_icmp .gt 10, 3) := by decide +kernel
theorem dX9_drift_11 : decode cX9_drift 11 = .ok (.iload_n 3, 1) := by decide +kernel
theorem dX9_drift_12 : decode cX9_drift 12 = .ok (.invokestatic 255, 3) := by decide +kernel
theorem dX9_drift_15 : decode cX9_drift 15 = .ok (.ifCond .ne 5, 3) := by decide +kernel
theorem dX9_drift_18 : decode cX9_drift 18 = .ok (.iconst (-1), 1) := by decide +kernel
theorem dX9_drift_19 : decode cX9_drift 19 = .ok (.ireturn, 1) := by decide +kernel
theorem dX9_drift_20 : decode cX9_drift 20 = .ok (.aload_n 0, 1) := by decide +kernel
theorem dX9_drift_21 : decode cX9_drift 21 = .ok (.getfield 10, 3) := by decide +kernel
theorem dX9_drift_24 : decode cX9_drift 24 = .ok (.getfield 121, 3) := by decide +kernel
theorem dX9_drift_27 : decode cX9_drift 27 = .ok (.ifCond .ne 6, 3) := by decide +kernel
theorem dX9_drift_30 : decode cX9_drift 30 = .ok (.bipush (-2), 2) := by decide +kernel
theorem dX9_drift_32 : decode cX9_drift 32 = .ok (.ireturn, 1) := by decide +kernel
theorem dX9_drift_33 : decode cX9_drift 33 = .ok (.aload_n 0, 1) := by decide +kernel
theorem dX9_drift_34 : decode cX9_drift 34 = .ok (.getfield 25, 3) := by decide +kernel
theorem dX9_drift_37 : decode cX9_drift 37 = .ok (.aload_n 0, 1) := by decide +kernel
theorem dX9_drift_38 : decode cX9_drift 38 = .ok (.getfield 10, 3) := by decide +kernel
theorem dX9_drift_41 : decode cX9_drift 41 = .ok (.invokevirtual 109, 3) := by decide +kernel
theorem dX9_drift_44 : decode cX9_drift 44 = .ok (.iload_n 1, 1) := by decide +kernel
theorem dX9_drift_45 : decode cX9_drift 45 = .ok (.istore 4, 2) := by decide +kernel
theorem dX9_drift_47 : decode cX9_drift 47 = .ok (.iconst 0, 1) := by decide +kernel
theorem dX9_drift_48 : decode cX9_drift 48 = .ok (.istore 5, 2) := by decide +kernel
theorem dX9_drift_50 : decode cX9_drift 50 = .ok (.iconst 0, 1) := by decide +kernel
theorem dX9_drift_51 : decode cX9_drift 51 = .ok (.istore 6, 2) := by decide +kernel
theorem dX9_drift_53 : decode cX9_drift 53 = .ok (.iconst 0, 1) := by decide +kernel
theorem dX9_drift_54 : decode cX9_drift 54 = .ok (.istore 7, 2) := by decide +kernel
theorem dX9_drift_56 : decode cX9_drift 56 = .ok (.iload 7, 2) := by decide +kernel
theorem dX9_drift_58 : decode cX9_drift 58 = .ok (.iload_n 2, 1) := by decide +kernel
theorem dX9_drift_59 : decode cX9_drift 59 = .ok (.if_icmp .ge 54, 3) := by decide +kernel
theorem dX9_drift_62 : decode cX9_drift 62 = .ok (.iload 4, 2) := by decide +kernel
theorem dX9_drift_64 : decode cX9_drift 64 = .ok (.ldc_w 308, 3) := by decide +kernel
theorem dX9_drift_67 : decode cX9_drift 67 = .ok (.imul, 1) := by decide +kernel
theorem dX9_drift_68 : decode cX9_drift 68 = .ok (.sipush 12345, 3) := by decide +kernel
theorem dX9_drift_71 : decode cX9_drift 71 = .ok (.iadd, 1) := by decide +kernel
theorem dX9_drift_72 : decode cX9_drift 72 = .ok (.istore 4, 2) := by decide +kernel
theorem dX9_drift_74 : decode cX9_drift 74 = .ok (.aload_n 0, 1) := by decide +kernel
theorem dX9_drift_75 : decode cX9_drift 75 = .ok (.iload 4, 2) := by decide +kernel
theorem dX9_drift_77 : decode cX9_drift 77 = .ok (.bipush 16, 2) := by decide +kernel
theorem dX9_drift_79 : decode cX9_drift 79 = .ok (.iushr, 1) := by decide +kernel
theorem dX9_drift_80 : decode cX9_drift 80 = .ok (.sipush 32767, 3) := by decide +kernel
theorem dX9_drift_83 : decode cX9_drift 83 = .ok (.iand, 1) := by decide +kernel
theorem dX9_drift_84 : decode cX9_drift 84 = .ok (.invokevirtual 309, 3) := by decide +kernel
theorem dX9_drift_87 : decode cX9_drift 87 = .ok (.istore 8, 2) := by decide +kernel
theorem dX9_drift_89 : decode cX9_drift 89 = .ok (.iload 8, 2) := by decide +kernel
theorem dX9_drift_91 : decode cX9_drift 91 = .ok (.bipush (-4), 2) := by decide +kernel
theorem dX9_drift_93 : decode cX9_drift 93 = .ok (.if_icmp .eq 6, 3) := by decide +kernel
theorem dX9_drift_96 : decode cX9_drift 96 = .ok (.iinc 5 1, 3) := by decide +kernel
theorem dX9_drift_99 : decode cX9_drift 99 = .ok (.iload 8, 2) := by decide +kernel
theorem dX9_drift_101 : decode cX9_drift 101 = .ok (.ifCond .ne 6, 3) := by decide +kernel
theorem dX9_drift_104 : decode cX9_drift 104 = .ok (.iinc 6 1, 3) := by decide +kernel
theorem dX9_drift_107 : decode cX9_drift 107 = .ok (.iinc 7 1, 3) := by decide +kernel
theorem dX9_drift_110 : decode cX9_drift 110 = .ok (.goto (-54), 3) := by decide +kernel
theorem dX9_drift_113 : decode cX9_drift 113 = .ok (.iload_n 3, 1) := by decide +kernel
theorem dX9_drift_114 : decode cX9_drift 114 = .ok (.ifCond .ne 8, 3) := by decide +kernel
theorem dX9_drift_117 : decode cX9_drift 117 = .ok (.iload 5, 2) := by decide +kernel
theorem dX9_drift_119 : decode cX9_drift 119 = .ok (.goto 5, 3) := by decide +kernel
theorem dX9_drift_122 : decode cX9_drift 122 = .ok (.iload 6, 2) := by decide +kernel
theorem dX9_drift_124 : decode cX9_drift 124 = .ok (.ireturn, 1) := by decide +kernel
theorem dX9_driftOnce_0 : decode cX9_driftOnce 0 = .ok (.aload_n 0, 1) := by decide +kernel
theorem dX9_driftOnce_1 : decode cX9_driftOnce 1 = .ok (.getfield 25, 3) := by decide +kernel
theorem dX9_driftOnce_4 : decode cX9_driftOnce 4 = .ok (.getfield 121, 3) := by decide +kernel
theorem dX9_driftOnce_7 : decode cX9_driftOnce 7 = .ok (.ifCond .gt 6, 3) := by decide +kernel
theorem dX9_driftOnce_10 : decode cX9_driftOnce 10 = .ok (.bipush (-4), 2) := by decide +kernel
theorem dX9_driftOnce_12 : decode cX9_driftOnce 12 = .ok (.ireturn, 1) := by decide +kernel
theorem dX9_driftOnce_13 : decode cX9_driftOnce 13 = .ok (.aload_n 0, 1) := by decide +kernel
theorem dX9_driftOnce_14 : decode cX9_driftOnce 14 = .ok (.getfield 28, 3) := by decide +kernel
theorem dX9_driftOnce_17 : decode cX9_driftOnce 17 = .ok (.iload_n 1, 1) := by decide +kernel
theorem dX9_driftOnce_18 : decode cX9_driftOnce 18 = .ok (.aload_n 0, 1) := by decide +kernel
theorem dX9_driftOnce_19 : decode cX9_driftOnce 19 = .ok (.getfield 25, 3) := by decide +kernel
theorem dX9_driftOnce_22 : decode cX9_driftOnce 22 = .ok (.getfield 121, 3) := by decide +kernel
theorem dX9_driftOnce_25 : decode cX9_driftOnce 25 = .ok (.irem, 1) := by decide +kernel
theorem dX9_driftOnce_26 : decode cX9_driftOnce 26 = .ok (.iload_n 1, 1) := by decide +kernel
theorem dX9_driftOnce_27 : decode cX9_driftOnce 27 = .ok (.iconst 4, 1) := by decide +kernel
theorem dX9_driftOnce_28 : decode cX9_driftOnce 28 = .ok (.idiv, 1) := by decide +kernel
theorem dX9_driftOnce_29 : decode cX9_driftOnce 29 = .ok (.bipush 8, 2) := by decide +kernel
theorem dX9_driftOnce_31 : decode cX9_driftOnce 31 = .ok (.irem, 1) := by decide +kernel
theorem dX9_driftOnce_32 : decode cX9_driftOnce 32 = .ok (.invokevirtual 217, 3) := by decide +kernel
theorem dX9_driftOnce_35 : decode cX9_driftOnce 35 = .ok (.astore_n 2, 1) := by decide +kernel
theorem dX9_driftOnce_36 : decode cX9_driftOnce 36 = .ok (.bipush 10, 2) := by decide +kernel
theorem dX9_driftOnce_38 : decode cX9_driftOnce 38 = .ok (.iload_n 1, 1) := by decide +kernel
theorem dX9_driftOnce_39 : decode cX9_driftOnce 39 = .ok (.bipush 32, 2) := by decide +kernel
theorem dX9_driftOnce_41 : decode cX9_driftOnce 41 = .ok (.idiv, 1) := by decide +kernel
theorem dX9_driftOnce_42 : decode cX9_driftOnce 42 = .ok (.bipush 10, 2) := by decide +kernel
theorem dX9_driftOnce_44 : decode cX9_driftOnce 44 = .ok (.irem, 1) := by decide +kernel
theorem dX9_driftOnce_45 : decode cX9_driftOnce 45 = .ok (.imul, 1) := by decide +kernel
theorem dX9_driftOnce_46 : decode cX9_driftOnce 46 = .ok (.iload_n 1, 1) := by decide +kernel
theorem dX9_driftOnce_47 : decode cX9_driftOnce 47 = .ok (.sipush 320, 3) := by decide +kernel
theorem dX9_driftOnce_50 : decode cX9_driftOnce 50 = .ok (.idiv, 1) := by decide +kernel
theorem dX9_driftOnce_51 : decode cX9_driftOnce 51 = .ok (.bipush 8, 2) := by decide +kernel
theorem dX9_driftOnce_53 : decode cX9_driftOnce 53 = .ok (.irem, 1) := by decide +kernel
theorem dX9_driftOnce_54 : decode cX9_driftOnce 54 = .ok (.iadd, 1) := by decide +kernel
theorem dX9_driftOnce_55 : decode cX9_driftOnce 55 = .ok (.istore_n 3, 1) := by decide +kernel
theorem dX9_driftOnce_56 : decode cX9_driftOnce 56 = .ok (.aload_n 2, 1) := by decide +kernel
theorem dX9_driftOnce_57 : decode cX9_driftOnce 57 = .ok (.getfield 221, 3) := by decide +kernel
theorem dX9_driftOnce_60 : decode cX9_driftOnce 60 = .ok (.bipush (-4), 2) := by decide +kernel
theorem dX9_driftOnce_62 : decode cX9_driftOnce 62 = .ok (.if_icmp .eq 26, 3) := by decide +kernel
theorem dX9_driftOnce_65 : decode cX9_driftOnce 65 = .ok (.aload_n 0, 1) := by decide +kernel
theorem dX9_driftOnce_66 : decode cX9_driftOnce 66 = .ok (.getfield 25, 3) := by decide +kernel
theorem dX9_driftOnce_69 : decode cX9_driftOnce 69 = .ok (.iload_n 3, 1) := by decide +kernel
theorem dX9_driftOnce_70 : decode cX9_driftOnce 70 = .ok (.invokevirtual 189, 3) := by decide +kernel
theorem dX9_driftOnce_73 : decode cX9_driftOnce 73 = .ok (.ifCond .eq 15, 3) := by decide +kernel
theorem dX9_driftOnce_76 : decode cX9_driftOnce 76 = .ok (.aload_n 0, 1) := by decide +kernel
theorem dX9_driftOnce_77 : decode cX9_driftOnce 77 = .ok (.getfield 25, 3) := by decide +kernel
theorem dX9_driftOnce_80 : decode cX9_driftOnce 80 = .ok (.aload_n 2, 1) := by decide +kernel
theorem dX9_driftOnce_81 : decode cX9_driftOnce 81 = .ok (.getfield 221, 3) := by decide +kernel
theorem dX9_driftOnce_84 : decode cX9_driftOnce 84 = .ok (.iload_n 3, 1) := by decide +kernel
theorem dX9_driftOnce_85 : decode cX9_driftOnce 85 = .ok (.invokevirtual 192, 3) := by decide +kernel
theorem dX9_driftOnce_88 : decode cX9_driftOnce 88 = .ok (.aload_n 2, 1) := by decide +kernel
theorem dX9_driftOnce_89 : decode cX9_driftOnce 89 = .ok (.getfield 183, 3) := by decide +kernel
theorem dX9_driftOnce_92 : decode cX9_driftOnce 92 = .ok (.ireturn, 1) := by decide +kernel
theorem dX9_keep_0 : decode cX9_keep 0 = .ok (.iload_n 1, 1) := by decide +kernel
theorem dX9_keep_1 : decode cX9_keep 1 = .ok (.invokestatic 312, 3) := by decide +kernel
theorem dX9_keep_4 : decode cX9_keep 4 = .ok (.ifCond .ne 5, 3) := by decide +kernel
theorem dX9_keep_7 : decode cX9_keep 7 = .ok (.iconst (-1), 1) := by decide +kernel
theorem dX9_keep_8 : decode cX9_keep 8 = .ok (.ireturn, 1) := by decide +kernel
theorem dX9_keep_9 : decode cX9_keep 9 = .ok (.aload_n 0, 1) := by decide +kernel
theorem dX9_keep_10 : decode cX9_keep 10 = .ok (.getfield 58, 3) := by decide +kernel
theorem dX9_keep_13 : decode cX9_keep 13 = .ok (.iload_n 1, 1) := by decide +kernel
theorem dX9_keep_14 : decode cX9_keep 14 = .ok (.baload, 1) := by decide +kernel
theorem dX9_keep_15 : decode cX9_keep 15 = .ok (.ifCond .eq 7, 3) := by decide +kernel
theorem dX9_keep_18 : decode cX9_keep 18 = .ok (.iconst 1, 1) := by decide +kernel
theorem dX9_keep_19 : decode cX9_keep 19 = .ok (.goto 4, 3) := by decide +kernel
theorem dX9_keep_22 : decode cX9_keep 22 = .ok (.iconst 0, 1) := by decide +kernel
theorem dX9_keep_23 : decode cX9_keep 23 = .ok (.istore_n 2, 1) := by decide +kernel
theorem dX9_keep_24 : decode cX9_keep 24 = .ok (.aload_n 0, 1) := by decide +kernel
theorem dX9_keep_25 : decode cX9_keep 25 = .ok (.getfield 54, 3) := by decide +kernel
theorem dX9_keep_28 : decode cX9_keep 28 = .ok (.iload_n 1, 1) := by decide +kernel
theorem dX9_keep_29 : decode cX9_keep 29 = .ok (.aaload, 1) := by decide +kernel
theorem dX9_keep_30 : decode cX9_keep 30 = .ok (.aload_n 0, 1) := by decide +kernel
theorem dX9_keep_31 : decode cX9_keep 31 = .ok (.getfield 10, 3) := by decide +kernel
theorem dX9_keep_34 : decode cX9_keep 34 = .ok (.invokevirtual 109, 3) := by decide +kernel
theorem dX9_keep_37 : decode cX9_keep 37 = .ok (.aload_n 0, 1) := by decide +kernel
theorem dX9_keep_38 : decode cX9_keep 38 = .ok (.getfield 58, 3) := by decide +kernel
theorem dX9_keep_41 : decode cX9_keep 41 = .ok (.iload_n 1, 1) := by decide +kernel
theorem dX9_keep_42 : decode cX9_keep 42 = .ok (.iconst 1, 1) := by decide +kernel
theorem dX9_keep_43 : decode cX9_keep 43 = .ok (.bastore, 1) := by decide +kernel
theorem dX9_keep_44 : decode cX9_keep 44 = .ok (.iload_n 2, 1) := by decide +kernel
theorem dX9_keep_45 : decode cX9_keep 45 = .ok (.ireturn, 1) := by decide +kernel
theorem dX9_back_0 : decode cX9_back 0 = .ok (.iload_n 1, 1) := by decide +kernel
theorem dX9_back_1 : decode cX9_back 1 = .ok (.invokestatic 312, 3) := by decide +kernel
theorem dX9_back_4 : decode cX9_back 4 = .ok (.ifCond .ne 5, 3) := by decide +kernel
theorem dX9_back_7 : decode cX9_back 7 = .ok (.iconst (-1), 1) := by decide +kernel
theorem dX9_back_8 : decode cX9_back 8 = .ok (.ireturn, 1) := by decide +kernel
theorem dX9_back_9 : decode cX9_back 9 = .ok (.aload_n 0, 1) := by decide +kernel
theorem dX9_back_10 : decode cX9_back 10 = .ok (.getfield 58, 3) := by decide +kernel
theorem dX9_back_13 : decode cX9_back 13 = .ok (.iload_n 1, 1) := by decide +kernel
theorem dX9_back_14 : decode cX9_back 14 = .ok (.baload, 1) := by decide +kernel
theorem dX9_back_15 : decode cX9_back 15 = .ok (.ifCond .ne 6, 3) := by decide +kernel
theorem dX9_back_18 : decode cX9_back 18 = .ok (.bipush (-2), 2) := by decide +kernel
theorem dX9_back_20 : decode cX9_back 20 = .ok (.ireturn, 1) := by decide +kernel
theorem dX9_back_21 : decode cX9_back 21 = .ok (.aload_n 0, 1) := by decide +kernel
theorem dX9_back_22 : decode cX9_back 22 = .ok (.getfield 10, 3) := by decide +kernel
theorem dX9_back_25 : decode cX9_back 25 = .ok (.aload_n 0, 1) := by decide +kernel
theorem dX9_back_26 : decode cX9_back 26 = .ok (.getfield 54, 3) := by decide +kernel
theorem dX9_back_29 : decode cX9_back 29 = .ok (.iload_n 1, 1) := by decide +kernel
theorem dX9_back_30 : decode cX9_back 30 = .ok (.aaload, 1) := by decide +kernel
theorem dX9_back_31 : decode cX9_back 31 = .ok (.invokevirtual 109, 3) := by decide +kernel
theorem dX9_back_34 : decode cX9_back 34 = .ok (.aload_n 0, 1) := by decide +kernel
theorem dX9_back_35 : decode cX9_back 35 = .ok (.getfield 21, 3) := by decide +kernel
theorem dX9_back_38 : decode cX9_back 38 = .ok (.invokevirtual 127, 3) := by decide +kernel
theorem dX9_back_41 : decode cX9_back 41 = .ok (.invokestatic 243, 3) := by decide +kernel
theorem dX9_back_44 : decode cX9_back 44 = .ok (.ireturn, 1) := by decide +kernel
theorem dX9_sheet_0 : decode cX9_sheet 0 = .ok (.iload_n 1, 1) := by decide +kernel
theorem dX9_sheet_1 : decode cX9_sheet 1 = .ok (.invokestatic 315, 3) := by decide +kernel
theorem dX9_sheet_4 : decode cX9_sheet 4 = .ok (.ifCond .eq 16, 3) := by decide +kernel
theorem dX9_sheet_7 : decode cX9_sheet 7 = .ok (.iload_n 2, 1) := by decide +kernel
theorem dX9_sheet_8 : decode cX9_sheet 8 = .ok (.invokestatic 318, 3) := by decide +kernel
theorem dX9_sheet_11 : decode cX9_sheet 11 = .ok (.ifCond .eq 9, 3) := by decide +kernel
theorem dX9_sheet_14 : decode cX9_sheet 14 = .ok (.iload_n 3, 1) := by decide +kernel
theorem dX9_sheet_15 : decode cX9_sheet 15 = .ok (.bipush 40, 2) := by decide +kernel
theorem dX9_sheet_17 : decode cX9_sheet 17 = .ok (.if_icmp .le 5, 3) := by decide +kernel
theorem dX9_sheet_20 : decode cX9_sheet 20 = .ok (.iconst (-1), 1) := by decide +kernel
theorem dX9_sheet_21 : decode cX9_sheet 21 = .ok (.ireturn, 1) := by decide +kernel
theorem dX9_sheet_22 : decode cX9_sheet 22 = .ok (.iload_n 3, 1) := by decide +kernel
theorem dX9_sheet_23 : decode cX9_sheet 23 = .ok (.ifCond .ge 6, 3) := by decide +kernel
theorem dX9_sheet_26 : decode cX9_sheet 26 = .ok (.bipush (-14), 2) := by decide +kernel
theorem dX9_sheet_28 : decode cX9_sheet 28 = .ok (.ireturn, 1) := by decide +kernel
theorem dX9_sheet_29 : decode cX9_sheet 29 = .ok (.aload_n 0, 1) := by decide +kernel
theorem dX9_sheet_30 : decode cX9_sheet 30 = .ok (.getfield 84, 3) := by decide +kernel
theorem dX9_sheet_33 : decode cX9_sheet 33 = .ok (.iload_n 1, 1) := by decide +kernel
theorem dX9_sheet_34 : decode cX9_sheet 34 = .ok (.aaload, 1) := by decide +kernel
theorem dX9_sheet_35 : decode cX9_sheet 35 = .ok (.iload_n 2, 1) := by decide +kernel
theorem dX9_sheet_36 : decode cX9_sheet 36 = .ok (.iload_n 3, 1) := by decide +kernel
theorem dX9_sheet_37 : decode cX9_sheet 37 = .ok (.invokevirtual 321, 3) := by decide +kernel
theorem dX9_sheet_40 : decode cX9_sheet 40 = .ok (.iconst 1, 1) := by decide +kernel
theorem dX9_sheet_41 : decode cX9_sheet 41 = .ok (.ireturn, 1) := by decide +kernel
theorem dX9_write_0 : decode cX9_write 0 = .ok (.iload_n 1, 1) := by decide +kernel
theorem dX9_write_1 : decode cX9_write 1 = .ok (.invokestatic 315, 3) := by decide +kernel
theorem dX9_write_4 : decode cX9_write 4 = .ok (.ifCond .ne 5, 3) := by decide +kernel
theorem dX9_write_7 : decode cX9_write 7 = .ok (.iconst (-1), 1) := by decide +kernel
theorem dX9_write_8 : decode cX9_write 8 = .ok (.ireturn, 1) := by decide +kernel
theorem dX9_write_9 : decode cX9_write 9 = .ok (.aload_n 0, 1) := by decide +kernel
theorem dX9_write_10 : decode cX9_write 10 = .ok (.getfield 84, 3) := by decide +kernel
theorem dX9_write_13 : decode cX9_write 13 = .ok (.iload_n 1, 1) := by decide +kernel
theorem dX9_write_14 : decode cX9_write 14 = .ok (.aaload, 1) := by decide +kernel
theorem dX9_write_15 : decode cX9_write 15 = .ok (.astore 4, 2) := by decide +kernel
theorem dX9_write_17 : decode cX9_write 17 = .ok (.aload 4, 2) := by decide +kernel
theorem dX9_write_19 : decode cX9_write 19 = .ok (.aload 4, 2) := by decide +kernel
theorem dX9_write_21 : decode cX9_write 21 = .ok (.getfield 324, 3) := by decide +kernel
theorem dX9_write_24 : decode cX9_write 24 = .ok (.iload_n 2, 1) := by decide +kernel
theorem dX9_write_25 : decode cX9_write 25 = .ok (.invokevirtual 327, 3) := by decide +kernel
theorem dX9_write_28 : decode cX9_write 28 = .ok (.istore 5, 2) := by decide +kernel
theorem dX9_write_30 : decode cX9_write 30 = .ok (.iload 5, 2) := by decide +kernel
theorem dX9_write_32 : decode cX9_write 32 = .ok (.ifCond .eq 9, 3) := by decide +kernel
theorem dX9_write_35 : decode cX9_write 35 = .ok (.bipush (-10), 2) := by decide +kernel
theorem dX9_write_37 : decode cX9_write 37 = .ok (.iload 5, 2) := by decide +kernel
theorem dX9_write_39 : decode cX9_write 39 = .ok (.isub, 1) := by decide +kernel
theorem dX9_write_40 : decode cX9_write 40 = .ok (.ireturn, 1) := by decide +kernel
theorem dX9_write_41 : decode cX9_write 41 = .ok (.aload 4, 2) := by decide +kernel
theorem dX9_write_43 : decode cX9_write 43 = .ok (.iload_n 2, 1) := by decide +kernel
theorem dX9_write_44 : decode cX9_write 44 = .ok (.iload_n 3, 1) := by decide +kernel
theorem dX9_write_45 : decode cX9_write 45 = .ok (.invokevirtual 330, 3) := by decide +kernel
theorem dX9_write_48 : decode cX9_write 48 = .ok (.iconst 1, 1) := by decide +kernel
theorem dX9_write_49 : decode cX9_write 49 = .ok (.ireturn, 1) := by decide +kernel
theorem dX9_read_0 : decode cX9_read 0 = .ok (.iload_n 1, 1) := by decide +kernel
theorem dX9_read_1 : decode cX9_read 1 = .ok (.invokestatic 315, 3) := by decide +kernel
theorem dX9_read_4 : decode cX9_read 4 = .ok (.ifCond .eq 22, 3) := by decide +kernel
theorem dX9_read_7 : decode cX9_read 7 = .ok (.iload_n 2, 1) := by decide +kernel
theorem dX9_read_8 : decode cX9_read 8 = .ok (.invokestatic 318, 3) := by decide +kernel
theorem dX9_read_11 : decode cX9_read 11 = .ok (.ifCond .eq 15, 3) := by decide +kernel
theorem dX9_read_14 : decode cX9_read 14 = .ok (.iload 4, 2) := by decide +kernel
theorem dX9_read_16 : decode cX9_read 16 = .ok (.ifCond .lt 10, 3) := by decide +kernel
theorem dX9_read_19 : decode cX9_read 19 = .ok (.iload 4, 2) := by decide +kernel
theorem dX9_read_21 : decode cX9_read 21 = .ok (.bipush 20, 2) := by decide +kernel
theorem dX9_read_23 : decode cX9_read 23 = .ok (.if_icmp .le 5, 3) := by decide +kernel
theorem dX9_read_26 : decode cX9_read 26 = .ok (.iconst (-1), 1) := by decide +kernel
theorem dX9_read_27 : decode cX9_read 27 = .ok (.ireturn, 1) := by decide +kernel
theorem dX9_read_28 : decode cX9_read 28 = .ok (.aload_n 0, 1) := by decide +kernel
theorem dX9_read_29 : decode cX9_read 29 = .ok (.getfield 84, 3) := by decide +kernel
theorem dX9_read_32 : decode cX9_read 32 = .ok (.iload_n 1, 1) := by decide +kernel
theorem dX9_read_33 : decode cX9_read 33 = .ok (.aaload, 1) := by decide +kernel
theorem dX9_read_34 : decode cX9_read 34 = .ok (.astore 5, 2) := by decide +kernel
theorem dX9_read_36 : decode cX9_read 36 = .ok (.aload_n 0, 1) := by decide +kernel
theorem dX9_read_37 : decode cX9_read 37 = .ok (.getfield 10, 3) := by decide +kernel
theorem dX9_read_40 : decode cX9_read 40 = .ok (.getfield 115, 3) := by decide +kernel
theorem dX9_read_43 : decode cX9_read 43 = .ok (.istore 6, 2) := by decide +kernel
theorem dX9_read_45 : decode cX9_read 45 = .ok (.iconst 0, 1) := by decide +kernel
theorem dX9_read_46 : decode cX9_read 46 = .ok (.istore 7, 2) := by decide +kernel
theorem dX9_read_48 : decode cX9_read 48 = .ok (.iconst 0, 1) := by decide +kernel
theorem dX9_read_49 : decode cX9_read 49 = .ok (.istore 8, 2) := by decide +kernel
theorem dX9_read_51 : decode cX9_read 51 = .ok (.iload 7, 2) := by decide +kernel
theorem dX9_read_53 : decode cX9_read 53 = .ok (.iload 4, 2) := by decide +kernel
theorem dX9_read_55 : decode cX9_read 55 = .ok (.if_icmp .ge 90, 3) := by decide +kernel
theorem dX9_read_58 : decode cX9_read 58 = .ok (.iload 8, 2) := by decide +kernel
theorem dX9_read_60 : decode cX9_read 60 = .ok (.ifCond .ne 85, 3) := by decide +kernel
theorem dX9_read_63 : decode cX9_read 63 = .ok (.aload 5, 2) := by decide +kernel
theorem dX9_read_65 : decode cX9_read 65 = .ok (.iload_n 2, 1) := by decide +kernel
theorem dX9_read_66 : decode cX9_read 66 = .ok (.iload_n 3, 1) := by decide +kernel
theorem dX9_read_67 : decode cX9_read 67 = .ok (.iconst 2, 1) := by decide +kernel
theorem dX9_read_68 : decode cX9_read 68 = .ok (.iload 7, 2) := by decide +kernel
theorem dX9_read_70 : decode cX9_read 70 = .ok (.imul, 1) := by decide +kernel
theorem dX9_read_71 : decode cX9_read 71 = .ok (.iadd, 1) := by decide +kernel
theorem dX9_read_72 : decode cX9_read 72 = .ok (.invokevirtual 333, 3) := by decide +kernel
theorem dX9_read_75 : decode cX9_read 75 = .ok (.istore 8, 2) := by decide +kernel
theorem dX9_read_77 : decode cX9_read 77 = .ok (.iload 8, 2) := by decide +kernel
theorem dX9_read_79 : decode cX9_read 79 = .ok (.ifCond .ne (-28), 3) := by decide +kernel
theorem dX9_read_82 : decode cX9_read 82 = .ok (.aload 5, 2) := by decide +kernel
theorem dX9_read_84 : decode cX9_read 84 = .ok (.iload_n 3, 1) := by decide +kernel
theorem dX9_read_85 : decode cX9_read 85 = .ok (.iconst 2, 1) := by decide +kernel
theorem dX9_read_86 : decode cX9_read 86 = .ok (.iload 7, 2) := by decide +kernel
theorem dX9_read_88 : decode cX9_read 88 = .ok (.imul, 1) := by decide +kernel
theorem dX9_read_89 : decode cX9_read 89 = .ok (.iadd, 1) := by decide +kernel
theorem dX9_read_90 : decode cX9_read 90 = .ok (.invokevirtual 336, 3) := by decide +kernel
theorem dX9_read_93 : decode cX9_read 93 = .ok (.istore 9, 2) := by decide +kernel
theorem dX9_read_95 : decode cX9_read 95 = .ok (.aload 5, 2) := by decide +kernel
theorem dX9_read_97 : decode cX9_read 97 = .ok (.iload_n 3, 1) := by decide +kernel
theorem dX9_read_98 : decode cX9_read 98 = .ok (.iconst 2, 1) := by decide +kernel
theorem dX9_read_99 : decode cX9_read 99 = .ok (.iload 7, 2) := by decide +kernel
theorem dX9_read_101 : decode cX9_read 101 = .ok (.imul, 1) := by decide +kernel
theorem dX9_read_102 : decode cX9_read 102 = .ok (.iadd, 1) := by decide +kernel
theorem dX9_read_103 : decode cX9_read 103 = .ok (.iconst 1, 1) := by decide +kernel
theorem dX9_read_104 : decode cX9_read 104 = .ok (.iadd, 1) := by decide +kernel
theorem dX9_read_105 : decode cX9_read 105 = .ok (.invokevirtual 336, 3) := by decide +kernel
theorem dX9_read_108 : decode cX9_read 108 = .ok (.istore 10, 2) := by decide +kernel
theorem dX9_read_110 : decode cX9_read 110 = .ok (.aload_n 0, 1) := by decide +kernel
theorem dX9_read_111 : decode cX9_read 111 = .ok (.getfield 10, 3) := by decide +kernel
theorem dX9_read_114 : decode cX9_read 114 = .ok (.iload 9, 2) := by decide +kernel
theorem dX9_read_116 : decode cX9_read 116 = .ok (.iload 10, 2) := by decide +kernel
theorem dX9_read_118 : decode cX9_read 118 = .ok (.invokevirtual 199, 3) := by decide +kernel
theorem dX9_read_121 : decode cX9_read 121 = .ok (.ifCond .ge 18, 3) := by decide +kernel
theorem dX9_read_124 : decode cX9_read 124 = .ok (.aload_n 0, 1) := by decide +kernel
theorem dX9_read_125 : decode cX9_read 125 = .ok (.getfield 10, 3) := by decide +kernel
theorem dX9_read_128 : decode cX9_read 128 = .ok (.iload 6, 2) := by decide +kernel
theorem dX9_read_130 : decode cX9_read 130 = .ok (.invokevirtual 339, 3) := by decide +kernel
theorem dX9_read_133 : decode cX9_read 133 = .ok (.bipush (-20), 2) := by decide +kernel
theorem dX9_read_135 : decode cX9_read 135 = .ok (.iload 7, 2) := by decide +kernel
theorem dX9_read_137 : decode cX9_read 137 = .ok (.isub, 1) := by decide +kernel
theorem dX9_read_138 : decode cX9_read 138 = .ok (.ireturn, 1) := by decide +kernel
theorem dX9_read_139 : decode cX9_read 139 = .ok (.iinc 7 1, 3) := by decide +kernel
theorem dX9_read_142 : decode cX9_read 142 = .ok (.goto (-91), 3) := by decide +kernel
theorem dX9_read_145 : decode cX9_read 145 = .ok (.aload_n 0, 1) := by decide +kernel
theorem dX9_read_146 : decode cX9_read 146 = .ok (.iload 8, 2) := by decide +kernel
theorem dX9_read_148 : decode cX9_read 148 = .ok (.putfield 89, 3) := by decide +kernel
theorem dX9_read_151 : decode cX9_read 151 = .ok (.iload 7, 2) := by decide +kernel
theorem dX9_read_153 : decode cX9_read 153 = .ok (.ireturn, 1) := by decide +kernel
theorem dX9_torn_0 : decode cX9_torn 0 = .ok (.aload_n 0, 1) := by decide +kernel
theorem dX9_torn_1 : decode cX9_torn 1 = .ok (.getfield 89, 3) := by decide +kernel
theorem dX9_torn_4 : decode cX9_torn 4 = .ok (.ireturn, 1) := by decide +kernel
theorem dX9_count_0 : decode cX9_count 0 = .ok (.iload_n 1, 1) := by decide +kernel
theorem dX9_count_1 : decode cX9_count 1 = .ok (.tableswitch 105 0 5 #[39, 47, 52, 60, 88, 97], 39) := by decide +kernel
theorem dX9_count_40 : decode cX9_count 40 = .ok (.aload_n 0, 1) := by decide +kernel
theorem dX9_count_41 : decode cX9_count 41 = .ok (.getfield 50, 3) := by decide +kernel
theorem dX9_count_44 : decode cX9_count 44 = .ok (.getfield 112, 3) := by decide +kernel
theorem dX9_count_47 : decode cX9_count 47 = .ok (.ireturn, 1) := by decide +kernel
theorem dX9_count_48 : decode cX9_count 48 = .ok (.aload_n 0, 1) := by decide +kernel
theorem dX9_count_49 : decode cX9_count 49 = .ok (.invokevirtual 342, 3) := by decide +kernel
theorem dX9_count_52 : decode cX9_count 52 = .ok (.ireturn, 1) := by decide +kernel
theorem dX9_count_53 : decode cX9_count 53 = .ok (.aload_n 0, 1) := by decide +kernel
theorem dX9_count_54 : decode cX9_count 54 = .ok (.getfield 65, 3) := by decide +kernel
theorem dX9_count_57 : decode cX9_count 57 = .ok (.getfield 96, 3) := by decide +kernel
theorem dX9_count_60 : decode cX9_count 60 = .ok (.ireturn, 1) := by decide +kernel
theorem dX9_count_61 : decode cX9_count 61 = .ok (.aload_n 0, 1) := by decide +kernel
theorem dX9_count_62 : decode cX9_count 62 = .ok (.getfield 84, 3) := by decide +kernel
theorem dX9_count_65 : decode cX9_count 65 = .ok (.iconst 0, 1) := by decide +kernel
theorem dX9_count_66 : decode cX9_count 66 = .ok (.aaload, 1) := by decide +kernel
theorem dX9_count_67 : decode cX9_count 67 = .ok (.getfield 324, 3) := by decide +kernel
theorem dX9_count_70 : decode cX9_count 70 = .ok (.iconst (-1), 1) := by decide +kernel
theorem dX9_count_71 : decode cX9_count 71 = .ok (.if_icmp .ne 8, 3) := by decide +kernel
theorem dX9_count_74 : decode cX9_count 74 = .ok (.bipush (-4), 2) := by decide +kernel
theorem dX9_count_76 : decode cX9_count 76 = .ok (.goto 12, 3) := by decide +kernel
theorem dX9_count_79 : decode cX9_count 79 = .ok (.aload_n 0, 1) := by decide +kernel
theorem dX9_count_80 : decode cX9_count 80 = .ok (.getfield 84, 3) := by decide +kernel
theorem dX9_count_83 : decode cX9_count 83 = .ok (.iconst 0, 1) := by decide +kernel
theorem dX9_count_84 : decode cX9_count 84 = .ok (.aaload, 1) := by decide +kernel
theorem dX9_count_85 : decode cX9_count 85 = .ok (.getfield 345, 3) := by decide +kernel
theorem dX9_count_88 : decode cX9_count 88 = .ok (.ireturn, 1) := by decide +kernel
theorem dX9_count_89 : decode cX9_count 89 = .ok (.aload_n 0, 1) := by decide +kernel
theorem dX9_count_90 : decode cX9_count 90 = .ok (.getfield 10, 3) := by decide +kernel
theorem dX9_count_93 : decode cX9_count 93 = .ok (.iconst 0, 1) := by decide +kernel
theorem dX9_count_94 : decode cX9_count 94 = .ok (.invokevirtual 346, 3) := by decide +kernel
theorem dX9_count_97 : decode cX9_count 97 = .ok (.ireturn, 1) := by decide +kernel
theorem dX9_count_98 : decode cX9_count 98 = .ok (.aload_n 0, 1) := by decide +kernel
theorem dX9_count_99 : decode cX9_count 99 = .ok (.getfield 10, 3) := by decide +kernel
theorem dX9_count_102 : decode cX9_count 102 = .ok (.invokevirtual 349, 3) := by decide +kernel
theorem dX9_count_105 : decode cX9_count 105 = .ok (.ireturn, 1) := by decide +kernel
theorem dX9_count_106 : decode cX9_count 106 = .ok (.iconst (-1), 1) := by decide +kernel
theorem dX9_count_107 : decode cX9_count 107 = .ok (.ireturn, 1) := by decide +kernel
theorem dX9_keptImages_0 : decode cX9_keptImages 0 = .ok (.iconst 0, 1) := by decide +kernel
theorem dX9_keptImages_1 : decode cX9_keptImages 1 = .ok (.istore_n 1, 1) := by decide +kernel
theorem dX9_keptImages_2 : decode cX9_keptImages 2 = .ok (.iconst 0, 1) := by decide +kernel
theorem dX9_keptImages_3 : decode cX9_keptImages 3 = .ok (.istore_n 2, 1) := by decide +kernel
theorem dX9_keptImages_4 : decode cX9_keptImages 4 = .ok (.iload_n 2, 1) := by decide +kernel
theorem dX9_keptImages_5 : decode cX9_keptImages 5 = .ok (.iconst 2, 1) := by decide +kernel
theorem dX9_keptImages_6 : decode cX9_keptImages 6 = .ok (.if_icmp .ge 21, 3) := by decide +kernel
theorem dX9_keptImages_9 : decode cX9_keptImages 9 = .ok (.aload_n 0, 1) := by decide +kernel
theorem dX9_keptImages_10 : decode cX9_keptImages 10 = .ok (.getfield 58, 3) := by decide +kernel
theorem dX9_keptImages_13 : decode cX9_keptImages 13 = .ok (.iload_n 2, 1) := by decide +kernel
theorem dX9_keptImages_14 : decode cX9_keptImages 14 = .ok (.baload, 1) := by decide +kernel
theorem dX9_keptImages_15 : decode cX9_keptImages 15 = .ok (.ifCond .eq 6, 3) := by decide +kernel
theorem dX9_keptImages_18 : decode cX9_keptImages 18 = .ok (.iinc 1 1, 3) := by decide +kernel
theorem dX9_keptImages_21 : decode cX9_keptImages 21 = .ok (.iinc 2 1, 3) := by decide +kernel
theorem dX9_keptImages_24 : decode cX9_keptImages 24 = .ok (.goto (-20), 3) := by decide +kernel
theorem dX9_keptImages_27 : decode cX9_keptImages 27 = .ok (.iload_n 1, 1) := by decide +kernel
theorem dX9_keptImages_28 : decode cX9_keptImages 28 = .ok (.ireturn, 1) := by decide +kernel
theorem dX9_canLetGo_0 : decode cX9_canLetGo 0 = .ok (.aload_n 0, 1) := by decide +kernel
theorem dX9_canLetGo_1 : decode cX9_canLetGo 1 = .ok (.getfield 10, 3) := by decide +kernel
theorem dX9_canLetGo_4 : decode cX9_canLetGo 4 = .ok (.iload_n 1, 1) := by decide +kernel
theorem dX9_canLetGo_5 : decode cX9_canLetGo 5 = .ok (.invokevirtual 153, 3) := by decide +kernel
theorem dX9_canLetGo_8 : decode cX9_canLetGo 8 = .ok (.ifCond .eq 14, 3) := by decide +kernel
theorem dX9_canLetGo_11 : decode cX9_canLetGo 11 = .ok (.iload_n 2, 1) := by decide +kernel
theorem dX9_canLetGo_12 : decode cX9_canLetGo 12 = .ok (.invokestatic 352, 3) := by decide +kernel
theorem dX9_canLetGo_15 : decode cX9_canLetGo 15 = .ok (.ifCond .eq 7, 3) := by decide +kernel
theorem dX9_canLetGo_18 : decode cX9_canLetGo 18 = .ok (.iconst 1, 1) := by decide +kernel
theorem dX9_canLetGo_19 : decode cX9_canLetGo 19 = .ok (.goto 4, 3) := by decide +kernel
theorem dX9_canLetGo_22 : decode cX9_canLetGo 22 = .ok (.iconst 0, 1) := by decide +kernel
theorem dX9_canLetGo_23 : decode cX9_canLetGo 23 = .ok (.ireturn, 1) := by decide +kernel
theorem dX9_isRag_0 : decode cX9_isRag 0 = .ok (.iload_n 0, 1) := by decide +kernel
theorem dX9_isRag_1 : decode cX9_isRag 1 = .ok (.ifCond .lt 12, 3) := by decide +kernel
theorem dX9_isRag_4 : decode cX9_isRag 4 = .ok (.iload_n 0, 1) := by decide +kernel
theorem dX9_isRag_5 : decode cX9_isRag 5 = .ok (.iconst 4, 1) := by decide +kernel
theorem dX9_isRag_6 : decode cX9_isRag 6 = .ok (.if_icmp .ge 7, 3) := by decide +kernel
theorem dX9_isRag_9 : decode cX9_isRag 9 = .ok (.iconst 1, 1) := by decide +kernel
theorem dX9_isRag_10 : decode cX9_isRag 10 = .ok (.goto 4, 3) := by decide +kernel
theorem dX9_isRag_13 : decode cX9_isRag 13 = .ok (.iconst 0, 1) := by decide +kernel
theorem dX9_isRag_14 : decode cX9_isRag 14 = .ok (.ireturn, 1) := by decide +kernel
theorem dX9_isHalf_0 : decode cX9_isHalf 0 = .ok (.iload_n 0, 1) := by decide +kernel
theorem dX9_isHalf_1 : decode cX9_isHalf 1 = .ok (.ifCond .eq 8, 3) := by decide +kernel
theorem dX9_isHalf_4 : decode cX9_isHalf 4 = .ok (.iload_n 0, 1) := by decide +kernel
theorem dX9_isHalf_5 : decode cX9_isHalf 5 = .ok (.iconst 1, 1) := by decide +kernel
theorem dX9_isHalf_6 : decode cX9_isHalf 6 = .ok (.if_icmp .ne 7, 3) := by decide +kernel
theorem dX9_isHalf_9 : decode cX9_isHalf 9 = .ok (.iconst 1, 1) := by decide +kernel
theorem dX9_isHalf_10 : decode cX9_isHalf 10 = .ok (.goto 4, 3) := by decide +kernel
theorem dX9_isHalf_13 : decode cX9_isHalf 13 = .ok (.iconst 0, 1) := by decide +kernel
theorem dX9_isHalf_14 : decode cX9_isHalf 14 = .ok (.ireturn, 1) := by decide +kernel
theorem dX9_isOutOfTen_0 : decode cX9_isOutOfTen 0 = .ok (.iload_n 0, 1) := by decide +kernel
theorem dX9_isOutOfTen_1 : decode cX9_isOutOfTen 1 = .ok (.ifCond .lt 13, 3) := by decide +kernel
theorem dX9_isOutOfTen_4 : decode cX9_isOutOfTen 4 = .ok (.iload_n 0, 1) := by decide +kernel
theorem dX9_isOutOfTen_5 : decode cX9_isOutOfTen 5 = .ok (.bipush 10, 2) := by decide +kernel
theorem dX9_isOutOfTen_7 : decode cX9_isOutOfTen 7 = .ok (.if_icmp .gt 7, 3) := by decide +kernel
theorem dX9_isOutOfTen_10 : decode cX9_isOutOfTen 10 = .ok (.iconst 1, 1) := by decide +kernel
theorem dX9_isOutOfTen_11 : decode cX9_isOutOfTen 11 = .ok (.goto 4, 3) := by decide +kernel
theorem dX9_isOutOfTen_14 : decode cX9_isOutOfTen 14 = .ok (.iconst 0, 1) := by decide +kernel
theorem dX9_isOutOfTen_15 : decode cX9_isOutOfTen 15 = .ok (.ireturn, 1) := by decide +kernel
theorem dX9_isImage_0 : decode cX9_isImage 0 = .ok (.iload_n 0, 1) := by decide +kernel
theorem dX9_isImage_1 : decode cX9_isImage 1 = .ok (.ifCond .lt 12, 3) := by decide +kernel
theorem dX9_isImage_4 : decode cX9_isImage 4 = .ok (.iload_n 0, 1) := by decide +kernel
theorem dX9_isImage_5 : decode cX9_isImage 5 = .ok (.iconst 2, 1) := by decide +kernel
theorem dX9_isImage_6 : decode cX9_isImage 6 = .ok (.if_icmp .ge 7, 3) := by decide +kernel
theorem dX9_isImage_9 : decode cX9_isImage 9 = .ok (.iconst 1, 1) := by decide +kernel
theorem dX9_isImage_10 : decode cX9_isImage 10 = .ok (.goto 4, 3) := by decide +kernel
theorem dX9_isImage_13 : decode cX9_isImage 13 = .ok (.iconst 0, 1) := by decide +kernel
theorem dX9_isImage_14 : decode cX9_isImage 14 = .ok (.ireturn, 1) := by decide +kernel
theorem dX9_isSheet_0 : decode cX9_isSheet 0 = .ok (.iload_n 0, 1) := by decide +kernel
theorem dX9_isSheet_1 : decode cX9_isSheet 1 = .ok (.ifCond .lt 12, 3) := by decide +kernel
theorem dX9_isSheet_4 : decode cX9_isSheet 4 = .ok (.iload_n 0, 1) := by decide +kernel
theorem dX9_isSheet_5 : decode cX9_isSheet 5 = .ok (.iconst 4, 1) := by decide +kernel
theorem dX9_isSheet_6 : decode cX9_isSheet 6 = .ok (.if_icmp .ge 7, 3) := by decide +kernel
theorem dX9_isSheet_9 : decode cX9_isSheet 9 = .ok (.iconst 1, 1) := by decide +kernel
theorem dX9_isSheet_10 : decode cX9_isSheet 10 = .ok (.goto 4, 3) := by decide +kernel
theorem dX9_isSheet_13 : decode cX9_isSheet 13 = .ok (.iconst 0, 1) := by decide +kernel
theorem dX9_isSheet_14 : decode cX9_isSheet 14 = .ok (.ireturn, 1) := by decide +kernel
theorem dX9_isLane_0 : decode cX9_isLane 0 = .ok (.iload_n 0, 1) := by decide +kernel
theorem dX9_isLane_1 : decode cX9_isLane 1 = .ok (.ifCond .lt 12, 3) := by decide +kernel
theorem dX9_isLane_4 : decode cX9_isLane 4 = .ok (.iload_n 0, 1) := by decide +kernel
theorem dX9_isLane_5 : decode cX9_isLane 5 = .ok (.iconst 3, 1) := by decide +kernel
theorem dX9_isLane_6 : decode cX9_isLane 6 = .ok (.if_icmp .ge 7, 3) := by decide +kernel
theorem dX9_isLane_9 : decode cX9_isLane 9 = .ok (.iconst 1, 1) := by decide +kernel
theorem dX9_isLane_10 : decode cX9_isLane 10 = .ok (.goto 4, 3) := by decide +kernel
theorem dX9_isLane_13 : decode cX9_isLane 13 = .ok (.iconst 0, 1) := by decide +kernel
theorem dX9_isLane_14 : decode cX9_isLane 14 = .ok (.ireturn, 1) := by decide +kernel
theorem dX9_lowestTerms_0 : decode cX9_lowestTerms 0 = .ok (.ldc2_w 355, 3) := by decide +kernel
theorem dX9_lowestTerms_3 : decode cX9_lowestTerms 3 = .ok (.lstore_n 3, 1) := by decide +kernel
theorem dX9_lowestTerms_4 : decode cX9_lowestTerms 4 = .ok (.lload_n 0, 1) := by decide +kernel
theorem dX9_lowestTerms_5 : decode cX9_lowestTerms 5 = .ok (.lstore 5, 2) := by decide +kernel
theorem dX9_lowestTerms_7 : decode cX9_lowestTerms 7 = .ok (.iconst 0, 1) := by decide +kernel
theorem dX9_lowestTerms_8 : decode cX9_lowestTerms 8 = .ok (.istore 7, 2) := by decide +kernel
theorem dX9_lowestTerms_10 : decode cX9_lowestTerms 10 = .ok (.iload 7, 2) := by decide +kernel
theorem dX9_lowestTerms_12 : decode cX9_lowestTerms 12 = .ok (.bipush 100, 2) := by decide +kernel
theorem dX9_lowestTerms_14 : decode cX9_lowestTerms 14 = .ok (.if_icmp .ge 29, 3) := by decide +kernel
theorem dX9_lowestTerms_17 : decode cX9_lowestTerms 17 = .ok (.lload 5, 2) := by decide +kernel
theorem dX9_lowestTerms_19 : decode cX9_lowestTerms 19 = .ok (.lconst 0, 1) := by decide +kernel
theorem dX9_lowestTerms_20 : decode cX9_lowestTerms 20 = .ok (.lcmp, 1) := by decide +kernel
theorem dX9_lowestTerms_21 : decode cX9_lowestTerms 21 = .ok (.ifCond .eq 22, 3) := by decide +kernel
theorem dX9_lowestTerms_24 : decode cX9_lowestTerms 24 = .ok (.lload_n 3, 1) := by decide +kernel
theorem dX9_lowestTerms_25 : decode cX9_lowestTerms 25 = .ok (.lload 5, 2) := by decide +kernel
theorem dX9_lowestTerms_27 : decode cX9_lowestTerms 27 = .ok (.lrem, 1) := by decide +kernel
theorem dX9_lowestTerms_28 : decode cX9_lowestTerms 28 = .ok (.lstore 8, 2) := by decide +kernel
theorem dX9_lowestTerms_30 : decode cX9_lowestTerms 30 = .ok (.lload 5, 2) := by decide +kernel
theorem dX9_lowestTerms_32 : decode cX9_lowestTerms 32 = .ok (.lstore_n 3, 1) := by decide +kernel
theorem dX9_lowestTerms_33 : decode cX9_lowestTerms 33 = .ok (.lload 8, 2) := by decide +kernel
theorem dX9_lowestTerms_35 : decode cX9_lowestTerms 35 = .ok (.lstore 5, 2) := by decide +kernel
theorem dX9_lowestTerms_37 : decode cX9_lowestTerms 37 = .ok (.iinc 7 1, 3) := by decide +kernel
theorem dX9_lowestTerms_40 : decode cX9_lowestTerms 40 = .ok (.goto (-30), 3) := by decide +kernel
theorem dX9_lowestTerms_43 : decode cX9_lowestTerms 43 = .ok (.lload_n 3, 1) := by decide +kernel
theorem dX9_lowestTerms_44 : decode cX9_lowestTerms 44 = .ok (.lconst 0, 1) := by decide +kernel
theorem dX9_lowestTerms_45 : decode cX9_lowestTerms 45 = .ok (.lcmp, 1) := by decide +kernel
theorem dX9_lowestTerms_46 : decode cX9_lowestTerms 46 = .ok (.ifCond .gt 7, 3) := by decide +kernel
theorem dX9_lowestTerms_49 : decode cX9_lowestTerms 49 = .ok (.ldc2_w 279, 3) := by decide +kernel
theorem dX9_lowestTerms_52 : decode cX9_lowestTerms 52 = .ok (.lreturn, 1) := by decide +kernel
theorem dX9_lowestTerms_53 : decode cX9_lowestTerms 53 = .ok (.iload_n 2, 1) := by decide +kernel
theorem dX9_lowestTerms_54 : decode cX9_lowestTerms 54 = .ok (.ifCond .ne 9, 3) := by decide +kernel
theorem dX9_lowestTerms_57 : decode cX9_lowestTerms 57 = .ok (.lload_n 0, 1) := by decide +kernel
theorem dX9_lowestTerms_58 : decode cX9_lowestTerms 58 = .ok (.lload_n 3, 1) := by decide +kernel
theorem dX9_lowestTerms_59 : decode cX9_lowestTerms 59 = .ok (.ldiv, 1) := by decide +kernel
theorem dX9_lowestTerms_60 : decode cX9_lowestTerms 60 = .ok (.goto 8, 3) := by decide +kernel
theorem dX9_lowestTerms_63 : decode cX9_lowestTerms 63 = .ok (.ldc2_w 355, 3) := by decide +kernel
theorem dX9_lowestTerms_66 : decode cX9_lowestTerms 66 = .ok (.lload_n 3, 1) := by decide +kernel
theorem dX9_lowestTerms_67 : decode cX9_lowestTerms 67 = .ok (.ldiv, 1) := by decide +kernel
theorem dX9_lowestTerms_68 : decode cX9_lowestTerms 68 = .ok (.lreturn, 1) := by decide +kernel
theorem dJ6_numberOfTrailingZeros_0f7a4_0 : decode cJ6_numberOfTrailingZeros_0f7a4 0 = .ok (.iload_n 0, 1) := by decide +kernel
theorem dJ6_numberOfTrailingZeros_0f7a4_1 : decode cJ6_numberOfTrailingZeros_0f7a4 1 = .ok (.iconst (-1), 1) := by decide +kernel
theorem dJ6_numberOfTrailingZeros_0f7a4_2 : decode cJ6_numberOfTrailingZeros_0f7a4 2 = .ok (.ixor, 1) := by decide +kernel
theorem dJ6_numberOfTrailingZeros_0f7a4_3 : decode cJ6_numberOfTrailingZeros_0f7a4 3 = .ok (.iload_n 0, 1) := by decide +kernel
theorem dJ6_numberOfTrailingZeros_0f7a4_4 : decode cJ6_numberOfTrailingZeros_0f7a4 4 = .ok (.iconst 1, 1) := by decide +kernel
theorem dJ6_numberOfTrailingZeros_0f7a4_5 : decode cJ6_numberOfTrailingZeros_0f7a4 5 = .ok (.isub, 1) := by decide +kernel
theorem dJ6_numberOfTrailingZeros_0f7a4_6 : decode cJ6_numberOfTrailingZeros_0f7a4 6 = .ok (.iand, 1) := by decide +kernel
theorem dJ6_numberOfTrailingZeros_0f7a4_7 : decode cJ6_numberOfTrailingZeros_0f7a4 7 = .ok (.istore_n 0, 1) := by decide +kernel
theorem dJ6_numberOfTrailingZeros_0f7a4_8 : decode cJ6_numberOfTrailingZeros_0f7a4 8 = .ok (.iload_n 0, 1) := by decide +kernel
theorem dJ6_numberOfTrailingZeros_0f7a4_9 : decode cJ6_numberOfTrailingZeros_0f7a4 9 = .ok (.ifCond .gt 8, 3) := by decide +kernel
theorem dJ6_numberOfTrailingZeros_0f7a4_12 : decode cJ6_numberOfTrailingZeros_0f7a4 12 = .ok (.iload_n 0, 1) := by decide +kernel
theorem dJ6_numberOfTrailingZeros_0f7a4_13 : decode cJ6_numberOfTrailingZeros_0f7a4 13 = .ok (.bipush 32, 2) := by decide +kernel
theorem dJ6_numberOfTrailingZeros_0f7a4_15 : decode cJ6_numberOfTrailingZeros_0f7a4 15 = .ok (.iand, 1) := by decide +kernel
theorem dJ6_numberOfTrailingZeros_0f7a4_16 : decode cJ6_numberOfTrailingZeros_0f7a4 16 = .ok (.ireturn, 1) := by decide +kernel
theorem dJ6_numberOfTrailingZeros_0f7a4_17 : decode cJ6_numberOfTrailingZeros_0f7a4 17 = .ok (.iconst 1, 1) := by decide +kernel
theorem dJ6_numberOfTrailingZeros_0f7a4_18 : decode cJ6_numberOfTrailingZeros_0f7a4 18 = .ok (.istore_n 1, 1) := by decide +kernel
theorem dJ6_numberOfTrailingZeros_0f7a4_19 : decode cJ6_numberOfTrailingZeros_0f7a4 19 = .ok (.iload_n 0, 1) := by decide +kernel
theorem dJ6_numberOfTrailingZeros_0f7a4_20 : decode cJ6_numberOfTrailingZeros_0f7a4 20 = .ok (.ldc_w 264, 3) := by decide +kernel
theorem dJ6_numberOfTrailingZeros_0f7a4_23 : decode cJ6_numberOfTrailingZeros_0f7a4 23 = .ok (.if_icmp .le 11, 3) := by decide +kernel
theorem dJ6_numberOfTrailingZeros_0f7a4_26 : decode cJ6_numberOfTrailingZeros_0f7a4 26 = .ok (.iinc 1 16, 3) := by decide +kernel
theorem dJ6_numberOfTrailingZeros_0f7a4_29 : decode cJ6_numberOfTrailingZeros_0f7a4 29 = .ok (.iload_n 0, 1) := by decide +kernel
theorem dJ6_numberOfTrailingZeros_0f7a4_30 : decode cJ6_numberOfTrailingZeros_0f7a4 30 = .ok (.bipush 16, 2) := by decide +kernel
theorem dJ6_numberOfTrailingZeros_0f7a4_32 : decode cJ6_numberOfTrailingZeros_0f7a4 32 = .ok (.iushr, 1) := by decide +kernel
theorem dJ6_numberOfTrailingZeros_0f7a4_33 : decode cJ6_numberOfTrailingZeros_0f7a4 33 = .ok (.istore_n 0, 1) := by decide +kernel
theorem dJ6_numberOfTrailingZeros_0f7a4_34 : decode cJ6_numberOfTrailingZeros_0f7a4 34 = .ok (.iload_n 0, 1) := by decide +kernel
theorem dJ6_numberOfTrailingZeros_0f7a4_35 : decode cJ6_numberOfTrailingZeros_0f7a4 35 = .ok (.sipush 256, 3) := by decide +kernel
theorem dJ6_numberOfTrailingZeros_0f7a4_38 : decode cJ6_numberOfTrailingZeros_0f7a4 38 = .ok (.if_icmp .le 11, 3) := by decide +kernel
theorem dJ6_numberOfTrailingZeros_0f7a4_41 : decode cJ6_numberOfTrailingZeros_0f7a4 41 = .ok (.iinc 1 8, 3) := by decide +kernel
theorem dJ6_numberOfTrailingZeros_0f7a4_44 : decode cJ6_numberOfTrailingZeros_0f7a4 44 = .ok (.iload_n 0, 1) := by decide +kernel
theorem dJ6_numberOfTrailingZeros_0f7a4_45 : decode cJ6_numberOfTrailingZeros_0f7a4 45 = .ok (.bipush 8, 2) := by decide +kernel
theorem dJ6_numberOfTrailingZeros_0f7a4_47 : decode cJ6_numberOfTrailingZeros_0f7a4 47 = .ok (.iushr, 1) := by decide +kernel
theorem dJ6_numberOfTrailingZeros_0f7a4_48 : decode cJ6_numberOfTrailingZeros_0f7a4 48 = .ok (.istore_n 0, 1) := by decide +kernel
theorem dJ6_numberOfTrailingZeros_0f7a4_49 : decode cJ6_numberOfTrailingZeros_0f7a4 49 = .ok (.iload_n 0, 1) := by decide +kernel
theorem dJ6_numberOfTrailingZeros_0f7a4_50 : decode cJ6_numberOfTrailingZeros_0f7a4 50 = .ok (.bipush 16, 2) := by decide +kernel
theorem dJ6_numberOfTrailingZeros_0f7a4_52 : decode cJ6_numberOfTrailingZeros_0f7a4 52 = .ok (.if_icmp .le 10, 3) := by decide +kernel
theorem dJ6_numberOfTrailingZeros_0f7a4_55 : decode cJ6_numberOfTrailingZeros_0f7a4 55 = .ok (.iinc 1 4, 3) := by decide +kernel
theorem dJ6_numberOfTrailingZeros_0f7a4_58 : decode cJ6_numberOfTrailingZeros_0f7a4 58 = .ok (.iload_n 0, 1) := by decide +kernel
theorem dJ6_numberOfTrailingZeros_0f7a4_59 : decode cJ6_numberOfTrailingZeros_0f7a4 59 = .ok (.iconst 4, 1) := by decide +kernel
theorem dJ6_numberOfTrailingZeros_0f7a4_60 : decode cJ6_numberOfTrailingZeros_0f7a4 60 = .ok (.iushr, 1) := by decide +kernel
theorem dJ6_numberOfTrailingZeros_0f7a4_61 : decode cJ6_numberOfTrailingZeros_0f7a4 61 = .ok (.istore_n 0, 1) := by decide +kernel
theorem dJ6_numberOfTrailingZeros_0f7a4_62 : decode cJ6_numberOfTrailingZeros_0f7a4 62 = .ok (.iload_n 0, 1) := by decide +kernel
theorem dJ6_numberOfTrailingZeros_0f7a4_63 : decode cJ6_numberOfTrailingZeros_0f7a4 63 = .ok (.iconst 4, 1) := by decide +kernel
theorem dJ6_numberOfTrailingZeros_0f7a4_64 : decode cJ6_numberOfTrailingZeros_0f7a4 64 = .ok (.if_icmp .le 10, 3) := by decide +kernel
theorem dJ6_numberOfTrailingZeros_0f7a4_67 : decode cJ6_numberOfTrailingZeros_0f7a4 67 = .ok (.iinc 1 2, 3) := by decide +kernel
theorem dJ6_numberOfTrailingZeros_0f7a4_70 : decode cJ6_numberOfTrailingZeros_0f7a4 70 = .ok (.iload_n 0, 1) := by decide +kernel
theorem dJ6_numberOfTrailingZeros_0f7a4_71 : decode cJ6_numberOfTrailingZeros_0f7a4 71 = .ok (.iconst 2, 1) := by decide +kernel
theorem dJ6_numberOfTrailingZeros_0f7a4_72 : decode cJ6_numberOfTrailingZeros_0f7a4 72 = .ok (.iushr, 1) := by decide +kernel
theorem dJ6_numberOfTrailingZeros_0f7a4_73 : decode cJ6_numberOfTrailingZeros_0f7a4 73 = .ok (.istore_n 0, 1) := by decide +kernel
theorem dJ6_numberOfTrailingZeros_0f7a4_74 : decode cJ6_numberOfTrailingZeros_0f7a4 74 = .ok (.iload_n 1, 1) := by decide +kernel
theorem dJ6_numberOfTrailingZeros_0f7a4_75 : decode cJ6_numberOfTrailingZeros_0f7a4 75 = .ok (.iload_n 0, 1) := by decide +kernel
theorem dJ6_numberOfTrailingZeros_0f7a4_76 : decode cJ6_numberOfTrailingZeros_0f7a4 76 = .ok (.iconst 1, 1) := by decide +kernel
theorem dJ6_numberOfTrailingZeros_0f7a4_77 : decode cJ6_numberOfTrailingZeros_0f7a4 77 = .ok (.iushr, 1) := by decide +kernel
theorem dJ6_numberOfTrailingZeros_0f7a4_78 : decode cJ6_numberOfTrailingZeros_0f7a4 78 = .ok (.iadd, 1) := by decide +kernel
theorem dJ6_numberOfTrailingZeros_0f7a4_79 : decode cJ6_numberOfTrailingZeros_0f7a4 79 = .ok (.ireturn, 1) := by decide +kernel
theorem dJ6_bitCount_0f7a4_0 : decode cJ6_bitCount_0f7a4 0 = .ok (.iload_n 0, 1) := by decide +kernel
theorem dJ6_bitCount_0f7a4_1 : decode cJ6_bitCount_0f7a4 1 = .ok (.iload_n 0, 1) := by decide +kernel
theorem dJ6_bitCount_0f7a4_2 : decode cJ6_bitCount_0f7a4 2 = .ok (.iconst 1, 1) := by decide +kernel
theorem dJ6_bitCount_0f7a4_3 : decode cJ6_bitCount_0f7a4 3 = .ok (.iushr, 1) := by decide +kernel
theorem dJ6_bitCount_0f7a4_4 : decode cJ6_bitCount_0f7a4 4 = .ok (.ldc_w 265, 3) := by decide +kernel
theorem dJ6_bitCount_0f7a4_7 : decode cJ6_bitCount_0f7a4 7 = .ok (.iand, 1) := by decide +kernel
theorem dJ6_bitCount_0f7a4_8 : decode cJ6_bitCount_0f7a4 8 = .ok (.isub, 1) := by decide +kernel
theorem dJ6_bitCount_0f7a4_9 : decode cJ6_bitCount_0f7a4 9 = .ok (.istore_n 0, 1) := by decide +kernel
theorem dJ6_bitCount_0f7a4_10 : decode cJ6_bitCount_0f7a4 10 = .ok (.iload_n 0, 1) := by decide +kernel
theorem dJ6_bitCount_0f7a4_11 : decode cJ6_bitCount_0f7a4 11 = .ok (.ldc_w 266, 3) := by decide +kernel
theorem dJ6_bitCount_0f7a4_14 : decode cJ6_bitCount_0f7a4 14 = .ok (.iand, 1) := by decide +kernel
theorem dJ6_bitCount_0f7a4_15 : decode cJ6_bitCount_0f7a4 15 = .ok (.iload_n 0, 1) := by decide +kernel
theorem dJ6_bitCount_0f7a4_16 : decode cJ6_bitCount_0f7a4 16 = .ok (.iconst 2, 1) := by decide +kernel
theorem dJ6_bitCount_0f7a4_17 : decode cJ6_bitCount_0f7a4 17 = .ok (.iushr, 1) := by decide +kernel
theorem dJ6_bitCount_0f7a4_18 : decode cJ6_bitCount_0f7a4 18 = .ok (.ldc_w 266, 3) := by decide +kernel
theorem dJ6_bitCount_0f7a4_21 : decode cJ6_bitCount_0f7a4 21 = .ok (.iand, 1) := by decide +kernel
theorem dJ6_bitCount_0f7a4_22 : decode cJ6_bitCount_0f7a4 22 = .ok (.iadd, 1) := by decide +kernel
theorem dJ6_bitCount_0f7a4_23 : decode cJ6_bitCount_0f7a4 23 = .ok (.istore_n 0, 1) := by decide +kernel
theorem dJ6_bitCount_0f7a4_24 : decode cJ6_bitCount_0f7a4 24 = .ok (.iload_n 0, 1) := by decide +kernel
theorem dJ6_bitCount_0f7a4_25 : decode cJ6_bitCount_0f7a4 25 = .ok (.iload_n 0, 1) := by decide +kernel
theorem dJ6_bitCount_0f7a4_26 : decode cJ6_bitCount_0f7a4 26 = .ok (.iconst 4, 1) := by decide +kernel
theorem dJ6_bitCount_0f7a4_27 : decode cJ6_bitCount_0f7a4 27 = .ok (.iushr, 1) := by decide +kernel
theorem dJ6_bitCount_0f7a4_28 : decode cJ6_bitCount_0f7a4 28 = .ok (.iadd, 1) := by decide +kernel
theorem dJ6_bitCount_0f7a4_29 : decode cJ6_bitCount_0f7a4 29 = .ok (.ldc_w 267, 3) := by decide +kernel
theorem dJ6_bitCount_0f7a4_32 : decode cJ6_bitCount_0f7a4 32 = .ok (.iand, 1) := by decide +kernel
theorem dJ6_bitCount_0f7a4_33 : decode cJ6_bitCount_0f7a4 33 = .ok (.istore_n 0, 1) := by decide +kernel
theorem dJ6_bitCount_0f7a4_34 : decode cJ6_bitCount_0f7a4 34 = .ok (.iload_n 0, 1) := by decide +kernel
theorem dJ6_bitCount_0f7a4_35 : decode cJ6_bitCount_0f7a4 35 = .ok (.iload_n 0, 1) := by decide +kernel
theorem dJ6_bitCount_0f7a4_36 : decode cJ6_bitCount_0f7a4 36 = .ok (.bipush 8, 2) := by decide +kernel
theorem dJ6_bitCount_0f7a4_38 : decode cJ6_bitCount_0f7a4 38 = .ok (.iushr, 1) := by decide +kernel
theorem dJ6_bitCount_0f7a4_39 : decode cJ6_bitCount_0f7a4 39 = .ok (.iadd, 1) := by decide +kernel
theorem dJ6_bitCount_0f7a4_40 : decode cJ6_bitCount_0f7a4 40 = .ok (.istore_n 0, 1) := by decide +kernel
theorem dJ6_bitCount_0f7a4_41 : decode cJ6_bitCount_0f7a4 41 = .ok (.iload_n 0, 1) := by decide +kernel
theorem dJ6_bitCount_0f7a4_42 : decode cJ6_bitCount_0f7a4 42 = .ok (.iload_n 0, 1) := by decide +kernel
theorem dJ6_bitCount_0f7a4_43 : decode cJ6_bitCount_0f7a4 43 = .ok (.bipush 16, 2) := by decide +kernel
theorem dJ6_bitCount_0f7a4_45 : decode cJ6_bitCount_0f7a4 45 = .ok (.iushr, 1) := by decide +kernel
theorem dJ6_bitCount_0f7a4_46 : decode cJ6_bitCount_0f7a4 46 = .ok (.iadd, 1) := by decide +kernel
theorem dJ6_bitCount_0f7a4_47 : decode cJ6_bitCount_0f7a4 47 = .ok (.istore_n 0, 1) := by decide +kernel
theorem dJ6_bitCount_0f7a4_48 : decode cJ6_bitCount_0f7a4 48 = .ok (.iload_n 0, 1) := by decide +kernel
theorem dJ6_bitCount_0f7a4_49 : decode cJ6_bitCount_0f7a4 49 = .ok (.bipush 63, 2) := by decide +kernel
theorem dJ6_bitCount_0f7a4_51 : decode cJ6_bitCount_0f7a4 51 = .ok (.iand, 1) := by decide +kernel
theorem dJ6_bitCount_0f7a4_52 : decode cJ6_bitCount_0f7a4 52 = .ok (.ireturn, 1) := by decide +kernel
theorem dJ9_max_7cf53_0 : decode cJ9_max_7cf53 0 = .ok (.iload_n 0, 1) := by decide +kernel
theorem dJ9_max_7cf53_1 : decode cJ9_max_7cf53 1 = .ok (.iload_n 1, 1) := by decide +kernel
theorem dJ9_max_7cf53_2 : decode cJ9_max_7cf53 2 = .ok (.if_icmp .lt 7, 3) := by decide +kernel
theorem dJ9_max_7cf53_5 : decode cJ9_max_7cf53 5 = .ok (.iload_n 0, 1) := by decide +kernel
theorem dJ9_max_7cf53_6 : decode cJ9_max_7cf53 6 = .ok (.goto 4, 3) := by decide +kernel
theorem dJ9_max_7cf53_9 : decode cJ9_max_7cf53 9 = .ok (.iload_n 1, 1) := by decide +kernel
theorem dJ9_max_7cf53_10 : decode cJ9_max_7cf53 10 = .ok (.ireturn, 1) := by decide +kernel
theorem dJ9_min_7cf53_0 : decode cJ9_min_7cf53 0 = .ok (.iload_n 0, 1) := by decide +kernel
theorem dJ9_min_7cf53_1 : decode cJ9_min_7cf53 1 = .ok (.iload_n 1, 1) := by decide +kernel
theorem dJ9_min_7cf53_2 : decode cJ9_min_7cf53 2 = .ok (.if_icmp .gt 7, 3) := by decide +kernel
theorem dJ9_min_7cf53_5 : decode cJ9_min_7cf53 5 = .ok (.iload_n 0, 1) := by decide +kernel
theorem dJ9_min_7cf53_6 : decode cJ9_min_7cf53 6 = .ok (.goto 4, 3) := by decide +kernel
theorem dJ9_min_7cf53_9 : decode cJ9_min_7cf53 9 = .ok (.iload_n 1, 1) := by decide +kernel
theorem dJ9_min_7cf53_10 : decode cJ9_min_7cf53 10 = .ok (.ireturn, 1) := by decide +kernel
theorem dJ0_length_8abf5_0 : decode cJ0_length_8abf5 0 = .ok (.aload_n 0, 1) := by decide +kernel
theorem dJ0_length_8abf5_1 : decode cJ0_length_8abf5 1 = .ok (.getfield 9, 3) := by decide +kernel
theorem dJ0_length_8abf5_4 : decode cJ0_length_8abf5 4 = .ok (.arraylength, 1) := by decide +kernel
theorem dJ0_length_8abf5_5 : decode cJ0_length_8abf5 5 = .ok (.aload_n 0, 1) := by decide +kernel
theorem dJ0_length_8abf5_6 : decode cJ0_length_8abf5 6 = .ok (.invokevirtual 335, 3) := by decide +kernel
theorem dJ0_length_8abf5_9 : decode cJ0_length_8abf5 9 = .ok (.ishr, 1) := by decide +kernel
theorem dJ0_length_8abf5_10 : decode cJ0_length_8abf5 10 = .ok (.ireturn, 1) := by decide +kernel
theorem dJ0_charAt_5068e_0 : decode cJ0_charAt_5068e 0 = .ok (.aload_n 0, 1) := by decide +kernel
theorem dJ0_charAt_5068e_1 : decode cJ0_charAt_5068e 1 = .ok (.invokevirtual 492, 3) := by decide +kernel
theorem dJ0_charAt_5068e_4 : decode cJ0_charAt_5068e 4 = .ok (.ifCond .eq 12, 3) := by decide +kernel
theorem dJ0_charAt_5068e_7 : decode cJ0_charAt_5068e 7 = .ok (.aload_n 0, 1) := by decide +kernel
theorem dJ0_charAt_5068e_8 : decode cJ0_charAt_5068e 8 = .ok (.getfield 9, 3) := by decide +kernel
theorem dJ0_charAt_5068e_11 : decode cJ0_charAt_5068e 11 = .ok (.iload_n 1, 1) := by decide +kernel
theorem dJ0_charAt_5068e_12 : decode cJ0_charAt_5068e 12 = .ok (.invokestatic 495, 3) := by decide +kernel
theorem dJ0_charAt_5068e_15 : decode cJ0_charAt_5068e 15 = .ok (.ireturn, 1) := by decide +kernel
theorem dJ0_charAt_5068e_16 : decode cJ0_charAt_5068e 16 = .ok (.aload_n 0, 1) := by decide +kernel
theorem dJ0_charAt_5068e_17 : decode cJ0_charAt_5068e 17 = .ok (.getfield 9, 3) := by decide +kernel
theorem dJ0_charAt_5068e_20 : decode cJ0_charAt_5068e 20 = .ok (.iload_n 1, 1) := by decide +kernel
theorem dJ0_charAt_5068e_21 : decode cJ0_charAt_5068e 21 = .ok (.invokestatic 498, 3) := by decide +kernel
theorem dJ0_charAt_5068e_24 : decode cJ0_charAt_5068e 24 = .ok (.ireturn, 1) := by decide +kernel
theorem dJ0_coder_7d493_0 : decode cJ0_coder_7d493 0 = .ok (.getstatic 38, 3) := by decide +kernel
theorem dJ0_coder_7d493_3 : decode cJ0_coder_7d493 3 = .ok (.ifCond .eq 10, 3) := by decide +kernel
theorem dJ0_coder_7d493_6 : decode cJ0_coder_7d493 6 = .ok (.aload_n 0, 1) := by decide +kernel
theorem dJ0_coder_7d493_7 : decode cJ0_coder_7d493 7 = .ok (.getfield 15, 3) := by decide +kernel
theorem dJ0_coder_7d493_10 : decode cJ0_coder_7d493 10 = .ok (.goto 4, 3) := by decide +kernel
theorem dJ0_coder_7d493_13 : decode cJ0_coder_7d493 13 = .ok (.iconst 1, 1) := by decide +kernel
theorem dJ0_coder_7d493_14 : decode cJ0_coder_7d493 14 = .ok (.ireturn, 1) := by decide +kernel
theorem dJ0_isLatin1_aae02_0 : decode cJ0_isLatin1_aae02 0 = .ok (.getstatic 38, 3) := by decide +kernel
theorem dJ0_isLatin1_aae02_3 : decode cJ0_isLatin1_aae02 3 = .ok (.ifCond .eq 14, 3) := by decide +kernel
theorem dJ0_isLatin1_aae02_6 : decode cJ0_isLatin1_aae02 6 = .ok (.aload_n 0, 1) := by decide +kernel
theorem dJ0_isLatin1_aae02_7 : decode cJ0_isLatin1_aae02 7 = .ok (.getfield 15, 3) := by decide +kernel
theorem dJ0_isLatin1_aae02_10 : decode cJ0_isLatin1_aae02 10 = .ok (.ifCond .ne 7, 3) := by decide +kernel
theorem dJ0_isLatin1_aae02_13 : decode cJ0_isLatin1_aae02 13 = .ok (.iconst 1, 1) := by decide +kernel
theorem dJ0_isLatin1_aae02_14 : decode cJ0_isLatin1_aae02 14 = .ok (.goto 4, 3) := by decide +kernel
theorem dJ0_isLatin1_aae02_17 : decode cJ0_isLatin1_aae02 17 = .ok (.iconst 0, 1) := by decide +kernel
theorem dJ0_isLatin1_aae02_18 : decode cJ0_isLatin1_aae02 18 = .ok (.ireturn, 1) := by decide +kernel
theorem dJ0_checkIndex_df160_0 : decode cJ0_checkIndex_df160 0 = .ok (.iload_n 0, 1) := by decide +kernel
theorem dJ0_checkIndex_df160_1 : decode cJ0_checkIndex_df160 1 = .ok (.iload_n 1, 1) := by decide +kernel
theorem dJ0_checkIndex_df160_2 : decode cJ0_checkIndex_df160 2 = .ok (.getstatic 1053, 3) := by decide +kernel
theorem dJ0_checkIndex_df160_5 : decode cJ0_checkIndex_df160 5 = .ok (.invokestatic 1059, 3) := by decide +kernel
theorem dJ0_checkIndex_df160_8 : decode cJ0_checkIndex_df160 8 = .ok (.pop, 1) := by decide +kernel
theorem dJ0_checkIndex_df160_9 : decode cJ0_checkIndex_df160 9 = .ok (.return_, 1) := by decide +kernel
theorem dJ1_charAt_3b067_0 : decode cJ1_charAt_3b067 0 = .ok (.iload_n 1, 1) := by decide +kernel
theorem dJ1_charAt_3b067_1 : decode cJ1_charAt_3b067 1 = .ok (.aload_n 0, 1) := by decide +kernel
theorem dJ1_charAt_3b067_2 : decode cJ1_charAt_3b067 2 = .ok (.arraylength, 1) := by decide +kernel
theorem dJ1_charAt_3b067_3 : decode cJ1_charAt_3b067 3 = .ok (.invokestatic 9, 3) := by decide +kernel
theorem dJ1_charAt_3b067_6 : decode cJ1_charAt_3b067 6 = .ok (.aload_n 0, 1) := by decide +kernel
theorem dJ1_charAt_3b067_7 : decode cJ1_charAt_3b067 7 = .ok (.iload_n 1, 1) := by decide +kernel
theorem dJ1_charAt_3b067_8 : decode cJ1_charAt_3b067 8 = .ok (.baload, 1) := by decide +kernel
theorem dJ1_charAt_3b067_9 : decode cJ1_charAt_3b067 9 = .ok (.sipush 255, 3) := by decide +kernel
theorem dJ1_charAt_3b067_12 : decode cJ1_charAt_3b067 12 = .ok (.iand, 1) := by decide +kernel
theorem dJ1_charAt_3b067_13 : decode cJ1_charAt_3b067 13 = .ok (.i2c, 1) := by decide +kernel
theorem dJ1_charAt_3b067_14 : decode cJ1_charAt_3b067 14 = .ok (.ireturn, 1) := by decide +kernel
theorem dJ2_getChar_3b067_0 : decode cJ2_getChar_3b067 0 = .ok (.getstatic 44, 3) := by decide +kernel
theorem dJ2_getChar_3b067_3 : decode cJ2_getChar_3b067 3 = .ok (.ifCond .ne 25, 3) := by decide +kernel
theorem dJ2_getChar_3b067_6 : decode cJ2_getChar_3b067 6 = .ok (.iload_n 1, 1) := by decide +kernel
theorem dJ2_getChar_3b067_7 : decode cJ2_getChar_3b067 7 = .ok (.ifCond .lt 11, 3) := by decide +kernel
theorem dJ2_getChar_3b067_10 : decode cJ2_getChar_3b067 10 = .ok (.iload_n 1, 1) := by decide +kernel
theorem dJ2_getChar_3b067_11 : decode cJ2_getChar_3b067 11 = .ok (.aload_n 0, 1) := by decide +kernel
theorem dJ2_getChar_3b067_12 : decode cJ2_getChar_3b067 12 = .ok (.invokestatic 48, 3) := by decide +kernel
theorem dJ2_getChar_3b067_15 : decode cJ2_getChar_3b067 15 = .ok (.if_icmp .lt 13, 3) := by decide +kernel
theorem dJ2_getChar_3b067_18 : decode cJ2_getChar_3b067 18 = .ok (.new 52, 3) := by decide +kernel
theorem dJ2_getChar_3b067_21 : decode cJ2_getChar_3b067 21 = .ok (.dup, 1) := by decide +kernel
theorem dJ2_getChar_3b067_22 : decode cJ2_getChar_3b067 22 = .ok (.ldc 54, 2) := by decide +kernel
theorem dJ2_getChar_3b067_24 : decode cJ2_getChar_3b067 24 = .ok (.invokespecial 56, 3) := by decide +kernel
theorem dJ2_getChar_3b067_27 : decode cJ2_getChar_3b067 27 = .ok (.athrow, 1) := by decide +kernel
theorem dJ2_getChar_3b067_28 : decode cJ2_getChar_3b067 28 = .ok (.iload_n 1, 1) := by decide +kernel
theorem dJ2_getChar_3b067_29 : decode cJ2_getChar_3b067 29 = .ok (.iconst 1, 1) := by decide +kernel
theorem dJ2_getChar_3b067_30 : decode cJ2_getChar_3b067 30 = .ok (.ishl, 1) := by decide +kernel
theorem dJ2_getChar_3b067_31 : decode cJ2_getChar_3b067 31 = .ok (.istore_n 1, 1) := by decide +kernel
theorem dJ2_getChar_3b067_32 : decode cJ2_getChar_3b067 32 = .ok (.aload_n 0, 1) := by decide +kernel
theorem dJ2_getChar_3b067_33 : decode cJ2_getChar_3b067 33 = .ok (.iload_n 1, 1) := by decide +kernel
theorem dJ2_getChar_3b067_34 : decode cJ2_getChar_3b067 34 = .ok (.iinc 1 1, 3) := by decide +kernel
theorem dJ2_getChar_3b067_37 : decode cJ2_getChar_3b067 37 = .ok (.baload, 1) := by decide +kernel
theorem dJ2_getChar_3b067_38 : decode cJ2_getChar_3b067 38 = .ok (.sipush 255, 3) := by decide +kernel
theorem dJ2_getChar_3b067_41 : decode cJ2_getChar_3b067 41 = .ok (.iand, 1) := by decide +kernel
theorem dJ2_getChar_3b067_42 : decode cJ2_getChar_3b067 42 = .ok (.getstatic 59, 3) := by decide +kernel
theorem dJ2_getChar_3b067_45 : decode cJ2_getChar_3b067 45 = .ok (.ishl, 1) := by decide +kernel
theorem dJ2_getChar_3b067_46 : decode cJ2_getChar_3b067 46 = .ok (.aload_n 0, 1) := by decide +kernel
theorem dJ2_getChar_3b067_47 : decode cJ2_getChar_3b067 47 = .ok (.iload_n 1, 1) := by decide +kernel
theorem dJ2_getChar_3b067_48 : decode cJ2_getChar_3b067 48 = .ok (.baload, 1) := by decide +kernel
theorem dJ2_getChar_3b067_49 : decode cJ2_getChar_3b067 49 = .ok (.sipush 255, 3) := by decide +kernel
theorem dJ2_getChar_3b067_52 : decode cJ2_getChar_3b067 52 = .ok (.iand, 1) := by decide +kernel
theorem dJ2_getChar_3b067_53 : decode cJ2_getChar_3b067 53 = .ok (.getstatic 63, 3) := by decide +kernel
theorem dJ2_getChar_3b067_56 : decode cJ2_getChar_3b067 56 = .ok (.ishl, 1) := by decide +kernel
theorem dJ2_getChar_3b067_57 : decode cJ2_getChar_3b067 57 = .ok (.ior, 1) := by decide +kernel
theorem dJ2_getChar_3b067_58 : decode cJ2_getChar_3b067 58 = .ok (.i2c, 1) := by decide +kernel
theorem dJ2_getChar_3b067_59 : decode cJ2_getChar_3b067 59 = .ok (.ireturn, 1) := by decide +kernel
theorem dJ2_length_9d52b_0 : decode cJ2_length_9d52b 0 = .ok (.aload_n 0, 1) := by decide +kernel
theorem dJ2_length_9d52b_1 : decode cJ2_length_9d52b 1 = .ok (.arraylength, 1) := by decide +kernel
theorem dJ2_length_9d52b_2 : decode cJ2_length_9d52b 2 = .ok (.iconst 1, 1) := by decide +kernel
theorem dJ2_length_9d52b_3 : decode cJ2_length_9d52b 3 = .ok (.ishr, 1) := by decide +kernel
theorem dJ2_length_9d52b_4 : decode cJ2_length_9d52b 4 = .ok (.ireturn, 1) := by decide +kernel
theorem dJ2_charAt_3b067_0 : decode cJ2_charAt_3b067 0 = .ok (.iload_n 1, 1) := by decide +kernel
theorem dJ2_charAt_3b067_1 : decode cJ2_charAt_3b067 1 = .ok (.aload_n 0, 1) := by decide +kernel
theorem dJ2_charAt_3b067_2 : decode cJ2_charAt_3b067 2 = .ok (.invokestatic 67, 3) := by decide +kernel
theorem dJ2_charAt_3b067_5 : decode cJ2_charAt_3b067 5 = .ok (.aload_n 0, 1) := by decide +kernel
theorem dJ2_charAt_3b067_6 : decode cJ2_charAt_3b067 6 = .ok (.iload_n 1, 1) := by decide +kernel
theorem dJ2_charAt_3b067_7 : decode cJ2_charAt_3b067 7 = .ok (.invokestatic 71, 3) := by decide +kernel
theorem dJ2_charAt_3b067_10 : decode cJ2_charAt_3b067 10 = .ok (.ireturn, 1) := by decide +kernel
theorem dJ2_checkIndex_2214a_0 : decode cJ2_checkIndex_2214a 0 = .ok (.iload_n 0, 1) := by decide +kernel
theorem dJ2_checkIndex_2214a_1 : decode cJ2_checkIndex_2214a 1 = .ok (.aload_n 1, 1) := by decide +kernel
theorem dJ2_checkIndex_2214a_2 : decode cJ2_checkIndex_2214a 2 = .ok (.invokestatic 48, 3) := by decide +kernel
theorem dJ2_checkIndex_2214a_5 : decode cJ2_checkIndex_2214a 5 = .ok (.invokestatic 414, 3) := by decide +kernel
theorem dJ2_checkIndex_2214a_8 : decode cJ2_checkIndex_2214a 8 = .ok (.return_, 1) := by decide +kernel
theorem dJ7_fill_d0a16_0 : decode cJ7_fill_d0a16 0 = .ok (.iconst 0, 1) := by decide +kernel
theorem dJ7_fill_d0a16_1 : decode cJ7_fill_d0a16 1 = .ok (.istore_n 3, 1) := by decide +kernel
theorem dJ7_fill_d0a16_2 : decode cJ7_fill_d0a16 2 = .ok (.aload_n 0, 1) := by decide +kernel
theorem dJ7_fill_d0a16_3 : decode cJ7_fill_d0a16 3 = .ok (.arraylength, 1) := by decide +kernel
theorem dJ7_fill_d0a16_4 : decode cJ7_fill_d0a16 4 = .ok (.istore 4, 2) := by decide +kernel
theorem dJ7_fill_d0a16_6 : decode cJ7_fill_d0a16 6 = .ok (.iload_n 3, 1) := by decide +kernel
theorem dJ7_fill_d0a16_7 : decode cJ7_fill_d0a16 7 = .ok (.iload 4, 2) := by decide +kernel
theorem dJ7_fill_d0a16_9 : decode cJ7_fill_d0a16 9 = .ok (.if_icmp .ge 13, 3) := by decide +kernel
theorem dJ7_fill_d0a16_12 : decode cJ7_fill_d0a16 12 = .ok (.aload_n 0, 1) := by decide +kernel
theorem dJ7_fill_d0a16_13 : decode cJ7_fill_d0a16 13 = .ok (.iload_n 3, 1) := by decide +kernel
theorem dJ7_fill_d0a16_14 : decode cJ7_fill_d0a16 14 = .ok (.lload_n 1, 1) := by decide +kernel
theorem dJ7_fill_d0a16_15 : decode cJ7_fill_d0a16 15 = .ok (.lastore, 1) := by decide +kernel
theorem dJ7_fill_d0a16_16 : decode cJ7_fill_d0a16 16 = .ok (.iinc 3 1, 3) := by decide +kernel
theorem dJ7_fill_d0a16_19 : decode cJ7_fill_d0a16 19 = .ok (.goto (-13), 3) := by decide +kernel
theorem dJ7_fill_d0a16_22 : decode cJ7_fill_d0a16 22 = .ok (.return_, 1) := by decide +kernel
theorem dJ7_fill_53178_0 : decode cJ7_fill_53178 0 = .ok (.iconst 0, 1) := by decide +kernel
theorem dJ7_fill_53178_1 : decode cJ7_fill_53178 1 = .ok (.istore_n 2, 1) := by decide +kernel
theorem dJ7_fill_53178_2 : decode cJ7_fill_53178 2 = .ok (.aload_n 0, 1) := by decide +kernel
theorem dJ7_fill_53178_3 : decode cJ7_fill_53178 3 = .ok (.arraylength, 1) := by decide +kernel
theorem dJ7_fill_53178_4 : decode cJ7_fill_53178 4 = .ok (.istore_n 3, 1) := by decide +kernel
theorem dJ7_fill_53178_5 : decode cJ7_fill_53178 5 = .ok (.iload_n 2, 1) := by decide +kernel
theorem dJ7_fill_53178_6 : decode cJ7_fill_53178 6 = .ok (.iload_n 3, 1) := by decide +kernel
theorem dJ7_fill_53178_7 : decode cJ7_fill_53178 7 = .ok (.if_icmp .ge 13, 3) := by decide +kernel
theorem dJ7_fill_53178_10 : decode cJ7_fill_53178 10 = .ok (.aload_n 0, 1) := by decide +kernel
theorem dJ7_fill_53178_11 : decode cJ7_fill_53178 11 = .ok (.iload_n 2, 1) := by decide +kernel
theorem dJ7_fill_53178_12 : decode cJ7_fill_53178 12 = .ok (.iload_n 1, 1) := by decide +kernel
theorem dJ7_fill_53178_13 : decode cJ7_fill_53178 13 = .ok (.iastore, 1) := by decide +kernel
theorem dJ7_fill_53178_14 : decode cJ7_fill_53178 14 = .ok (.iinc 2 1, 3) := by decide +kernel
theorem dJ7_fill_53178_17 : decode cJ7_fill_53178 17 = .ok (.goto (-12), 3) := by decide +kernel
theorem dJ7_fill_53178_20 : decode cJ7_fill_53178 20 = .ok (.return_, 1) := by decide +kernel
theorem dJ3_checkIndex_8e157_0 : decode cJ3_checkIndex_8e157 0 = .ok (.iload_n 0, 1) := by decide +kernel
theorem dJ3_checkIndex_8e157_1 : decode cJ3_checkIndex_8e157 1 = .ok (.ifCond .lt 8, 3) := by decide +kernel
theorem dJ3_checkIndex_8e157_4 : decode cJ3_checkIndex_8e157 4 = .ok (.iload_n 0, 1) := by decide +kernel
theorem dJ3_checkIndex_8e157_5 : decode cJ3_checkIndex_8e157 5 = .ok (.iload_n 1, 1) := by decide +kernel
theorem dJ3_checkIndex_8e157_6 : decode cJ3_checkIndex_8e157 6 = .ok (.if_icmp .lt 10, 3) := by decide +kernel
theorem dJ3_checkIndex_8e157_9 : decode cJ3_checkIndex_8e157 9 = .ok (.aload_n 2, 1) := by decide +kernel
theorem dJ3_checkIndex_8e157_10 : decode cJ3_checkIndex_8e157 10 = .ok (.iload_n 0, 1) := by decide +kernel
theorem dJ3_checkIndex_8e157_11 : decode cJ3_checkIndex_8e157 11 = .ok (.iload_n 1, 1) := by decide +kernel
theorem dJ3_checkIndex_8e157_12 : decode cJ3_checkIndex_8e157 12 = .ok (.invokestatic 95, 3) := by decide +kernel
theorem dJ3_checkIndex_8e157_15 : decode cJ3_checkIndex_8e157 15 = .ok (.athrow, 1) := by decide +kernel
theorem dJ3_checkIndex_8e157_16 : decode cJ3_checkIndex_8e157 16 = .ok (.iload_n 0, 1) := by decide +kernel
theorem dJ3_checkIndex_8e157_17 : decode cJ3_checkIndex_8e157 17 = .ok (.ireturn, 1) := by decide +kernel
