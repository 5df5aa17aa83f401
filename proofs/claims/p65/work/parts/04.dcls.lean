theorem dX1_init_0 : decode cX1_init 0 = .ok (.aload_n 0, 1) := by decide +kernel
theorem dX1_init_1 : decode cX1_init 1 = .ok (.invokespecial 3, 3) := by decide +kernel
theorem dX1_init_4 : decode cX1_init 4 = .ok (.aload_n 0, 1) := by decide +kernel
theorem dX1_init_5 : decode cX1_init 5 = .ok (.iconst 0, 1) := by decide +kernel
theorem dX1_init_6 : decode cX1_init 6 = .ok (.putfield 9, 3) := by decide +kernel
theorem dX1_init_9 : decode cX1_init 9 = .ok (.aload_n 0, 1) := by decide +kernel
theorem dX1_init_10 : decode cX1_init 10 = .ok (.iconst 0, 1) := by decide +kernel
theorem dX1_init_11 : decode cX1_init 11 = .ok (.putfield 15, 3) := by decide +kernel
theorem dX1_init_14 : decode cX1_init 14 = .ok (.aload_n 0, 1) := by decide +kernel
theorem dX1_init_15 : decode cX1_init 15 = .ok (.iconst 0, 1) := by decide +kernel
theorem dX1_init_16 : decode cX1_init 16 = .ok (.putfield 18, 3) := by decide +kernel
theorem dX1_init_19 : decode cX1_init 19 = .ok (.aload_n 0, 1) := by decide +kernel
theorem dX1_init_20 : decode cX1_init 20 = .ok (.iconst 0, 1) := by decide +kernel
theorem dX1_init_21 : decode cX1_init 21 = .ok (.putfield 21, 3) := by decide +kernel
theorem dX1_init_24 : decode cX1_init 24 = .ok (.aload_n 0, 1) := by decide +kernel
theorem dX1_init_25 : decode cX1_init 25 = .ok (.iconst 0, 1) := by decide +kernel
theorem dX1_init_26 : decode cX1_init 26 = .ok (.putfield 24, 3) := by decide +kernel
theorem dX1_init_29 : decode cX1_init 29 = .ok (.aload_n 0, 1) := by decide +kernel
theorem dX1_init_30 : decode cX1_init 30 = .ok (.iconst 0, 1) := by decide +kernel
theorem dX1_init_31 : decode cX1_init 31 = .ok (.putfield 27, 3) := by decide +kernel
theorem dX1_init_34 : decode cX1_init 34 = .ok (.aload_n 0, 1) := by decide +kernel
theorem dX1_init_35 : decode cX1_init 35 = .ok (.iconst 0, 1) := by decide +kernel
theorem dX1_init_36 : decode cX1_init 36 = .ok (.putfield 30, 3) := by decide +kernel
theorem dX1_init_39 : decode cX1_init 39 = .ok (.aload_n 0, 1) := by decide +kernel
theorem dX1_init_40 : decode cX1_init 40 = .ok (.iconst 4, 1) := by decide +kernel
theorem dX1_init_41 : decode cX1_init 41 = .ok (.newarray .int, 2) := by decide +kernel
theorem dX1_init_43 : decode cX1_init 43 = .ok (.putfield 33, 3) := by decide +kernel
theorem dX1_init_46 : decode cX1_init 46 = .ok (.aload_n 0, 1) := by decide +kernel
theorem dX1_init_47 : decode cX1_init 47 = .ok (.iconst 0, 1) := by decide +kernel
theorem dX1_init_48 : decode cX1_init 48 = .ok (.putfield 37, 3) := by decide +kernel
theorem dX1_init_51 : decode cX1_init 51 = .ok (.return_, 1) := by decide +kernel
theorem dX1_reset_0 : decode cX1_reset 0 = .ok (.aload_n 0, 1) := by decide +kernel
theorem dX1_reset_1 : decode cX1_reset 1 = .ok (.iload_n 1, 1) := by decide +kernel
theorem dX1_reset_2 : decode cX1_reset 2 = .ok (.putfield 9, 3) := by decide +kernel
theorem dX1_reset_5 : decode cX1_reset 5 = .ok (.aload_n 0, 1) := by decide +kernel
theorem dX1_reset_6 : decode cX1_reset 6 = .ok (.iload_n 1, 1) := by decide +kernel
theorem dX1_reset_7 : decode cX1_reset 7 = .ok (.putfield 15, 3) := by decide +kernel
theorem dX1_reset_10 : decode cX1_reset 10 = .ok (.aload_n 0, 1) := by decide +kernel
theorem dX1_reset_11 : decode cX1_reset 11 = .ok (.iload_n 2, 1) := by decide +kernel
theorem dX1_reset_12 : decode cX1_reset 12 = .ok (.putfield 18, 3) := by decide +kernel
theorem dX1_reset_15 : decode cX1_reset 15 = .ok (.aload_n 0, 1) := by decide +kernel
theorem dX1_reset_16 : decode cX1_reset 16 = .ok (.iconst 0, 1) := by decide +kernel
theorem dX1_reset_17 : decode cX1_reset 17 = .ok (.putfield 21, 3) := by decide +kernel
theorem dX1_reset_20 : decode cX1_reset 20 = .ok (.aload_n 0, 1) := by decide +kernel
theorem dX1_reset_21 : decode cX1_reset 21 = .ok (.iload_n 3, 1) := by decide +kernel
theorem dX1_reset_22 : decode cX1_reset 22 = .ok (.putfield 24, 3) := by decide +kernel
theorem dX1_reset_25 : decode cX1_reset 25 = .ok (.aload_n 0, 1) := by decide +kernel
theorem dX1_reset_26 : decode cX1_reset 26 = .ok (.iload 4, 2) := by decide +kernel
theorem dX1_reset_28 : decode cX1_reset 28 = .ok (.putfield 27, 3) := by decide +kernel
theorem dX1_reset_31 : decode cX1_reset 31 = .ok (.aload_n 0, 1) := by decide +kernel
theorem dX1_reset_32 : decode cX1_reset 32 = .ok (.iconst 0, 1) := by decide +kernel
theorem dX1_reset_33 : decode cX1_reset 33 = .ok (.putfield 30, 3) := by decide +kernel
theorem dX1_reset_36 : decode cX1_reset 36 = .ok (.aload_n 0, 1) := by decide +kernel
theorem dX1_reset_37 : decode cX1_reset 37 = .ok (.iconst 0, 1) := by decide +kernel
theorem dX1_reset_38 : decode cX1_reset 38 = .ok (.putfield 37, 3) := by decide +kernel
theorem dX1_reset_41 : decode cX1_reset 41 = .ok (.return_, 1) := by decide +kernel
theorem dX1_copyFrom_0 : decode cX1_copyFrom 0 = .ok (.aload_n 0, 1) := by decide +kernel
theorem dX1_copyFrom_1 : decode cX1_copyFrom 1 = .ok (.aload_n 1, 1) := by decide +kernel
theorem dX1_copyFrom_2 : decode cX1_copyFrom 2 = .ok (.getfield 9, 3) := by decide +kernel
theorem dX1_copyFrom_5 : decode cX1_copyFrom 5 = .ok (.putfield 9, 3) := by decide +kernel
theorem dX1_copyFrom_8 : decode cX1_copyFrom 8 = .ok (.aload_n 0, 1) := by decide +kernel
theorem dX1_copyFrom_9 : decode cX1_copyFrom 9 = .ok (.aload_n 1, 1) := by decide +kernel
theorem dX1_copyFrom_10 : decode cX1_copyFrom 10 = .ok (.getfield 15, 3) := by decide +kernel
theorem dX1_copyFrom_13 : decode cX1_copyFrom 13 = .ok (.putfield 15, 3) := by decide +kernel
theorem dX1_copyFrom_16 : decode cX1_copyFrom 16 = .ok (.aload_n 0, 1) := by decide +kernel
theorem dX1_copyFrom_17 : decode cX1_copyFrom 17 = .ok (.aload_n 1, 1) := by decide +kernel
theorem dX1_copyFrom_18 : decode cX1_copyFrom 18 = .ok (.getfield 18, 3) := by decide +kernel
theorem dX1_copyFrom_21 : decode cX1_copyFrom 21 = .ok (.putfield 18, 3) := by decide +kernel
theorem dX1_copyFrom_24 : decode cX1_copyFrom 24 = .ok (.aload_n 0, 1) := by decide +kernel
theorem dX1_copyFrom_25 : decode cX1_copyFrom 25 = .ok (.aload_n 1, 1) := by decide +kernel
theorem dX1_copyFrom_26 : decode cX1_copyFrom 26 = .ok (.getfield 21, 3) := by decide +kernel
theorem dX1_copyFrom_29 : decode cX1_copyFrom 29 = .ok (.putfield 21, 3) := by decide +kernel
theorem dX1_copyFrom_32 : decode cX1_copyFrom 32 = .ok (.aload_n 0, 1) := by decide +kernel
theorem dX1_copyFrom_33 : decode cX1_copyFrom 33 = .ok (.aload_n 1, 1) := by decide +kernel
theorem dX1_copyFrom_34 : decode cX1_copyFrom 34 = .ok (.getfield 24, 3) := by decide +kernel
theorem dX1_copyFrom_37 : decode cX1_copyFrom 37 = .ok (.putfield 24, 3) := by decide +kernel
theorem dX1_copyFrom_40 : decode cX1_copyFrom 40 = .ok (.aload_n 0, 1) := by decide +kernel
theorem dX1_copyFrom_41 : decode cX1_copyFrom 41 = .ok (.aload_n 1, 1) := by decide +kernel
theorem dX1_copyFrom_42 : decode cX1_copyFrom 42 = .ok (.getfield 27, 3) := by decide +kernel
theorem dX1_copyFrom_45 : decode cX1_copyFrom 45 = .ok (.putfield 27, 3) := by decide +kernel
theorem dX1_copyFrom_48 : decode cX1_copyFrom 48 = .ok (.aload_n 0, 1) := by decide +kernel
theorem dX1_copyFrom_49 : decode cX1_copyFrom 49 = .ok (.aload_n 1, 1) := by decide +kernel
theorem dX1_copyFrom_50 : decode cX1_copyFrom 50 = .ok (.getfield 30, 3) := by decide +kernel
theorem dX1_copyFrom_53 : decode cX1_copyFrom 53 = .ok (.putfield 30, 3) := by decide +kernel
theorem dX1_copyFrom_56 : decode cX1_copyFrom 56 = .ok (.aload_n 0, 1) := by decide +kernel
theorem dX1_copyFrom_57 : decode cX1_copyFrom 57 = .ok (.aload_n 1, 1) := by decide +kernel
theorem dX1_copyFrom_58 : decode cX1_copyFrom 58 = .ok (.getfield 37, 3) := by decide +kernel
theorem dX1_copyFrom_61 : decode cX1_copyFrom 61 = .ok (.putfield 37, 3) := by decide +kernel
theorem dX1_copyFrom_64 : decode cX1_copyFrom 64 = .ok (.aload_n 1, 1) := by decide +kernel
theorem dX1_copyFrom_65 : decode cX1_copyFrom 65 = .ok (.getfield 33, 3) := by decide +kernel
theorem dX1_copyFrom_68 : decode cX1_copyFrom 68 = .ok (.iconst 0, 1) := by decide +kernel
theorem dX1_copyFrom_69 : decode cX1_copyFrom 69 = .ok (.aload_n 0, 1) := by decide +kernel
theorem dX1_copyFrom_70 : decode cX1_copyFrom 70 = .ok (.getfield 33, 3) := by decide +kernel
theorem dX1_copyFrom_73 : decode cX1_copyFrom 73 = .ok (.iconst 0, 1) := by decide +kernel
theorem dX1_copyFrom_74 : decode cX1_copyFrom 74 = .ok (.aload_n 0, 1) := by decide +kernel
theorem dX1_copyFrom_75 : decode cX1_copyFrom 75 = .ok (.getfield 33, 3) := by decide +kernel
theorem dX1_copyFrom_78 : decode cX1_copyFrom 78 = .ok (.arraylength, 1) := by decide +kernel
theorem dX1_copyFrom_79 : decode cX1_copyFrom 79 = .ok (.invokestatic 40, 3) := by decide +kernel
theorem dX1_copyFrom_82 : decode cX1_copyFrom 82 = .ok (.return_, 1) := by decide +kernel
theorem dX1_isInLock_0 : decode cX1_isInLock 0 = .ok (.aload_n 0, 1) := by decide +kernel
theorem dX1_isInLock_1 : decode cX1_isInLock 1 = .ok (.getfield 21, 3) := by decide +kernel
theorem dX1_isInLock_4 : decode cX1_isInLock 4 = .ok (.ifCond .le 7, 3) := by decide +kernel
theorem dX1_isInLock_7 : decode cX1_isInLock 7 = .ok (.iconst 1, 1) := by decide +kernel
theorem dX1_isInLock_8 : decode cX1_isInLock 8 = .ok (.goto 4, 3) := by decide +kernel
theorem dX1_isInLock_11 : decode cX1_isInLock 11 = .ok (.iconst 0, 1) := by decide +kernel
theorem dX1_isInLock_12 : decode cX1_isInLock 12 = .ok (.ireturn, 1) := by decide +kernel
theorem dX1_isUnderWay_0 : decode cX1_isUnderWay 0 = .ok (.aload_n 0, 1) := by decide +kernel
theorem dX1_isUnderWay_1 : decode cX1_isUnderWay 1 = .ok (.getfield 15, 3) := by decide +kernel
theorem dX1_isUnderWay_4 : decode cX1_isUnderWay 4 = .ok (.aload_n 0, 1) := by decide +kernel
theorem dX1_isUnderWay_5 : decode cX1_isUnderWay 5 = .ok (.getfield 9, 3) := by decide +kernel
theorem dX1_isUnderWay_8 : decode cX1_isUnderWay 8 = .ok (.if_icmp .eq 7, 3) := by decide +kernel
theorem dX1_isUnderWay_11 : decode cX1_isUnderWay 11 = .ok (.iconst 1, 1) := by decide +kernel
theorem dX1_isUnderWay_12 : decode cX1_isUnderWay 12 = .ok (.goto 4, 3) := by decide +kernel
theorem dX1_isUnderWay_15 : decode cX1_isUnderWay 15 = .ok (.iconst 0, 1) := by decide +kernel
theorem dX1_isUnderWay_16 : decode cX1_isUnderWay 16 = .ok (.ireturn, 1) := by decide +kernel
theorem dX1_queuedAt_0 : decode cX1_queuedAt 0 = .ok (.iload_n 1, 1) := by decide +kernel
theorem dX1_queuedAt_1 : decode cX1_queuedAt 1 = .ok (.ifCond .lt 20, 3) := by decide +kernel
theorem dX1_queuedAt_4 : decode cX1_queuedAt 4 = .ok (.iload_n 1, 1) := by decide +kernel
theorem dX1_queuedAt_5 : decode cX1_queuedAt 5 = .ok (.aload_n 0, 1) := by decide +kernel
theorem dX1_queuedAt_6 : decode cX1_queuedAt 6 = .ok (.getfield 37, 3) := by decide +kernel
theorem dX1_queuedAt_9 : decode cX1_queuedAt 9 = .ok (.if_icmp .ge 12, 3) := by decide +kernel
theorem dX1_queuedAt_12 : decode cX1_queuedAt 12 = .ok (.iload_n 1, 1) := by decide +kernel
theorem dX1_queuedAt_13 : decode cX1_queuedAt 13 = .ok (.aload_n 0, 1) := by decide +kernel
theorem dX1_queuedAt_14 : decode cX1_queuedAt 14 = .ok (.getfield 33, 3) := by decide +kernel
theorem dX1_queuedAt_17 : decode cX1_queuedAt 17 = .ok (.arraylength, 1) := by decide +kernel
theorem dX1_queuedAt_18 : decode cX1_queuedAt 18 = .ok (.if_icmp .lt 5, 3) := by decide +kernel
theorem dX1_queuedAt_21 : decode cX1_queuedAt 21 = .ok (.iconst (-1), 1) := by decide +kernel
theorem dX1_queuedAt_22 : decode cX1_queuedAt 22 = .ok (.ireturn, 1) := by decide +kernel
theorem dX1_queuedAt_23 : decode cX1_queuedAt 23 = .ok (.aload_n 0, 1) := by decide +kernel
theorem dX1_queuedAt_24 : decode cX1_queuedAt 24 = .ok (.getfield 33, 3) := by decide +kernel
theorem dX1_queuedAt_27 : decode cX1_queuedAt 27 = .ok (.iload_n 1, 1) := by decide +kernel
theorem dX1_queuedAt_28 : decode cX1_queuedAt 28 = .ok (.iaload, 1) := by decide +kernel
theorem dX1_queuedAt_29 : decode cX1_queuedAt 29 = .ok (.ireturn, 1) := by decide +kernel
theorem dX1_enqueue_0 : decode cX1_enqueue 0 = .ok (.aload_n 0, 1) := by decide +kernel
theorem dX1_enqueue_1 : decode cX1_enqueue 1 = .ok (.getfield 37, 3) := by decide +kernel
theorem dX1_enqueue_4 : decode cX1_enqueue 4 = .ok (.aload_n 0, 1) := by decide +kernel
theorem dX1_enqueue_5 : decode cX1_enqueue 5 = .ok (.getfield 33, 3) := by decide +kernel
theorem dX1_enqueue_8 : decode cX1_enqueue 8 = .ok (.arraylength, 1) := by decide +kernel
theorem dX1_enqueue_9 : decode cX1_enqueue 9 = .ok (.if_icmp .ge 23, 3) := by decide +kernel
theorem dX1_enqueue_12 : decode cX1_enqueue 12 = .ok (.aload_n 0, 1) := by decide +kernel
theorem dX1_enqueue_13 : decode cX1_enqueue 13 = .ok (.getfield 33, 3) := by decide +kernel
theorem dX1_enqueue_16 : decode cX1_enqueue 16 = .ok (.aload_n 0, 1) := by decide +kernel
theorem dX1_enqueue_17 : decode cX1_enqueue 17 = .ok (.getfield 37, 3) := by decide +kernel
theorem dX1_enqueue_20 : decode cX1_enqueue 20 = .ok (.iload_n 1, 1) := by decide +kernel
theorem dX1_enqueue_21 : decode cX1_enqueue 21 = .ok (.iastore, 1) := by decide +kernel
theorem dX1_enqueue_22 : decode cX1_enqueue 22 = .ok (.aload_n 0, 1) := by decide +kernel
theorem dX1_enqueue_23 : decode cX1_enqueue 23 = .ok (.dup, 1) := by decide +kernel
theorem dX1_enqueue_24 : decode cX1_enqueue 24 = .ok (.getfield 37, 3) := by decide +kernel
theorem dX1_enqueue_27 : decode cX1_enqueue 27 = .ok (.iconst 1, 1) := by decide +kernel
theorem dX1_enqueue_28 : decode cX1_enqueue 28 = .ok (.iadd, 1) := by decide +kernel
theorem dX1_enqueue_29 : decode cX1_enqueue 29 = .ok (.putfield 37, 3) := by decide +kernel
theorem dX1_enqueue_32 : decode cX1_enqueue 32 = .ok (.return_, 1) := by decide +kernel
theorem dX1_unqueue_0 : decode cX1_unqueue 0 = .ok (.iconst 0, 1) := by decide +kernel
theorem dX1_unqueue_1 : decode cX1_unqueue 1 = .ok (.istore_n 2, 1) := by decide +kernel
theorem dX1_unqueue_2 : decode cX1_unqueue 2 = .ok (.iconst 0, 1) := by decide +kernel
theorem dX1_unqueue_3 : decode cX1_unqueue 3 = .ok (.istore_n 3, 1) := by decide +kernel
theorem dX1_unqueue_4 : decode cX1_unqueue 4 = .ok (.iload_n 3, 1) := by decide +kernel
theorem dX1_unqueue_5 : decode cX1_unqueue 5 = .ok (.aload_n 0, 1) := by decide +kernel
theorem dX1_unqueue_6 : decode cX1_unqueue 6 = .ok (.getfield 37, 3) := by decide +kernel
theorem dX1_unqueue_9 : decode cX1_unqueue 9 = .ok (.if_icmp .ge 43, 3) := by decide +kernel
theorem dX1_unqueue_12 : decode cX1_unqueue 12 = .ok (.iload_n 3, 1) := by decide +kernel
theorem dX1_unqueue_13 : decode cX1_unqueue 13 = .ok (.aload_n 0, 1) := by decide +kernel
theorem dX1_unqueue_14 : decode cX1_unqueue 14 = .ok (.getfield 33, 3) := by decide +kernel
theorem dX1_unqueue_17 : decode cX1_unqueue 17 = .ok (.arraylength, 1) := by decide +kernel
theorem dX1_unqueue_18 : decode cX1_unqueue 18 = .ok (.if_icmp .ge 34, 3) := by decide +kernel
theorem dX1_unqueue_21 : decode cX1_unqueue 21 = .ok (.aload_n 0, 1) := by decide +kernel
theorem dX1_unqueue_22 : decode cX1_unqueue 22 = .ok (.getfield 33, 3) := by decide +kernel
theorem dX1_unqueue_25 : decode cX1_unqueue 25 = .ok (.iload_n 3, 1) := by decide +kernel
theorem dX1_unqueue_26 : decode cX1_unqueue 26 = .ok (.iaload, 1) := by decide +kernel
theorem dX1_unqueue_27 : decode cX1_unqueue 27 = .ok (.iload_n 1, 1) := by decide +kernel
theorem dX1_unqueue_28 : decode cX1_unqueue 28 = .ok (.if_icmp .eq 18, 3) := by decide +kernel
theorem dX1_unqueue_31 : decode cX1_unqueue 31 = .ok (.aload_n 0, 1) := by decide +kernel
theorem dX1_unqueue_32 : decode cX1_unqueue 32 = .ok (.getfield 33, 3) := by decide +kernel
theorem dX1_unqueue_35 : decode cX1_unqueue 35 = .ok (.iload_n 2, 1) := by decide +kernel
theorem dX1_unqueue_36 : decode cX1_unqueue 36 = .ok (.aload_n 0, 1) := by decide +kernel
theorem dX1_unqueue_37 : decode cX1_unqueue 37 = .ok (.getfield 33, 3) := by decide +kernel
theorem dX1_unqueue_40 : decode cX1_unqueue 40 = .ok (.iload_n 3, 1) := by decide +kernel
theorem dX1_unqueue_41 : decode cX1_unqueue 41 = .ok (.iaload, 1) := by decide +kernel
theorem dX1_unqueue_42 : decode cX1_unqueue 42 = .ok (.iastore, 1) := by decide +kernel
theorem dX1_unqueue_43 : decode cX1_unqueue 43 = .ok (.iinc 2 1, 3) := by decide +kernel
theorem dX1_unqueue_46 : decode cX1_unqueue 46 = .ok (.iinc 3 1, 3) := by decide +kernel
theorem dX1_unqueue_49 : decode cX1_unqueue 49 = .ok (.goto (-45), 3) := by decide +kernel
theorem dX1_unqueue_52 : decode cX1_unqueue 52 = .ok (.aload_n 0, 1) := by decide +kernel
theorem dX1_unqueue_53 : decode cX1_unqueue 53 = .ok (.iload_n 2, 1) := by decide +kernel
theorem dX1_unqueue_54 : decode cX1_unqueue 54 = .ok (.putfield 37, 3) := by decide +kernel
theorem dX1_unqueue_57 : decode cX1_unqueue 57 = .ok (.return_, 1) := by decide +kernel
theorem dX2_init_0 : decode cX2_init 0 = .ok (.aload_n 0, 1) := by decide +kernel
theorem dX2_init_1 : decode cX2_init 1 = .ok (.invokespecial 3, 3) := by decide +kernel
theorem dX2_init_4 : decode cX2_init 4 = .ok (.aload_n 0, 1) := by decide +kernel
theorem dX2_init_5 : decode cX2_init 5 = .ok (.iconst 3, 1) := by decide +kernel
theorem dX2_init_6 : decode cX2_init 6 = .ok (.putfield 9, 3) := by decide +kernel
theorem dX2_init_9 : decode cX2_init 9 = .ok (.aload_n 0, 1) := by decide +kernel
theorem dX2_init_10 : decode cX2_init 10 = .ok (.bipush 15, 2) := by decide +kernel
theorem dX2_init_12 : decode cX2_init 12 = .ok (.anewarray 15, 3) := by decide +kernel
theorem dX2_init_15 : decode cX2_init 15 = .ok (.putfield 17, 3) := by decide +kernel
theorem dX2_init_18 : decode cX2_init 18 = .ok (.aload_n 0, 1) := by decide +kernel
theorem dX2_init_19 : decode cX2_init 19 = .ok (.bipush 16, 2) := by decide +kernel
theorem dX2_init_21 : decode cX2_init 21 = .ok (.newarray .int, 2) := by decide +kernel
theorem dX2_init_23 : decode cX2_init 23 = .ok (.putfield 21, 3) := by decide +kernel
theorem dX2_init_26 : decode cX2_init 26 = .ok (.aload_n 0, 1) := by decide +kernel
theorem dX2_init_27 : decode cX2_init 27 = .ok (.bipush 16, 2) := by decide +kernel
theorem dX2_init_29 : decode cX2_init 29 = .ok (.newarray .int, 2) := by decide +kernel
theorem dX2_init_31 : decode cX2_init 31 = .ok (.putfield 25, 3) := by decide +kernel
theorem dX2_init_34 : decode cX2_init 34 = .ok (.aload_n 0, 1) := by decide +kernel
theorem dX2_init_35 : decode cX2_init 35 = .ok (.iconst 0, 1) := by decide +kernel
theorem dX2_init_36 : decode cX2_init 36 = .ok (.putfield 28, 3) := by decide +kernel
theorem dX2_init_39 : decode cX2_init 39 = .ok (.aload_n 0, 1) := by decide +kernel
theorem dX2_init_40 : decode cX2_init 40 = .ok (.iconst 5, 1) := by decide +kernel
theorem dX2_init_41 : decode cX2_init 41 = .ok (.anewarray 31, 3) := by decide +kernel
theorem dX2_init_44 : decode cX2_init 44 = .ok (.putfield 33, 3) := by decide +kernel
theorem dX2_init_47 : decode cX2_init 47 = .ok (.aload_n 0, 1) := by decide +kernel
theorem dX2_init_48 : decode cX2_init 48 = .ok (.iconst 0, 1) := by decide +kernel
theorem dX2_init_49 : decode cX2_init 49 = .ok (.putfield 37, 3) := by decide +kernel
theorem dX2_init_52 : decode cX2_init 52 = .ok (.aload_n 0, 1) := by decide +kernel
theorem dX2_init_53 : decode cX2_init 53 = .ok (.bipush 30, 2) := by decide +kernel
theorem dX2_init_55 : decode cX2_init 55 = .ok (.anewarray 40, 3) := by decide +kernel
theorem dX2_init_58 : decode cX2_init 58 = .ok (.putfield 42, 3) := by decide +kernel
theorem dX2_init_61 : decode cX2_init 61 = .ok (.aload_n 0, 1) := by decide +kernel
theorem dX2_init_62 : decode cX2_init 62 = .ok (.iconst 0, 1) := by decide +kernel
theorem dX2_init_63 : decode cX2_init 63 = .ok (.putfield 46, 3) := by decide +kernel
theorem dX2_init_66 : decode cX2_init 66 = .ok (.aload_n 0, 1) := by decide +kernel
theorem dX2_init_67 : decode cX2_init 67 = .ok (.iconst 0, 1) := by decide +kernel
theorem dX2_init_68 : decode cX2_init 68 = .ok (.putfield 49, 3) := by decide +kernel
theorem dX2_init_71 : decode cX2_init 71 = .ok (.aload_n 0, 1) := by decide +kernel
theorem dX2_init_72 : decode cX2_init 72 = .ok (.iconst 0, 1) := by decide +kernel
theorem dX2_init_73 : decode cX2_init 73 = .ok (.putfield 52, 3) := by decide +kernel
theorem dX2_init_76 : decode cX2_init 76 = .ok (.aload_n 0, 1) := by decide +kernel
theorem dX2_init_77 : decode cX2_init 77 = .ok (.iconst 0, 1) := by decide +kernel
theorem dX2_init_78 : decode cX2_init 78 = .ok (.putfield 55, 3) := by decide +kernel
theorem dX2_init_81 : decode cX2_init 81 = .ok (.aload_n 0, 1) := by decide +kernel
theorem dX2_init_82 : decode cX2_init 82 = .ok (.iconst 0, 1) := by decide +kernel
theorem dX2_init_83 : decode cX2_init 83 = .ok (.putfield 58, 3) := by decide +kernel
theorem dX2_init_86 : decode cX2_init 86 = .ok (.aload_n 0, 1) := by decide +kernel
theorem dX2_init_87 : decode cX2_init 87 = .ok (.iconst 0, 1) := by decide +kernel
theorem dX2_init_88 : decode cX2_init 88 = .ok (.putfield 61, 3) := by decide +kernel
theorem dX2_init_91 : decode cX2_init 91 = .ok (.iconst 0, 1) := by decide +kernel
theorem dX2_init_92 : decode cX2_init 92 = .ok (.istore_n 1, 1) := by decide +kernel
theorem dX2_init_93 : decode cX2_init 93 = .ok (.iload_n 1, 1) := by decide +kernel
theorem dX2_init_94 : decode cX2_init 94 = .ok (.aload_n 0, 1) := by decide +kernel
theorem dX2_init_95 : decode cX2_init 95 = .ok (.getfield 17, 3) := by decide +kernel
theorem dX2_init_98 : decode cX2_init 98 = .ok (.arraylength, 1) := by decide +kernel
theorem dX2_init_99 : decode cX2_init 99 = .ok (.if_icmp .ge 22, 3) := by decide +kernel
theorem dX2_init_102 : decode cX2_init 102 = .ok (.aload_n 0, 1) := by decide +kernel
theorem dX2_init_103 : decode cX2_init 103 = .ok (.getfield 17, 3) := by decide +kernel
theorem dX2_init_106 : decode cX2_init 106 = .ok (.iload_n 1, 1) := by decide +kernel
theorem dX2_init_107 : decode cX2_init 107 = .ok (.new 15, 3) := by decide +kernel
theorem dX2_init_110 : decode cX2_init 110 = .ok (.dup, 1) := by decide +kernel
theorem dX2_init_111 : decode cX2_init 111 = .ok (.invokespecial 64, 3) := by decide +kernel
theorem dX2_init_114 : decode cX2_init 114 = .ok (.aastore, 1) := by decide +kernel
theorem dX2_init_115 : decode cX2_init 115 = .ok (.iinc 1 1, 3) := by decide +kernel
theorem dX2_init_118 : decode cX2_init 118 = .ok (.goto (-25), 3) := by decide +kernel
theorem dX2_init_121 : decode cX2_init 121 = .ok (.iconst 0, 1) := by decide +kernel
theorem dX2_init_122 : decode cX2_init 122 = .ok (.istore_n 1, 1) := by decide +kernel
theorem dX2_init_123 : decode cX2_init 123 = .ok (.iload_n 1, 1) := by decide +kernel
theorem dX2_init_124 : decode cX2_init 124 = .ok (.aload_n 0, 1) := by decide +kernel
theorem dX2_init_125 : decode cX2_init 125 = .ok (.getfield 33, 3) := by decide +kernel
theorem dX2_init_128 : decode cX2_init 128 = .ok (.arraylength, 1) := by decide +kernel
theorem dX2_init_129 : decode cX2_init 129 = .ok (.if_icmp .ge 22, 3) := by decide +kernel
theorem dX2_init_132 : decode cX2_init 132 = .ok (.aload_n 0, 1) := by decide +kernel
theorem dX2_init_133 : decode cX2_init 133 = .ok (.getfield 33, 3) := by decide +kernel
theorem dX2_init_136 : decode cX2_init 136 = .ok (.iload_n 1, 1) := by decide +kernel
theorem dX2_init_137 : decode cX2_init 137 = .ok (.new 31, 3) := by decide +kernel
theorem dX2_init_140 : decode cX2_init 140 = .ok (.dup, 1) := by decide +kernel
theorem dX2_init_141 : decode cX2_init 141 = .ok (.invokespecial 65, 3) := by decide +kernel
theorem dX2_init_144 : decode cX2_init 144 = .ok (.aastore, 1) := by decide +kernel
theorem dX2_init_145 : decode cX2_init 145 = .ok (.iinc 1 1, 3) := by decide +kernel
theorem dX2_init_148 : decode cX2_init 148 = .ok (.goto (-25), 3) := by decide +kernel
theorem dX2_init_151 : decode cX2_init 151 = .ok (.iconst 0, 1) := by decide +kernel
theorem dX2_init_152 : decode cX2_init 152 = .ok (.istore_n 1, 1) := by decide +kernel
theorem dX2_init_153 : decode cX2_init 153 = .ok (.iload_n 1, 1) := by decide +kernel
theorem dX2_init_154 : decode cX2_init 154 = .ok (.aload_n 0, 1) := by decide +kernel
theorem dX2_init_155 : decode cX2_init 155 = .ok (.getfield 42, 3) := by decide +kernel
theorem dX2_init_158 : decode cX2_init 158 = .ok (.arraylength, 1) := by decide +kernel
theorem dX2_init_159 : decode cX2_init 159 = .ok (.if_icmp .ge 22, 3) := by decide +kernel
theorem dX2_init_162 : decode cX2_init 162 = .ok (.aload_n 0, 1) := by decide +kernel
theorem dX2_init_163 : decode cX2_init 163 = .ok (.getfield 42, 3) := by decide +kernel
theorem dX2_init_166 : decode cX2_init 166 = .ok (.iload_n 1, 1) := by decide +kernel
theorem dX2_init_167 : decode cX2_init 167 = .ok (.new 40, 3) := by decide +kernel
theorem dX2_init_170 : decode cX2_init 170 = .ok (.dup, 1) := by decide +kernel
theorem dX2_init_171 : decode cX2_init 171 = .ok (.invokespecial 66, 3) := by decide +kernel
theorem dX2_init_174 : decode cX2_init 174 = .ok (.aastore, 1) := by decide +kernel
theorem dX2_init_175 : decode cX2_init 175 = .ok (.iinc 1 1, 3) := by decide +kernel
theorem dX2_init_178 : decode cX2_init 178 = .ok (.goto (-25), 3) := by decide +kernel
theorem dX2_init_181 : decode cX2_init 181 = .ok (.return_, 1) := by decide +kernel
theorem dX2_clear_0 : decode cX2_clear 0 = .ok (.aload_n 0, 1) := by decide +kernel
theorem dX2_clear_1 : decode cX2_clear 1 = .ok (.iload_n 1, 1) := by decide +kernel
theorem dX2_clear_2 : decode cX2_clear 2 = .ok (.putfield 9, 3) := by decide +kernel
theorem dX2_clear_5 : decode cX2_clear 5 = .ok (.aload_n 0, 1) := by decide +kernel
theorem dX2_clear_6 : decode cX2_clear 6 = .ok (.iconst 0, 1) := by decide +kernel
theorem dX2_clear_7 : decode cX2_clear 7 = .ok (.putfield 28, 3) := by decide +kernel
theorem dX2_clear_10 : decode cX2_clear 10 = .ok (.aload_n 0, 1) := by decide +kernel
theorem dX2_clear_11 : decode cX2_clear 11 = .ok (.iconst 0, 1) := by decide +kernel
theorem dX2_clear_12 : decode cX2_clear 12 = .ok (.putfield 37, 3) := by decide +kernel
theorem dX2_clear_15 : decode cX2_clear 15 = .ok (.aload_n 0, 1) := by decide +kernel
theorem dX2_clear_16 : decode cX2_clear 16 = .ok (.iconst 0, 1) := by decide +kernel
theorem dX2_clear_17 : decode cX2_clear 17 = .ok (.putfield 46, 3) := by decide +kernel
theorem dX2_clear_20 : decode cX2_clear 20 = .ok (.aload_n 0, 1) := by decide +kernel
theorem dX2_clear_21 : decode cX2_clear 21 = .ok (.iconst 0, 1) := by decide +kernel
theorem dX2_clear_22 : decode cX2_clear 22 = .ok (.putfield 49, 3) := by decide +kernel
theorem dX2_clear_25 : decode cX2_clear 25 = .ok (.aload_n 0, 1) := by decide +kernel
theorem dX2_clear_26 : decode cX2_clear 26 = .ok (.iconst 0, 1) := by decide +kernel
theorem dX2_clear_27 : decode cX2_clear 27 = .ok (.putfield 52, 3) := by decide +kernel
theorem dX2_clear_30 : decode cX2_clear 30 = .ok (.aload_n 0, 1) := by decide +kernel
theorem dX2_clear_31 : decode cX2_clear 31 = .ok (.iconst 0, 1) := by decide +kernel
theorem dX2_clear_32 : decode cX2_clear 32 = .ok (.putfield 55, 3) := by decide +kernel
theorem dX2_clear_35 : decode cX2_clear 35 = .ok (.aload_n 0, 1) := by decide +kernel
theorem dX2_clear_36 : decode cX2_clear 36 = .ok (.iconst 0, 1) := by decide +kernel
theorem dX2_clear_37 : decode cX2_clear 37 = .ok (.putfield 58, 3) := by decide +kernel
theorem dX2_clear_40 : decode cX2_clear 40 = .ok (.aload_n 0, 1) := by decide +kernel
theorem dX2_clear_41 : decode cX2_clear 41 = .ok (.iconst 0, 1) := by decide +kernel
theorem dX2_clear_42 : decode cX2_clear 42 = .ok (.putfield 61, 3) := by decide +kernel
theorem dX2_clear_45 : decode cX2_clear 45 = .ok (.iconst 0, 1) := by decide +kernel
theorem dX2_clear_46 : decode cX2_clear 46 = .ok (.istore_n 2, 1) := by decide +kernel
theorem dX2_clear_47 : decode cX2_clear 47 = .ok (.iload_n 2, 1) := by decide +kernel
theorem dX2_clear_48 : decode cX2_clear 48 = .ok (.aload_n 0, 1) := by decide +kernel
theorem dX2_clear_49 : decode cX2_clear 49 = .ok (.getfield 17, 3) := by decide +kernel
theorem dX2_clear_52 : decode cX2_clear 52 = .ok (.arraylength, 1) := by decide +kernel
theorem dX2_clear_53 : decode cX2_clear 53 = .ok (.if_icmp .ge 18, 3) := by decide +kernel
theorem dX2_clear_56 : decode cX2_clear 56 = .ok (.aload_n 0, 1) := by decide +kernel
theorem dX2_clear_57 : decode cX2_clear 57 = .ok (.getfield 17, 3) := by decide +kernel
theorem dX2_clear_60 : decode cX2_clear 60 = .ok (.iload_n 2, 1) := by decide +kernel
theorem dX2_clear_61 : decode cX2_clear 61 = .ok (.aaload, 1) := by decide +kernel
theorem dX2_clear_62 : decode cX2_clear 62 = .ok (.invokevirtual 67, 3) := by decide +kernel
theorem dX2_clear_65 : decode cX2_clear 65 = .ok (.iinc 2 1, 3) := by decide +kernel
theorem dX2_clear_68 : decode cX2_clear 68 = .ok (.goto (-21), 3) := by decide +kernel
theorem dX2_clear_71 : decode cX2_clear 71 = .ok (.iconst 0, 1) := by decide +kernel
theorem dX2_clear_72 : decode cX2_clear 72 = .ok (.istore_n 2, 1) := by decide +kernel
theorem dX2_clear_73 : decode cX2_clear 73 = .ok (.iload_n 2, 1) := by decide +kernel
theorem dX2_clear_74 : decode cX2_clear 74 = .ok (.aload_n 0, 1) := by decide +kernel
theorem dX2_clear_75 : decode cX2_clear 75 = .ok (.getfield 21, 3) := by decide +kernel
theorem dX2_clear_78 : decode cX2_clear 78 = .ok (.arraylength, 1) := by decide +kernel
theorem dX2_clear_79 : decode cX2_clear 79 = .ok (.if_icmp .ge 23, 3) := by decide +kernel
theorem dX2_clear_82 : decode cX2_clear 82 = .ok (.aload_n 0, 1) := by decide +kernel
theorem dX2_clear_83 : decode cX2_clear 83 = .ok (.getfield 21, 3) := by decide +kernel
theorem dX2_clear_86 : decode cX2_clear 86 = .ok (.iload_n 2, 1) := by decide +kernel
theorem dX2_clear_87 : decode cX2_clear 87 = .ok (.iconst 0, 1) := by decide +kernel
theorem dX2_clear_88 : decode cX2_clear 88 = .ok (.iastore, 1) := by decide +kernel
theorem dX2_clear_89 : decode cX2_clear 89 = .ok (.aload_n 0, 1) := by decide +kernel
theorem dX2_clear_90 : decode cX2_clear 90 = .ok (.getfield 25, 3) := by decide +kernel
theorem dX2_clear_93 : decode cX2_clear 93 = .ok (.iload_n 2, 1) := by decide +kernel
theorem dX2_clear_94 : decode cX2_clear 94 = .ok (.iconst 0, 1) := by decide +kernel
theorem dX2_clear_95 : decode cX2_clear 95 = .ok (.iastore, 1) := by decide +kernel
theorem dX2_clear_96 : decode cX2_clear 96 = .ok (.iinc 2 1, 3) := by decide +kernel
theorem dX2_clear_99 : decode cX2_clear 99 = .ok (.goto (-26), 3) := by decide +kernel
theorem dX2_clear_102 : decode cX2_clear 102 = .ok (.return_, 1) := by decide +kernel
theorem dX2_copyFrom_0 : decode cX2_copyFrom 0 = .ok (.aload_n 0, 1) := by decide +kernel
theorem dX2_copyFrom_1 : decode cX2_copyFrom 1 = .ok (.aload_n 1, 1) := by decide +kernel
theorem dX2_copyFrom_2 : decode cX2_copyFrom 2 = .ok (.getfield 9, 3) := by decide +kernel
theorem dX2_copyFrom_5 : decode cX2_copyFrom 5 = .ok (.putfield 9, 3) := by decide +kernel
theorem dX2_copyFrom_8 : decode cX2_copyFrom 8 = .ok (.aload_n 0, 1) := by decide +kernel
theorem dX2_copyFrom_9 : decode cX2_copyFrom 9 = .ok (.aload_n 1, 1) := by decide +kernel
theorem dX2_copyFrom_10 : decode cX2_copyFrom 10 = .ok (.getfield 28, 3) := by decide +kernel
theorem dX2_copyFrom_13 : decode cX2_copyFrom 13 = .ok (.putfield 28, 3) := by decide +kernel
theorem dX2_copyFrom_16 : decode cX2_copyFrom 16 = .ok (.aload_n 0, 1) := by decide +kernel
theorem dX2_copyFrom_17 : decode cX2_copyFrom 17 = .ok (.aload_n 1, 1) := by decide +kernel
theorem dX2_copyFrom_18 : decode cX2_copyFrom 18 = .ok (.getfield 37, 3) := by decide +kernel
theorem dX2_copyFrom_21 : decode cX2_copyFrom 21 = .ok (.putfield 37, 3) := by decide +kernel
theorem dX2_copyFrom_24 : decode cX2_copyFrom 24 = .ok (.aload_n 0, 1) := by decide +kernel
theorem dX2_copyFrom_25 : decode cX2_copyFrom 25 = .ok (.aload_n 1, 1) := by decide +kernel
theorem dX2_copyFrom_26 : decode cX2_copyFrom 26 = .ok (.getfield 46, 3) := by decide +kernel
theorem dX2_copyFrom_29 : decode cX2_copyFrom 29 = .ok (.putfield 46, 3) := by decide +kernel
theorem dX2_copyFrom_32 : decode cX2_copyFrom 32 = .ok (.aload_n 0, 1) := by decide +kernel
theorem dX2_copyFrom_33 : decode cX2_copyFrom 33 = .ok (.aload_n 1, 1) := by decide +kernel
theorem dX2_copyFrom_34 : decode cX2_copyFrom 34 = .ok (.getfield 49, 3) := by decide +kernel
theorem dX2_copyFrom_37 : decode cX2_copyFrom 37 = .ok (.putfield 49, 3) := by decide +kernel
theorem dX2_copyFrom_40 : decode cX2_copyFrom 40 = .ok (.aload_n 0, 1) := by decide +kernel
theorem dX2_copyFrom_41 : decode cX2_copyFrom 41 = .ok (.aload_n 1, 1) := by decide +kernel
theorem dX2_copyFrom_42 : decode cX2_copyFrom 42 = .ok (.getfield 52, 3) := by decide +kernel
theorem dX2_copyFrom_45 : decode cX2_copyFrom 45 = .ok (.putfield 52, 3) := by decide +kernel
theorem dX2_copyFrom_48 : decode cX2_copyFrom 48 = .ok (.aload_n 0, 1) := by decide +kernel
theorem dX2_copyFrom_49 : decode cX2_copyFrom 49 = .ok (.aload_n 1, 1) := by decide +kernel
theorem dX2_copyFrom_50 : decode cX2_copyFrom 50 = .ok (.getfield 55, 3) := by decide +kernel
theorem dX2_copyFrom_53 : decode cX2_copyFrom 53 = .ok (.putfield 55, 3) := by decide +kernel
theorem dX2_copyFrom_56 : decode cX2_copyFrom 56 = .ok (.aload_n 0, 1) := by decide +kernel
theorem dX2_copyFrom_57 : decode cX2_copyFrom 57 = .ok (.aload_n 1, 1) := by decide +kernel
theorem dX2_copyFrom_58 : decode cX2_copyFrom 58 = .ok (.getfield 58, 3) := by decide +kernel
theorem dX2_copyFrom_61 : decode cX2_copyFrom 61 = .ok (.putfield 58, 3) := by decide +kernel
theorem dX2_copyFrom_64 : decode cX2_copyFrom 64 = .ok (.aload_n 0, 1) := by decide +kernel
theorem dX2_copyFrom_65 : decode cX2_copyFrom 65 = .ok (.aload_n 1, 1) := by decide +kernel
theorem dX2_copyFrom_66 : decode cX2_copyFrom 66 = .ok (.getfield 61, 3) := by decide +kernel
theorem dX2_copyFrom_69 : decode cX2_copyFrom 69 = .ok (.putfield 61, 3) := by decide +kernel
theorem dX2_copyFrom_72 : decode cX2_copyFrom 72 = .ok (.iconst 0, 1) := by decide +kernel
theorem dX2_copyFrom_73 : decode cX2_copyFrom 73 = .ok (.istore_n 2, 1) := by decide +kernel
theorem dX2_copyFrom_74 : decode cX2_copyFrom 74 = .ok (.iload_n 2, 1) := by decide +kernel
theorem dX2_copyFrom_75 : decode cX2_copyFrom 75 = .ok (.aload_n 0, 1) := by decide +kernel
theorem dX2_copyFrom_76 : decode cX2_copyFrom 76 = .ok (.getfield 17, 3) := by decide +kernel
theorem dX2_copyFrom_79 : decode cX2_copyFrom 79 = .ok (.arraylength, 1) := by decide +kernel
theorem dX2_copyFrom_80 : decode cX2_copyFrom 80 = .ok (.if_icmp .ge 24, 3) := by decide +kernel
theorem dX2_copyFrom_83 : decode cX2_copyFrom 83 = .ok (.aload_n 0, 1) := by decide +kernel
theorem dX2_copyFrom_84 : decode cX2_copyFrom 84 = .ok (.getfield 17, 3) := by decide +kernel
theorem dX2_copyFrom_87 : decode cX2_copyFrom 87 = .ok (.iload_n 2, 1) := by decide +kernel
theorem dX2_copyFrom_88 : decode cX2_copyFrom 88 = .ok (.aaload, 1) := by decide +kernel
theorem dX2_copyFrom_89 : decode cX2_copyFrom 89 = .ok (.aload_n 1, 1) := by decide +kernel
theorem dX2_copyFrom_90 : decode cX2_copyFrom 90 = .ok (.getfield 17, 3) := by decide +kernel
theorem dX2_copyFrom_93 : decode cX2_copyFrom 93 = .ok (.iload_n 2, 1) := by decide +kernel
theorem dX2_copyFrom_94 : decode cX2_copyFrom 94 = .ok (.aaload, 1) := by decide +kernel
theorem dX2_copyFrom_95 : decode cX2_copyFrom 95 = .ok (.invokevirtual 70, 3) := by decide +kernel
theorem dX2_copyFrom_98 : decode cX2_copyFrom 98 = .ok (.iinc 2 1, 3) := by decide +kernel
theorem dX2_copyFrom_101 : decode cX2_copyFrom 101 = .ok (.goto (-27), 3) := by decide +kernel
theorem dX2_copyFrom_104 : decode cX2_copyFrom 104 = .ok (.aload_n 1, 1) := by decide +kernel
theorem dX2_copyFrom_105 : decode cX2_copyFrom 105 = .ok (.getfield 21, 3) := by decide +kernel
theorem dX2_copyFrom_108 : decode cX2_copyFrom 108 = .ok (.iconst 0, 1) := by decide +kernel
theorem dX2_copyFrom_109 : decode cX2_copyFrom 109 = .ok (.aload_n 0, 1) := by decide +kernel
theorem dX2_copyFrom_110 : decode cX2_copyFrom 110 = .ok (.getfield 21, 3) := by decide +kernel
theorem dX2_copyFrom_113 : decode cX2_copyFrom 113 = .ok (.iconst 0, 1) := by decide +kernel
theorem dX2_copyFrom_114 : decode cX2_copyFrom 114 = .ok (.aload_n 0, 1) := by decide +kernel
theorem dX2_copyFrom_115 : decode cX2_copyFrom 115 = .ok (.getfield 21, 3) := by decide +kernel
theorem dX2_copyFrom_118 : decode cX2_copyFrom 118 = .ok (.arraylength, 1) := by decide +kernel
theorem dX2_copyFrom_119 : decode cX2_copyFrom 119 = .ok (.invokestatic 74, 3) := by decide +kernel
theorem dX2_copyFrom_122 : decode cX2_copyFrom 122 = .ok (.aload_n 1, 1) := by decide +kernel
theorem dX2_copyFrom_123 : decode cX2_copyFrom 123 = .ok (.getfield 25, 3) := by decide +kernel
theorem dX2_copyFrom_126 : decode cX2_copyFrom 126 = .ok (.iconst 0, 1) := by decide +kernel
theorem dX2_copyFrom_127 : decode cX2_copyFrom 127 = .ok (.aload_n 0, 1) := by decide +kernel
theorem dX2_copyFrom_128 : decode cX2_copyFrom 128 = .ok (.getfield 25, 3) := by decide +kernel
theorem dX2_copyFrom_131 : decode cX2_copyFrom 131 = .ok (.iconst 0, 1) := by decide +kernel
theorem dX2_copyFrom_132 : decode cX2_copyFrom 132 = .ok (.aload_n 0, 1) := by decide +kernel
theorem dX2_copyFrom_133 : decode cX2_copyFrom 133 = .ok (.getfield 25, 3) := by decide +kernel
theorem dX2_copyFrom_136 : decode cX2_copyFrom 136 = .ok (.arraylength, 1) := by decide +kernel
theorem dX2_copyFrom_137 : decode cX2_copyFrom 137 = .ok (.invokestatic 74, 3) := by decide +kernel
theorem dX2_copyFrom_140 : decode cX2_copyFrom 140 = .ok (.iconst 0, 1) := by decide +kernel
theorem dX2_copyFrom_141 : decode cX2_copyFrom 141 = .ok (.istore_n 2, 1) := by decide +kernel
theorem dX2_copyFrom_142 : decode cX2_copyFrom 142 = .ok (.iload_n 2, 1) := by decide +kernel
theorem dX2_copyFrom_143 : decode cX2_copyFrom 143 = .ok (.aload_n 0, 1) := by decide +kernel
theorem dX2_copyFrom_144 : decode cX2_copyFrom 144 = .ok (.getfield 28, 3) := by decide +kernel
theorem dX2_copyFrom_147 : decode cX2_copyFrom 147 = .ok (.if_icmp .ge 24, 3) := by decide +kernel
theorem dX2_copyFrom_150 : decode cX2_copyFrom 150 = .ok (.aload_n 0, 1) := by decide +kernel
theorem dX2_copyFrom_151 : decode cX2_copyFrom 151 = .ok (.getfield 33, 3) := by decide +kernel
theorem dX2_copyFrom_154 : decode cX2_copyFrom 154 = .ok (.iload_n 2, 1) := by decide +kernel
theorem dX2_copyFrom_155 : decode cX2_copyFrom 155 = .ok (.aaload, 1) := by decide +kernel
theorem dX2_copyFrom_156 : decode cX2_copyFrom 156 = .ok (.aload_n 1, 1) := by decide +kernel
theorem dX2_copyFrom_157 : decode cX2_copyFrom 157 = .ok (.getfield 33, 3) := by decide +kernel
theorem dX2_copyFrom_160 : decode cX2_copyFrom 160 = .ok (.iload_n 2, 1) := by decide +kernel
theorem dX2_copyFrom_161 : decode cX2_copyFrom 161 = .ok (.aaload, 1) := by decide +kernel
theorem dX2_copyFrom_162 : decode cX2_copyFrom 162 = .ok (.invokevirtual 80, 3) := by decide +kernel
theorem dX2_copyFrom_165 : decode cX2_copyFrom 165 = .ok (.iinc 2 1, 3) := by decide +kernel
theorem dX2_copyFrom_168 : decode cX2_copyFrom 168 = .ok (.goto (-26), 3) := by decide +kernel
theorem dX2_copyFrom_171 : decode cX2_copyFrom 171 = .ok (.iconst 0, 1) := by decide +kernel
theorem dX2_copyFrom_172 : decode cX2_copyFrom 172 = .ok (.istore_n 2, 1) := by decide +kernel
theorem dX2_copyFrom_173 : decode cX2_copyFrom 173 = .ok (.iload_n 2, 1) := by decide +kernel
theorem dX2_copyFrom_174 : decode cX2_copyFrom 174 = .ok (.aload_n 0, 1) := by decide +kernel
theorem dX2_copyFrom_175 : decode cX2_copyFrom 175 = .ok (.getfield 37, 3) := by decide +kernel
theorem dX2_copyFrom_178 : decode cX2_copyFrom 178 = .ok (.if_icmp .ge 24, 3) := by decide +kernel
theorem dX2_copyFrom_181 : decode cX2_copyFrom 181 = .ok (.aload_n 0, 1) := by decide +kernel
theorem dX2_copyFrom_182 : decode cX2_copyFrom 182 = .ok (.getfield 42, 3) := by decide +kernel
theorem dX2_copyFrom_185 : decode cX2_copyFrom 185 = .ok (.iload_n 2, 1) := by decide +kernel
theorem dX2_copyFrom_186 : decode cX2_copyFrom 186 = .ok (.aaload, 1) := by decide +kernel
theorem dX2_copyFrom_187 : decode cX2_copyFrom 187 = .ok (.aload_n 1, 1) := by decide +kernel
theorem dX2_copyFrom_188 : decode cX2_copyFrom 188 = .ok (.getfield 42, 3) := by decide +kernel
theorem dX2_copyFrom_191 : decode cX2_copyFrom 191 = .ok (.iload_n 2, 1) := by decide +kernel
theorem dX2_copyFrom_192 : decode cX2_copyFrom 192 = .ok (.aaload, 1) := by decide +kernel
theorem dX2_copyFrom_193 : decode cX2_copyFrom 193 = .ok (.invokevirtual 83, 3) := by decide +kernel
theorem dX2_copyFrom_196 : decode cX2_copyFrom 196 = .ok (.iinc 2 1, 3) := by decide +kernel
theorem dX2_copyFrom_199 : decode cX2_copyFrom 199 = .ok (.goto (-26), 3) := by decide +kernel
theorem dX2_copyFrom_202 : decode cX2_copyFrom 202 = .ok (.return_, 1) := by decide +kernel
theorem dX2_hasPlace_0 : decode cX2_hasPlace 0 = .ok (.iload_n 1, 1) := by decide +kernel
theorem dX2_hasPlace_1 : decode cX2_hasPlace 1 = .ok (.ifCond .lt 15, 3) := by decide +kernel
theorem dX2_hasPlace_4 : decode cX2_hasPlace 4 = .ok (.iload_n 1, 1) := by decide +kernel
theorem dX2_hasPlace_5 : decode cX2_hasPlace 5 = .ok (.aload_n 0, 1) := by decide +kernel
theorem dX2_hasPlace_6 : decode cX2_hasPlace 6 = .ok (.getfield 9, 3) := by decide +kernel
theorem dX2_hasPlace_9 : decode cX2_hasPlace 9 = .ok (.if_icmp .ge 7, 3) := by decide +kernel
theorem dX2_hasPlace_12 : decode cX2_hasPlace 12 = .ok (.iconst 1, 1) := by decide +kernel
theorem dX2_hasPlace_13 : decode cX2_hasPlace 13 = .ok (.goto 4, 3) := by decide +kernel
theorem dX2_hasPlace_16 : decode cX2_hasPlace 16 = .ok (.iconst 0, 1) := by decide +kernel
theorem dX2_hasPlace_17 : decode cX2_hasPlace 17 = .ok (.ireturn, 1) := by decide +kernel
theorem dX2_hasSection_0 : decode cX2_hasSection 0 = .ok (.iload_n 1, 1) := by decide +kernel
theorem dX2_hasSection_1 : decode cX2_hasSection 1 = .ok (.ifCond .lt 17, 3) := by decide +kernel
theorem dX2_hasSection_4 : decode cX2_hasSection 4 = .ok (.iload_n 1, 1) := by decide +kernel
theorem dX2_hasSection_5 : decode cX2_hasSection 5 = .ok (.aload_n 0, 1) := by decide +kernel
theorem dX2_hasSection_6 : decode cX2_hasSection 6 = .ok (.getfield 9, 3) := by decide +kernel
theorem dX2_hasSection_9 : decode cX2_hasSection 9 = .ok (.iconst 1, 1) := by decide +kernel
theorem dX2_hasSection_10 : decode cX2_hasSection 10 = .ok (.isub, 1) := by decide +kernel
theorem dX2_hasSection_11 : decode cX2_hasSection 11 = .ok (.if_icmp .ge 7, 3) := by decide +kernel
theorem dX2_hasSection_14 : decode cX2_hasSection 14 = .ok (.iconst 1, 1) := by decide +kernel
theorem dX2_hasSection_15 : decode cX2_hasSection 15 = .ok (.goto 4, 3) := by decide +kernel
theorem dX2_hasSection_18 : decode cX2_hasSection 18 = .ok (.iconst 0, 1) := by decide +kernel
theorem dX2_hasSection_19 : decode cX2_hasSection 19 = .ok (.ireturn, 1) := by decide +kernel
theorem dX2_hasBarge_0 : decode cX2_hasBarge 0 = .ok (.iload_n 1, 1) := by decide +kernel
theorem dX2_hasBarge_1 : decode cX2_hasBarge 1 = .ok (.ifCond .lt 15, 3) := by decide +kernel
theorem dX2_hasBarge_4 : decode cX2_hasBarge 4 = .ok (.iload_n 1, 1) := by decide +kernel
theorem dX2_hasBarge_5 : decode cX2_hasBarge 5 = .ok (.aload_n 0, 1) := by decide +kernel
theorem dX2_hasBarge_6 : decode cX2_hasBarge 6 = .ok (.getfield 28, 3) := by decide +kernel
theorem dX2_hasBarge_9 : decode cX2_hasBarge 9 = .ok (.if_icmp .ge 7, 3) := by decide +kernel
theorem dX2_hasBarge_12 : decode cX2_hasBarge 12 = .ok (.iconst 1, 1) := by decide +kernel
theorem dX2_hasBarge_13 : decode cX2_hasBarge 13 = .ok (.goto 4, 3) := by decide +kernel
theorem dX2_hasBarge_16 : decode cX2_hasBarge 16 = .ok (.iconst 0, 1) := by decide +kernel
theorem dX2_hasBarge_17 : decode cX2_hasBarge 17 = .ok (.ireturn, 1) := by decide +kernel
theorem dX2_hasOrder_0 : decode cX2_hasOrder 0 = .ok (.iload_n 1, 1) := by decide +kernel
theorem dX2_hasOrder_1 : decode cX2_hasOrder 1 = .ok (.ifCond .lt 15, 3) := by decide +kernel
theorem dX2_hasOrder_4 : decode cX2_hasOrder 4 = .ok (.iload_n 1, 1) := by decide +kernel
theorem dX2_hasOrder_5 : decode cX2_hasOrder 5 = .ok (.aload_n 0, 1) := by decide +kernel
theorem dX2_hasOrder_6 : decode cX2_hasOrder 6 = .ok (.getfield 37, 3) := by decide +kernel
theorem dX2_hasOrder_9 : decode cX2_hasOrder 9 = .ok (.if_icmp .ge 7, 3) := by decide +kernel
theorem dX2_hasOrder_12 : decode cX2_hasOrder 12 = .ok (.iconst 1, 1) := by decide +kernel
theorem dX2_hasOrder_13 : decode cX2_hasOrder 13 = .ok (.goto 4, 3) := by decide +kernel
theorem dX2_hasOrder_16 : decode cX2_hasOrder 16 = .ok (.iconst 0, 1) := by decide +kernel
theorem dX2_hasOrder_17 : decode cX2_hasOrder 17 = .ok (.ireturn, 1) := by decide +kernel
theorem dX2_addBarge_0 : decode cX2_addBarge 0 = .ok (.aload_n 0, 1) := by decide +kernel
theorem dX2_addBarge_1 : decode cX2_addBarge 1 = .ok (.getfield 28, 3) := by decide +kernel
theorem dX2_addBarge_4 : decode cX2_addBarge 4 = .ok (.aload_n 0, 1) := by decide +kernel
theorem dX2_addBarge_5 : decode cX2_addBarge 5 = .ok (.getfield 33, 3) := by decide +kernel
theorem dX2_addBarge_8 : decode cX2_addBarge 8 = .ok (.arraylength, 1) := by decide +kernel
theorem dX2_addBarge_9 : decode cX2_addBarge 9 = .ok (.if_icmp .ge 41, 3) := by decide +kernel
theorem dX2_addBarge_12 : decode cX2_addBarge 12 = .ok (.aload_n 0, 1) := by decide +kernel
theorem dX2_addBarge_13 : decode cX2_addBarge 13 = .ok (.getfield 33, 3) := by decide +kernel
theorem dX2_addBarge_16 : decode cX2_addBarge 16 = .ok (.aload_n 0, 1) := by decide +kernel
theorem dX2_addBarge_17 : decode cX2_addBarge 17 = .ok (.getfield 28, 3) := by decide +kernel
theorem dX2_addBarge_20 : decode cX2_addBarge 20 = .ok (.aaload, 1) := by decide +kernel
theorem dX2_addBarge_21 : decode cX2_addBarge 21 = .ok (.iload_n 1, 1) := by decide +kernel
theorem dX2_addBarge_22 : decode cX2_addBarge 22 = .ok (.iload_n 2, 1) := by decide +kernel
theorem dX2_addBarge_23 : decode cX2_addBarge 23 = .ok (.iload_n 3, 1) := by decide +kernel
theorem dX2_addBarge_24 : decode cX2_addBarge 24 = .ok (.iload 4, 2) := by decide +kernel
theorem dX2_addBarge_26 : decode cX2_addBarge 26 = .ok (.invokevirtual 86, 3) := by decide +kernel
theorem dX2_addBarge_29 : decode cX2_addBarge 29 = .ok (.aload_n 0, 1) := by decide +kernel
theorem dX2_addBarge_30 : decode cX2_addBarge 30 = .ok (.dup, 1) := by decide +kernel
theorem dX2_addBarge_31 : decode cX2_addBarge 31 = .ok (.getfield 28, 3) := by decide +kernel
theorem dX2_addBarge_34 : decode cX2_addBarge 34 = .ok (.iconst 1, 1) := by decide +kernel
theorem dX2_addBarge_35 : decode cX2_addBarge 35 = .ok (.iadd, 1) := by decide +kernel
theorem dX2_addBarge_36 : decode cX2_addBarge 36 = .ok (.putfield 28, 3) := by decide +kernel
theorem dX2_addBarge_39 : decode cX2_addBarge 39 = .ok (.aload_n 0, 1) := by decide +kernel
theorem dX2_addBarge_40 : decode cX2_addBarge 40 = .ok (.dup, 1) := by decide +kernel
theorem dX2_addBarge_41 : decode cX2_addBarge 41 = .ok (.getfield 52, 3) := by decide +kernel
theorem dX2_addBarge_44 : decode cX2_addBarge 44 = .ok (.iload 4, 2) := by decide +kernel
theorem dX2_addBarge_46 : decode cX2_addBarge 46 = .ok (.iadd, 1) := by decide +kernel
theorem dX2_addBarge_47 : decode cX2_addBarge 47 = .ok (.putfield 52, 3) := by decide +kernel
theorem dX2_addBarge_50 : decode cX2_addBarge 50 = .ok (.return_, 1) := by decide +kernel
theorem dX2_canAddOrder_0 : decode cX2_canAddOrder 0 = .ok (.aload_n 0, 1) := by decide +kernel
theorem dX2_canAddOrder_1 : decode cX2_canAddOrder 1 = .ok (.iload_n 1, 1) := by decide +kernel
theorem dX2_canAddOrder_2 : decode cX2_canAddOrder 2 = .ok (.invokevirtual 90, 3) := by decide +kernel
theorem dX2_canAddOrder_5 : decode cX2_canAddOrder 5 = .ok (.ifCond .eq 19, 3) := by decide +kernel
theorem dX2_canAddOrder_8 : decode cX2_canAddOrder 8 = .ok (.aload_n 0, 1) := by decide +kernel
theorem dX2_canAddOrder_9 : decode cX2_canAddOrder 9 = .ok (.getfield 37, 3) := by decide +kernel
theorem dX2_canAddOrder_12 : decode cX2_canAddOrder 12 = .ok (.aload_n 0, 1) := by decide +kernel
theorem dX2_canAddOrder_13 : decode cX2_canAddOrder 13 = .ok (.getfield 42, 3) := by decide +kernel
theorem dX2_canAddOrder_16 : decode cX2_canAddOrder 16 = .ok (.arraylength, 1) := by decide +kernel
theorem dX2_canAddOrder_17 : decode cX2_canAddOrder 17 = .ok (.if_icmp .ge 7, 3) := by decide +kernel
theorem dX2_canAddOrder_20 : decode cX2_canAddOrder 20 = .ok (.iconst 1, 1) := by decide +kernel
theorem dX2_canAddOrder_21 : decode cX2_canAddOrder 21 = .ok (.goto 4, 3) := by decide +kernel
theorem dX2_canAddOrder_24 : decode cX2_canAddOrder 24 = .ok (.iconst 0, 1) := by decide +kernel
theorem dX2_canAddOrder_25 : decode cX2_canAddOrder 25 = .ok (.ireturn, 1) := by decide +kernel
theorem dX2_addOrder_0 : decode cX2_addOrder 0 = .ok (.aload_n 0, 1) := by decide +kernel
theorem dX2_addOrder_1 : decode cX2_addOrder 1 = .ok (.iload_n 1, 1) := by decide +kernel
theorem dX2_addOrder_2 : decode cX2_addOrder 2 = .ok (.invokevirtual 94, 3) := by decide +kernel
theorem dX2_addOrder_5 : decode cX2_addOrder 5 = .ok (.ifCond .eq 37, 3) := by decide +kernel
theorem dX2_addOrder_8 : decode cX2_addOrder 8 = .ok (.aload_n 0, 1) := by decide +kernel
theorem dX2_addOrder_9 : decode cX2_addOrder 9 = .ok (.getfield 42, 3) := by decide +kernel
theorem dX2_addOrder_12 : decode cX2_addOrder 12 = .ok (.aload_n 0, 1) := by decide +kernel
theorem dX2_addOrder_13 : decode cX2_addOrder 13 = .ok (.getfield 37, 3) := by decide +kernel
theorem dX2_addOrder_16 : decode cX2_addOrder 16 = .ok (.aaload, 1) := by decide +kernel
theorem dX2_addOrder_17 : decode cX2_addOrder 17 = .ok (.iload_n 1, 1) := by decide +kernel
theorem dX2_addOrder_18 : decode cX2_addOrder 18 = .ok (.iload_n 2, 1) := by decide +kernel
theorem dX2_addOrder_19 : decode cX2_addOrder 19 = .ok (.iload_n 3, 1) := by decide +kernel
theorem dX2_addOrder_20 : decode cX2_addOrder 20 = .ok (.aload_n 0, 1) := by decide +kernel
theorem dX2_addOrder_21 : decode cX2_addOrder 21 = .ok (.getfield 46, 3) := by decide +kernel
theorem dX2_addOrder_24 : decode cX2_addOrder 24 = .ok (.iload 4, 2) := by decide +kernel
theorem dX2_addOrder_26 : decode cX2_addOrder 26 = .ok (.iadd, 1) := by decide +kernel
theorem dX2_addOrder_27 : decode cX2_addOrder 27 = .ok (.iconst 1, 1) := by decide +kernel
theorem dX2_addOrder_28 : decode cX2_addOrder 28 = .ok (.isub, 1) := by decide +kernel
theorem dX2_addOrder_29 : decode cX2_addOrder 29 = .ok (.invokevirtual 97, 3) := by decide +kernel
theorem dX2_addOrder_32 : decode cX2_addOrder 32 = .ok (.aload_n 0, 1) := by decide +kernel
theorem dX2_addOrder_33 : decode cX2_addOrder 33 = .ok (.dup, 1) := by decide +kernel
theorem dX2_addOrder_34 : decode cX2_addOrder 34 = .ok (.getfield 37, 3) := by decide +kernel
theorem dX2_addOrder_37 : decode cX2_addOrder 37 = .ok (.iconst 1, 1) := by decide +kernel
theorem dX2_addOrder_38 : decode cX2_addOrder 38 = .ok (.iadd, 1) := by decide +kernel
theorem dX2_addOrder_39 : decode cX2_addOrder 39 = .ok (.putfield 37, 3) := by decide +kernel
theorem dX2_addOrder_42 : decode cX2_addOrder 42 = .ok (.return_, 1) := by decide +kernel
theorem dX2_countBargesAt_0 : decode cX2_countBargesAt 0 = .ok (.iconst 0, 1) := by decide +kernel
theorem dX2_countBargesAt_1 : decode cX2_countBargesAt 1 = .ok (.istore_n 2, 1) := by decide +kernel
theorem dX2_countBargesAt_2 : decode cX2_countBargesAt 2 = .ok (.iconst 0, 1) := by decide +kernel
theorem dX2_countBargesAt_3 : decode cX2_countBargesAt 3 = .ok (.istore_n 3, 1) := by decide +kernel
theorem dX2_countBargesAt_4 : decode cX2_countBargesAt 4 = .ok (.iload_n 3, 1) := by decide +kernel
theorem dX2_countBargesAt_5 : decode cX2_countBargesAt 5 = .ok (.aload_n 0, 1) := by decide +kernel
theorem dX2_countBargesAt_6 : decode cX2_countBargesAt 6 = .ok (.getfield 28, 3) := by decide +kernel
theorem dX2_countBargesAt_9 : decode cX2_countBargesAt 9 = .ok (.if_icmp .ge 37, 3) := by decide +kernel
theorem dX2_countBargesAt_12 : decode cX2_countBargesAt 12 = .ok (.aload_n 0, 1) := by decide +kernel
theorem dX2_countBargesAt_13 : decode cX2_countBargesAt 13 = .ok (.getfield 33, 3) := by decide +kernel
theorem dX2_countBargesAt_16 : decode cX2_countBargesAt 16 = .ok (.iload_n 3, 1) := by decide +kernel
theorem dX2_countBargesAt_17 : decode cX2_countBargesAt 17 = .ok (.aaload, 1) := by decide +kernel
theorem dX2_countBargesAt_18 : decode cX2_countBargesAt 18 = .ok (.getfield 98, 3) := by decide +kernel
theorem dX2_countBargesAt_21 : decode cX2_countBargesAt 21 = .ok (.iload_n 1, 1) := by decide +kernel
theorem dX2_countBargesAt_22 : decode cX2_countBargesAt 22 = .ok (.if_icmp .ne 18, 3) := by decide +kernel
theorem dX2_countBargesAt_25 : decode cX2_countBargesAt 25 = .ok (.aload_n 0, 1) := by decide +kernel
theorem dX2_countBargesAt_26 : decode cX2_countBargesAt 26 = .ok (.getfield 33, 3) := by decide +kernel
theorem dX2_countBargesAt_29 : decode cX2_countBargesAt 29 = .ok (.iload_n 3, 1) := by decide +kernel
theorem dX2_countBargesAt_30 : decode cX2_countBargesAt 30 = .ok (.aaload, 1) := by decide +kernel
theorem dX2_countBargesAt_31 : decode cX2_countBargesAt 31 = .ok (.invokevirtual 101, 3) := by decide +kernel
theorem dX2_countBargesAt_34 : decode cX2_countBargesAt 34 = .ok (.ifCond .ne 6, 3) := by decide +kernel
theorem dX2_countBargesAt_37 : decode cX2_countBargesAt 37 = .ok (.iinc 2 1, 3) := by decide +kernel
theorem dX2_countBargesAt_40 : decode cX2_countBargesAt 40 = .ok (.iinc 3 1, 3) := by decide +kernel
theorem dX2_countBargesAt_43 : decode cX2_countBargesAt 43 = .ok (.goto (-39), 3) := by decide +kernel
theorem dX2_countBargesAt_46 : decode cX2_countBargesAt 46 = .ok (.iload_n 2, 1) := by decide +kernel
theorem dX2_countBargesAt_47 : decode cX2_countBargesAt 47 = .ok (.ireturn, 1) := by decide +kernel
theorem dX2_countOrdersAt_0 : decode cX2_countOrdersAt 0 = .ok (.iconst 0, 1) := by decide +kernel
theorem dX2_countOrdersAt_1 : decode cX2_countOrdersAt 1 = .ok (.istore_n 2, 1) := by decide +kernel
theorem dX2_countOrdersAt_2 : decode cX2_countOrdersAt 2 = .ok (.iconst 0, 1) := by decide +kernel
theorem dX2_countOrdersAt_3 : decode cX2_countOrdersAt 3 = .ok (.istore_n 3, 1) := by decide +kernel
theorem dX2_countOrdersAt_4 : decode cX2_countOrdersAt 4 = .ok (.iload_n 3, 1) := by decide +kernel
theorem dX2_countOrdersAt_5 : decode cX2_countOrdersAt 5 = .ok (.aload_n 0, 1) := by decide +kernel
theorem dX2_countOrdersAt_6 : decode cX2_countOrdersAt 6 = .ok (.getfield 37, 3) := by decide +kernel
theorem dX2_countOrdersAt_9 : decode cX2_countOrdersAt 9 = .ok (.if_icmp .ge 37, 3) := by decide +kernel
theorem dX2_countOrdersAt_12 : decode cX2_countOrdersAt 12 = .ok (.aload_n 0, 1) := by decide +kernel
theorem dX2_countOrdersAt_13 : decode cX2_countOrdersAt 13 = .ok (.getfield 42, 3) := by decide +kernel
theorem dX2_countOrdersAt_16 : decode cX2_countOrdersAt 16 = .ok (.iload_n 3, 1) := by decide +kernel
theorem dX2_countOrdersAt_17 : decode cX2_countOrdersAt 17 = .ok (.aaload, 1) := by decide +kernel
theorem dX2_countOrdersAt_18 : decode cX2_countOrdersAt 18 = .ok (.getfield 105, 3) := by decide +kernel
theorem dX2_countOrdersAt_21 : decode cX2_countOrdersAt 21 = .ok (.iload_n 1, 1) := by decide +kernel
theorem dX2_countOrdersAt_22 : decode cX2_countOrdersAt 22 = .ok (.if_icmp .ne 18, 3) := by decide +kernel
theorem dX2_countOrdersAt_25 : decode cX2_countOrdersAt 25 = .ok (.aload_n 0, 1) := by decide +kernel
theorem dX2_countOrdersAt_26 : decode cX2_countOrdersAt 26 = .ok (.getfield 42, 3) := by decide +kernel
theorem dX2_countOrdersAt_29 : decode cX2_countOrdersAt 29 = .ok (.iload_n 3, 1) := by decide +kernel
theorem dX2_countOrdersAt_30 : decode cX2_countOrdersAt 30 = .ok (.aaload, 1) := by decide +kernel
theorem dX2_countOrdersAt_31 : decode cX2_countOrdersAt 31 = .ok (.invokevirtual 106, 3) := by decide +kernel
theorem dX2_countOrdersAt_34 : decode cX2_countOrdersAt 34 = .ok (.ifCond .eq 6, 3) := by decide +kernel
theorem dX2_countOrdersAt_37 : decode cX2_countOrdersAt 37 = .ok (.iinc 2 1, 3) := by decide +kernel
theorem dX2_countOrdersAt_40 : decode cX2_countOrdersAt 40 = .ok (.iinc 3 1, 3) := by decide +kernel
theorem dX2_countOrdersAt_43 : decode cX2_countOrdersAt 43 = .ok (.goto (-39), 3) := by decide +kernel
theorem dX2_countOrdersAt_46 : decode cX2_countOrdersAt 46 = .ok (.iload_n 2, 1) := by decide +kernel
theorem dX2_countOrdersAt_47 : decode cX2_countOrdersAt 47 = .ok (.ireturn, 1) := by decide +kernel
theorem dX2_countHeldBy_0 : decode cX2_countHeldBy 0 = .ok (.iconst 0, 1) := by decide +kernel
theorem dX2_countHeldBy_1 : decode cX2_countHeldBy 1 = .ok (.istore_n 2, 1) := by decide +kernel
theorem dX2_countHeldBy_2 : decode cX2_countHeldBy 2 = .ok (.iconst 0, 1) := by decide +kernel
theorem dX2_countHeldBy_3 : decode cX2_countHeldBy 3 = .ok (.istore_n 3, 1) := by decide +kernel
theorem dX2_countHeldBy_4 : decode cX2_countHeldBy 4 = .ok (.iload_n 3, 1) := by decide +kernel
theorem dX2_countHeldBy_5 : decode cX2_countHeldBy 5 = .ok (.aload_n 0, 1) := by decide +kernel
theorem dX2_countHeldBy_6 : decode cX2_countHeldBy 6 = .ok (.getfield 37, 3) := by decide +kernel
theorem dX2_countHeldBy_9 : decode cX2_countHeldBy 9 = .ok (.if_icmp .ge 37, 3) := by decide +kernel
theorem dX2_countHeldBy_12 : decode cX2_countHeldBy 12 = .ok (.aload_n 0, 1) := by decide +kernel
theorem dX2_countHeldBy_13 : decode cX2_countHeldBy 13 = .ok (.getfield 42, 3) := by decide +kernel
theorem dX2_countHeldBy_16 : decode cX2_countHeldBy 16 = .ok (.iload_n 3, 1) := by decide +kernel
theorem dX2_countHeldBy_17 : decode cX2_countHeldBy 17 = .ok (.aaload, 1) := by decide +kernel
theorem dX2_countHeldBy_18 : decode cX2_countHeldBy 18 = .ok (.getfield 109, 3) := by decide +kernel
theorem dX2_countHeldBy_21 : decode cX2_countHeldBy 21 = .ok (.iload_n 1, 1) := by decide +kernel
theorem dX2_countHeldBy_22 : decode cX2_countHeldBy 22 = .ok (.if_icmp .ne 18, 3) := by decide +kernel
theorem dX2_countHeldBy_25 : decode cX2_countHeldBy 25 = .ok (.aload_n 0, 1) := by decide +kernel
theorem dX2_countHeldBy_26 : decode cX2_countHeldBy 26 = .ok (.getfield 42, 3) := by decide +kernel
theorem dX2_countHeldBy_29 : decode cX2_countHeldBy 29 = .ok (.iload_n 3, 1) := by decide +kernel
theorem dX2_countHeldBy_30 : decode cX2_countHeldBy 30 = .ok (.aaload, 1) := by decide +kernel
theorem dX2_countHeldBy_31 : decode cX2_countHeldBy 31 = .ok (.invokevirtual 112, 3) := by decide +kernel
theorem dX2_countHeldBy_34 : decode cX2_countHeldBy 34 = .ok (.ifCond .eq 6, 3) := by decide +kernel
theorem dX2_countHeldBy_37 : decode cX2_countHeldBy 37 = .ok (.iinc 2 1, 3) := by decide +kernel
theorem dX2_countHeldBy_40 : decode cX2_countHeldBy 40 = .ok (.iinc 3 1, 3) := by decide +kernel
theorem dX2_countHeldBy_43 : decode cX2_countHeldBy 43 = .ok (.goto (-39), 3) := by decide +kernel
theorem dX2_countHeldBy_46 : decode cX2_countHeldBy 46 = .ok (.iload_n 2, 1) := by decide +kernel
theorem dX2_countHeldBy_47 : decode cX2_countHeldBy 47 = .ok (.ireturn, 1) := by decide +kernel
theorem dX2_bowlsNotBegun_0 : decode cX2_bowlsNotBegun 0 = .ok (.iconst 0, 1) := by decide +kernel
theorem dX2_bowlsNotBegun_1 : decode cX2_bowlsNotBegun 1 = .ok (.istore_n 2, 1) := by decide +kernel
theorem dX2_bowlsNotBegun_2 : decode cX2_bowlsNotBegun 2 = .ok (.iconst 0, 1) := by decide +kernel
theorem dX2_bowlsNotBegun_3 : decode cX2_bowlsNotBegun 3 = .ok (.istore_n 3, 1) := by decide +kernel
theorem dX2_bowlsNotBegun_4 : decode cX2_bowlsNotBegun 4 = .ok (.iload_n 3, 1) := by decide +kernel
theorem dX2_bowlsNotBegun_5 : decode cX2_bowlsNotBegun 5 = .ok (.aload_n 1, 1) := by decide +kernel
theorem dX2_bowlsNotBegun_6 : decode cX2_bowlsNotBegun 6 = .ok (.getfield 115, 3) := by decide +kernel
theorem dX2_bowlsNotBegun_9 : decode cX2_bowlsNotBegun 9 = .ok (.if_icmp .ge 51, 3) := by decide +kernel
theorem dX2_bowlsNotBegun_12 : decode cX2_bowlsNotBegun 12 = .ok (.aload_n 1, 1) := by decide +kernel
theorem dX2_bowlsNotBegun_13 : decode cX2_bowlsNotBegun 13 = .ok (.iload_n 3, 1) := by decide +kernel
theorem dX2_bowlsNotBegun_14 : decode cX2_bowlsNotBegun 14 = .ok (.invokevirtual 118, 3) := by decide +kernel
theorem dX2_bowlsNotBegun_17 : decode cX2_bowlsNotBegun 17 = .ok (.istore 4, 2) := by decide +kernel
theorem dX2_bowlsNotBegun_19 : decode cX2_bowlsNotBegun 19 = .ok (.aload_n 0, 1) := by decide +kernel
theorem dX2_bowlsNotBegun_20 : decode cX2_bowlsNotBegun 20 = .ok (.iload 4, 2) := by decide +kernel
theorem dX2_bowlsNotBegun_22 : decode cX2_bowlsNotBegun 22 = .ok (.invokevirtual 122, 3) := by decide +kernel
theorem dX2_bowlsNotBegun_25 : decode cX2_bowlsNotBegun 25 = .ok (.ifCond .eq 29, 3) := by decide +kernel
theorem dX2_bowlsNotBegun_28 : decode cX2_bowlsNotBegun 28 = .ok (.aload_n 0, 1) := by decide +kernel
theorem dX2_bowlsNotBegun_29 : decode cX2_bowlsNotBegun 29 = .ok (.getfield 42, 3) := by decide +kernel
theorem dX2_bowlsNotBegun_32 : decode cX2_bowlsNotBegun 32 = .ok (.iload 4, 2) := by decide +kernel
theorem dX2_bowlsNotBegun_34 : decode cX2_bowlsNotBegun 34 = .ok (.aaload, 1) := by decide +kernel
theorem dX2_bowlsNotBegun_35 : decode cX2_bowlsNotBegun 35 = .ok (.getfield 125, 3) := by decide +kernel
theorem dX2_bowlsNotBegun_38 : decode cX2_bowlsNotBegun 38 = .ok (.ifCond .ne 16, 3) := by decide +kernel
theorem dX2_bowlsNotBegun_41 : decode cX2_bowlsNotBegun 41 = .ok (.iload_n 2, 1) := by decide +kernel
theorem dX2_bowlsNotBegun_42 : decode cX2_bowlsNotBegun 42 = .ok (.aload_n 0, 1) := by decide +kernel
theorem dX2_bowlsNotBegun_43 : decode cX2_bowlsNotBegun 43 = .ok (.getfield 42, 3) := by decide +kernel
theorem dX2_bowlsNotBegun_46 : decode cX2_bowlsNotBegun 46 = .ok (.iload 4, 2) := by decide +kernel
theorem dX2_bowlsNotBegun_48 : decode cX2_bowlsNotBegun 48 = .ok (.aaload, 1) := by decide +kernel
theorem dX2_bowlsNotBegun_49 : decode cX2_bowlsNotBegun 49 = .ok (.getfield 129, 3) := by decide +kernel
theorem dX2_bowlsNotBegun_52 : decode cX2_bowlsNotBegun 52 = .ok (.iadd, 1) := by decide +kernel
theorem dX2_bowlsNotBegun_53 : decode cX2_bowlsNotBegun 53 = .ok (.istore_n 2, 1) := by decide +kernel
theorem dX2_bowlsNotBegun_54 : decode cX2_bowlsNotBegun 54 = .ok (.iinc 3 1, 3) := by decide +kernel
theorem dX2_bowlsNotBegun_57 : decode cX2_bowlsNotBegun 57 = .ok (.goto (-53), 3) := by decide +kernel
theorem dX2_bowlsNotBegun_60 : decode cX2_bowlsNotBegun 60 = .ok (.iload_n 2, 1) := by decide +kernel
theorem dX2_bowlsNotBegun_61 : decode cX2_bowlsNotBegun 61 = .ok (.ireturn, 1) := by decide +kernel
theorem dX2_firstOpenByDeadline_0 : decode cX2_firstOpenByDeadline 0 = .ok (.iconst (-1), 1) := by decide +kernel
theorem dX2_firstOpenByDeadline_1 : decode cX2_firstOpenByDeadline 1 = .ok (.istore_n 1, 1) := by decide +kernel
theorem dX2_firstOpenByDeadline_2 : decode cX2_firstOpenByDeadline 2 = .ok (.iconst 0, 1) := by decide +kernel
theorem dX2_firstOpenByDeadline_3 : decode cX2_firstOpenByDeadline 3 = .ok (.istore_n 2, 1) := by decide +kernel
theorem dX2_firstOpenByDeadline_4 : decode cX2_firstOpenByDeadline 4 = .ok (.iconst 0, 1) := by decide +kernel
theorem dX2_firstOpenByDeadline_5 : decode cX2_firstOpenByDeadline 5 = .ok (.istore_n 3, 1) := by decide +kernel
theorem dX2_firstOpenByDeadline_6 : decode cX2_firstOpenByDeadline 6 = .ok (.iload_n 3, 1) := by decide +kernel
theorem dX2_firstOpenByDeadline_7 : decode cX2_firstOpenByDeadline 7 = .ok (.aload_n 0, 1) := by decide +kernel
theorem dX2_firstOpenByDeadline_8 : decode cX2_firstOpenByDeadline 8 = .ok (.getfield 37, 3) := by decide +kernel
theorem dX2_firstOpenByDeadline_11 : decode cX2_firstOpenByDeadline 11 = .ok (.if_icmp .ge 54, 3) := by decide +kernel
theorem dX2_firstOpenByDeadline_14 : decode cX2_firstOpenByDeadline 14 = .ok (.aload_n 0, 1) := by decide +kernel
theorem dX2_firstOpenByDeadline_15 : decode cX2_firstOpenByDeadline 15 = .ok (.getfield 42, 3) := by decide +kernel
theorem dX2_firstOpenByDeadline_18 : decode cX2_firstOpenByDeadline 18 = .ok (.iload_n 3, 1) := by decide +kernel
theorem dX2_firstOpenByDeadline_19 : decode cX2_firstOpenByDeadline 19 = .ok (.aaload, 1) := by decide +kernel
theorem dX2_firstOpenByDeadline_20 : decode cX2_firstOpenByDeadline 20 = .ok (.getfield 132, 3) := by decide +kernel
theorem dX2_firstOpenByDeadline_23 : decode cX2_firstOpenByDeadline 23 = .ok (.getstatic 136, 3) := by decide +kernel
theorem dX2_firstOpenByDeadline_26 : decode cX2_firstOpenByDeadline 26 = .ok (.if_acmp .ne 33, 3) := by decide +kernel
theorem dX2_firstOpenByDeadline_29 : decode cX2_firstOpenByDeadline 29 = .ok (.iload_n 1, 1) := by decide +kernel
theorem dX2_firstOpenByDeadline_30 : decode cX2_firstOpenByDeadline 30 = .ok (.iconst (-1), 1) := by decide +kernel
theorem dX2_firstOpenByDeadline_31 : decode cX2_firstOpenByDeadline 31 = .ok (.if_icmp .eq 16, 3) := by decide +kernel
theorem dX2_firstOpenByDeadline_34 : decode cX2_firstOpenByDeadline 34 = .ok (.aload_n 0, 1) := by decide +kernel
theorem dX2_firstOpenByDeadline_35 : decode cX2_firstOpenByDeadline 35 = .ok (.getfield 42, 3) := by decide +kernel
theorem dX2_firstOpenByDeadline_38 : decode cX2_firstOpenByDeadline 38 = .ok (.iload_n 3, 1) := by decide +kernel
theorem dX2_firstOpenByDeadline_39 : decode cX2_firstOpenByDeadline 39 = .ok (.aaload, 1) := by decide +kernel
theorem dX2_firstOpenByDeadline_40 : decode cX2_firstOpenByDeadline 40 = .ok (.getfield 141, 3) := by decide +kernel
theorem dX2_firstOpenByDeadline_43 : decode cX2_firstOpenByDeadline 43 = .ok (.iload_n 2, 1) := by decide +kernel
theorem dX2_firstOpenByDeadline_44 : decode cX2_firstOpenByDeadline 44 = .ok (.if_icmp .ge 15, 3) := by decide +kernel
theorem dX2_firstOpenByDeadline_47 : decode cX2_firstOpenByDeadline 47 = .ok (.iload_n 3, 1) := by decide +kernel
theorem dX2_firstOpenByDeadline_48 : decode cX2_firstOpenByDeadline 48 = .ok (.istore_n 1, 1) := by decide +kernel
theorem dX2_firstOpenByDeadline_49 : decode cX2_firstOpenByDeadline 49 = .ok (.aload_n 0, 1) := by decide +kernel
theorem dX2_firstOpenByDeadline_50 : decode cX2_firstOpenByDeadline 50 = .ok (.getfield 42, 3) := by decide +kernel
theorem dX2_firstOpenByDeadline_53 : decode cX2_firstOpenByDeadline 53 = .ok (.iload_n 3, 1) := by decide +kernel
theorem dX2_firstOpenByDeadline_54 : decode cX2_firstOpenByDeadline 54 = .ok (.aaload, 1) := by decide +kernel
theorem dX2_firstOpenByDeadline_55 : decode cX2_firstOpenByDeadline 55 = .ok (.getfield 141, 3) := by decide +kernel
theorem dX2_firstOpenByDeadline_58 : decode cX2_firstOpenByDeadline 58 = .ok (.istore_n 2, 1) := by decide +kernel
theorem dX2_firstOpenByDeadline_59 : decode cX2_firstOpenByDeadline 59 = .ok (.iinc 3 1, 3) := by decide +kernel
theorem dX2_firstOpenByDeadline_62 : decode cX2_firstOpenByDeadline 62 = .ok (.goto (-56), 3) := by decide +kernel
theorem dX2_firstOpenByDeadline_65 : decode cX2_firstOpenByDeadline 65 = .ok (.iload_n 1, 1) := by decide +kernel
theorem dX2_firstOpenByDeadline_66 : decode cX2_firstOpenByDeadline 66 = .ok (.ireturn, 1) := by decide +kernel
theorem dX2_sumOfCleanPairs_0 : decode cX2_sumOfCleanPairs 0 = .ok (.iconst 0, 1) := by decide +kernel
theorem dX2_sumOfCleanPairs_1 : decode cX2_sumOfCleanPairs 1 = .ok (.istore_n 1, 1) := by decide +kernel
theorem dX2_sumOfCleanPairs_2 : decode cX2_sumOfCleanPairs 2 = .ok (.iconst 0, 1) := by decide +kernel
theorem dX2_sumOfCleanPairs_3 : decode cX2_sumOfCleanPairs 3 = .ok (.istore_n 2, 1) := by decide +kernel
theorem dX2_sumOfCleanPairs_4 : decode cX2_sumOfCleanPairs 4 = .ok (.iload_n 2, 1) := by decide +kernel
theorem dX2_sumOfCleanPairs_5 : decode cX2_sumOfCleanPairs 5 = .ok (.aload_n 0, 1) := by decide +kernel
theorem dX2_sumOfCleanPairs_6 : decode cX2_sumOfCleanPairs 6 = .ok (.getfield 28, 3) := by decide +kernel
theorem dX2_sumOfCleanPairs_9 : decode cX2_sumOfCleanPairs 9 = .ok (.if_icmp .ge 21, 3) := by decide +kernel
theorem dX2_sumOfCleanPairs_12 : decode cX2_sumOfCleanPairs 12 = .ok (.iload_n 1, 1) := by decide +kernel
theorem dX2_sumOfCleanPairs_13 : decode cX2_sumOfCleanPairs 13 = .ok (.aload_n 0, 1) := by decide +kernel
theorem dX2_sumOfCleanPairs_14 : decode cX2_sumOfCleanPairs 14 = .ok (.getfield 33, 3) := by decide +kernel
theorem dX2_sumOfCleanPairs_17 : decode cX2_sumOfCleanPairs 17 = .ok (.iload_n 2, 1) := by decide +kernel
theorem dX2_sumOfCleanPairs_18 : decode cX2_sumOfCleanPairs 18 = .ok (.aaload, 1) := by decide +kernel
theorem dX2_sumOfCleanPairs_19 : decode cX2_sumOfCleanPairs 19 = .ok (.getfield 144, 3) := by decide +kernel
theorem dX2_sumOfCleanPairs_22 : decode cX2_sumOfCleanPairs 22 = .ok (.iadd, 1) := by decide +kernel
theorem dX2_sumOfCleanPairs_23 : decode cX2_sumOfCleanPairs 23 = .ok (.istore_n 1, 1) := by decide +kernel
theorem dX2_sumOfCleanPairs_24 : decode cX2_sumOfCleanPairs 24 = .ok (.iinc 2 1, 3) := by decide +kernel
theorem dX2_sumOfCleanPairs_27 : decode cX2_sumOfCleanPairs 27 = .ok (.goto (-23), 3) := by decide +kernel
theorem dX2_sumOfCleanPairs_30 : decode cX2_sumOfCleanPairs 30 = .ok (.iload_n 1, 1) := by decide +kernel
theorem dX2_sumOfCleanPairs_31 : decode cX2_sumOfCleanPairs 31 = .ok (.ireturn, 1) := by decide +kernel
theorem dX2_pairsGap_0 : decode cX2_pairsGap 0 = .ok (.aload_n 0, 1) := by decide +kernel
theorem dX2_pairsGap_1 : decode cX2_pairsGap 1 = .ok (.invokevirtual 147, 3) := by decide +kernel
theorem dX2_pairsGap_4 : decode cX2_pairsGap 4 = .ok (.istore_n 1, 1) := by decide +kernel
theorem dX2_pairsGap_5 : decode cX2_pairsGap 5 = .ok (.iconst 0, 1) := by decide +kernel
theorem dX2_pairsGap_6 : decode cX2_pairsGap 6 = .ok (.istore_n 2, 1) := by decide +kernel
theorem dX2_pairsGap_7 : decode cX2_pairsGap 7 = .ok (.iload_n 2, 1) := by decide +kernel
theorem dX2_pairsGap_8 : decode cX2_pairsGap 8 = .ok (.aload_n 0, 1) := by decide +kernel
theorem dX2_pairsGap_9 : decode cX2_pairsGap 9 = .ok (.getfield 28, 3) := by decide +kernel
theorem dX2_pairsGap_12 : decode cX2_pairsGap 12 = .ok (.if_icmp .ge 21, 3) := by decide +kernel
theorem dX2_pairsGap_15 : decode cX2_pairsGap 15 = .ok (.iload_n 1, 1) := by decide +kernel
theorem dX2_pairsGap_16 : decode cX2_pairsGap 16 = .ok (.aload_n 0, 1) := by decide +kernel
theorem dX2_pairsGap_17 : decode cX2_pairsGap 17 = .ok (.getfield 33, 3) := by decide +kernel
theorem dX2_pairsGap_20 : decode cX2_pairsGap 20 = .ok (.iload_n 2, 1) := by decide +kernel
theorem dX2_pairsGap_21 : decode cX2_pairsGap 21 = .ok (.aaload, 1) := by decide +kernel
theorem dX2_pairsGap_22 : decode cX2_pairsGap 22 = .ok (.getfield 151, 3) := by decide +kernel
theorem dX2_pairsGap_25 : decode cX2_pairsGap 25 = .ok (.iadd, 1) := by decide +kernel
theorem dX2_pairsGap_26 : decode cX2_pairsGap 26 = .ok (.istore_n 1, 1) := by decide +kernel
theorem dX2_pairsGap_27 : decode cX2_pairsGap 27 = .ok (.iinc 2 1, 3) := by decide +kernel
theorem dX2_pairsGap_30 : decode cX2_pairsGap 30 = .ok (.goto (-23), 3) := by decide +kernel
theorem dX2_pairsGap_33 : decode cX2_pairsGap 33 = .ok (.iconst 0, 1) := by decide +kernel
theorem dX2_pairsGap_34 : decode cX2_pairsGap 34 = .ok (.istore_n 2, 1) := by decide +kernel
theorem dX2_pairsGap_35 : decode cX2_pairsGap 35 = .ok (.iload_n 2, 1) := by decide +kernel
theorem dX2_pairsGap_36 : decode cX2_pairsGap 36 = .ok (.aload_n 0, 1) := by decide +kernel
theorem dX2_pairsGap_37 : decode cX2_pairsGap 37 = .ok (.getfield 21, 3) := by decide +kernel
theorem dX2_pairsGap_40 : decode cX2_pairsGap 40 = .ok (.arraylength, 1) := by decide +kernel
theorem dX2_pairsGap_41 : decode cX2_pairsGap 41 = .ok (.if_icmp .ge 18, 3) := by decide +kernel
theorem dX2_pairsGap_44 : decode cX2_pairsGap 44 = .ok (.iload_n 1, 1) := by decide +kernel
theorem dX2_pairsGap_45 : decode cX2_pairsGap 45 = .ok (.aload_n 0, 1) := by decide +kernel
theorem dX2_pairsGap_46 : decode cX2_pairsGap 46 = .ok (.getfield 21, 3) := by decide +kernel
theorem dX2_pairsGap_49 : decode cX2_pairsGap 49 = .ok (.iload_n 2, 1) := by decide +kernel
theorem dX2_pairsGap_50 : decode cX2_pairsGap 50 = .ok (.iaload, 1) := by decide +kernel
theorem dX2_pairsGap_51 : decode cX2_pairsGap 51 = .ok (.iadd, 1) := by decide +kernel
theorem dX2_pairsGap_52 : decode cX2_pairsGap 52 = .ok (.istore_n 1, 1) := by decide +kernel
theorem dX2_pairsGap_53 : decode cX2_pairsGap 53 = .ok (.iinc 2 1, 3) := by decide +kernel
theorem dX2_pairsGap_56 : decode cX2_pairsGap 56 = .ok (.goto (-21), 3) := by decide +kernel
theorem dX2_pairsGap_59 : decode cX2_pairsGap 59 = .ok (.aload_n 0, 1) := by decide +kernel
theorem dX2_pairsGap_60 : decode cX2_pairsGap 60 = .ok (.getfield 52, 3) := by decide +kernel
theorem dX2_pairsGap_63 : decode cX2_pairsGap 63 = .ok (.iload_n 1, 1) := by decide +kernel
theorem dX2_pairsGap_64 : decode cX2_pairsGap 64 = .ok (.isub, 1) := by decide +kernel
theorem dX2_pairsGap_65 : decode cX2_pairsGap 65 = .ok (.invokestatic 154, 3) := by decide +kernel
theorem dX2_pairsGap_68 : decode cX2_pairsGap 68 = .ok (.ireturn, 1) := by decide +kernel
theorem dX2_bowlsGap_0 : decode cX2_bowlsGap 0 = .ok (.iconst 0, 1) := by decide +kernel
theorem dX2_bowlsGap_1 : decode cX2_bowlsGap 1 = .ok (.istore_n 1, 1) := by decide +kernel
theorem dX2_bowlsGap_2 : decode cX2_bowlsGap 2 = .ok (.iconst 0, 1) := by decide +kernel
theorem dX2_bowlsGap_3 : decode cX2_bowlsGap 3 = .ok (.istore_n 2, 1) := by decide +kernel
theorem dX2_bowlsGap_4 : decode cX2_bowlsGap 4 = .ok (.iload_n 2, 1) := by decide +kernel
theorem dX2_bowlsGap_5 : decode cX2_bowlsGap 5 = .ok (.aload_n 0, 1) := by decide +kernel
theorem dX2_bowlsGap_6 : decode cX2_bowlsGap 6 = .ok (.getfield 25, 3) := by decide +kernel
theorem dX2_bowlsGap_9 : decode cX2_bowlsGap 9 = .ok (.arraylength, 1) := by decide +kernel
theorem dX2_bowlsGap_10 : decode cX2_bowlsGap 10 = .ok (.if_icmp .ge 18, 3) := by decide +kernel
theorem dX2_bowlsGap_13 : decode cX2_bowlsGap 13 = .ok (.iload_n 1, 1) := by decide +kernel
theorem dX2_bowlsGap_14 : decode cX2_bowlsGap 14 = .ok (.aload_n 0, 1) := by decide +kernel
theorem dX2_bowlsGap_15 : decode cX2_bowlsGap 15 = .ok (.getfield 25, 3) := by decide +kernel
theorem dX2_bowlsGap_18 : decode cX2_bowlsGap 18 = .ok (.iload_n 2, 1) := by decide +kernel
theorem dX2_bowlsGap_19 : decode cX2_bowlsGap 19 = .ok (.iaload, 1) := by decide +kernel
theorem dX2_bowlsGap_20 : decode cX2_bowlsGap 20 = .ok (.iadd, 1) := by decide +kernel
theorem dX2_bowlsGap_21 : decode cX2_bowlsGap 21 = .ok (.istore_n 1, 1) := by decide +kernel
theorem dX2_bowlsGap_22 : decode cX2_bowlsGap 22 = .ok (.iinc 2 1, 3) := by decide +kernel
theorem dX2_bowlsGap_25 : decode cX2_bowlsGap 25 = .ok (.goto (-21), 3) := by decide +kernel
theorem dX2_bowlsGap_28 : decode cX2_bowlsGap 28 = .ok (.aload_n 0, 1) := by decide +kernel
theorem dX2_bowlsGap_29 : decode cX2_bowlsGap 29 = .ok (.getfield 55, 3) := by decide +kernel
theorem dX2_bowlsGap_32 : decode cX2_bowlsGap 32 = .ok (.iload_n 1, 1) := by decide +kernel
theorem dX2_bowlsGap_33 : decode cX2_bowlsGap 33 = .ok (.isub, 1) := by decide +kernel
theorem dX2_bowlsGap_34 : decode cX2_bowlsGap 34 = .ok (.invokestatic 154, 3) := by decide +kernel
theorem dX2_bowlsGap_37 : decode cX2_bowlsGap 37 = .ok (.ireturn, 1) := by decide +kernel
theorem dX2_wasEaten_0 : decode cX2_wasEaten 0 = .ok (.aload_n 0, 1) := by decide +kernel
theorem dX2_wasEaten_1 : decode cX2_wasEaten 1 = .ok (.iload_n 1, 1) := by decide +kernel
theorem dX2_wasEaten_2 : decode cX2_wasEaten 2 = .ok (.invokevirtual 122, 3) := by decide +kernel
theorem dX2_wasEaten_5 : decode cX2_wasEaten 5 = .ok (.ifCond .eq 22, 3) := by decide +kernel
theorem dX2_wasEaten_8 : decode cX2_wasEaten 8 = .ok (.aload_n 0, 1) := by decide +kernel
theorem dX2_wasEaten_9 : decode cX2_wasEaten 9 = .ok (.getfield 42, 3) := by decide +kernel
theorem dX2_wasEaten_12 : decode cX2_wasEaten 12 = .ok (.iload_n 1, 1) := by decide +kernel
theorem dX2_wasEaten_13 : decode cX2_wasEaten 13 = .ok (.aaload, 1) := by decide +kernel
theorem dX2_wasEaten_14 : decode cX2_wasEaten 14 = .ok (.getfield 132, 3) := by decide +kernel
theorem dX2_wasEaten_17 : decode cX2_wasEaten 17 = .ok (.getstatic 159, 3) := by decide +kernel
theorem dX2_wasEaten_20 : decode cX2_wasEaten 20 = .ok (.if_acmp .ne 7, 3) := by decide +kernel
theorem dX2_wasEaten_23 : decode cX2_wasEaten 23 = .ok (.iconst 1, 1) := by decide +kernel
theorem dX2_wasEaten_24 : decode cX2_wasEaten 24 = .ok (.goto 4, 3) := by decide +kernel
theorem dX2_wasEaten_27 : decode cX2_wasEaten 27 = .ok (.iconst 0, 1) := by decide +kernel
theorem dX2_wasEaten_28 : decode cX2_wasEaten 28 = .ok (.ireturn, 1) := by decide +kernel
theorem dX2_isSailing_0 : decode cX2_isSailing 0 = .ok (.aload_n 0, 1) := by decide +kernel
theorem dX2_isSailing_1 : decode cX2_isSailing 1 = .ok (.iload_n 1, 1) := by decide +kernel
theorem dX2_isSailing_2 : decode cX2_isSailing 2 = .ok (.invokevirtual 162, 3) := by decide +kernel
theorem dX2_isSailing_5 : decode cX2_isSailing 5 = .ok (.ifCond .eq 19, 3) := by decide +kernel
theorem dX2_isSailing_8 : decode cX2_isSailing 8 = .ok (.aload_n 0, 1) := by decide +kernel
theorem dX2_isSailing_9 : decode cX2_isSailing 9 = .ok (.getfield 33, 3) := by decide +kernel
theorem dX2_isSailing_12 : decode cX2_isSailing 12 = .ok (.iload_n 1, 1) := by decide +kernel
theorem dX2_isSailing_13 : decode cX2_isSailing 13 = .ok (.aaload, 1) := by decide +kernel
theorem dX2_isSailing_14 : decode cX2_isSailing 14 = .ok (.invokevirtual 165, 3) := by decide +kernel
theorem dX2_isSailing_17 : decode cX2_isSailing 17 = .ok (.ifCond .eq 7, 3) := by decide +kernel
theorem dX2_isSailing_20 : decode cX2_isSailing 20 = .ok (.iconst 1, 1) := by decide +kernel
theorem dX2_isSailing_21 : decode cX2_isSailing 21 = .ok (.goto 4, 3) := by decide +kernel
theorem dX2_isSailing_24 : decode cX2_isSailing 24 = .ok (.iconst 0, 1) := by decide +kernel
theorem dX2_isSailing_25 : decode cX2_isSailing 25 = .ok (.ireturn, 1) := by decide +kernel
theorem dX2_obstacleFor_0 : decode cX2_obstacleFor 0 = .ok (.aload_n 0, 1) := by decide +kernel
theorem dX2_obstacleFor_1 : decode cX2_obstacleFor 1 = .ok (.iload_n 1, 1) := by decide +kernel
theorem dX2_obstacleFor_2 : decode cX2_obstacleFor 2 = .ok (.invokevirtual 162, 3) := by decide +kernel
theorem dX2_obstacleFor_5 : decode cX2_obstacleFor 5 = .ok (.ifCond .eq 15, 3) := by decide +kernel
theorem dX2_obstacleFor_8 : decode cX2_obstacleFor 8 = .ok (.aload_n 0, 1) := by decide +kernel
theorem dX2_obstacleFor_9 : decode cX2_obstacleFor 9 = .ok (.getfield 33, 3) := by decide +kernel
theorem dX2_obstacleFor_12 : decode cX2_obstacleFor 12 = .ok (.iload_n 1, 1) := by decide +kernel
theorem dX2_obstacleFor_13 : decode cX2_obstacleFor 13 = .ok (.aaload, 1) := by decide +kernel
theorem dX2_obstacleFor_14 : decode cX2_obstacleFor 14 = .ok (.invokevirtual 101, 3) := by decide +kernel
theorem dX2_obstacleFor_17 : decode cX2_obstacleFor 17 = .ok (.ifCond .eq 5, 3) := by decide +kernel
theorem dX2_obstacleFor_20 : decode cX2_obstacleFor 20 = .ok (.iconst 1, 1) := by decide +kernel
theorem dX2_obstacleFor_21 : decode cX2_obstacleFor 21 = .ok (.ireturn, 1) := by decide +kernel
theorem dX2_obstacleFor_22 : decode cX2_obstacleFor 22 = .ok (.aload_n 0, 1) := by decide +kernel
theorem dX2_obstacleFor_23 : decode cX2_obstacleFor 23 = .ok (.getfield 33, 3) := by decide +kernel
theorem dX2_obstacleFor_26 : decode cX2_obstacleFor 26 = .ok (.iload_n 1, 1) := by decide +kernel
theorem dX2_obstacleFor_27 : decode cX2_obstacleFor 27 = .ok (.aaload, 1) := by decide +kernel
theorem dX2_obstacleFor_28 : decode cX2_obstacleFor 28 = .ok (.getfield 168, 3) := by decide +kernel
theorem dX2_obstacleFor_31 : decode cX2_obstacleFor 31 = .ok (.iload_n 2, 1) := by decide +kernel
theorem dX2_obstacleFor_32 : decode cX2_obstacleFor 32 = .ok (.if_icmp .ne 5, 3) := by decide +kernel
theorem dX2_obstacleFor_35 : decode cX2_obstacleFor 35 = .ok (.iconst 2, 1) := by decide +kernel
theorem dX2_obstacleFor_36 : decode cX2_obstacleFor 36 = .ok (.ireturn, 1) := by decide +kernel
theorem dX2_obstacleFor_37 : decode cX2_obstacleFor 37 = .ok (.aload_n 0, 1) := by decide +kernel
theorem dX2_obstacleFor_38 : decode cX2_obstacleFor 38 = .ok (.aload_n 0, 1) := by decide +kernel
theorem dX2_obstacleFor_39 : decode cX2_obstacleFor 39 = .ok (.getfield 33, 3) := by decide +kernel
theorem dX2_obstacleFor_42 : decode cX2_obstacleFor 42 = .ok (.iload_n 1, 1) := by decide +kernel
theorem dX2_obstacleFor_43 : decode cX2_obstacleFor 43 = .ok (.aaload, 1) := by decide +kernel
theorem dX2_obstacleFor_44 : decode cX2_obstacleFor 44 = .ok (.iload_n 2, 1) := by decide +kernel
theorem dX2_obstacleFor_45 : decode cX2_obstacleFor 45 = .ok (.invokevirtual 171, 3) := by decide +kernel
theorem dX2_obstacleFor_48 : decode cX2_obstacleFor 48 = .ok (.ifCond .eq 7, 3) := by decide +kernel
theorem dX2_obstacleFor_51 : decode cX2_obstacleFor 51 = .ok (.iconst 0, 1) := by decide +kernel
theorem dX2_obstacleFor_52 : decode cX2_obstacleFor 52 = .ok (.goto 4, 3) := by decide +kernel
theorem dX2_obstacleFor_55 : decode cX2_obstacleFor 55 = .ok (.iconst 3, 1) := by decide +kernel
theorem dX2_obstacleFor_56 : decode cX2_obstacleFor 56 = .ok (.ireturn, 1) := by decide +kernel
theorem dX2_fitsUnderBridges_0 : decode cX2_fitsUnderBridges 0 = .ok (.aload_n 1, 1) := by decide +kernel
theorem dX2_fitsUnderBridges_1 : decode cX2_fitsUnderBridges 1 = .ok (.getfield 98, 3) := by decide +kernel
theorem dX2_fitsUnderBridges_4 : decode cX2_fitsUnderBridges 4 = .ok (.iload_n 2, 1) := by decide +kernel
theorem dX2_fitsUnderBridges_5 : decode cX2_fitsUnderBridges 5 = .ok (.invokestatic 175, 3) := by decide +kernel
theorem dX2_fitsUnderBridges_8 : decode cX2_fitsUnderBridges 8 = .ok (.istore_n 3, 1) := by decide +kernel
theorem dX2_fitsUnderBridges_9 : decode cX2_fitsUnderBridges 9 = .ok (.aload_n 1, 1) := by decide +kernel
theorem dX2_fitsUnderBridges_10 : decode cX2_fitsUnderBridges 10 = .ok (.getfield 98, 3) := by decide +kernel
theorem dX2_fitsUnderBridges_13 : decode cX2_fitsUnderBridges 13 = .ok (.iload_n 2, 1) := by decide +kernel
theorem dX2_fitsUnderBridges_14 : decode cX2_fitsUnderBridges 14 = .ok (.invokestatic 179, 3) := by decide +kernel
theorem dX2_fitsUnderBridges_17 : decode cX2_fitsUnderBridges 17 = .ok (.istore 4, 2) := by decide +kernel
theorem dX2_fitsUnderBridges_19 : decode cX2_fitsUnderBridges 19 = .ok (.iload 4, 2) := by decide +kernel
theorem dX2_fitsUnderBridges_21 : decode cX2_fitsUnderBridges 21 = .ok (.iload_n 3, 1) := by decide +kernel
theorem dX2_fitsUnderBridges_22 : decode cX2_fitsUnderBridges 22 = .ok (.if_icmp .ge 50, 3) := by decide +kernel
theorem dX2_fitsUnderBridges_25 : decode cX2_fitsUnderBridges 25 = .ok (.aload_n 0, 1) := by decide +kernel
theorem dX2_fitsUnderBridges_26 : decode cX2_fitsUnderBridges 26 = .ok (.iload 4, 2) := by decide +kernel
theorem dX2_fitsUnderBridges_28 : decode cX2_fitsUnderBridges 28 = .ok (.invokevirtual 182, 3) := by decide +kernel
theorem dX2_fitsUnderBridges_31 : decode cX2_fitsUnderBridges 31 = .ok (.ifCond .eq 35, 3) := by decide +kernel
theorem dX2_fitsUnderBridges_34 : decode cX2_fitsUnderBridges 34 = .ok (.aload_n 0, 1) := by decide +kernel
theorem dX2_fitsUnderBridges_35 : decode cX2_fitsUnderBridges 35 = .ok (.getfield 17, 3) := by decide +kernel
theorem dX2_fitsUnderBridges_38 : decode cX2_fitsUnderBridges 38 = .ok (.iload 4, 2) := by decide +kernel
theorem dX2_fitsUnderBridges_40 : decode cX2_fitsUnderBridges 40 = .ok (.aaload, 1) := by decide +kernel
theorem dX2_fitsUnderBridges_41 : decode cX2_fitsUnderBridges 41 = .ok (.getfield 185, 3) := by decide +kernel
theorem dX2_fitsUnderBridges_44 : decode cX2_fitsUnderBridges 44 = .ok (.ifCond .le 22, 3) := by decide +kernel
theorem dX2_fitsUnderBridges_47 : decode cX2_fitsUnderBridges 47 = .ok (.aload_n 0, 1) := by decide +kernel
theorem dX2_fitsUnderBridges_48 : decode cX2_fitsUnderBridges 48 = .ok (.getfield 17, 3) := by decide +kernel
theorem dX2_fitsUnderBridges_51 : decode cX2_fitsUnderBridges 51 = .ok (.iload 4, 2) := by decide +kernel
theorem dX2_fitsUnderBridges_53 : decode cX2_fitsUnderBridges 53 = .ok (.aaload, 1) := by decide +kernel
theorem dX2_fitsUnderBridges_54 : decode cX2_fitsUnderBridges 54 = .ok (.getfield 185, 3) := by decide +kernel
theorem dX2_fitsUnderBridges_57 : decode cX2_fitsUnderBridges 57 = .ok (.aload_n 1, 1) := by decide +kernel
theorem dX2_fitsUnderBridges_58 : decode cX2_fitsUnderBridges 58 = .ok (.getfield 188, 3) := by decide +kernel
theorem dX2_fitsUnderBridges_61 : decode cX2_fitsUnderBridges 61 = .ok (.if_icmp .ge 5, 3) := by decide +kernel
theorem dX2_fitsUnderBridges_64 : decode cX2_fitsUnderBridges 64 = .ok (.iconst 0, 1) := by decide +kernel
theorem dX2_fitsUnderBridges_65 : decode cX2_fitsUnderBridges 65 = .ok (.ireturn, 1) := by decide +kernel
theorem dX2_fitsUnderBridges_66 : decode cX2_fitsUnderBridges 66 = .ok (.iinc 4 1, 3) := by decide +kernel
theorem dX2_fitsUnderBridges_69 : decode cX2_fitsUnderBridges 69 = .ok (.goto (-50), 3) := by decide +kernel
theorem dX2_fitsUnderBridges_72 : decode cX2_fitsUnderBridges 72 = .ok (.iconst 1, 1) := by decide +kernel
theorem dX2_fitsUnderBridges_73 : decode cX2_fitsUnderBridges 73 = .ok (.ireturn, 1) := by decide +kernel
theorem dX2_timeBetween_0 : decode cX2_timeBetween 0 = .ok (.iconst 0, 1) := by decide +kernel
theorem dX2_timeBetween_1 : decode cX2_timeBetween 1 = .ok (.istore_n 3, 1) := by decide +kernel
theorem dX2_timeBetween_2 : decode cX2_timeBetween 2 = .ok (.iload_n 1, 1) := by decide +kernel
theorem dX2_timeBetween_3 : decode cX2_timeBetween 3 = .ok (.iload_n 2, 1) := by decide +kernel
theorem dX2_timeBetween_4 : decode cX2_timeBetween 4 = .ok (.invokestatic 175, 3) := by decide +kernel
theorem dX2_timeBetween_7 : decode cX2_timeBetween 7 = .ok (.istore 4, 2) := by decide +kernel
theorem dX2_timeBetween_9 : decode cX2_timeBetween 9 = .ok (.iload_n 1, 1) := by decide +kernel
theorem dX2_timeBetween_10 : decode cX2_timeBetween 10 = .ok (.iload_n 2, 1) := by decide +kernel
theorem dX2_timeBetween_11 : decode cX2_timeBetween 11 = .ok (.invokestatic 179, 3) := by decide +kernel
theorem dX2_timeBetween_14 : decode cX2_timeBetween 14 = .ok (.istore 5, 2) := by decide +kernel
theorem dX2_timeBetween_16 : decode cX2_timeBetween 16 = .ok (.iload 5, 2) := by decide +kernel
theorem dX2_timeBetween_18 : decode cX2_timeBetween 18 = .ok (.iload 4, 2) := by decide +kernel
theorem dX2_timeBetween_20 : decode cX2_timeBetween 20 = .ok (.if_icmp .ge 33, 3) := by decide +kernel
theorem dX2_timeBetween_23 : decode cX2_timeBetween 23 = .ok (.aload_n 0, 1) := by decide +kernel
theorem dX2_timeBetween_24 : decode cX2_timeBetween 24 = .ok (.iload 5, 2) := by decide +kernel
theorem dX2_timeBetween_26 : decode cX2_timeBetween 26 = .ok (.invokevirtual 182, 3) := by decide +kernel
theorem dX2_timeBetween_29 : decode cX2_timeBetween 29 = .ok (.ifCond .eq 18, 3) := by decide +kernel
theorem dX2_timeBetween_32 : decode cX2_timeBetween 32 = .ok (.iload_n 3, 1) := by decide +kernel
theorem dX2_timeBetween_33 : decode cX2_timeBetween 33 = .ok (.iconst 1, 1) := by decide +kernel
theorem dX2_timeBetween_34 : decode cX2_timeBetween 34 = .ok (.aload_n 0, 1) := by decide +kernel
theorem dX2_timeBetween_35 : decode cX2_timeBetween 35 = .ok (.getfield 17, 3) := by decide +kernel
theorem dX2_timeBetween_38 : decode cX2_timeBetween 38 = .ok (.iload 5, 2) := by decide +kernel
theorem dX2_timeBetween_40 : decode cX2_timeBetween 40 = .ok (.aaload, 1) := by decide +kernel
theorem dX2_timeBetween_41 : decode cX2_timeBetween 41 = .ok (.getfield 191, 3) := by decide +kernel
theorem dX2_timeBetween_44 : decode cX2_timeBetween 44 = .ok (.iadd, 1) := by decide +kernel
theorem dX2_timeBetween_45 : decode cX2_timeBetween 45 = .ok (.iadd, 1) := by decide +kernel
theorem dX2_timeBetween_46 : decode cX2_timeBetween 46 = .ok (.istore_n 3, 1) := by decide +kernel
theorem dX2_timeBetween_47 : decode cX2_timeBetween 47 = .ok (.iinc 5 1, 3) := by decide +kernel
theorem dX2_timeBetween_50 : decode cX2_timeBetween 50 = .ok (.goto (-34), 3) := by decide +kernel
theorem dX2_timeBetween_53 : decode cX2_timeBetween 53 = .ok (.iload_n 3, 1) := by decide +kernel
theorem dX2_timeBetween_54 : decode cX2_timeBetween 54 = .ok (.ireturn, 1) := by decide +kernel
theorem dX2_bargeNearestTo_0 : decode cX2_bargeNearestTo 0 = .ok (.iconst (-1), 1) := by decide +kernel
theorem dX2_bargeNearestTo_1 : decode cX2_bargeNearestTo 1 = .ok (.istore_n 2, 1) := by decide +kernel
theorem dX2_bargeNearestTo_2 : decode cX2_bargeNearestTo 2 = .ok (.iconst 0, 1) := by decide +kernel
theorem dX2_bargeNearestTo_3 : decode cX2_bargeNearestTo 3 = .ok (.istore_n 3, 1) := by decide +kernel
theorem dX2_bargeNearestTo_4 : decode cX2_bargeNearestTo 4 = .ok (.iconst 0, 1) := by decide +kernel
theorem dX2_bargeNearestTo_5 : decode cX2_bargeNearestTo 5 = .ok (.istore 4, 2) := by decide +kernel
theorem dX2_bargeNearestTo_7 : decode cX2_bargeNearestTo 7 = .ok (.iload 4, 2) := by decide +kernel
theorem dX2_bargeNearestTo_9 : decode cX2_bargeNearestTo 9 = .ok (.aload_n 0, 1) := by decide +kernel
theorem dX2_bargeNearestTo_10 : decode cX2_bargeNearestTo 10 = .ok (.getfield 28, 3) := by decide +kernel
theorem dX2_bargeNearestTo_13 : decode cX2_bargeNearestTo 13 = .ok (.if_icmp .ge 43, 3) := by decide +kernel
theorem dX2_bargeNearestTo_16 : decode cX2_bargeNearestTo 16 = .ok (.aload_n 0, 1) := by decide +kernel
theorem dX2_bargeNearestTo_17 : decode cX2_bargeNearestTo 17 = .ok (.aload_n 0, 1) := by decide +kernel
theorem dX2_bargeNearestTo_18 : decode cX2_bargeNearestTo 18 = .ok (.getfield 33, 3) := by decide +kernel
theorem dX2_bargeNearestTo_21 : decode cX2_bargeNearestTo 21 = .ok (.iload 4, 2) := by decide +kernel
theorem dX2_bargeNearestTo_23 : decode cX2_bargeNearestTo 23 = .ok (.aaload, 1) := by decide +kernel
theorem dX2_bargeNearestTo_24 : decode cX2_bargeNearestTo 24 = .ok (.getfield 98, 3) := by decide +kernel
theorem dX2_bargeNearestTo_27 : decode cX2_bargeNearestTo 27 = .ok (.iload_n 1, 1) := by decide +kernel
theorem dX2_bargeNearestTo_28 : decode cX2_bargeNearestTo 28 = .ok (.invokevirtual 194, 3) := by decide +kernel
theorem dX2_bargeNearestTo_31 : decode cX2_bargeNearestTo 31 = .ok (.istore 5, 2) := by decide +kernel
theorem dX2_bargeNearestTo_33 : decode cX2_bargeNearestTo 33 = .ok (.iload_n 2, 1) := by decide +kernel
theorem dX2_bargeNearestTo_34 : decode cX2_bargeNearestTo 34 = .ok (.iconst (-1), 1) := by decide +kernel
theorem dX2_bargeNearestTo_35 : decode cX2_bargeNearestTo 35 = .ok (.if_icmp .eq 9, 3) := by decide +kernel
theorem dX2_bargeNearestTo_38 : decode cX2_bargeNearestTo 38 = .ok (.iload 5, 2) := by decide +kernel
theorem dX2_bargeNearestTo_40 : decode cX2_bargeNearestTo 40 = .ok (.iload_n 3, 1) := by decide +kernel
theorem dX2_bargeNearestTo_41 : decode cX2_bargeNearestTo 41 = .ok (.if_icmp .ge 9, 3) := by decide +kernel
theorem dX2_bargeNearestTo_44 : decode cX2_bargeNearestTo 44 = .ok (.iload 4, 2) := by decide +kernel
theorem dX2_bargeNearestTo_46 : decode cX2_bargeNearestTo 46 = .ok (.istore_n 2, 1) := by decide +kernel
theorem dX2_bargeNearestTo_47 : decode cX2_bargeNearestTo 47 = .ok (.iload 5, 2) := by decide +kernel
theorem dX2_bargeNearestTo_49 : decode cX2_bargeNearestTo 49 = .ok (.istore_n 3, 1) := by decide +kernel
theorem dX2_bargeNearestTo_50 : decode cX2_bargeNearestTo 50 = .ok (.iinc 4 1, 3) := by decide +kernel
theorem dX2_bargeNearestTo_53 : decode cX2_bargeNearestTo 53 = .ok (.goto (-46), 3) := by decide +kernel
theorem dX2_bargeNearestTo_56 : decode cX2_bargeNearestTo 56 = .ok (.iload_n 2, 1) := by decide +kernel
theorem dX2_bargeNearestTo_57 : decode cX2_bargeNearestTo 57 = .ok (.ireturn, 1) := by decide +kernel
theorem dX2_canSail_0 : decode cX2_canSail 0 = .ok (.aload_n 0, 1) := by decide +kernel
theorem dX2_canSail_1 : decode cX2_canSail 1 = .ok (.iload_n 1, 1) := by decide +kernel
theorem dX2_canSail_2 : decode cX2_canSail 2 = .ok (.invokevirtual 162, 3) := by decide +kernel
theorem dX2_canSail_5 : decode cX2_canSail 5 = .ok (.ifCond .eq 24, 3) := by decide +kernel
theorem dX2_canSail_8 : decode cX2_canSail 8 = .ok (.aload_n 0, 1) := by decide +kernel
theorem dX2_canSail_9 : decode cX2_canSail 9 = .ok (.iload_n 2, 1) := by decide +kernel
theorem dX2_canSail_10 : decode cX2_canSail 10 = .ok (.invokevirtual 90, 3) := by decide +kernel
theorem dX2_canSail_13 : decode cX2_canSail 13 = .ok (.ifCond .eq 16, 3) := by decide +kernel
theorem dX2_canSail_16 : decode cX2_canSail 16 = .ok (.aload_n 0, 1) := by decide +kernel
theorem dX2_canSail_17 : decode cX2_canSail 17 = .ok (.iload_n 1, 1) := by decide +kernel
theorem dX2_canSail_18 : decode cX2_canSail 18 = .ok (.iload_n 2, 1) := by decide +kernel
theorem dX2_canSail_19 : decode cX2_canSail 19 = .ok (.invokevirtual 197, 3) := by decide +kernel
theorem dX2_canSail_22 : decode cX2_canSail 22 = .ok (.ifCond .ne 7, 3) := by decide +kernel
theorem dX2_canSail_25 : decode cX2_canSail 25 = .ok (.iconst 1, 1) := by decide +kernel
theorem dX2_canSail_26 : decode cX2_canSail 26 = .ok (.goto 4, 3) := by decide +kernel
theorem dX2_canSail_29 : decode cX2_canSail 29 = .ok (.iconst 0, 1) := by decide +kernel
theorem dX2_canSail_30 : decode cX2_canSail 30 = .ok (.ireturn, 1) := by decide +kernel
theorem dX2_setTarget_0 : decode cX2_setTarget 0 = .ok (.aload_n 0, 1) := by decide +kernel
theorem dX2_setTarget_1 : decode cX2_setTarget 1 = .ok (.iload_n 1, 1) := by decide +kernel
theorem dX2_setTarget_2 : decode cX2_setTarget 2 = .ok (.invokevirtual 162, 3) := by decide +kernel
theorem dX2_setTarget_5 : decode cX2_setTarget 5 = .ok (.ifCond .eq 13, 3) := by decide +kernel
theorem dX2_setTarget_8 : decode cX2_setTarget 8 = .ok (.aload_n 0, 1) := by decide +kernel
theorem dX2_setTarget_9 : decode cX2_setTarget 9 = .ok (.getfield 33, 3) := by decide +kernel
theorem dX2_setTarget_12 : decode cX2_setTarget 12 = .ok (.iload_n 1, 1) := by decide +kernel
theorem dX2_setTarget_13 : decode cX2_setTarget 13 = .ok (.aaload, 1) := by decide +kernel
theorem dX2_setTarget_14 : decode cX2_setTarget 14 = .ok (.iload_n 2, 1) := by decide +kernel
theorem dX2_setTarget_15 : decode cX2_setTarget 15 = .ok (.putfield 168, 3) := by decide +kernel
theorem dX2_setTarget_18 : decode cX2_setTarget 18 = .ok (.return_, 1) := by decide +kernel
theorem dX2_canGive_0 : decode cX2_canGive 0 = .ok (.aload_n 0, 1) := by decide +kernel
theorem dX2_canGive_1 : decode cX2_canGive 1 = .ok (.iload_n 1, 1) := by decide +kernel
theorem dX2_canGive_2 : decode cX2_canGive 2 = .ok (.invokevirtual 162, 3) := by decide +kernel
theorem dX2_canGive_5 : decode cX2_canGive 5 = .ok (.ifCond .eq 39, 3) := by decide +kernel
theorem dX2_canGive_8 : decode cX2_canGive 8 = .ok (.aload_n 0, 1) := by decide +kernel
theorem dX2_canGive_9 : decode cX2_canGive 9 = .ok (.iload_n 2, 1) := by decide +kernel
theorem dX2_canGive_10 : decode cX2_canGive 10 = .ok (.invokevirtual 122, 3) := by decide +kernel
theorem dX2_canGive_13 : decode cX2_canGive 13 = .ok (.ifCond .eq 31, 3) := by decide +kernel
theorem dX2_canGive_16 : decode cX2_canGive 16 = .ok (.aload_n 0, 1) := by decide +kernel
theorem dX2_canGive_17 : decode cX2_canGive 17 = .ok (.getfield 42, 3) := by decide +kernel
theorem dX2_canGive_20 : decode cX2_canGive 20 = .ok (.iload_n 2, 1) := by decide +kernel
theorem dX2_canGive_21 : decode cX2_canGive 21 = .ok (.aaload, 1) := by decide +kernel
theorem dX2_canGive_22 : decode cX2_canGive 22 = .ok (.getfield 132, 3) := by decide +kernel
theorem dX2_canGive_25 : decode cX2_canGive 25 = .ok (.getstatic 136, 3) := by decide +kernel
theorem dX2_canGive_28 : decode cX2_canGive 28 = .ok (.if_acmp .ne 16, 3) := by decide +kernel
theorem dX2_canGive_31 : decode cX2_canGive 31 = .ok (.aload_n 0, 1) := by decide +kernel
theorem dX2_canGive_32 : decode cX2_canGive 32 = .ok (.iload_n 1, 1) := by decide +kernel
theorem dX2_canGive_33 : decode cX2_canGive 33 = .ok (.invokevirtual 200, 3) := by decide +kernel
theorem dX2_canGive_36 : decode cX2_canGive 36 = .ok (.iconst 4, 1) := by decide +kernel
theorem dX2_canGive_37 : decode cX2_canGive 37 = .ok (.if_icmp .ge 7, 3) := by decide +kernel
theorem dX2_canGive_40 : decode cX2_canGive 40 = .ok (.iconst 1, 1) := by decide +kernel
theorem dX2_canGive_41 : decode cX2_canGive 41 = .ok (.goto 4, 3) := by decide +kernel
theorem dX2_canGive_44 : decode cX2_canGive 44 = .ok (.iconst 0, 1) := by decide +kernel
theorem dX2_canGive_45 : decode cX2_canGive 45 = .ok (.ireturn, 1) := by decide +kernel
theorem dX2_give_0 : decode cX2_give 0 = .ok (.aload_n 0, 1) := by decide +kernel
theorem dX2_give_1 : decode cX2_give 1 = .ok (.iload_n 1, 1) := by decide +kernel
theorem dX2_give_2 : decode cX2_give 2 = .ok (.invokevirtual 162, 3) := by decide +kernel
theorem dX2_give_5 : decode cX2_give 5 = .ok (.ifCond .eq 43, 3) := by decide +kernel
theorem dX2_give_8 : decode cX2_give 8 = .ok (.aload_n 0, 1) := by decide +kernel
theorem dX2_give_9 : decode cX2_give 9 = .ok (.iload_n 2, 1) := by decide +kernel
theorem dX2_give_10 : decode cX2_give 10 = .ok (.invokevirtual 122, 3) := by decide +kernel
theorem dX2_give_13 : decode cX2_give 13 = .ok (.ifCond .eq 35, 3) := by decide +kernel
theorem dX2_give_16 : decode cX2_give 16 = .ok (.aload_n 0, 1) := by decide +kernel
theorem dX2_give_17 : decode cX2_give 17 = .ok (.getfield 42, 3) := by decide +kernel
theorem dX2_give_20 : decode cX2_give 20 = .ok (.iload_n 2, 1) := by decide +kernel
theorem dX2_give_21 : decode cX2_give 21 = .ok (.aaload, 1) := by decide +kernel
theorem dX2_give_22 : decode cX2_give 22 = .ok (.getstatic 203, 3) := by decide +kernel
theorem dX2_give_25 : decode cX2_give 25 = .ok (.putfield 132, 3) := by decide +kernel
theorem dX2_give_28 : decode cX2_give 28 = .ok (.aload_n 0, 1) := by decide +kernel
theorem dX2_give_29 : decode cX2_give 29 = .ok (.getfield 42, 3) := by decide +kernel
theorem dX2_give_32 : decode cX2_give 32 = .ok (.iload_n 2, 1) := by decide +kernel
theorem dX2_give_33 : decode cX2_give 33 = .ok (.aaload, 1) := by decide +kernel
theorem dX2_give_34 : decode cX2_give 34 = .ok (.iload_n 1, 1) := by decide +kernel
theorem dX2_give_35 : decode cX2_give 35 = .ok (.putfield 109, 3) := by decide +kernel
theorem dX2_give_38 : decode cX2_give 38 = .ok (.aload_n 0, 1) := by decide +kernel
theorem dX2_give_39 : decode cX2_give 39 = .ok (.getfield 33, 3) := by decide +kernel
theorem dX2_give_42 : decode cX2_give 42 = .ok (.iload_n 1, 1) := by decide +kernel
theorem dX2_give_43 : decode cX2_give 43 = .ok (.aaload, 1) := by decide +kernel
theorem dX2_give_44 : decode cX2_give 44 = .ok (.iload_n 2, 1) := by decide +kernel
theorem dX2_give_45 : decode cX2_give 45 = .ok (.invokevirtual 206, 3) := by decide +kernel
theorem dX2_give_48 : decode cX2_give 48 = .ok (.return_, 1) := by decide +kernel
theorem dX2_canReopen_0 : decode cX2_canReopen 0 = .ok (.aload_n 0, 1) := by decide +kernel
theorem dX2_canReopen_1 : decode cX2_canReopen 1 = .ok (.iload_n 1, 1) := by decide +kernel
theorem dX2_canReopen_2 : decode cX2_canReopen 2 = .ok (.invokevirtual 122, 3) := by decide +kernel
theorem dX2_canReopen_5 : decode cX2_canReopen 5 = .ok (.ifCond .eq 19, 3) := by decide +kernel
theorem dX2_canReopen_8 : decode cX2_canReopen 8 = .ok (.aload_n 0, 1) := by decide +kernel
theorem dX2_canReopen_9 : decode cX2_canReopen 9 = .ok (.getfield 42, 3) := by decide +kernel
theorem dX2_canReopen_12 : decode cX2_canReopen 12 = .ok (.iload_n 1, 1) := by decide +kernel
theorem dX2_canReopen_13 : decode cX2_canReopen 13 = .ok (.aaload, 1) := by decide +kernel
theorem dX2_canReopen_14 : decode cX2_canReopen 14 = .ok (.invokevirtual 112, 3) := by decide +kernel
theorem dX2_canReopen_17 : decode cX2_canReopen 17 = .ok (.ifCond .eq 7, 3) := by decide +kernel
theorem dX2_canReopen_20 : decode cX2_canReopen 20 = .ok (.iconst 1, 1) := by decide +kernel
theorem dX2_canReopen_21 : decode cX2_canReopen 21 = .ok (.goto 4, 3) := by decide +kernel
theorem dX2_canReopen_24 : decode cX2_canReopen 24 = .ok (.iconst 0, 1) := by decide +kernel
theorem dX2_canReopen_25 : decode cX2_canReopen 25 = .ok (.ireturn, 1) := by decide +kernel
theorem dX2_reopen_0 : decode cX2_reopen 0 = .ok (.aload_n 0, 1) := by decide +kernel
theorem dX2_reopen_1 : decode cX2_reopen 1 = .ok (.iload_n 1, 1) := by decide +kernel
theorem dX2_reopen_2 : decode cX2_reopen 2 = .ok (.invokevirtual 122, 3) := by decide +kernel
theorem dX2_reopen_5 : decode cX2_reopen 5 = .ok (.ifCond .eq 17, 3) := by decide +kernel
theorem dX2_reopen_8 : decode cX2_reopen 8 = .ok (.aload_n 0, 1) := by decide +kernel
theorem dX2_reopen_9 : decode cX2_reopen 9 = .ok (.iload_n 1, 1) := by decide +kernel
theorem dX2_reopen_10 : decode cX2_reopen 10 = .ok (.invokevirtual 210, 3) := by decide +kernel
theorem dX2_reopen_13 : decode cX2_reopen 13 = .ok (.aload_n 0, 1) := by decide +kernel
theorem dX2_reopen_14 : decode cX2_reopen 14 = .ok (.getfield 42, 3) := by decide +kernel
theorem dX2_reopen_17 : decode cX2_reopen 17 = .ok (.iload_n 1, 1) := by decide +kernel
theorem dX2_reopen_18 : decode cX2_reopen 18 = .ok (.aaload, 1) := by decide +kernel
theorem dX2_reopen_19 : decode cX2_reopen 19 = .ok (.invokevirtual 213, 3) := by decide +kernel
theorem dX2_reopen_22 : decode cX2_reopen 22 = .ok (.return_, 1) := by decide +kernel
theorem dX2_removeFromQueue_0 : decode cX2_removeFromQueue 0 = .ok (.aload_n 0, 1) := by decide +kernel
theorem dX2_removeFromQueue_1 : decode cX2_removeFromQueue 1 = .ok (.getfield 42, 3) := by decide +kernel
theorem dX2_removeFromQueue_4 : decode cX2_removeFromQueue 4 = .ok (.iload_n 1, 1) := by decide +kernel
theorem dX2_removeFromQueue_5 : decode cX2_removeFromQueue 5 = .ok (.aaload, 1) := by decide +kernel
theorem dX2_removeFromQueue_6 : decode cX2_removeFromQueue 6 = .ok (.getfield 109, 3) := by decide +kernel
theorem dX2_removeFromQueue_9 : decode cX2_removeFromQueue 9 = .ok (.istore_n 2, 1) := by decide +kernel
theorem dX2_removeFromQueue_10 : decode cX2_removeFromQueue 10 = .ok (.aload_n 0, 1) := by decide +kernel
theorem dX2_removeFromQueue_11 : decode cX2_removeFromQueue 11 = .ok (.iload_n 2, 1) := by decide +kernel
theorem dX2_removeFromQueue_12 : decode cX2_removeFromQueue 12 = .ok (.invokevirtual 162, 3) := by decide +kernel
theorem dX2_removeFromQueue_15 : decode cX2_removeFromQueue 15 = .ok (.ifCond .eq 13, 3) := by decide +kernel
theorem dX2_removeFromQueue_18 : decode cX2_removeFromQueue 18 = .ok (.aload_n 0, 1) := by decide +kernel
theorem dX2_removeFromQueue_19 : decode cX2_removeFromQueue 19 = .ok (.getfield 33, 3) := by decide +kernel
theorem dX2_removeFromQueue_22 : decode cX2_removeFromQueue 22 = .ok (.iload_n 2, 1) := by decide +kernel
theorem dX2_removeFromQueue_23 : decode cX2_removeFromQueue 23 = .ok (.aaload, 1) := by decide +kernel
theorem dX2_removeFromQueue_24 : decode cX2_removeFromQueue 24 = .ok (.iload_n 1, 1) := by decide +kernel
theorem dX2_removeFromQueue_25 : decode cX2_removeFromQueue 25 = .ok (.invokevirtual 216, 3) := by decide +kernel
theorem dX2_removeFromQueue_28 : decode cX2_removeFromQueue 28 = .ok (.return_, 1) := by decide +kernel
theorem dX2_isInHarbor_0 : decode cX2_isInHarbor 0 = .ok (.aload_n 0, 1) := by decide +kernel
theorem dX2_isInHarbor_1 : decode cX2_isInHarbor 1 = .ok (.iload_n 1, 1) := by decide +kernel
theorem dX2_isInHarbor_2 : decode cX2_isInHarbor 2 = .ok (.invokevirtual 162, 3) := by decide +kernel
theorem dX2_isInHarbor_5 : decode cX2_isInHarbor 5 = .ok (.ifCond .eq 31, 3) := by decide +kernel
theorem dX2_isInHarbor_8 : decode cX2_isInHarbor 8 = .ok (.aload_n 0, 1) := by decide +kernel
theorem dX2_isInHarbor_9 : decode cX2_isInHarbor 9 = .ok (.getfield 33, 3) := by decide +kernel
theorem dX2_isInHarbor_12 : decode cX2_isInHarbor 12 = .ok (.iload_n 1, 1) := by decide +kernel
theorem dX2_isInHarbor_13 : decode cX2_isInHarbor 13 = .ok (.aaload, 1) := by decide +kernel
theorem dX2_isInHarbor_14 : decode cX2_isInHarbor 14 = .ok (.getfield 98, 3) := by decide +kernel
theorem dX2_isInHarbor_17 : decode cX2_isInHarbor 17 = .ok (.ifCond .ne 19, 3) := by decide +kernel
theorem dX2_isInHarbor_20 : decode cX2_isInHarbor 20 = .ok (.aload_n 0, 1) := by decide +kernel
theorem dX2_isInHarbor_21 : decode cX2_isInHarbor 21 = .ok (.getfield 33, 3) := by decide +kernel
theorem dX2_isInHarbor_24 : decode cX2_isInHarbor 24 = .ok (.iload_n 1, 1) := by decide +kernel
theorem dX2_isInHarbor_25 : decode cX2_isInHarbor 25 = .ok (.aaload, 1) := by decide +kernel
theorem dX2_isInHarbor_26 : decode cX2_isInHarbor 26 = .ok (.invokevirtual 101, 3) := by decide +kernel
theorem dX2_isInHarbor_29 : decode cX2_isInHarbor 29 = .ok (.ifCond .ne 7, 3) := by decide +kernel
theorem dX2_isInHarbor_32 : decode cX2_isInHarbor 32 = .ok (.iconst 1, 1) := by decide +kernel
theorem dX2_isInHarbor_33 : decode cX2_isInHarbor 33 = .ok (.goto 4, 3) := by decide +kernel
theorem dX2_isInHarbor_36 : decode cX2_isInHarbor 36 = .ok (.iconst 0, 1) := by decide +kernel
theorem dX2_isInHarbor_37 : decode cX2_isInHarbor 37 = .ok (.ireturn, 1) := by decide +kernel
theorem dX2_canLoadFlour_0 : decode cX2_canLoadFlour 0 = .ok (.aload_n 0, 1) := by decide +kernel
theorem dX2_canLoadFlour_1 : decode cX2_canLoadFlour 1 = .ok (.iload_n 1, 1) := by decide +kernel
theorem dX2_canLoadFlour_2 : decode cX2_canLoadFlour 2 = .ok (.invokevirtual 219, 3) := by decide +kernel
theorem dX2_canLoadFlour_5 : decode cX2_canLoadFlour 5 = .ok (.ifCond .eq 23, 3) := by decide +kernel
theorem dX2_canLoadFlour_8 : decode cX2_canLoadFlour 8 = .ok (.aload_n 0, 1) := by decide +kernel
theorem dX2_canLoadFlour_9 : decode cX2_canLoadFlour 9 = .ok (.getfield 33, 3) := by decide +kernel
theorem dX2_canLoadFlour_12 : decode cX2_canLoadFlour 12 = .ok (.iload_n 1, 1) := by decide +kernel
theorem dX2_canLoadFlour_13 : decode cX2_canLoadFlour 13 = .ok (.aaload, 1) := by decide +kernel
theorem dX2_canLoadFlour_14 : decode cX2_canLoadFlour 14 = .ok (.getfield 222, 3) := by decide +kernel
theorem dX2_canLoadFlour_17 : decode cX2_canLoadFlour 17 = .ok (.iload_n 2, 1) := by decide +kernel
theorem dX2_canLoadFlour_18 : decode cX2_canLoadFlour 18 = .ok (.iadd, 1) := by decide +kernel
theorem dX2_canLoadFlour_19 : decode cX2_canLoadFlour 19 = .ok (.bipush 99, 2) := by decide +kernel
theorem dX2_canLoadFlour_21 : decode cX2_canLoadFlour 21 = .ok (.if_icmp .gt 7, 3) := by decide +kernel
theorem dX2_canLoadFlour_24 : decode cX2_canLoadFlour 24 = .ok (.iconst 1, 1) := by decide +kernel
theorem dX2_canLoadFlour_25 : decode cX2_canLoadFlour 25 = .ok (.goto 4, 3) := by decide +kernel
theorem dX2_canLoadFlour_28 : decode cX2_canLoadFlour 28 = .ok (.iconst 0, 1) := by decide +kernel
theorem dX2_canLoadFlour_29 : decode cX2_canLoadFlour 29 = .ok (.ireturn, 1) := by decide +kernel
theorem dX2_loadFlour_0 : decode cX2_loadFlour 0 = .ok (.aload_n 0, 1) := by decide +kernel
theorem dX2_loadFlour_1 : decode cX2_loadFlour 1 = .ok (.iload_n 1, 1) := by decide +kernel
theorem dX2_loadFlour_2 : decode cX2_loadFlour 2 = .ok (.invokevirtual 162, 3) := by decide +kernel
theorem dX2_loadFlour_5 : decode cX2_loadFlour 5 = .ok (.ifCond .eq 28, 3) := by decide +kernel
theorem dX2_loadFlour_8 : decode cX2_loadFlour 8 = .ok (.aload_n 0, 1) := by decide +kernel
theorem dX2_loadFlour_9 : decode cX2_loadFlour 9 = .ok (.getfield 33, 3) := by decide +kernel
theorem dX2_loadFlour_12 : decode cX2_loadFlour 12 = .ok (.iload_n 1, 1) := by decide +kernel
theorem dX2_loadFlour_13 : decode cX2_loadFlour 13 = .ok (.aaload, 1) := by decide +kernel
theorem dX2_loadFlour_14 : decode cX2_loadFlour 14 = .ok (.dup, 1) := by decide +kernel
theorem dX2_loadFlour_15 : decode cX2_loadFlour 15 = .ok (.getfield 222, 3) := by decide +kernel
theorem dX2_loadFlour_18 : decode cX2_loadFlour 18 = .ok (.iload_n 2, 1) := by decide +kernel
theorem dX2_loadFlour_19 : decode cX2_loadFlour 19 = .ok (.iadd, 1) := by decide +kernel
theorem dX2_loadFlour_20 : decode cX2_loadFlour 20 = .ok (.putfield 222, 3) := by decide +kernel
theorem dX2_loadFlour_23 : decode cX2_loadFlour 23 = .ok (.aload_n 0, 1) := by decide +kernel
theorem dX2_loadFlour_24 : decode cX2_loadFlour 24 = .ok (.dup, 1) := by decide +kernel
theorem dX2_loadFlour_25 : decode cX2_loadFlour 25 = .ok (.getfield 49, 3) := by decide +kernel
theorem dX2_loadFlour_28 : decode cX2_loadFlour 28 = .ok (.iload_n 2, 1) := by decide +kernel
theorem dX2_loadFlour_29 : decode cX2_loadFlour 29 = .ok (.isub, 1) := by decide +kernel
theorem dX2_loadFlour_30 : decode cX2_loadFlour 30 = .ok (.putfield 49, 3) := by decide +kernel
theorem dX2_loadFlour_33 : decode cX2_loadFlour 33 = .ok (.return_, 1) := by decide +kernel
theorem dX2_canGather_0 : decode cX2_canGather 0 = .ok (.aload_n 0, 1) := by decide +kernel
theorem dX2_canGather_1 : decode cX2_canGather 1 = .ok (.iload_n 1, 1) := by decide +kernel
theorem dX2_canGather_2 : decode cX2_canGather 2 = .ok (.invokevirtual 162, 3) := by decide +kernel
theorem dX2_canGather_5 : decode cX2_canGather 5 = .ok (.ifCond .eq 19, 3) := by decide +kernel
theorem dX2_canGather_8 : decode cX2_canGather 8 = .ok (.aload_n 0, 1) := by decide +kernel
theorem dX2_canGather_9 : decode cX2_canGather 9 = .ok (.getfield 33, 3) := by decide +kernel
theorem dX2_canGather_12 : decode cX2_canGather 12 = .ok (.iload_n 1, 1) := by decide +kernel
theorem dX2_canGather_13 : decode cX2_canGather 13 = .ok (.aaload, 1) := by decide +kernel
theorem dX2_canGather_14 : decode cX2_canGather 14 = .ok (.invokevirtual 101, 3) := by decide +kernel
theorem dX2_canGather_17 : decode cX2_canGather 17 = .ok (.ifCond .ne 7, 3) := by decide +kernel
theorem dX2_canGather_20 : decode cX2_canGather 20 = .ok (.iconst 1, 1) := by decide +kernel
theorem dX2_canGather_21 : decode cX2_canGather 21 = .ok (.goto 4, 3) := by decide +kernel
theorem dX2_canGather_24 : decode cX2_canGather 24 = .ok (.iconst 0, 1) := by decide +kernel
theorem dX2_canGather_25 : decode cX2_canGather 25 = .ok (.ireturn, 1) := by decide +kernel
theorem dX2_gather_0 : decode cX2_gather 0 = .ok (.aload_n 0, 1) := by decide +kernel
theorem dX2_gather_1 : decode cX2_gather 1 = .ok (.iload_n 1, 1) := by decide +kernel
theorem dX2_gather_2 : decode cX2_gather 2 = .ok (.invokevirtual 162, 3) := by decide +kernel
theorem dX2_gather_5 : decode cX2_gather 5 = .ok (.ifCond .eq 56, 3) := by decide +kernel
theorem dX2_gather_8 : decode cX2_gather 8 = .ok (.aload_n 0, 1) := by decide +kernel
theorem dX2_gather_9 : decode cX2_gather 9 = .ok (.aload_n 0, 1) := by decide +kernel
theorem dX2_gather_10 : decode cX2_gather 10 = .ok (.getfield 33, 3) := by decide +kernel
theorem dX2_gather_13 : decode cX2_gather 13 = .ok (.iload_n 1, 1) := by decide +kernel
theorem dX2_gather_14 : decode cX2_gather 14 = .ok (.aaload, 1) := by decide +kernel
theorem dX2_gather_15 : decode cX2_gather 15 = .ok (.getfield 98, 3) := by decide +kernel
theorem dX2_gather_18 : decode cX2_gather 18 = .ok (.invokevirtual 90, 3) := by decide +kernel
theorem dX2_gather_21 : decode cX2_gather 21 = .ok (.ifCond .eq 40, 3) := by decide +kernel
theorem dX2_gather_24 : decode cX2_gather 24 = .ok (.aload_n 0, 1) := by decide +kernel
theorem dX2_gather_25 : decode cX2_gather 25 = .ok (.getfield 33, 3) := by decide +kernel
theorem dX2_gather_28 : decode cX2_gather 28 = .ok (.iload_n 1, 1) := by decide +kernel
theorem dX2_gather_29 : decode cX2_gather 29 = .ok (.aaload, 1) := by decide +kernel
theorem dX2_gather_30 : decode cX2_gather 30 = .ok (.getfield 98, 3) := by decide +kernel
theorem dX2_gather_33 : decode cX2_gather 33 = .ok (.istore_n 2, 1) := by decide +kernel
theorem dX2_gather_34 : decode cX2_gather 34 = .ok (.aload_n 0, 1) := by decide +kernel
theorem dX2_gather_35 : decode cX2_gather 35 = .ok (.getfield 33, 3) := by decide +kernel
theorem dX2_gather_38 : decode cX2_gather 38 = .ok (.iload_n 1, 1) := by decide +kernel
theorem dX2_gather_39 : decode cX2_gather 39 = .ok (.aaload, 1) := by decide +kernel
theorem dX2_gather_40 : decode cX2_gather 40 = .ok (.dup, 1) := by decide +kernel
theorem dX2_gather_41 : decode cX2_gather 41 = .ok (.getfield 151, 3) := by decide +kernel
theorem dX2_gather_44 : decode cX2_gather 44 = .ok (.aload_n 0, 1) := by decide +kernel
theorem dX2_gather_45 : decode cX2_gather 45 = .ok (.getfield 21, 3) := by decide +kernel
theorem dX2_gather_48 : decode cX2_gather 48 = .ok (.iload_n 2, 1) := by decide +kernel
theorem dX2_gather_49 : decode cX2_gather 49 = .ok (.iaload, 1) := by decide +kernel
theorem dX2_gather_50 : decode cX2_gather 50 = .ok (.iadd, 1) := by decide +kernel
theorem dX2_gather_51 : decode cX2_gather 51 = .ok (.putfield 151, 3) := by decide +kernel
theorem dX2_gather_54 : decode cX2_gather 54 = .ok (.aload_n 0, 1) := by decide +kernel
theorem dX2_gather_55 : decode cX2_gather 55 = .ok (.getfield 21, 3) := by decide +kernel
theorem dX2_gather_58 : decode cX2_gather 58 = .ok (.iload_n 2, 1) := by decide +kernel
theorem dX2_gather_59 : decode cX2_gather 59 = .ok (.iconst 0, 1) := by decide +kernel
theorem dX2_gather_60 : decode cX2_gather 60 = .ok (.iastore, 1) := by decide +kernel
theorem dX2_gather_61 : decode cX2_gather 61 = .ok (.return_, 1) := by decide +kernel
theorem dX2_clean_0 : decode cX2_clean 0 = .ok (.aload_n 0, 1) := by decide +kernel
theorem dX2_clean_1 : decode cX2_clean 1 = .ok (.iload_n 1, 1) := by decide +kernel
theorem dX2_clean_2 : decode cX2_clean 2 = .ok (.invokevirtual 162, 3) := by decide +kernel
theorem dX2_clean_5 : decode cX2_clean 5 = .ok (.ifCond .eq 36, 3) := by decide +kernel
theorem dX2_clean_8 : decode cX2_clean 8 = .ok (.aload_n 0, 1) := by decide +kernel
theorem dX2_clean_9 : decode cX2_clean 9 = .ok (.getfield 33, 3) := by decide +kernel
theorem dX2_clean_12 : decode cX2_clean 12 = .ok (.iload_n 1, 1) := by decide +kernel
theorem dX2_clean_13 : decode cX2_clean 13 = .ok (.aaload, 1) := by decide +kernel
theorem dX2_clean_14 : decode cX2_clean 14 = .ok (.dup, 1) := by decide +kernel
theorem dX2_clean_15 : decode cX2_clean 15 = .ok (.getfield 144, 3) := by decide +kernel
theorem dX2_clean_18 : decode cX2_clean 18 = .ok (.aload_n 0, 1) := by decide +kernel
theorem dX2_clean_19 : decode cX2_clean 19 = .ok (.getfield 33, 3) := by decide +kernel
theorem dX2_clean_22 : decode cX2_clean 22 = .ok (.iload_n 1, 1) := by decide +kernel
theorem dX2_clean_23 : decode cX2_clean 23 = .ok (.aaload, 1) := by decide +kernel
theorem dX2_clean_24 : decode cX2_clean 24 = .ok (.getfield 151, 3) := by decide +kernel
theorem dX2_clean_27 : decode cX2_clean 27 = .ok (.iadd, 1) := by decide +kernel
theorem dX2_clean_28 : decode cX2_clean 28 = .ok (.putfield 144, 3) := by decide +kernel
theorem dX2_clean_31 : decode cX2_clean 31 = .ok (.aload_n 0, 1) := by decide +kernel
theorem dX2_clean_32 : decode cX2_clean 32 = .ok (.getfield 33, 3) := by decide +kernel
theorem dX2_clean_35 : decode cX2_clean 35 = .ok (.iload_n 1, 1) := by decide +kernel
theorem dX2_clean_36 : decode cX2_clean 36 = .ok (.aaload, 1) := by decide +kernel
theorem dX2_clean_37 : decode cX2_clean 37 = .ok (.iconst 0, 1) := by decide +kernel
theorem dX2_clean_38 : decode cX2_clean 38 = .ok (.putfield 151, 3) := by decide +kernel
theorem dX2_clean_41 : decode cX2_clean 41 = .ok (.return_, 1) := by decide +kernel
theorem dX2_canPass_0 : decode cX2_canPass 0 = .ok (.aload_n 0, 1) := by decide +kernel
theorem dX2_canPass_1 : decode cX2_canPass 1 = .ok (.getfield 46, 3) := by decide +kernel
theorem dX2_canPass_4 : decode cX2_canPass 4 = .ok (.iload_n 1, 1) := by decide +kernel
theorem dX2_canPass_5 : decode cX2_canPass 5 = .ok (.iadd, 1) := by decide +kernel
theorem dX2_canPass_6 : decode cX2_canPass 6 = .ok (.sipush 10000, 3) := by decide +kernel
theorem dX2_canPass_9 : decode cX2_canPass 9 = .ok (.if_icmp .gt 7, 3) := by decide +kernel
theorem dX2_canPass_12 : decode cX2_canPass 12 = .ok (.iconst 1, 1) := by decide +kernel
theorem dX2_canPass_13 : decode cX2_canPass 13 = .ok (.goto 4, 3) := by decide +kernel
theorem dX2_canPass_16 : decode cX2_canPass 16 = .ok (.iconst 0, 1) := by decide +kernel
theorem dX2_canPass_17 : decode cX2_canPass 17 = .ok (.ireturn, 1) := by decide +kernel
theorem dX2_passAtMost_0 : decode cX2_passAtMost 0 = .ok (.iconst 0, 1) := by decide +kernel
theorem dX2_passAtMost_1 : decode cX2_passAtMost 1 = .ok (.istore_n 2, 1) := by decide +kernel
theorem dX2_passAtMost_2 : decode cX2_passAtMost 2 = .ok (.iload_n 2, 1) := by decide +kernel
theorem dX2_passAtMost_3 : decode cX2_passAtMost 3 = .ok (.iload_n 1, 1) := by decide +kernel
theorem dX2_passAtMost_4 : decode cX2_passAtMost 4 = .ok (.if_icmp .ge 43, 3) := by decide +kernel
theorem dX2_passAtMost_7 : decode cX2_passAtMost 7 = .ok (.aload_n 0, 1) := by decide +kernel
theorem dX2_passAtMost_8 : decode cX2_passAtMost 8 = .ok (.iconst 1, 1) := by decide +kernel
theorem dX2_passAtMost_9 : decode cX2_passAtMost 9 = .ok (.invokevirtual 225, 3) := by decide +kernel
theorem dX2_passAtMost_12 : decode cX2_passAtMost 12 = .ok (.ifCond .eq 35, 3) := by decide +kernel
theorem dX2_passAtMost_15 : decode cX2_passAtMost 15 = .ok (.aload_n 0, 1) := by decide +kernel
theorem dX2_passAtMost_16 : decode cX2_passAtMost 16 = .ok (.invokevirtual 228, 3) := by decide +kernel
theorem dX2_passAtMost_19 : decode cX2_passAtMost 19 = .ok (.aload_n 0, 1) := by decide +kernel
theorem dX2_passAtMost_20 : decode cX2_passAtMost 20 = .ok (.invokevirtual 231, 3) := by decide +kernel
theorem dX2_passAtMost_23 : decode cX2_passAtMost 23 = .ok (.aload_n 0, 1) := by decide +kernel
theorem dX2_passAtMost_24 : decode cX2_passAtMost 24 = .ok (.invokevirtual 234, 3) := by decide +kernel
theorem dX2_passAtMost_27 : decode cX2_passAtMost 27 = .ok (.aload_n 0, 1) := by decide +kernel
theorem dX2_passAtMost_28 : decode cX2_passAtMost 28 = .ok (.invokevirtual 237, 3) := by decide +kernel
theorem dX2_passAtMost_31 : decode cX2_passAtMost 31 = .ok (.aload_n 0, 1) := by decide +kernel
theorem dX2_passAtMost_32 : decode cX2_passAtMost 32 = .ok (.dup, 1) := by decide +kernel
theorem dX2_passAtMost_33 : decode cX2_passAtMost 33 = .ok (.getfield 46, 3) := by decide +kernel
theorem dX2_passAtMost_36 : decode cX2_passAtMost 36 = .ok (.iconst 1, 1) := by decide +kernel
theorem dX2_passAtMost_37 : decode cX2_passAtMost 37 = .ok (.iadd, 1) := by decide +kernel
theorem dX2_passAtMost_38 : decode cX2_passAtMost 38 = .ok (.putfield 46, 3) := by decide +kernel
theorem dX2_passAtMost_41 : decode cX2_passAtMost 41 = .ok (.iinc 2 1, 3) := by decide +kernel
theorem dX2_passAtMost_44 : decode cX2_passAtMost 44 = .ok (.goto (-42), 3) := by decide +kernel
theorem dX2_passAtMost_47 : decode cX2_passAtMost 47 = .ok (.return_, 1) := by decide +kernel
theorem dX2_moveBarges_0 : decode cX2_moveBarges 0 = .ok (.iconst 0, 1) := by decide +kernel
theorem dX2_moveBarges_1 : decode cX2_moveBarges 1 = .ok (.istore_n 1, 1) := by decide +kernel
theorem dX2_moveBarges_2 : decode cX2_moveBarges 2 = .ok (.iload_n 1, 1) := by decide +kernel
theorem dX2_moveBarges_3 : decode cX2_moveBarges 3 = .ok (.aload_n 0, 1) := by decide +kernel
theorem dX2_moveBarges_4 : decode cX2_moveBarges 4 = .ok (.getfield 28, 3) := by decide +kernel
theorem dX2_moveBarges_7 : decode cX2_moveBarges 7 = .ok (.if_icmp .ge 32, 3) := by decide +kernel
theorem dX2_moveBarges_10 : decode cX2_moveBarges 10 = .ok (.aload_n 0, 1) := by decide +kernel
theorem dX2_moveBarges_11 : decode cX2_moveBarges 11 = .ok (.getfield 33, 3) := by decide +kernel
theorem dX2_moveBarges_14 : decode cX2_moveBarges 14 = .ok (.iload_n 1, 1) := by decide +kernel
theorem dX2_moveBarges_15 : decode cX2_moveBarges 15 = .ok (.aaload, 1) := by decide +kernel
theorem dX2_moveBarges_16 : decode cX2_moveBarges 16 = .ok (.invokevirtual 165, 3) := by decide +kernel
theorem dX2_moveBarges_19 : decode cX2_moveBarges 19 = .ok (.ifCond .eq 14, 3) := by decide +kernel
theorem dX2_moveBarges_22 : decode cX2_moveBarges 22 = .ok (.aload_n 0, 1) := by decide +kernel
theorem dX2_moveBarges_23 : decode cX2_moveBarges 23 = .ok (.iload_n 1, 1) := by decide +kernel
theorem dX2_moveBarges_24 : decode cX2_moveBarges 24 = .ok (.aload_n 0, 1) := by decide +kernel
theorem dX2_moveBarges_25 : decode cX2_moveBarges 25 = .ok (.getfield 33, 3) := by decide +kernel
theorem dX2_moveBarges_28 : decode cX2_moveBarges 28 = .ok (.iload_n 1, 1) := by decide +kernel
theorem dX2_moveBarges_29 : decode cX2_moveBarges 29 = .ok (.aaload, 1) := by decide +kernel
theorem dX2_moveBarges_30 : decode cX2_moveBarges 30 = .ok (.invokevirtual 240, 3) := by decide +kernel
theorem dX2_moveBarges_33 : decode cX2_moveBarges 33 = .ok (.iinc 1 1, 3) := by decide +kernel
theorem dX2_moveBarges_36 : decode cX2_moveBarges 36 = .ok (.goto (-34), 3) := by decide +kernel
theorem dX2_moveBarges_39 : decode cX2_moveBarges 39 = .ok (.return_, 1) := by decide +kernel
theorem dX2_move_0 : decode cX2_move 0 = .ok (.aload_n 2, 1) := by decide +kernel
theorem dX2_move_1 : decode cX2_move 1 = .ok (.getfield 168, 3) := by decide +kernel
theorem dX2_move_4 : decode cX2_move 4 = .ok (.aload_n 2, 1) := by decide +kernel
theorem dX2_move_5 : decode cX2_move 5 = .ok (.getfield 98, 3) := by decide +kernel
theorem dX2_move_8 : decode cX2_move 8 = .ok (.if_icmp .le 12, 3) := by decide +kernel
theorem dX2_move_11 : decode cX2_move 11 = .ok (.aload_n 2, 1) := by decide +kernel
theorem dX2_move_12 : decode cX2_move 12 = .ok (.getfield 98, 3) := by decide +kernel
theorem dX2_move_15 : decode cX2_move 15 = .ok (.iconst 1, 1) := by decide +kernel
theorem dX2_move_16 : decode cX2_move 16 = .ok (.iadd, 1) := by decide +kernel
theorem dX2_move_17 : decode cX2_move 17 = .ok (.goto 9, 3) := by decide +kernel
theorem dX2_move_20 : decode cX2_move 20 = .ok (.aload_n 2, 1) := by decide +kernel
theorem dX2_move_21 : decode cX2_move 21 = .ok (.getfield 98, 3) := by decide +kernel
theorem dX2_move_24 : decode cX2_move 24 = .ok (.iconst 1, 1) := by decide +kernel
theorem dX2_move_25 : decode cX2_move 25 = .ok (.isub, 1) := by decide +kernel
theorem dX2_move_26 : decode cX2_move 26 = .ok (.istore_n 3, 1) := by decide +kernel
theorem dX2_move_27 : decode cX2_move 27 = .ok (.aload_n 2, 1) := by decide +kernel
theorem dX2_move_28 : decode cX2_move 28 = .ok (.getfield 98, 3) := by decide +kernel
theorem dX2_move_31 : decode cX2_move 31 = .ok (.iload_n 3, 1) := by decide +kernel
theorem dX2_move_32 : decode cX2_move 32 = .ok (.invokestatic 179, 3) := by decide +kernel
theorem dX2_move_35 : decode cX2_move 35 = .ok (.istore 4, 2) := by decide +kernel
theorem dX2_move_37 : decode cX2_move 37 = .ok (.aload_n 0, 1) := by decide +kernel
theorem dX2_move_38 : decode cX2_move 38 = .ok (.iload 4, 2) := by decide +kernel
theorem dX2_move_40 : decode cX2_move 40 = .ok (.invokevirtual 182, 3) := by decide +kernel
theorem dX2_move_43 : decode cX2_move 43 = .ok (.ifCond .ne 4, 3) := by decide +kernel
theorem dX2_move_46 : decode cX2_move 46 = .ok (.return_, 1) := by decide +kernel
theorem dX2_move_47 : decode cX2_move 47 = .ok (.aload_n 0, 1) := by decide +kernel
theorem dX2_move_48 : decode cX2_move 48 = .ok (.getfield 17, 3) := by decide +kernel
theorem dX2_move_51 : decode cX2_move 51 = .ok (.iload 4, 2) := by decide +kernel
theorem dX2_move_53 : decode cX2_move 53 = .ok (.aaload, 1) := by decide +kernel
theorem dX2_move_54 : decode cX2_move 54 = .ok (.astore 5, 2) := by decide +kernel
theorem dX2_move_56 : decode cX2_move 56 = .ok (.aload_n 2, 1) := by decide +kernel
theorem dX2_move_57 : decode cX2_move 57 = .ok (.invokevirtual 101, 3) := by decide +kernel
theorem dX2_move_60 : decode cX2_move 60 = .ok (.ifCond .eq 34, 3) := by decide +kernel
theorem dX2_move_63 : decode cX2_move 63 = .ok (.aload_n 2, 1) := by decide +kernel
theorem dX2_move_64 : decode cX2_move 64 = .ok (.dup, 1) := by decide +kernel
theorem dX2_move_65 : decode cX2_move 65 = .ok (.getfield 244, 3) := by decide +kernel
theorem dX2_move_68 : decode cX2_move 68 = .ok (.iconst 1, 1) := by decide +kernel
theorem dX2_move_69 : decode cX2_move 69 = .ok (.isub, 1) := by decide +kernel
theorem dX2_move_70 : decode cX2_move 70 = .ok (.putfield 244, 3) := by decide +kernel
theorem dX2_move_73 : decode cX2_move 73 = .ok (.aload_n 2, 1) := by decide +kernel
theorem dX2_move_74 : decode cX2_move 74 = .ok (.getfield 244, 3) := by decide +kernel
theorem dX2_move_77 : decode cX2_move 77 = .ok (.ifCond .ne 57, 3) := by decide +kernel
theorem dX2_move_80 : decode cX2_move 80 = .ok (.aload 5, 2) := by decide +kernel
theorem dX2_move_82 : decode cX2_move 82 = .ok (.iconst (-1), 1) := by decide +kernel
theorem dX2_move_83 : decode cX2_move 83 = .ok (.putfield 247, 3) := by decide +kernel
theorem dX2_move_86 : decode cX2_move 86 = .ok (.aload_n 2, 1) := by decide +kernel
theorem dX2_move_87 : decode cX2_move 87 = .ok (.iload_n 3, 1) := by decide +kernel
theorem dX2_move_88 : decode cX2_move 88 = .ok (.putfield 98, 3) := by decide +kernel
theorem dX2_move_91 : decode cX2_move 91 = .ok (.goto 43, 3) := by decide +kernel
theorem dX2_move_94 : decode cX2_move 94 = .ok (.aload 5, 2) := by decide +kernel
theorem dX2_move_96 : decode cX2_move 96 = .ok (.getfield 191, 3) := by decide +kernel
theorem dX2_move_99 : decode cX2_move 99 = .ok (.ifCond .ne 11, 3) := by decide +kernel
theorem dX2_move_102 : decode cX2_move 102 = .ok (.aload_n 2, 1) := by decide +kernel
theorem dX2_move_103 : decode cX2_move 103 = .ok (.iload_n 3, 1) := by decide +kernel
theorem dX2_move_104 : decode cX2_move 104 = .ok (.putfield 98, 3) := by decide +kernel
theorem dX2_move_107 : decode cX2_move 107 = .ok (.goto 27, 3) := by decide +kernel
theorem dX2_move_110 : decode cX2_move 110 = .ok (.aload 5, 2) := by decide +kernel
theorem dX2_move_112 : decode cX2_move 112 = .ok (.getfield 247, 3) := by decide +kernel
theorem dX2_move_115 : decode cX2_move 115 = .ok (.iconst (-1), 1) := by decide +kernel
theorem dX2_move_116 : decode cX2_move 116 = .ok (.if_icmp .ne 18, 3) := by decide +kernel
theorem dX2_move_119 : decode cX2_move 119 = .ok (.aload 5, 2) := by decide +kernel
theorem dX2_move_121 : decode cX2_move 121 = .ok (.iload_n 1, 1) := by decide +kernel
theorem dX2_move_122 : decode cX2_move 122 = .ok (.putfield 247, 3) := by decide +kernel
theorem dX2_move_125 : decode cX2_move 125 = .ok (.aload_n 2, 1) := by decide +kernel
theorem dX2_move_126 : decode cX2_move 126 = .ok (.aload 5, 2) := by decide +kernel
theorem dX2_move_128 : decode cX2_move 128 = .ok (.getfield 191, 3) := by decide +kernel
theorem dX2_move_131 : decode cX2_move 131 = .ok (.putfield 244, 3) := by decide +kernel
theorem dX2_move_134 : decode cX2_move 134 = .ok (.return_, 1) := by decide +kernel
theorem dX2_pullNoodles_0 : decode cX2_pullNoodles 0 = .ok (.iconst 0, 1) := by decide +kernel
theorem dX2_pullNoodles_1 : decode cX2_pullNoodles 1 = .ok (.istore_n 1, 1) := by decide +kernel
theorem dX2_pullNoodles_2 : decode cX2_pullNoodles 2 = .ok (.iload_n 1, 1) := by decide +kernel
theorem dX2_pullNoodles_3 : decode cX2_pullNoodles 3 = .ok (.aload_n 0, 1) := by decide +kernel
theorem dX2_pullNoodles_4 : decode cX2_pullNoodles 4 = .ok (.getfield 28, 3) := by decide +kernel
theorem dX2_pullNoodles_7 : decode cX2_pullNoodles 7 = .ok (.if_icmp .ge 45, 3) := by decide +kernel
theorem dX2_pullNoodles_10 : decode cX2_pullNoodles 10 = .ok (.aload_n 0, 1) := by decide +kernel
theorem dX2_pullNoodles_11 : decode cX2_pullNoodles 11 = .ok (.getfield 33, 3) := by decide +kernel
theorem dX2_pullNoodles_14 : decode cX2_pullNoodles 14 = .ok (.iload_n 1, 1) := by decide +kernel
theorem dX2_pullNoodles_15 : decode cX2_pullNoodles 15 = .ok (.aaload, 1) := by decide +kernel
theorem dX2_pullNoodles_16 : decode cX2_pullNoodles 16 = .ok (.iconst 0, 1) := by decide +kernel
theorem dX2_pullNoodles_17 : decode cX2_pullNoodles 17 = .ok (.invokevirtual 118, 3) := by decide +kernel
theorem dX2_pullNoodles_20 : decode cX2_pullNoodles 20 = .ok (.istore_n 2, 1) := by decide +kernel
theorem dX2_pullNoodles_21 : decode cX2_pullNoodles 21 = .ok (.aload_n 0, 1) := by decide +kernel
theorem dX2_pullNoodles_22 : decode cX2_pullNoodles 22 = .ok (.iload_n 2, 1) := by decide +kernel
theorem dX2_pullNoodles_23 : decode cX2_pullNoodles 23 = .ok (.invokevirtual 122, 3) := by decide +kernel
theorem dX2_pullNoodles_26 : decode cX2_pullNoodles 26 = .ok (.ifCond .eq 20, 3) := by decide +kernel
theorem dX2_pullNoodles_29 : decode cX2_pullNoodles 29 = .ok (.aload_n 0, 1) := by decide +kernel
theorem dX2_pullNoodles_30 : decode cX2_pullNoodles 30 = .ok (.aload_n 0, 1) := by decide +kernel
theorem dX2_pullNoodles_31 : decode cX2_pullNoodles 31 = .ok (.getfield 33, 3) := by decide +kernel
theorem dX2_pullNoodles_34 : decode cX2_pullNoodles 34 = .ok (.iload_n 1, 1) := by decide +kernel
theorem dX2_pullNoodles_35 : decode cX2_pullNoodles 35 = .ok (.aaload, 1) := by decide +kernel
theorem dX2_pullNoodles_36 : decode cX2_pullNoodles 36 = .ok (.aload_n 0, 1) := by decide +kernel
theorem dX2_pullNoodles_37 : decode cX2_pullNoodles 37 = .ok (.getfield 42, 3) := by decide +kernel
theorem dX2_pullNoodles_40 : decode cX2_pullNoodles 40 = .ok (.iload_n 2, 1) := by decide +kernel
theorem dX2_pullNoodles_41 : decode cX2_pullNoodles 41 = .ok (.aaload, 1) := by decide +kernel
theorem dX2_pullNoodles_42 : decode cX2_pullNoodles 42 = .ok (.iload_n 2, 1) := by decide +kernel
theorem dX2_pullNoodles_43 : decode cX2_pullNoodles 43 = .ok (.invokevirtual 250, 3) := by decide +kernel
theorem dX2_pullNoodles_46 : decode cX2_pullNoodles 46 = .ok (.iinc 1 1, 3) := by decide +kernel
theorem dX2_pullNoodles_49 : decode cX2_pullNoodles 49 = .ok (.goto (-47), 3) := by decide +kernel
theorem dX2_pullNoodles_52 : decode cX2_pullNoodles 52 = .ok (.return_, 1) := by decide +kernel
theorem dX2_pull_0 : decode cX2_pull 0 = .ok (.aload_n 2, 1) := by decide +kernel
theorem dX2_pull_1 : decode cX2_pull 1 = .ok (.getfield 125, 3) := by decide +kernel
theorem dX2_pull_4 : decode cX2_pull 4 = .ok (.ifCond .ne 32, 3) := by decide +kernel
theorem dX2_pull_7 : decode cX2_pull 7 = .ok (.aload_n 1, 1) := by decide +kernel
theorem dX2_pull_8 : decode cX2_pull 8 = .ok (.getfield 222, 3) := by decide +kernel
theorem dX2_pull_11 : decode cX2_pull 11 = .ok (.aload_n 2, 1) := by decide +kernel
theorem dX2_pull_12 : decode cX2_pull 12 = .ok (.getfield 129, 3) := by decide +kernel
theorem dX2_pull_15 : decode cX2_pull 15 = .ok (.if_icmp .lt 21, 3) := by decide +kernel
theorem dX2_pull_18 : decode cX2_pull 18 = .ok (.aload_n 1, 1) := by decide +kernel
theorem dX2_pull_19 : decode cX2_pull 19 = .ok (.dup, 1) := by decide +kernel
theorem dX2_pull_20 : decode cX2_pull 20 = .ok (.getfield 222, 3) := by decide +kernel
theorem dX2_pull_23 : decode cX2_pull 23 = .ok (.aload_n 2, 1) := by decide +kernel
theorem dX2_pull_24 : decode cX2_pull 24 = .ok (.getfield 129, 3) := by decide +kernel
theorem dX2_pull_27 : decode cX2_pull 27 = .ok (.isub, 1) := by decide +kernel
theorem dX2_pull_28 : decode cX2_pull 28 = .ok (.putfield 222, 3) := by decide +kernel
theorem dX2_pull_31 : decode cX2_pull 31 = .ok (.aload_n 2, 1) := by decide +kernel
theorem dX2_pull_32 : decode cX2_pull 32 = .ok (.iconst 1, 1) := by decide +kernel
theorem dX2_pull_33 : decode cX2_pull 33 = .ok (.putfield 125, 3) := by decide +kernel
theorem dX2_pull_36 : decode cX2_pull 36 = .ok (.aload_n 2, 1) := by decide +kernel
theorem dX2_pull_37 : decode cX2_pull 37 = .ok (.getfield 125, 3) := by decide +kernel
theorem dX2_pull_40 : decode cX2_pull 40 = .ok (.ifCond .eq 32, 3) := by decide +kernel
theorem dX2_pull_43 : decode cX2_pull 43 = .ok (.aload_n 2, 1) := by decide +kernel
theorem dX2_pull_44 : decode cX2_pull 44 = .ok (.dup, 1) := by decide +kernel
theorem dX2_pull_45 : decode cX2_pull 45 = .ok (.getfield 254, 3) := by decide +kernel
theorem dX2_pull_48 : decode cX2_pull 48 = .ok (.iconst 1, 1) := by decide +kernel
theorem dX2_pull_49 : decode cX2_pull 49 = .ok (.isub, 1) := by decide +kernel
theorem dX2_pull_50 : decode cX2_pull 50 = .ok (.putfield 254, 3) := by decide +kernel
theorem dX2_pull_53 : decode cX2_pull 53 = .ok (.aload_n 2, 1) := by decide +kernel
theorem dX2_pull_54 : decode cX2_pull 54 = .ok (.getfield 254, 3) := by decide +kernel
theorem dX2_pull_57 : decode cX2_pull 57 = .ok (.ifCond .ne 15, 3) := by decide +kernel
theorem dX2_pull_60 : decode cX2_pull 60 = .ok (.aload_n 2, 1) := by decide +kernel
theorem dX2_pull_61 : decode cX2_pull 61 = .ok (.getstatic 257, 3) := by decide +kernel
theorem dX2_pull_64 : decode cX2_pull 64 = .ok (.putfield 132, 3) := by decide +kernel
theorem dX2_pull_67 : decode cX2_pull 67 = .ok (.aload_n 1, 1) := by decide +kernel
theorem dX2_pull_68 : decode cX2_pull 68 = .ok (.iload_n 3, 1) := by decide +kernel
theorem dX2_pull_69 : decode cX2_pull 69 = .ok (.invokevirtual 216, 3) := by decide +kernel
theorem dX2_pull_72 : decode cX2_pull 72 = .ok (.return_, 1) := by decide +kernel
theorem dX2_serveOrders_0 : decode cX2_serveOrders 0 = .ok (.iconst 0, 1) := by decide +kernel
theorem dX2_serveOrders_1 : decode cX2_serveOrders 1 = .ok (.istore_n 1, 1) := by decide +kernel
theorem dX2_serveOrders_2 : decode cX2_serveOrders 2 = .ok (.iload_n 1, 1) := by decide +kernel
theorem dX2_serveOrders_3 : decode cX2_serveOrders 3 = .ok (.aload_n 0, 1) := by decide +kernel
theorem dX2_serveOrders_4 : decode cX2_serveOrders 4 = .ok (.getfield 37, 3) := by decide +kernel
theorem dX2_serveOrders_7 : decode cX2_serveOrders 7 = .ok (.if_icmp .ge 58, 3) := by decide +kernel
theorem dX2_serveOrders_10 : decode cX2_serveOrders 10 = .ok (.aload_n 0, 1) := by decide +kernel
theorem dX2_serveOrders_11 : decode cX2_serveOrders 11 = .ok (.getfield 42, 3) := by decide +kernel
theorem dX2_serveOrders_14 : decode cX2_serveOrders 14 = .ok (.iload_n 1, 1) := by decide +kernel
theorem dX2_serveOrders_15 : decode cX2_serveOrders 15 = .ok (.aaload, 1) := by decide +kernel
theorem dX2_serveOrders_16 : decode cX2_serveOrders 16 = .ok (.getfield 109, 3) := by decide +kernel
theorem dX2_serveOrders_19 : decode cX2_serveOrders 19 = .ok (.istore_n 2, 1) := by decide +kernel
theorem dX2_serveOrders_20 : decode cX2_serveOrders 20 = .ok (.aload_n 0, 1) := by decide +kernel
theorem dX2_serveOrders_21 : decode cX2_serveOrders 21 = .ok (.getfield 42, 3) := by decide +kernel
theorem dX2_serveOrders_24 : decode cX2_serveOrders 24 = .ok (.iload_n 1, 1) := by decide +kernel
theorem dX2_serveOrders_25 : decode cX2_serveOrders 25 = .ok (.aaload, 1) := by decide +kernel
theorem dX2_serveOrders_26 : decode cX2_serveOrders 26 = .ok (.getfield 132, 3) := by decide +kernel
theorem dX2_serveOrders_29 : decode cX2_serveOrders 29 = .ok (.getstatic 257, 3) := by decide +kernel
theorem dX2_serveOrders_32 : decode cX2_serveOrders 32 = .ok (.if_acmp .ne 27, 3) := by decide +kernel
theorem dX2_serveOrders_35 : decode cX2_serveOrders 35 = .ok (.aload_n 0, 1) := by decide +kernel
theorem dX2_serveOrders_36 : decode cX2_serveOrders 36 = .ok (.iload_n 2, 1) := by decide +kernel
theorem dX2_serveOrders_37 : decode cX2_serveOrders 37 = .ok (.invokevirtual 162, 3) := by decide +kernel
theorem dX2_serveOrders_40 : decode cX2_serveOrders 40 = .ok (.ifCond .eq 19, 3) := by decide +kernel
theorem dX2_serveOrders_43 : decode cX2_serveOrders 43 = .ok (.aload_n 0, 1) := by decide +kernel
theorem dX2_serveOrders_44 : decode cX2_serveOrders 44 = .ok (.aload_n 0, 1) := by decide +kernel
theorem dX2_serveOrders_45 : decode cX2_serveOrders 45 = .ok (.getfield 33, 3) := by decide +kernel
theorem dX2_serveOrders_48 : decode cX2_serveOrders 48 = .ok (.iload_n 2, 1) := by decide +kernel
theorem dX2_serveOrders_49 : decode cX2_serveOrders 49 = .ok (.aaload, 1) := by decide +kernel
theorem dX2_serveOrders_50 : decode cX2_serveOrders 50 = .ok (.aload_n 0, 1) := by decide +kernel
theorem dX2_serveOrders_51 : decode cX2_serveOrders 51 = .ok (.getfield 42, 3) := by decide +kernel
theorem dX2_serveOrders_54 : decode cX2_serveOrders 54 = .ok (.iload_n 1, 1) := by decide +kernel
theorem dX2_serveOrders_55 : decode cX2_serveOrders 55 = .ok (.aaload, 1) := by decide +kernel
theorem dX2_serveOrders_56 : decode cX2_serveOrders 56 = .ok (.invokevirtual 260, 3) := by decide +kernel
theorem dX2_serveOrders_59 : decode cX2_serveOrders 59 = .ok (.iinc 1 1, 3) := by decide +kernel
theorem dX2_serveOrders_62 : decode cX2_serveOrders 62 = .ok (.goto (-60), 3) := by decide +kernel
theorem dX2_serveOrders_65 : decode cX2_serveOrders 65 = .ok (.return_, 1) := by decide +kernel
theorem dX2_serve_0 : decode cX2_serve 0 = .ok (.aload_n 2, 1) := by decide +kernel
theorem dX2_serve_1 : decode cX2_serve 1 = .ok (.getfield 105, 3) := by decide +kernel
theorem dX2_serve_4 : decode cX2_serve 4 = .ok (.istore_n 3, 1) := by decide +kernel
theorem dX2_serve_5 : decode cX2_serve 5 = .ok (.aload_n 1, 1) := by decide +kernel
theorem dX2_serve_6 : decode cX2_serve 6 = .ok (.invokevirtual 101, 3) := by decide +kernel
theorem dX2_serve_9 : decode cX2_serve 9 = .ok (.ifCond .ne 30, 3) := by decide +kernel
theorem dX2_serve_12 : decode cX2_serve 12 = .ok (.aload_n 1, 1) := by decide +kernel
theorem dX2_serve_13 : decode cX2_serve 13 = .ok (.getfield 98, 3) := by decide +kernel
theorem dX2_serve_16 : decode cX2_serve 16 = .ok (.iload_n 3, 1) := by decide +kernel
theorem dX2_serve_17 : decode cX2_serve 17 = .ok (.if_icmp .ne 22, 3) := by decide +kernel
theorem dX2_serve_20 : decode cX2_serve 20 = .ok (.aload_n 1, 1) := by decide +kernel
theorem dX2_serve_21 : decode cX2_serve 21 = .ok (.getfield 144, 3) := by decide +kernel
theorem dX2_serve_24 : decode cX2_serve 24 = .ok (.aload_n 2, 1) := by decide +kernel
theorem dX2_serve_25 : decode cX2_serve 25 = .ok (.getfield 129, 3) := by decide +kernel
theorem dX2_serve_28 : decode cX2_serve 28 = .ok (.if_icmp .lt 11, 3) := by decide +kernel
theorem dX2_serve_31 : decode cX2_serve 31 = .ok (.aload_n 0, 1) := by decide +kernel
theorem dX2_serve_32 : decode cX2_serve 32 = .ok (.iload_n 3, 1) := by decide +kernel
theorem dX2_serve_33 : decode cX2_serve 33 = .ok (.invokevirtual 90, 3) := by decide +kernel
theorem dX2_serve_36 : decode cX2_serve 36 = .ok (.ifCond .ne 4, 3) := by decide +kernel
theorem dX2_serve_39 : decode cX2_serve 39 = .ok (.return_, 1) := by decide +kernel
theorem dX2_serve_40 : decode cX2_serve 40 = .ok (.aload_n 1, 1) := by decide +kernel
theorem dX2_serve_41 : decode cX2_serve 41 = .ok (.dup, 1) := by decide +kernel
theorem dX2_serve_42 : decode cX2_serve 42 = .ok (.getfield 144, 3) := by decide +kernel
theorem dX2_serve_45 : decode cX2_serve 45 = .ok (.aload_n 2, 1) := by decide +kernel
theorem dX2_serve_46 : decode cX2_serve 46 = .ok (.getfield 129, 3) := by decide +kernel
theorem dX2_serve_49 : decode cX2_serve 49 = .ok (.isub, 1) := by decide +kernel
theorem dX2_serve_50 : decode cX2_serve 50 = .ok (.putfield 144, 3) := by decide +kernel
theorem dX2_serve_53 : decode cX2_serve 53 = .ok (.aload_n 0, 1) := by decide +kernel
theorem dX2_serve_54 : decode cX2_serve 54 = .ok (.getfield 21, 3) := by decide +kernel
theorem dX2_serve_57 : decode cX2_serve 57 = .ok (.iload_n 3, 1) := by decide +kernel
theorem dX2_serve_58 : decode cX2_serve 58 = .ok (.dup2, 1) := by decide +kernel
theorem dX2_serve_59 : decode cX2_serve 59 = .ok (.iaload, 1) := by decide +kernel
theorem dX2_serve_60 : decode cX2_serve 60 = .ok (.aload_n 2, 1) := by decide +kernel
theorem dX2_serve_61 : decode cX2_serve 61 = .ok (.getfield 129, 3) := by decide +kernel
theorem dX2_serve_64 : decode cX2_serve 64 = .ok (.iadd, 1) := by decide +kernel
theorem dX2_serve_65 : decode cX2_serve 65 = .ok (.iastore, 1) := by decide +kernel
theorem dX2_serve_66 : decode cX2_serve 66 = .ok (.aload_n 0, 1) := by decide +kernel
theorem dX2_serve_67 : decode cX2_serve 67 = .ok (.getfield 25, 3) := by decide +kernel
theorem dX2_serve_70 : decode cX2_serve 70 = .ok (.iload_n 3, 1) := by decide +kernel
theorem dX2_serve_71 : decode cX2_serve 71 = .ok (.dup2, 1) := by decide +kernel
theorem dX2_serve_72 : decode cX2_serve 72 = .ok (.iaload, 1) := by decide +kernel
theorem dX2_serve_73 : decode cX2_serve 73 = .ok (.aload_n 2, 1) := by decide +kernel
theorem dX2_serve_74 : decode cX2_serve 74 = .ok (.getfield 129, 3) := by decide +kernel
theorem dX2_serve_77 : decode cX2_serve 77 = .ok (.iadd, 1) := by decide +kernel
theorem dX2_serve_78 : decode cX2_serve 78 = .ok (.iastore, 1) := by decide +kernel
theorem dX2_serve_79 : decode cX2_serve 79 = .ok (.aload_n 0, 1) := by decide +kernel
theorem dX2_serve_80 : decode cX2_serve 80 = .ok (.dup, 1) := by decide +kernel
theorem dX2_serve_81 : decode cX2_serve 81 = .ok (.getfield 55, 3) := by decide +kernel
theorem dX2_serve_84 : decode cX2_serve 84 = .ok (.aload_n 2, 1) := by decide +kernel
theorem dX2_serve_85 : decode cX2_serve 85 = .ok (.getfield 129, 3) := by decide +kernel
theorem dX2_serve_88 : decode cX2_serve 88 = .ok (.iadd, 1) := by decide +kernel
theorem dX2_serve_89 : decode cX2_serve 89 = .ok (.putfield 55, 3) := by decide +kernel
theorem dX2_serve_92 : decode cX2_serve 92 = .ok (.aload_n 0, 1) := by decide +kernel
theorem dX2_serve_93 : decode cX2_serve 93 = .ok (.dup, 1) := by decide +kernel
theorem dX2_serve_94 : decode cX2_serve 94 = .ok (.getfield 58, 3) := by decide +kernel
theorem dX2_serve_97 : decode cX2_serve 97 = .ok (.iconst 1, 1) := by decide +kernel
theorem dX2_serve_98 : decode cX2_serve 98 = .ok (.iadd, 1) := by decide +kernel
theorem dX2_serve_99 : decode cX2_serve 99 = .ok (.putfield 58, 3) := by decide +kernel
theorem dX2_serve_102 : decode cX2_serve 102 = .ok (.aload_n 0, 1) := by decide +kernel
theorem dX2_serve_103 : decode cX2_serve 103 = .ok (.dup, 1) := by decide +kernel
theorem dX2_serve_104 : decode cX2_serve 104 = .ok (.getfield 49, 3) := by decide +kernel
theorem dX2_serve_107 : decode cX2_serve 107 = .ok (.aload_n 2, 1) := by decide +kernel
theorem dX2_serve_108 : decode cX2_serve 108 = .ok (.invokevirtual 264, 3) := by decide +kernel
theorem dX2_serve_111 : decode cX2_serve 111 = .ok (.iadd, 1) := by decide +kernel
theorem dX2_serve_112 : decode cX2_serve 112 = .ok (.putfield 49, 3) := by decide +kernel
theorem dX2_serve_115 : decode cX2_serve 115 = .ok (.aload_n 2, 1) := by decide +kernel
theorem dX2_serve_116 : decode cX2_serve 116 = .ok (.getstatic 159, 3) := by decide +kernel
theorem dX2_serve_119 : decode cX2_serve 119 = .ok (.invokevirtual 267, 3) := by decide +kernel
theorem dX2_serve_122 : decode cX2_serve 122 = .ok (.return_, 1) := by decide +kernel
theorem dX2_expireOrders_0 : decode cX2_expireOrders 0 = .ok (.iconst 0, 1) := by decide +kernel
theorem dX2_expireOrders_1 : decode cX2_expireOrders 1 = .ok (.istore_n 1, 1) := by decide +kernel
theorem dX2_expireOrders_2 : decode cX2_expireOrders 2 = .ok (.iload_n 1, 1) := by decide +kernel
theorem dX2_expireOrders_3 : decode cX2_expireOrders 3 = .ok (.aload_n 0, 1) := by decide +kernel
theorem dX2_expireOrders_4 : decode cX2_expireOrders 4 = .ok (.getfield 37, 3) := by decide +kernel
theorem dX2_expireOrders_7 : decode cX2_expireOrders 7 = .ok (.if_icmp .ge 74, 3) := by decide +kernel
theorem dX2_expireOrders_10 : decode cX2_expireOrders 10 = .ok (.aload_n 0, 1) := by decide +kernel
theorem dX2_expireOrders_11 : decode cX2_expireOrders 11 = .ok (.getfield 42, 3) := by decide +kernel
theorem dX2_expireOrders_14 : decode cX2_expireOrders 14 = .ok (.iload_n 1, 1) := by decide +kernel
theorem dX2_expireOrders_15 : decode cX2_expireOrders 15 = .ok (.aaload, 1) := by decide +kernel
theorem dX2_expireOrders_16 : decode cX2_expireOrders 16 = .ok (.getfield 141, 3) := by decide +kernel
theorem dX2_expireOrders_19 : decode cX2_expireOrders 19 = .ok (.aload_n 0, 1) := by decide +kernel
theorem dX2_expireOrders_20 : decode cX2_expireOrders 20 = .ok (.getfield 46, 3) := by decide +kernel
theorem dX2_expireOrders_23 : decode cX2_expireOrders 23 = .ok (.if_icmp .ne 52, 3) := by decide +kernel
theorem dX2_expireOrders_26 : decode cX2_expireOrders 26 = .ok (.aload_n 0, 1) := by decide +kernel
theorem dX2_expireOrders_27 : decode cX2_expireOrders 27 = .ok (.getfield 42, 3) := by decide +kernel
theorem dX2_expireOrders_30 : decode cX2_expireOrders 30 = .ok (.iload_n 1, 1) := by decide +kernel
theorem dX2_expireOrders_31 : decode cX2_expireOrders 31 = .ok (.aaload, 1) := by decide +kernel
theorem dX2_expireOrders_32 : decode cX2_expireOrders 32 = .ok (.invokevirtual 106, 3) := by decide +kernel
theorem dX2_expireOrders_35 : decode cX2_expireOrders 35 = .ok (.ifCond .eq 40, 3) := by decide +kernel
theorem dX2_expireOrders_38 : decode cX2_expireOrders 38 = .ok (.aload_n 0, 1) := by decide +kernel
theorem dX2_expireOrders_39 : decode cX2_expireOrders 39 = .ok (.iload_n 1, 1) := by decide +kernel
theorem dX2_expireOrders_40 : decode cX2_expireOrders 40 = .ok (.invokevirtual 210, 3) := by decide +kernel
theorem dX2_expireOrders_43 : decode cX2_expireOrders 43 = .ok (.aload_n 0, 1) := by decide +kernel
theorem dX2_expireOrders_44 : decode cX2_expireOrders 44 = .ok (.getfield 42, 3) := by decide +kernel
theorem dX2_expireOrders_47 : decode cX2_expireOrders 47 = .ok (.iload_n 1, 1) := by decide +kernel
theorem dX2_expireOrders_48 : decode cX2_expireOrders 48 = .ok (.aaload, 1) := by decide +kernel
theorem dX2_expireOrders_49 : decode cX2_expireOrders 49 = .ok (.getstatic 271, 3) := by decide +kernel
theorem dX2_expireOrders_52 : decode cX2_expireOrders 52 = .ok (.invokevirtual 267, 3) := by decide +kernel
theorem dX2_expireOrders_55 : decode cX2_expireOrders 55 = .ok (.aload_n 0, 1) := by decide +kernel
theorem dX2_expireOrders_56 : decode cX2_expireOrders 56 = .ok (.dup, 1) := by decide +kernel
theorem dX2_expireOrders_57 : decode cX2_expireOrders 57 = .ok (.getfield 49, 3) := by decide +kernel
theorem dX2_expireOrders_60 : decode cX2_expireOrders 60 = .ok (.iconst 2, 1) := by decide +kernel
theorem dX2_expireOrders_61 : decode cX2_expireOrders 61 = .ok (.isub, 1) := by decide +kernel
theorem dX2_expireOrders_62 : decode cX2_expireOrders 62 = .ok (.putfield 49, 3) := by decide +kernel
theorem dX2_expireOrders_65 : decode cX2_expireOrders 65 = .ok (.aload_n 0, 1) := by decide +kernel
theorem dX2_expireOrders_66 : decode cX2_expireOrders 66 = .ok (.dup, 1) := by decide +kernel
theorem dX2_expireOrders_67 : decode cX2_expireOrders 67 = .ok (.getfield 61, 3) := by decide +kernel
theorem dX2_expireOrders_70 : decode cX2_expireOrders 70 = .ok (.iconst 1, 1) := by decide +kernel
theorem dX2_expireOrders_71 : decode cX2_expireOrders 71 = .ok (.iadd, 1) := by decide +kernel
theorem dX2_expireOrders_72 : decode cX2_expireOrders 72 = .ok (.putfield 61, 3) := by decide +kernel
theorem dX2_expireOrders_75 : decode cX2_expireOrders 75 = .ok (.iinc 1 1, 3) := by decide +kernel
theorem dX2_expireOrders_78 : decode cX2_expireOrders 78 = .ok (.goto (-76), 3) := by decide +kernel
theorem dX2_expireOrders_81 : decode cX2_expireOrders 81 = .ok (.return_, 1) := by decide +kernel
theorem dX2_signOfPlace_0 : decode cX2_signOfPlace 0 = .ok (.aload_n 0, 1) := by decide +kernel
theorem dX2_signOfPlace_1 : decode cX2_signOfPlace 1 = .ok (.iload_n 1, 1) := by decide +kernel
theorem dX2_signOfPlace_2 : decode cX2_signOfPlace 2 = .ok (.invokevirtual 274, 3) := by decide +kernel
theorem dX2_signOfPlace_5 : decode cX2_signOfPlace 5 = .ok (.istore_n 2, 1) := by decide +kernel
theorem dX2_signOfPlace_6 : decode cX2_signOfPlace 6 = .ok (.iload_n 2, 1) := by decide +kernel
theorem dX2_signOfPlace_7 : decode cX2_signOfPlace 7 = .ok (.ifCond .ne 8, 3) := by decide +kernel
theorem dX2_signOfPlace_10 : decode cX2_signOfPlace 10 = .ok (.bipush 46, 2) := by decide +kernel
theorem dX2_signOfPlace_12 : decode cX2_signOfPlace 12 = .ok (.goto 8, 3) := by decide +kernel
theorem dX2_signOfPlace_15 : decode cX2_signOfPlace 15 = .ok (.bipush 48, 2) := by decide +kernel
theorem dX2_signOfPlace_17 : decode cX2_signOfPlace 17 = .ok (.iload_n 2, 1) := by decide +kernel
theorem dX2_signOfPlace_18 : decode cX2_signOfPlace 18 = .ok (.iadd, 1) := by decide +kernel
theorem dX2_signOfPlace_19 : decode cX2_signOfPlace 19 = .ok (.i2c, 1) := by decide +kernel
theorem dX2_signOfPlace_20 : decode cX2_signOfPlace 20 = .ok (.ireturn, 1) := by decide +kernel
theorem dX2_signOfSection_0 : decode cX2_signOfSection 0 = .ok (.aload_n 0, 1) := by decide +kernel
theorem dX2_signOfSection_1 : decode cX2_signOfSection 1 = .ok (.iload_n 1, 1) := by decide +kernel
theorem dX2_signOfSection_2 : decode cX2_signOfSection 2 = .ok (.invokevirtual 182, 3) := by decide +kernel
theorem dX2_signOfSection_5 : decode cX2_signOfSection 5 = .ok (.ifCond .eq 15, 3) := by decide +kernel
theorem dX2_signOfSection_8 : decode cX2_signOfSection 8 = .ok (.aload_n 0, 1) := by decide +kernel
theorem dX2_signOfSection_9 : decode cX2_signOfSection 9 = .ok (.getfield 17, 3) := by decide +kernel
theorem dX2_signOfSection_12 : decode cX2_signOfSection 12 = .ok (.iload_n 1, 1) := by decide +kernel
theorem dX2_signOfSection_13 : decode cX2_signOfSection 13 = .ok (.aaload, 1) := by decide +kernel
theorem dX2_signOfSection_14 : decode cX2_signOfSection 14 = .ok (.getfield 191, 3) := by decide +kernel
theorem dX2_signOfSection_17 : decode cX2_signOfSection 17 = .ok (.ifCond .ne 6, 3) := by decide +kernel
theorem dX2_signOfSection_20 : decode cX2_signOfSection 20 = .ok (.bipush 45, 2) := by decide +kernel
theorem dX2_signOfSection_22 : decode cX2_signOfSection 22 = .ok (.ireturn, 1) := by decide +kernel
theorem dX2_signOfSection_23 : decode cX2_signOfSection 23 = .ok (.aload_n 0, 1) := by decide +kernel
theorem dX2_signOfSection_24 : decode cX2_signOfSection 24 = .ok (.getfield 17, 3) := by decide +kernel
theorem dX2_signOfSection_27 : decode cX2_signOfSection 27 = .ok (.iload_n 1, 1) := by decide +kernel
theorem dX2_signOfSection_28 : decode cX2_signOfSection 28 = .ok (.aaload, 1) := by decide +kernel
theorem dX2_signOfSection_29 : decode cX2_signOfSection 29 = .ok (.getfield 247, 3) := by decide +kernel
theorem dX2_signOfSection_32 : decode cX2_signOfSection 32 = .ok (.iconst (-1), 1) := by decide +kernel
theorem dX2_signOfSection_33 : decode cX2_signOfSection 33 = .ok (.if_icmp .ne 8, 3) := by decide +kernel
theorem dX2_signOfSection_36 : decode cX2_signOfSection 36 = .ok (.bipush 124, 2) := by decide +kernel
theorem dX2_signOfSection_38 : decode cX2_signOfSection 38 = .ok (.goto 5, 3) := by decide +kernel
theorem dX2_signOfSection_41 : decode cX2_signOfSection 41 = .ok (.bipush 61, 2) := by decide +kernel
theorem dX2_signOfSection_43 : decode cX2_signOfSection 43 = .ok (.ireturn, 1) := by decide +kernel
theorem dX3_parse_0 : decode cX3_parse 0 = .ok (.aload_n 0, 1) := by decide +kernel
theorem dX3_parse_1 : decode cX3_parse 1 = .ok (.ldc 9, 2) := by decide +kernel
theorem dX3_parse_3 : decode cX3_parse 3 = .ok (.invokevirtual 11, 3) := by decide +kernel
theorem dX3_parse_6 : decode cX3_parse 6 = .ok (.aload_n 1, 1) := by decide +kernel
theorem dX3_parse_7 : decode cX3_parse 7 = .ok (.aload_n 0, 1) := by decide +kernel
theorem dX3_parse_8 : decode cX3_parse 8 = .ok (.iconst 3, 1) := by decide +kernel
theorem dX3_parse_9 : decode cX3_parse 9 = .ok (.bipush 16, 2) := by decide +kernel
theorem dX3_parse_11 : decode cX3_parse 11 = .ok (.invokevirtual 17, 3) := by decide +kernel
theorem dX3_parse_14 : decode cX3_parse 14 = .ok (.invokevirtual 21, 3) := by decide +kernel
theorem dX3_parse_17 : decode cX3_parse 17 = .ok (.aload_n 0, 1) := by decide +kernel
theorem dX3_parse_18 : decode cX3_parse 18 = .ok (.iconst 5, 1) := by decide +kernel
theorem dX3_parse_19 : decode cX3_parse 19 = .ok (.invokevirtual 27, 3) := by decide +kernel
theorem dX3_parse_22 : decode cX3_parse 22 = .ok (.aload_n 0, 1) := by decide +kernel
theorem dX3_parse_23 : decode cX3_parse 23 = .ok (.aload_n 1, 1) := by decide +kernel
theorem dX3_parse_24 : decode cX3_parse 24 = .ok (.invokestatic 30, 3) := by decide +kernel
theorem dX3_parse_27 : decode cX3_parse 27 = .ok (.aload_n 0, 1) := by decide +kernel
theorem dX3_parse_28 : decode cX3_parse 28 = .ok (.aload_n 1, 1) := by decide +kernel
theorem dX3_parse_29 : decode cX3_parse 29 = .ok (.invokestatic 36, 3) := by decide +kernel
theorem dX3_parse_32 : decode cX3_parse 32 = .ok (.aload_n 0, 1) := by decide +kernel
theorem dX3_parse_33 : decode cX3_parse 33 = .ok (.aload_n 1, 1) := by decide +kernel
theorem dX3_parse_34 : decode cX3_parse 34 = .ok (.invokestatic 39, 3) := by decide +kernel
theorem dX3_parse_37 : decode cX3_parse 37 = .ok (.aload_n 0, 1) := by decide +kernel
theorem dX3_parse_38 : decode cX3_parse 38 = .ok (.iconst 0, 1) := by decide +kernel
theorem dX3_parse_39 : decode cX3_parse 39 = .ok (.invokevirtual 27, 3) := by decide +kernel
theorem dX3_parse_42 : decode cX3_parse 42 = .ok (.return_, 1) := by decide +kernel
theorem dX3_parseSections_0 : decode cX3_parseSections 0 = .ok (.iconst 0, 1) := by decide +kernel
theorem dX3_parseSections_1 : decode cX3_parseSections 1 = .ok (.istore_n 2, 1) := by decide +kernel
theorem dX3_parseSections_2 : decode cX3_parseSections 2 = .ok (.iload_n 2, 1) := by decide +kernel
theorem dX3_parseSections_3 : decode cX3_parseSections 3 = .ok (.sipush 500, 3) := by decide +kernel
theorem dX3_parseSections_6 : decode cX3_parseSections 6 = .ok (.if_icmp .ge 44, 3) := by decide +kernel
theorem dX3_parseSections_9 : decode cX3_parseSections 9 = .ok (.aload_n 0, 1) := by decide +kernel
theorem dX3_parseSections_10 : decode cX3_parseSections 10 = .ok (.ldc 42, 2) := by decide +kernel
theorem dX3_parseSections_12 : decode cX3_parseSections 12 = .ok (.invokevirtual 44, 3) := by decide +kernel
theorem dX3_parseSections_15 : decode cX3_parseSections 15 = .ok (.ifCond .eq 11, 3) := by decide +kernel
theorem dX3_parseSections_18 : decode cX3_parseSections 18 = .ok (.aload_n 0, 1) := by decide +kernel
theorem dX3_parseSections_19 : decode cX3_parseSections 19 = .ok (.aload_n 1, 1) := by decide +kernel
theorem dX3_parseSections_20 : decode cX3_parseSections 20 = .ok (.invokestatic 48, 3) := by decide +kernel
theorem dX3_parseSections_23 : decode cX3_parseSections 23 = .ok (.goto 21, 3) := by decide +kernel
theorem dX3_parseSections_26 : decode cX3_parseSections 26 = .ok (.aload_n 0, 1) := by decide +kernel
theorem dX3_parseSections_27 : decode cX3_parseSections 27 = .ok (.ldc 51, 2) := by decide +kernel
theorem dX3_parseSections_29 : decode cX3_parseSections 29 = .ok (.invokevirtual 44, 3) := by decide +kernel
theorem dX3_parseSections_32 : decode cX3_parseSections 32 = .ok (.ifCond .eq 11, 3) := by decide +kernel
theorem dX3_parseSections_35 : decode cX3_parseSections 35 = .ok (.aload_n 0, 1) := by decide +kernel
theorem dX3_parseSections_36 : decode cX3_parseSections 36 = .ok (.aload_n 1, 1) := by decide +kernel
theorem dX3_parseSections_37 : decode cX3_parseSections 37 = .ok (.invokestatic 53, 3) := by decide +kernel
theorem dX3_parseSections_40 : decode cX3_parseSections 40 = .ok (.goto 4, 3) := by decide +kernel
theorem dX3_parseSections_43 : decode cX3_parseSections 43 = .ok (.return_, 1) := by decide +kernel
theorem dX3_parseSections_44 : decode cX3_parseSections 44 = .ok (.iinc 2 1, 3) := by decide +kernel
theorem dX3_parseSections_47 : decode cX3_parseSections 47 = .ok (.goto (-45), 3) := by decide +kernel
theorem dX3_parseSections_50 : decode cX3_parseSections 50 = .ok (.return_, 1) := by decide +kernel
theorem dX3_parseLock_0 : decode cX3_parseLock 0 = .ok (.aload_n 0, 1) := by decide +kernel
theorem dX3_parseLock_1 : decode cX3_parseLock 1 = .ok (.invokevirtual 56, 3) := by decide +kernel
theorem dX3_parseLock_4 : decode cX3_parseLock 4 = .ok (.aload_n 0, 1) := by decide +kernel
theorem dX3_parseLock_5 : decode cX3_parseLock 5 = .ok (.getfield 59, 3) := by decide +kernel
theorem dX3_parseLock_8 : decode cX3_parseLock 8 = .ok (.istore_n 2, 1) := by decide +kernel
theorem dX3_parseLock_9 : decode cX3_parseLock 9 = .ok (.aload_n 0, 1) := by decide +kernel
theorem dX3_parseLock_10 : decode cX3_parseLock 10 = .ok (.iconst 0, 1) := by decide +kernel
theorem dX3_parseLock_11 : decode cX3_parseLock 11 = .ok (.aload_n 1, 1) := by decide +kernel
theorem dX3_parseLock_12 : decode cX3_parseLock 12 = .ok (.getfield 63, 3) := by decide +kernel
theorem dX3_parseLock_15 : decode cX3_parseLock 15 = .ok (.iconst 2, 1) := by decide +kernel
theorem dX3_parseLock_16 : decode cX3_parseLock 16 = .ok (.isub, 1) := by decide +kernel
theorem dX3_parseLock_17 : decode cX3_parseLock 17 = .ok (.invokevirtual 17, 3) := by decide +kernel
theorem dX3_parseLock_20 : decode cX3_parseLock 20 = .ok (.istore_n 3, 1) := by decide +kernel
theorem dX3_parseLock_21 : decode cX3_parseLock 21 = .ok (.aload_n 1, 1) := by decide +kernel
theorem dX3_parseLock_22 : decode cX3_parseLock 22 = .ok (.iload_n 3, 1) := by decide +kernel
theorem dX3_parseLock_23 : decode cX3_parseLock 23 = .ok (.invokevirtual 66, 3) := by decide +kernel
theorem dX3_parseLock_26 : decode cX3_parseLock 26 = .ok (.ifCond .eq 37, 3) := by decide +kernel
theorem dX3_parseLock_29 : decode cX3_parseLock 29 = .ok (.aload_n 1, 1) := by decide +kernel
theorem dX3_parseLock_30 : decode cX3_parseLock 30 = .ok (.getfield 70, 3) := by decide +kernel
theorem dX3_parseLock_33 : decode cX3_parseLock 33 = .ok (.iload_n 3, 1) := by decide +kernel
theorem dX3_parseLock_34 : decode cX3_parseLock 34 = .ok (.aaload, 1) := by decide +kernel
theorem dX3_parseLock_35 : decode cX3_parseLock 35 = .ok (.getfield 74, 3) := by decide +kernel
theorem dX3_parseLock_38 : decode cX3_parseLock 38 = .ok (.ifCond .le 9, 3) := by decide +kernel
theorem dX3_parseLock_41 : decode cX3_parseLock 41 = .ok (.aload_n 0, 1) := by decide +kernel
theorem dX3_parseLock_42 : decode cX3_parseLock 42 = .ok (.iconst 3, 1) := by decide +kernel
theorem dX3_parseLock_43 : decode cX3_parseLock 43 = .ok (.iload_n 2, 1) := by decide +kernel
theorem dX3_parseLock_44 : decode cX3_parseLock 44 = .ok (.invokevirtual 79, 3) := by decide +kernel
theorem dX3_parseLock_47 : decode cX3_parseLock 47 = .ok (.aload_n 1, 1) := by decide +kernel
theorem dX3_parseLock_48 : decode cX3_parseLock 48 = .ok (.getfield 70, 3) := by decide +kernel
theorem dX3_parseLock_51 : decode cX3_parseLock 51 = .ok (.iload_n 3, 1) := by decide +kernel
theorem dX3_parseLock_52 : decode cX3_parseLock 52 = .ok (.aaload, 1) := by decide +kernel
theorem dX3_parseLock_53 : decode cX3_parseLock 53 = .ok (.aload_n 0, 1) := by decide +kernel
theorem dX3_parseLock_54 : decode cX3_parseLock 54 = .ok (.iconst 1, 1) := by decide +kernel
theorem dX3_parseLock_55 : decode cX3_parseLock 55 = .ok (.bipush 9, 2) := by decide +kernel
theorem dX3_parseLock_57 : decode cX3_parseLock 57 = .ok (.invokevirtual 17, 3) := by decide +kernel
theorem dX3_parseLock_60 : decode cX3_parseLock 60 = .ok (.putfield 74, 3) := by decide +kernel
theorem dX3_parseLock_63 : decode cX3_parseLock 63 = .ok (.aload_n 0, 1) := by decide +kernel
theorem dX3_parseLock_64 : decode cX3_parseLock 64 = .ok (.iconst 5, 1) := by decide +kernel
theorem dX3_parseLock_65 : decode cX3_parseLock 65 = .ok (.invokevirtual 27, 3) := by decide +kernel
theorem dX3_parseLock_68 : decode cX3_parseLock 68 = .ok (.return_, 1) := by decide +kernel
theorem dX3_parseBridge_0 : decode cX3_parseBridge 0 = .ok (.aload_n 0, 1) := by decide +kernel
theorem dX3_parseBridge_1 : decode cX3_parseBridge 1 = .ok (.invokevirtual 56, 3) := by decide +kernel
theorem dX3_parseBridge_4 : decode cX3_parseBridge 4 = .ok (.aload_n 0, 1) := by decide +kernel
theorem dX3_parseBridge_5 : decode cX3_parseBridge 5 = .ok (.getfield 59, 3) := by decide +kernel
theorem dX3_parseBridge_8 : decode cX3_parseBridge 8 = .ok (.istore_n 2, 1) := by decide +kernel
theorem dX3_parseBridge_9 : decode cX3_parseBridge 9 = .ok (.aload_n 0, 1) := by decide +kernel
theorem dX3_parseBridge_10 : decode cX3_parseBridge 10 = .ok (.iconst 0, 1) := by decide +kernel
theorem dX3_parseBridge_11 : decode cX3_parseBridge 11 = .ok (.aload_n 1, 1) := by decide +kernel
theorem dX3_parseBridge_12 : decode cX3_parseBridge 12 = .ok (.getfield 63, 3) := by decide +kernel
theorem dX3_parseBridge_15 : decode cX3_parseBridge 15 = .ok (.iconst 2, 1) := by decide +kernel
theorem dX3_parseBridge_16 : decode cX3_parseBridge 16 = .ok (.isub, 1) := by decide +kernel
theorem dX3_parseBridge_17 : decode cX3_parseBridge 17 = .ok (.invokevirtual 17, 3) := by decide +kernel
theorem dX3_parseBridge_20 : decode cX3_parseBridge 20 = .ok (.istore_n 3, 1) := by decide +kernel
theorem dX3_parseBridge_21 : decode cX3_parseBridge 21 = .ok (.aload_n 1, 1) := by decide +kernel
theorem dX3_parseBridge_22 : decode cX3_parseBridge 22 = .ok (.iload_n 3, 1) := by decide +kernel
theorem dX3_parseBridge_23 : decode cX3_parseBridge 23 = .ok (.invokevirtual 66, 3) := by decide +kernel
theorem dX3_parseBridge_26 : decode cX3_parseBridge 26 = .ok (.ifCond .eq 37, 3) := by decide +kernel
theorem dX3_parseBridge_29 : decode cX3_parseBridge 29 = .ok (.aload_n 1, 1) := by decide +kernel
theorem dX3_parseBridge_30 : decode cX3_parseBridge 30 = .ok (.getfield 70, 3) := by decide +kernel
theorem dX3_parseBridge_33 : decode cX3_parseBridge 33 = .ok (.iload_n 3, 1) := by decide +kernel
theorem dX3_parseBridge_34 : decode cX3_parseBridge 34 = .ok (.aaload, 1) := by decide +kernel
theorem dX3_parseBridge_35 : decode cX3_parseBridge 35 = .ok (.getfield 83, 3) := by decide +kernel
theorem dX3_parseBridge_38 : decode cX3_parseBridge 38 = .ok (.ifCond .le 9, 3) := by decide +kernel
theorem dX3_parseBridge_41 : decode cX3_parseBridge 41 = .ok (.aload_n 0, 1) := by decide +kernel
theorem dX3_parseBridge_42 : decode cX3_parseBridge 42 = .ok (.iconst 3, 1) := by decide +kernel
theorem dX3_parseBridge_43 : decode cX3_parseBridge 43 = .ok (.iload_n 2, 1) := by decide +kernel
theorem dX3_parseBridge_44 : decode cX3_parseBridge 44 = .ok (.invokevirtual 79, 3) := by decide +kernel
theorem dX3_parseBridge_47 : decode cX3_parseBridge 47 = .ok (.aload_n 1, 1) := by decide +kernel
theorem dX3_parseBridge_48 : decode cX3_parseBridge 48 = .ok (.getfield 70, 3) := by decide +kernel
theorem dX3_parseBridge_51 : decode cX3_parseBridge 51 = .ok (.iload_n 3, 1) := by decide +kernel
theorem dX3_parseBridge_52 : decode cX3_parseBridge 52 = .ok (.aaload, 1) := by decide +kernel
theorem dX3_parseBridge_53 : decode cX3_parseBridge 53 = .ok (.aload_n 0, 1) := by decide +kernel
theorem dX3_parseBridge_54 : decode cX3_parseBridge 54 = .ok (.iconst 1, 1) := by decide +kernel
theorem dX3_parseBridge_55 : decode cX3_parseBridge 55 = .ok (.bipush 9, 2) := by decide +kernel
theorem dX3_parseBridge_57 : decode cX3_parseBridge 57 = .ok (.invokevirtual 17, 3) := by decide +kernel
theorem dX3_parseBridge_60 : decode cX3_parseBridge 60 = .ok (.putfield 83, 3) := by decide +kernel
theorem dX3_parseBridge_63 : decode cX3_parseBridge 63 = .ok (.aload_n 0, 1) := by decide +kernel
theorem dX3_parseBridge_64 : decode cX3_parseBridge 64 = .ok (.iconst 5, 1) := by decide +kernel
theorem dX3_parseBridge_65 : decode cX3_parseBridge 65 = .ok (.invokevirtual 27, 3) := by decide +kernel
theorem dX3_parseBridge_68 : decode cX3_parseBridge 68 = .ok (.return_, 1) := by decide +kernel
theorem dX3_parseBarges_0 : decode cX3_parseBarges 0 = .ok (.aload_n 0, 1) := by decide +kernel
theorem dX3_parseBarges_1 : decode cX3_parseBarges 1 = .ok (.ldc 86, 2) := by decide +kernel
theorem dX3_parseBarges_3 : decode cX3_parseBarges 3 = .ok (.invokevirtual 44, 3) := by decide +kernel
theorem dX3_parseBarges_6 : decode cX3_parseBarges 6 = .ok (.ifCond .ne 8, 3) := by decide +kernel
theorem dX3_parseBarges_9 : decode cX3_parseBarges 9 = .ok (.aload_n 0, 1) := by decide +kernel
theorem dX3_parseBarges_10 : decode cX3_parseBarges 10 = .ok (.iconst 1, 1) := by decide +kernel
theorem dX3_parseBarges_11 : decode cX3_parseBarges 11 = .ok (.invokevirtual 88, 3) := by decide +kernel
theorem dX3_parseBarges_14 : decode cX3_parseBarges 14 = .ok (.iconst 0, 1) := by decide +kernel
theorem dX3_parseBarges_15 : decode cX3_parseBarges 15 = .ok (.istore_n 2, 1) := by decide +kernel
theorem dX3_parseBarges_16 : decode cX3_parseBarges 16 = .ok (.iload_n 2, 1) := by decide +kernel
theorem dX3_parseBarges_17 : decode cX3_parseBarges 17 = .ok (.iconst 5, 1) := by decide +kernel
theorem dX3_parseBarges_18 : decode cX3_parseBarges 18 = .ok (.if_icmp .gt 36, 3) := by decide +kernel
theorem dX3_parseBarges_21 : decode cX3_parseBarges 21 = .ok (.aload_n 0, 1) := by decide +kernel
theorem dX3_parseBarges_22 : decode cX3_parseBarges 22 = .ok (.ldc 86, 2) := by decide +kernel
theorem dX3_parseBarges_24 : decode cX3_parseBarges 24 = .ok (.invokevirtual 44, 3) := by decide +kernel
theorem dX3_parseBarges_27 : decode cX3_parseBarges 27 = .ok (.ifCond .eq 27, 3) := by decide +kernel
theorem dX3_parseBarges_30 : decode cX3_parseBarges 30 = .ok (.iload_n 2, 1) := by decide +kernel
theorem dX3_parseBarges_31 : decode cX3_parseBarges 31 = .ok (.iconst 5, 1) := by decide +kernel
theorem dX3_parseBarges_32 : decode cX3_parseBarges 32 = .ok (.if_icmp .ne 11, 3) := by decide +kernel
theorem dX3_parseBarges_35 : decode cX3_parseBarges 35 = .ok (.aload_n 0, 1) := by decide +kernel
theorem dX3_parseBarges_36 : decode cX3_parseBarges 36 = .ok (.iconst 4, 1) := by decide +kernel
theorem dX3_parseBarges_37 : decode cX3_parseBarges 37 = .ok (.invokevirtual 88, 3) := by decide +kernel
theorem dX3_parseBarges_40 : decode cX3_parseBarges 40 = .ok (.goto 8, 3) := by decide +kernel
theorem dX3_parseBarges_43 : decode cX3_parseBarges 43 = .ok (.aload_n 0, 1) := by decide +kernel
theorem dX3_parseBarges_44 : decode cX3_parseBarges 44 = .ok (.aload_n 1, 1) := by decide +kernel
theorem dX3_parseBarges_45 : decode cX3_parseBarges 45 = .ok (.invokestatic 91, 3) := by decide +kernel
theorem dX3_parseBarges_48 : decode cX3_parseBarges 48 = .ok (.iinc 2 1, 3) := by decide +kernel
theorem dX3_parseBarges_51 : decode cX3_parseBarges 51 = .ok (.goto (-35), 3) := by decide +kernel
theorem dX3_parseBarges_54 : decode cX3_parseBarges 54 = .ok (.return_, 1) := by decide +kernel
theorem dX3_parseBarge_0 : decode cX3_parseBarge 0 = .ok (.aload_n 0, 1) := by decide +kernel
theorem dX3_parseBarge_1 : decode cX3_parseBarge 1 = .ok (.invokevirtual 56, 3) := by decide +kernel
theorem dX3_parseBarge_4 : decode cX3_parseBarge 4 = .ok (.aload_n 0, 1) := by decide +kernel
theorem dX3_parseBarge_5 : decode cX3_parseBarge 5 = .ok (.iconst 0, 1) := by decide +kernel
theorem dX3_parseBarge_6 : decode cX3_parseBarge 6 = .ok (.aload_n 1, 1) := by decide +kernel
theorem dX3_parseBarge_7 : decode cX3_parseBarge 7 = .ok (.getfield 63, 3) := by decide +kernel
theorem dX3_parseBarge_10 : decode cX3_parseBarge 10 = .ok (.iconst 1, 1) := by decide +kernel
theorem dX3_parseBarge_11 : decode cX3_parseBarge 11 = .ok (.isub, 1) := by decide +kernel
theorem dX3_parseBarge_12 : decode cX3_parseBarge 12 = .ok (.invokevirtual 17, 3) := by decide +kernel
theorem dX3_parseBarge_15 : decode cX3_parseBarge 15 = .ok (.istore_n 2, 1) := by decide +kernel
theorem dX3_parseBarge_16 : decode cX3_parseBarge 16 = .ok (.aload_n 0, 1) := by decide +kernel
theorem dX3_parseBarge_17 : decode cX3_parseBarge 17 = .ok (.iconst 1, 1) := by decide +kernel
theorem dX3_parseBarge_18 : decode cX3_parseBarge 18 = .ok (.bipush 9, 2) := by decide +kernel
theorem dX3_parseBarge_20 : decode cX3_parseBarge 20 = .ok (.invokevirtual 17, 3) := by decide +kernel
theorem dX3_parseBarge_23 : decode cX3_parseBarge 23 = .ok (.istore_n 3, 1) := by decide +kernel
theorem dX3_parseBarge_24 : decode cX3_parseBarge 24 = .ok (.aload_n 0, 1) := by decide +kernel
theorem dX3_parseBarge_25 : decode cX3_parseBarge 25 = .ok (.iconst 0, 1) := by decide +kernel
theorem dX3_parseBarge_26 : decode cX3_parseBarge 26 = .ok (.bipush 99, 2) := by decide +kernel
theorem dX3_parseBarge_28 : decode cX3_parseBarge 28 = .ok (.invokevirtual 17, 3) := by decide +kernel
theorem dX3_parseBarge_31 : decode cX3_parseBarge 31 = .ok (.istore 4, 2) := by decide +kernel
theorem dX3_parseBarge_33 : decode cX3_parseBarge 33 = .ok (.aload_n 0, 1) := by decide +kernel
theorem dX3_parseBarge_34 : decode cX3_parseBarge 34 = .ok (.iconst 0, 1) := by decide +kernel
theorem dX3_parseBarge_35 : decode cX3_parseBarge 35 = .ok (.bipush 99, 2) := by decide +kernel
theorem dX3_parseBarge_37 : decode cX3_parseBarge 37 = .ok (.invokevirtual 17, 3) := by decide +kernel
theorem dX3_parseBarge_40 : decode cX3_parseBarge 40 = .ok (.istore 5, 2) := by decide +kernel
theorem dX3_parseBarge_42 : decode cX3_parseBarge 42 = .ok (.aload_n 0, 1) := by decide +kernel
theorem dX3_parseBarge_43 : decode cX3_parseBarge 43 = .ok (.iconst 5, 1) := by decide +kernel
theorem dX3_parseBarge_44 : decode cX3_parseBarge 44 = .ok (.invokevirtual 27, 3) := by decide +kernel
theorem dX3_parseBarge_47 : decode cX3_parseBarge 47 = .ok (.aload_n 1, 1) := by decide +kernel
theorem dX3_parseBarge_48 : decode cX3_parseBarge 48 = .ok (.iload_n 2, 1) := by decide +kernel
theorem dX3_parseBarge_49 : decode cX3_parseBarge 49 = .ok (.iload_n 3, 1) := by decide +kernel
theorem dX3_parseBarge_50 : decode cX3_parseBarge 50 = .ok (.iload 4, 2) := by decide +kernel
theorem dX3_parseBarge_52 : decode cX3_parseBarge 52 = .ok (.iload 5, 2) := by decide +kernel
theorem dX3_parseBarge_54 : decode cX3_parseBarge 54 = .ok (.invokevirtual 94, 3) := by decide +kernel
theorem dX3_parseBarge_57 : decode cX3_parseBarge 57 = .ok (.return_, 1) := by decide +kernel
theorem dX3_parseOrders_0 : decode cX3_parseOrders 0 = .ok (.iconst 0, 1) := by decide +kernel
theorem dX3_parseOrders_1 : decode cX3_parseOrders 1 = .ok (.istore_n 2, 1) := by decide +kernel
theorem dX3_parseOrders_2 : decode cX3_parseOrders 2 = .ok (.iload_n 2, 1) := by decide +kernel
theorem dX3_parseOrders_3 : decode cX3_parseOrders 3 = .ok (.bipush 30, 2) := by decide +kernel
theorem dX3_parseOrders_5 : decode cX3_parseOrders 5 = .ok (.if_icmp .gt 37, 3) := by decide +kernel
theorem dX3_parseOrders_8 : decode cX3_parseOrders 8 = .ok (.aload_n 0, 1) := by decide +kernel
theorem dX3_parseOrders_9 : decode cX3_parseOrders 9 = .ok (.ldc 98, 2) := by decide +kernel
theorem dX3_parseOrders_11 : decode cX3_parseOrders 11 = .ok (.invokevirtual 44, 3) := by decide +kernel
theorem dX3_parseOrders_14 : decode cX3_parseOrders 14 = .ok (.ifCond .eq 28, 3) := by decide +kernel
theorem dX3_parseOrders_17 : decode cX3_parseOrders 17 = .ok (.iload_n 2, 1) := by decide +kernel
theorem dX3_parseOrders_18 : decode cX3_parseOrders 18 = .ok (.bipush 30, 2) := by decide +kernel
theorem dX3_parseOrders_20 : decode cX3_parseOrders 20 = .ok (.if_icmp .ne 11, 3) := by decide +kernel
theorem dX3_parseOrders_23 : decode cX3_parseOrders 23 = .ok (.aload_n 0, 1) := by decide +kernel
theorem dX3_parseOrders_24 : decode cX3_parseOrders 24 = .ok (.iconst 4, 1) := by decide +kernel
theorem dX3_parseOrders_25 : decode cX3_parseOrders 25 = .ok (.invokevirtual 88, 3) := by decide +kernel
theorem dX3_parseOrders_28 : decode cX3_parseOrders 28 = .ok (.goto 8, 3) := by decide +kernel
theorem dX3_parseOrders_31 : decode cX3_parseOrders 31 = .ok (.aload_n 0, 1) := by decide +kernel
theorem dX3_parseOrders_32 : decode cX3_parseOrders 32 = .ok (.aload_n 1, 1) := by decide +kernel
theorem dX3_parseOrders_33 : decode cX3_parseOrders 33 = .ok (.invokestatic 100, 3) := by decide +kernel
theorem dX3_parseOrders_36 : decode cX3_parseOrders 36 = .ok (.iinc 2 1, 3) := by decide +kernel
theorem dX3_parseOrders_39 : decode cX3_parseOrders 39 = .ok (.goto (-37), 3) := by decide +kernel
theorem dX3_parseOrders_42 : decode cX3_parseOrders 42 = .ok (.return_, 1) := by decide +kernel
theorem dX3_parseOrder_0 : decode cX3_parseOrder 0 = .ok (.aload_n 0, 1) := by decide +kernel
theorem dX3_parseOrder_1 : decode cX3_parseOrder 1 = .ok (.invokevirtual 56, 3) := by decide +kernel
theorem dX3_parseOrder_4 : decode cX3_parseOrder 4 = .ok (.aload_n 0, 1) := by decide +kernel
theorem dX3_parseOrder_5 : decode cX3_parseOrder 5 = .ok (.iconst 0, 1) := by decide +kernel
theorem dX3_parseOrder_6 : decode cX3_parseOrder 6 = .ok (.aload_n 1, 1) := by decide +kernel
theorem dX3_parseOrder_7 : decode cX3_parseOrder 7 = .ok (.getfield 63, 3) := by decide +kernel
theorem dX3_parseOrder_10 : decode cX3_parseOrder 10 = .ok (.iconst 1, 1) := by decide +kernel
theorem dX3_parseOrder_11 : decode cX3_parseOrder 11 = .ok (.isub, 1) := by decide +kernel
theorem dX3_parseOrder_12 : decode cX3_parseOrder 12 = .ok (.invokevirtual 17, 3) := by decide +kernel
theorem dX3_parseOrder_15 : decode cX3_parseOrder 15 = .ok (.istore_n 2, 1) := by decide +kernel
theorem dX3_parseOrder_16 : decode cX3_parseOrder 16 = .ok (.aload_n 0, 1) := by decide +kernel
theorem dX3_parseOrder_17 : decode cX3_parseOrder 17 = .ok (.iconst 1, 1) := by decide +kernel
theorem dX3_parseOrder_18 : decode cX3_parseOrder 18 = .ok (.iconst 4, 1) := by decide +kernel
theorem dX3_parseOrder_19 : decode cX3_parseOrder 19 = .ok (.invokevirtual 17, 3) := by decide +kernel
theorem dX3_parseOrder_22 : decode cX3_parseOrder 22 = .ok (.istore_n 3, 1) := by decide +kernel
theorem dX3_parseOrder_23 : decode cX3_parseOrder 23 = .ok (.aload_n 0, 1) := by decide +kernel
theorem dX3_parseOrder_24 : decode cX3_parseOrder 24 = .ok (.iconst 1, 1) := by decide +kernel
theorem dX3_parseOrder_25 : decode cX3_parseOrder 25 = .ok (.bipush 6, 2) := by decide +kernel
theorem dX3_parseOrder_27 : decode cX3_parseOrder 27 = .ok (.invokevirtual 17, 3) := by decide +kernel
theorem dX3_parseOrder_30 : decode cX3_parseOrder 30 = .ok (.istore 4, 2) := by decide +kernel
theorem dX3_parseOrder_32 : decode cX3_parseOrder 32 = .ok (.aload_n 0, 1) := by decide +kernel
theorem dX3_parseOrder_33 : decode cX3_parseOrder 33 = .ok (.iconst 1, 1) := by decide +kernel
theorem dX3_parseOrder_34 : decode cX3_parseOrder 34 = .ok (.sipush 500, 3) := by decide +kernel
theorem dX3_parseOrder_37 : decode cX3_parseOrder 37 = .ok (.invokevirtual 17, 3) := by decide +kernel
theorem dX3_parseOrder_40 : decode cX3_parseOrder 40 = .ok (.istore 5, 2) := by decide +kernel
theorem dX3_parseOrder_42 : decode cX3_parseOrder 42 = .ok (.aload_n 0, 1) := by decide +kernel
theorem dX3_parseOrder_43 : decode cX3_parseOrder 43 = .ok (.iconst 5, 1) := by decide +kernel
theorem dX3_parseOrder_44 : decode cX3_parseOrder 44 = .ok (.invokevirtual 27, 3) := by decide +kernel
theorem dX3_parseOrder_47 : decode cX3_parseOrder 47 = .ok (.aload_n 1, 1) := by decide +kernel
theorem dX3_parseOrder_48 : decode cX3_parseOrder 48 = .ok (.iload_n 2, 1) := by decide +kernel
theorem dX3_parseOrder_49 : decode cX3_parseOrder 49 = .ok (.iload_n 3, 1) := by decide +kernel
theorem dX3_parseOrder_50 : decode cX3_parseOrder 50 = .ok (.iload 4, 2) := by decide +kernel
theorem dX3_parseOrder_52 : decode cX3_parseOrder 52 = .ok (.iload 5, 2) := by decide +kernel
theorem dX3_parseOrder_54 : decode cX3_parseOrder 54 = .ok (.invokevirtual 103, 3) := by decide +kernel
theorem dX3_parseOrder_57 : decode cX3_parseOrder 57 = .ok (.return_, 1) := by decide +kernel
theorem dX4_init_0 : decode cX4_init 0 = .ok (.aload_n 0, 1) := by decide +kernel
theorem dX4_init_1 : decode cX4_init 1 = .ok (.invokespecial 1, 3) := by decide +kernel
theorem dX4_init_4 : decode cX4_init 4 = .ok (.aload_n 0, 1) := by decide +kernel
theorem dX4_init_5 : decode cX4_init 5 = .ok (.getstatic 7, 3) := by decide +kernel
theorem dX4_init_8 : decode cX4_init 8 = .ok (.putfield 13, 3) := by decide +kernel
theorem dX4_init_11 : decode cX4_init 11 = .ok (.aload_n 0, 1) := by decide +kernel
theorem dX4_init_12 : decode cX4_init 12 = .ok (.iconst 0, 1) := by decide +kernel
theorem dX4_init_13 : decode cX4_init 13 = .ok (.putfield 18, 3) := by decide +kernel
theorem dX4_init_16 : decode cX4_init 16 = .ok (.aload_n 0, 1) := by decide +kernel
theorem dX4_init_17 : decode cX4_init 17 = .ok (.iconst 0, 1) := by decide +kernel
theorem dX4_init_18 : decode cX4_init 18 = .ok (.putfield 22, 3) := by decide +kernel
theorem dX4_init_21 : decode cX4_init 21 = .ok (.aload_n 0, 1) := by decide +kernel
theorem dX4_init_22 : decode cX4_init 22 = .ok (.iconst 0, 1) := by decide +kernel
theorem dX4_init_23 : decode cX4_init 23 = .ok (.putfield 25, 3) := by decide +kernel
theorem dX4_init_26 : decode cX4_init 26 = .ok (.aload_n 0, 1) := by decide +kernel
theorem dX4_init_27 : decode cX4_init 27 = .ok (.iconst 0, 1) := by decide +kernel
theorem dX4_init_28 : decode cX4_init 28 = .ok (.putfield 28, 3) := by decide +kernel
theorem dX4_init_31 : decode cX4_init 31 = .ok (.aload_n 0, 1) := by decide +kernel
theorem dX4_init_32 : decode cX4_init 32 = .ok (.iconst 0, 1) := by decide +kernel
theorem dX4_init_33 : decode cX4_init 33 = .ok (.putfield 31, 3) := by decide +kernel
theorem dX4_init_36 : decode cX4_init 36 = .ok (.return_, 1) := by decide +kernel
theorem dX5_init_0 : decode cX5_init 0 = .ok (.aload_n 0, 1) := by decide +kernel
theorem dX5_init_1 : decode cX5_init 1 = .ok (.invokespecial 3, 3) := by decide +kernel
theorem dX5_init_4 : decode cX5_init 4 = .ok (.aload_n 0, 1) := by decide +kernel
theorem dX5_init_5 : decode cX5_init 5 = .ok (.bipush 8, 2) := by decide +kernel
theorem dX5_init_7 : decode cX5_init 7 = .ok (.anewarray 9, 3) := by decide +kernel
theorem dX5_init_10 : decode cX5_init 10 = .ok (.putfield 11, 3) := by decide +kernel
theorem dX5_init_13 : decode cX5_init 13 = .ok (.aload_n 0, 1) := by decide +kernel
theorem dX5_init_14 : decode cX5_init 14 = .ok (.iconst 0, 1) := by decide +kernel
theorem dX5_init_15 : decode cX5_init 15 = .ok (.putfield 17, 3) := by decide +kernel
theorem dX5_init_18 : decode cX5_init 18 = .ok (.aload_n 0, 1) := by decide +kernel
theorem dX5_init_19 : decode cX5_init 19 = .ok (.iconst 0, 1) := by decide +kernel
theorem dX5_init_20 : decode cX5_init 20 = .ok (.putfield 21, 3) := by decide +kernel
theorem dX5_init_23 : decode cX5_init 23 = .ok (.iconst 0, 1) := by decide +kernel
theorem dX5_init_24 : decode cX5_init 24 = .ok (.istore_n 1, 1) := by decide +kernel
theorem dX5_init_25 : decode cX5_init 25 = .ok (.iload_n 1, 1) := by decide +kernel
theorem dX5_init_26 : decode cX5_init 26 = .ok (.aload_n 0, 1) := by decide +kernel
theorem dX5_init_27 : decode cX5_init 27 = .ok (.getfield 11, 3) := by decide +kernel
theorem dX5_init_30 : decode cX5_init 30 = .ok (.arraylength, 1) := by decide +kernel
theorem dX5_init_31 : decode cX5_init 31 = .ok (.if_icmp .ge 22, 3) := by decide +kernel
theorem dX5_init_34 : decode cX5_init 34 = .ok (.aload_n 0, 1) := by decide +kernel
theorem dX5_init_35 : decode cX5_init 35 = .ok (.getfield 11, 3) := by decide +kernel
theorem dX5_init_38 : decode cX5_init 38 = .ok (.iload_n 1, 1) := by decide +kernel
theorem dX5_init_39 : decode cX5_init 39 = .ok (.new 9, 3) := by decide +kernel
theorem dX5_init_42 : decode cX5_init 42 = .ok (.dup, 1) := by decide +kernel
theorem dX5_init_43 : decode cX5_init 43 = .ok (.invokespecial 24, 3) := by decide +kernel
theorem dX5_init_46 : decode cX5_init 46 = .ok (.aastore, 1) := by decide +kernel
theorem dX5_init_47 : decode cX5_init 47 = .ok (.iinc 1 1, 3) := by decide +kernel
theorem dX5_init_50 : decode cX5_init 50 = .ok (.goto (-25), 3) := by decide +kernel
theorem dX5_init_53 : decode cX5_init 53 = .ok (.return_, 1) := by decide +kernel
theorem dX5_remember_0 : decode cX5_remember 0 = .ok (.aload_n 0, 1) := by decide +kernel
theorem dX5_remember_1 : decode cX5_remember 1 = .ok (.getfield 17, 3) := by decide +kernel
theorem dX5_remember_4 : decode cX5_remember 4 = .ok (.ifCond .lt 15, 3) := by decide +kernel
theorem dX5_remember_7 : decode cX5_remember 7 = .ok (.aload_n 0, 1) := by decide +kernel
theorem dX5_remember_8 : decode cX5_remember 8 = .ok (.getfield 17, 3) := by decide +kernel
theorem dX5_remember_11 : decode cX5_remember 11 = .ok (.aload_n 0, 1) := by decide +kernel
theorem dX5_remember_12 : decode cX5_remember 12 = .ok (.getfield 11, 3) := by decide +kernel
theorem dX5_remember_15 : decode cX5_remember 15 = .ok (.arraylength, 1) := by decide +kernel
theorem dX5_remember_16 : decode cX5_remember 16 = .ok (.if_icmp .lt 8, 3) := by decide +kernel
theorem dX5_remember_19 : decode cX5_remember 19 = .ok (.aload_n 0, 1) := by decide +kernel
theorem dX5_remember_20 : decode cX5_remember 20 = .ok (.iconst 0, 1) := by decide +kernel
theorem dX5_remember_21 : decode cX5_remember 21 = .ok (.putfield 17, 3) := by decide +kernel
theorem dX5_remember_24 : decode cX5_remember 24 = .ok (.aload_n 0, 1) := by decide +kernel
theorem dX5_remember_25 : decode cX5_remember 25 = .ok (.getfield 11, 3) := by decide +kernel
theorem dX5_remember_28 : decode cX5_remember 28 = .ok (.aload_n 0, 1) := by decide +kernel
theorem dX5_remember_29 : decode cX5_remember 29 = .ok (.getfield 17, 3) := by decide +kernel
theorem dX5_remember_32 : decode cX5_remember 32 = .ok (.aaload, 1) := by decide +kernel
theorem dX5_remember_33 : decode cX5_remember 33 = .ok (.aload_n 1, 1) := by decide +kernel
theorem dX5_remember_34 : decode cX5_remember 34 = .ok (.invokevirtual 25, 3) := by decide +kernel
theorem dX5_remember_37 : decode cX5_remember 37 = .ok (.aload_n 0, 1) := by decide +kernel
theorem dX5_remember_38 : decode cX5_remember 38 = .ok (.dup, 1) := by decide +kernel
theorem dX5_remember_39 : decode cX5_remember 39 = .ok (.getfield 17, 3) := by decide +kernel
theorem dX5_remember_42 : decode cX5_remember 42 = .ok (.iconst 1, 1) := by decide +kernel
theorem dX5_remember_43 : decode cX5_remember 43 = .ok (.iadd, 1) := by decide +kernel
theorem dX5_remember_44 : decode cX5_remember 44 = .ok (.putfield 17, 3) := by decide +kernel
theorem dX5_remember_47 : decode cX5_remember 47 = .ok (.aload_n 0, 1) := by decide +kernel
theorem dX5_remember_48 : decode cX5_remember 48 = .ok (.aload_n 0, 1) := by decide +kernel
theorem dX5_remember_49 : decode cX5_remember 49 = .ok (.getfield 21, 3) := by decide +kernel
theorem dX5_remember_52 : decode cX5_remember 52 = .ok (.iconst 1, 1) := by decide +kernel
theorem dX5_remember_53 : decode cX5_remember 53 = .ok (.iadd, 1) := by decide +kernel
theorem dX5_remember_54 : decode cX5_remember 54 = .ok (.aload_n 0, 1) := by decide +kernel
theorem dX5_remember_55 : decode cX5_remember 55 = .ok (.getfield 11, 3) := by decide +kernel
theorem dX5_remember_58 : decode cX5_remember 58 = .ok (.arraylength, 1) := by decide +kernel
theorem dX5_remember_59 : decode cX5_remember 59 = .ok (.invokestatic 29, 3) := by decide +kernel
theorem dX5_remember_62 : decode cX5_remember 62 = .ok (.putfield 21, 3) := by decide +kernel
theorem dX5_remember_65 : decode cX5_remember 65 = .ok (.return_, 1) := by decide +kernel
theorem dX5_takeBack_0 : decode cX5_takeBack 0 = .ok (.aload_n 0, 1) := by decide +kernel
theorem dX5_takeBack_1 : decode cX5_takeBack 1 = .ok (.getfield 21, 3) := by decide +kernel
theorem dX5_takeBack_4 : decode cX5_takeBack 4 = .ok (.iconst 1, 1) := by decide +kernel
theorem dX5_takeBack_5 : decode cX5_takeBack 5 = .ok (.if_icmp .ge 4, 3) := by decide +kernel
theorem dX5_takeBack_8 : decode cX5_takeBack 8 = .ok (.return_, 1) := by decide +kernel
theorem dX5_takeBack_9 : decode cX5_takeBack 9 = .ok (.aload_n 0, 1) := by decide +kernel
theorem dX5_takeBack_10 : decode cX5_takeBack 10 = .ok (.aload_n 0, 1) := by decide +kernel
theorem dX5_takeBack_11 : decode cX5_takeBack 11 = .ok (.getfield 17, 3) := by decide +kernel
theorem dX5_takeBack_14 : decode cX5_takeBack 14 = .ok (.iconst 1, 1) := by decide +kernel
theorem dX5_takeBack_15 : decode cX5_takeBack 15 = .ok (.if_icmp .lt 15, 3) := by decide +kernel
theorem dX5_takeBack_18 : decode cX5_takeBack 18 = .ok (.aload_n 0, 1) := by decide +kernel
theorem dX5_takeBack_19 : decode cX5_takeBack 19 = .ok (.getfield 17, 3) := by decide +kernel
theorem dX5_takeBack_22 : decode cX5_takeBack 22 = .ok (.aload_n 0, 1) := by decide +kernel
theorem dX5_takeBack_23 : decode cX5_takeBack 23 = .ok (.getfield 11, 3) := by decide +kernel
theorem dX5_takeBack_26 : decode cX5_takeBack 26 = .ok (.arraylength, 1) := by decide +kernel
theorem dX5_takeBack_27 : decode cX5_takeBack 27 = .ok (.if_icmp .le 13, 3) := by decide +kernel
theorem dX5_takeBack_30 : decode cX5_takeBack 30 = .ok (.aload_n 0, 1) := by decide +kernel
theorem dX5_takeBack_31 : decode cX5_takeBack 31 = .ok (.getfield 11, 3) := by decide +kernel
theorem dX5_takeBack_34 : decode cX5_takeBack 34 = .ok (.arraylength, 1) := by decide +kernel
theorem dX5_takeBack_35 : decode cX5_takeBack 35 = .ok (.iconst 1, 1) := by decide +kernel
theorem dX5_takeBack_36 : decode cX5_takeBack 36 = .ok (.isub, 1) := by decide +kernel
theorem dX5_takeBack_37 : decode cX5_takeBack 37 = .ok (.goto 9, 3) := by decide +kernel
theorem dX5_takeBack_40 : decode cX5_takeBack 40 = .ok (.aload_n 0, 1) := by decide +kernel
theorem dX5_takeBack_41 : decode cX5_takeBack 41 = .ok (.getfield 17, 3) := by decide +kernel
theorem dX5_takeBack_44 : decode cX5_takeBack 44 = .ok (.iconst 1, 1) := by decide +kernel
theorem dX5_takeBack_45 : decode cX5_takeBack 45 = .ok (.isub, 1) := by decide +kernel
theorem dX5_takeBack_46 : decode cX5_takeBack 46 = .ok (.putfield 17, 3) := by decide +kernel
theorem dX5_takeBack_49 : decode cX5_takeBack 49 = .ok (.aload_n 1, 1) := by decide +kernel
theorem dX5_takeBack_50 : decode cX5_takeBack 50 = .ok (.aload_n 0, 1) := by decide +kernel
theorem dX5_takeBack_51 : decode cX5_takeBack 51 = .ok (.getfield 11, 3) := by decide +kernel
theorem dX5_takeBack_54 : decode cX5_takeBack 54 = .ok (.aload_n 0, 1) := by decide +kernel
theorem dX5_takeBack_55 : decode cX5_takeBack 55 = .ok (.getfield 17, 3) := by decide +kernel
theorem dX5_takeBack_58 : decode cX5_takeBack 58 = .ok (.aaload, 1) := by decide +kernel
theorem dX5_takeBack_59 : decode cX5_takeBack 59 = .ok (.invokevirtual 25, 3) := by decide +kernel
theorem dX5_takeBack_62 : decode cX5_takeBack 62 = .ok (.aload_n 0, 1) := by decide +kernel
theorem dX5_takeBack_63 : decode cX5_takeBack 63 = .ok (.dup, 1) := by decide +kernel
theorem dX5_takeBack_64 : decode cX5_takeBack 64 = .ok (.getfield 21, 3) := by decide +kernel
theorem dX5_takeBack_67 : decode cX5_takeBack 67 = .ok (.iconst 1, 1) := by decide +kernel
theorem dX5_takeBack_68 : decode cX5_takeBack 68 = .ok (.isub, 1) := by decide +kernel
theorem dX5_takeBack_69 : decode cX5_takeBack 69 = .ok (.putfield 21, 3) := by decide +kernel
theorem dX5_takeBack_72 : decode cX5_takeBack 72 = .ok (.return_, 1) := by decide +kernel
theorem dX5_clear_0 : decode cX5_clear 0 = .ok (.aload_n 0, 1) := by decide +kernel
theorem dX5_clear_1 : decode cX5_clear 1 = .ok (.iconst 0, 1) := by decide +kernel
theorem dX5_clear_2 : decode cX5_clear 2 = .ok (.putfield 21, 3) := by decide +kernel
theorem dX5_clear_5 : decode cX5_clear 5 = .ok (.return_, 1) := by decide +kernel
theorem dX6_init_0 : decode cX6_init 0 = .ok (.aload_n 0, 1) := by decide +kernel
theorem dX6_init_1 : decode cX6_init 1 = .ok (.invokespecial 3, 3) := by decide +kernel
theorem dX6_init_4 : decode cX6_init 4 = .ok (.aload_n 0, 1) := by decide +kernel
theorem dX6_init_5 : decode cX6_init 5 = .ok (.iconst 0, 1) := by decide +kernel
theorem dX6_init_6 : decode cX6_init 6 = .ok (.putfield 9, 3) := by decide +kernel
theorem dX6_init_9 : decode cX6_init 9 = .ok (.aload_n 0, 1) := by decide +kernel
theorem dX6_init_10 : decode cX6_init 10 = .ok (.iconst 0, 1) := by decide +kernel
theorem dX6_init_11 : decode cX6_init 11 = .ok (.putfield 15, 3) := by decide +kernel
theorem dX6_init_14 : decode cX6_init 14 = .ok (.aload_n 0, 1) := by decide +kernel
theorem dX6_init_15 : decode cX6_init 15 = .ok (.iconst 0, 1) := by decide +kernel
theorem dX6_init_16 : decode cX6_init 16 = .ok (.putfield 18, 3) := by decide +kernel
theorem dX6_init_19 : decode cX6_init 19 = .ok (.aload_n 0, 1) := by decide +kernel
theorem dX6_init_20 : decode cX6_init 20 = .ok (.iconst 0, 1) := by decide +kernel
theorem dX6_init_21 : decode cX6_init 21 = .ok (.putfield 21, 3) := by decide +kernel
theorem dX6_init_24 : decode cX6_init 24 = .ok (.aload_n 0, 1) := by decide +kernel
theorem dX6_init_25 : decode cX6_init 25 = .ok (.iconst 0, 1) := by decide +kernel
theorem dX6_init_26 : decode cX6_init 26 = .ok (.putfield 24, 3) := by decide +kernel
theorem dX6_init_29 : decode cX6_init 29 = .ok (.aload_n 0, 1) := by decide +kernel
theorem dX6_init_30 : decode cX6_init 30 = .ok (.iconst 0, 1) := by decide +kernel
theorem dX6_init_31 : decode cX6_init 31 = .ok (.putfield 27, 3) := by decide +kernel
theorem dX6_init_34 : decode cX6_init 34 = .ok (.aload_n 0, 1) := by decide +kernel
theorem dX6_init_35 : decode cX6_init 35 = .ok (.getstatic 31, 3) := by decide +kernel
theorem dX6_init_38 : decode cX6_init 38 = .ok (.putfield 37, 3) := by decide +kernel
theorem dX6_init_41 : decode cX6_init 41 = .ok (.aload_n 0, 1) := by decide +kernel
theorem dX6_init_42 : decode cX6_init 42 = .ok (.iconst (-1), 1) := by decide +kernel
theorem dX6_init_43 : decode cX6_init 43 = .ok (.putfield 40, 3) := by decide +kernel
theorem dX6_init_46 : decode cX6_init 46 = .ok (.return_, 1) := by decide +kernel
theorem dX6_reset_0 : decode cX6_reset 0 = .ok (.aload_n 0, 1) := by decide +kernel
theorem dX6_reset_1 : decode cX6_reset 1 = .ok (.iload_n 1, 1) := by decide +kernel
theorem dX6_reset_2 : decode cX6_reset 2 = .ok (.putfield 9, 3) := by decide +kernel
theorem dX6_reset_5 : decode cX6_reset 5 = .ok (.aload_n 0, 1) := by decide +kernel
theorem dX6_reset_6 : decode cX6_reset 6 = .ok (.iload_n 2, 1) := by decide +kernel
theorem dX6_reset_7 : decode cX6_reset 7 = .ok (.putfield 15, 3) := by decide +kernel
theorem dX6_reset_10 : decode cX6_reset 10 = .ok (.aload_n 0, 1) := by decide +kernel
theorem dX6_reset_11 : decode cX6_reset 11 = .ok (.iload_n 3, 1) := by decide +kernel
theorem dX6_reset_12 : decode cX6_reset 12 = .ok (.putfield 18, 3) := by decide +kernel
theorem dX6_reset_15 : decode cX6_reset 15 = .ok (.aload_n 0, 1) := by decide +kernel
theorem dX6_reset_16 : decode cX6_reset 16 = .ok (.iload 4, 2) := by decide +kernel
theorem dX6_reset_18 : decode cX6_reset 18 = .ok (.putfield 24, 3) := by decide +kernel
theorem dX6_reset_21 : decode cX6_reset 21 = .ok (.aload_n 0, 1) := by decide +kernel
theorem dX6_reset_22 : decode cX6_reset 22 = .ok (.invokevirtual 43, 3) := by decide +kernel
theorem dX6_reset_25 : decode cX6_reset 25 = .ok (.return_, 1) := by decide +kernel
theorem dX6_copyFrom_0 : decode cX6_copyFrom 0 = .ok (.aload_n 0, 1) := by decide +kernel
theorem dX6_copyFrom_1 : decode cX6_copyFrom 1 = .ok (.aload_n 1, 1) := by decide +kernel
theorem dX6_copyFrom_2 : decode cX6_copyFrom 2 = .ok (.getfield 9, 3) := by decide +kernel
theorem dX6_copyFrom_5 : decode cX6_copyFrom 5 = .ok (.putfield 9, 3) := by decide +kernel
theorem dX6_copyFrom_8 : decode cX6_copyFrom 8 = .ok (.aload_n 0, 1) := by decide +kernel
theorem dX6_copyFrom_9 : decode cX6_copyFrom 9 = .ok (.aload_n 1, 1) := by decide +kernel
theorem dX6_copyFrom_10 : decode cX6_copyFrom 10 = .ok (.getfield 15, 3) := by decide +kernel
theorem dX6_copyFrom_13 : decode cX6_copyFrom 13 = .ok (.putfield 15, 3) := by decide +kernel
theorem dX6_copyFrom_16 : decode cX6_copyFrom 16 = .ok (.aload_n 0, 1) := by decide +kernel
theorem dX6_copyFrom_17 : decode cX6_copyFrom 17 = .ok (.aload_n 1, 1) := by decide +kernel
theorem dX6_copyFrom_18 : decode cX6_copyFrom 18 = .ok (.getfield 18, 3) := by decide +kernel
theorem dX6_copyFrom_21 : decode cX6_copyFrom 21 = .ok (.putfield 18, 3) := by decide +kernel
theorem dX6_copyFrom_24 : decode cX6_copyFrom 24 = .ok (.aload_n 0, 1) := by decide +kernel
theorem dX6_copyFrom_25 : decode cX6_copyFrom 25 = .ok (.aload_n 1, 1) := by decide +kernel
theorem dX6_copyFrom_26 : decode cX6_copyFrom 26 = .ok (.getfield 21, 3) := by decide +kernel
theorem dX6_copyFrom_29 : decode cX6_copyFrom 29 = .ok (.putfield 21, 3) := by decide +kernel
theorem dX6_copyFrom_32 : decode cX6_copyFrom 32 = .ok (.aload_n 0, 1) := by decide +kernel
theorem dX6_copyFrom_33 : decode cX6_copyFrom 33 = .ok (.aload_n 1, 1) := by decide +kernel
theorem dX6_copyFrom_34 : decode cX6_copyFrom 34 = .ok (.getfield 24, 3) := by decide +kernel
theorem dX6_copyFrom_37 : decode cX6_copyFrom 37 = .ok (.putfield 24, 3) := by decide +kernel
theorem dX6_copyFrom_40 : decode cX6_copyFrom 40 = .ok (.aload_n 0, 1) := by decide +kernel
theorem dX6_copyFrom_41 : decode cX6_copyFrom 41 = .ok (.aload_n 1, 1) := by decide +kernel
theorem dX6_copyFrom_42 : decode cX6_copyFrom 42 = .ok (.getfield 27, 3) := by decide +kernel
theorem dX6_copyFrom_45 : decode cX6_copyFrom 45 = .ok (.putfield 27, 3) := by decide +kernel
theorem dX6_copyFrom_48 : decode cX6_copyFrom 48 = .ok (.aload_n 0, 1) := by decide +kernel
theorem dX6_copyFrom_49 : decode cX6_copyFrom 49 = .ok (.aload_n 1, 1) := by decide +kernel
theorem dX6_copyFrom_50 : decode cX6_copyFrom 50 = .ok (.getfield 37, 3) := by decide +kernel
theorem dX6_copyFrom_53 : decode cX6_copyFrom 53 = .ok (.putfield 37, 3) := by decide +kernel
theorem dX6_copyFrom_56 : decode cX6_copyFrom 56 = .ok (.aload_n 0, 1) := by decide +kernel
theorem dX6_copyFrom_57 : decode cX6_copyFrom 57 = .ok (.aload_n 1, 1) := by decide +kernel
theorem dX6_copyFrom_58 : decode cX6_copyFrom 58 = .ok (.getfield 40, 3) := by decide +kernel
theorem dX6_copyFrom_61 : decode cX6_copyFrom 61 = .ok (.putfield 40, 3) := by decide +kernel
theorem dX6_copyFrom_64 : decode cX6_copyFrom 64 = .ok (.return_, 1) := by decide +kernel
theorem dX6_open_0 : decode cX6_open 0 = .ok (.aload_n 0, 1) := by decide +kernel
theorem dX6_open_1 : decode cX6_open 1 = .ok (.getstatic 31, 3) := by decide +kernel
theorem dX6_open_4 : decode cX6_open 4 = .ok (.putfield 37, 3) := by decide +kernel
theorem dX6_open_7 : decode cX6_open 7 = .ok (.aload_n 0, 1) := by decide +kernel
theorem dX6_open_8 : decode cX6_open 8 = .ok (.iconst (-1), 1) := by decide +kernel
theorem dX6_open_9 : decode cX6_open 9 = .ok (.putfield 40, 3) := by decide +kernel
theorem dX6_open_12 : decode cX6_open 12 = .ok (.aload_n 0, 1) := by decide +kernel
theorem dX6_open_13 : decode cX6_open 13 = .ok (.iconst 0, 1) := by decide +kernel
theorem dX6_open_14 : decode cX6_open 14 = .ok (.putfield 27, 3) := by decide +kernel
theorem dX6_open_17 : decode cX6_open 17 = .ok (.aload_n 0, 1) := by decide +kernel
theorem dX6_open_18 : decode cX6_open 18 = .ok (.aload_n 0, 1) := by decide +kernel
theorem dX6_open_19 : decode cX6_open 19 = .ok (.getfield 18, 3) := by decide +kernel
theorem dX6_open_22 : decode cX6_open 22 = .ok (.putfield 21, 3) := by decide +kernel
theorem dX6_open_25 : decode cX6_open 25 = .ok (.return_, 1) := by decide +kernel
theorem dX6_finish_0 : decode cX6_finish 0 = .ok (.aload_n 0, 1) := by decide +kernel
theorem dX6_finish_1 : decode cX6_finish 1 = .ok (.aload_n 1, 1) := by decide +kernel
theorem dX6_finish_2 : decode cX6_finish 2 = .ok (.putfield 37, 3) := by decide +kernel
theorem dX6_finish_5 : decode cX6_finish 5 = .ok (.aload_n 0, 1) := by decide +kernel
theorem dX6_finish_6 : decode cX6_finish 6 = .ok (.iconst (-1), 1) := by decide +kernel
theorem dX6_finish_7 : decode cX6_finish 7 = .ok (.putfield 40, 3) := by decide +kernel
theorem dX6_finish_10 : decode cX6_finish 10 = .ok (.return_, 1) := by decide +kernel
theorem dX6_isHeld_0 : decode cX6_isHeld 0 = .ok (.aload_n 0, 1) := by decide +kernel
theorem dX6_isHeld_1 : decode cX6_isHeld 1 = .ok (.getfield 37, 3) := by decide +kernel
theorem dX6_isHeld_4 : decode cX6_isHeld 4 = .ok (.getstatic 46, 3) := by decide +kernel
theorem dX6_isHeld_7 : decode cX6_isHeld 7 = .ok (.if_acmp .eq 13, 3) := by decide +kernel
theorem dX6_isHeld_10 : decode cX6_isHeld 10 = .ok (.aload_n 0, 1) := by decide +kernel
theorem dX6_isHeld_11 : decode cX6_isHeld 11 = .ok (.getfield 37, 3) := by decide +kernel
theorem dX6_isHeld_14 : decode cX6_isHeld 14 = .ok (.getstatic 49, 3) := by decide +kernel
theorem dX6_isHeld_17 : decode cX6_isHeld 17 = .ok (.if_acmp .ne 7, 3) := by decide +kernel
theorem dX6_isHeld_20 : decode cX6_isHeld 20 = .ok (.iconst 1, 1) := by decide +kernel
theorem dX6_isHeld_21 : decode cX6_isHeld 21 = .ok (.goto 4, 3) := by decide +kernel
theorem dX6_isHeld_24 : decode cX6_isHeld 24 = .ok (.iconst 0, 1) := by decide +kernel
theorem dX6_isHeld_25 : decode cX6_isHeld 25 = .ok (.ireturn, 1) := by decide +kernel
theorem dX6_canStillBeEaten_0 : decode cX6_canStillBeEaten 0 = .ok (.aload_n 0, 1) := by decide +kernel
theorem dX6_canStillBeEaten_1 : decode cX6_canStillBeEaten 1 = .ok (.getfield 37, 3) := by decide +kernel
theorem dX6_canStillBeEaten_4 : decode cX6_canStillBeEaten 4 = .ok (.getstatic 31, 3) := by decide +kernel
theorem dX6_canStillBeEaten_7 : decode cX6_canStillBeEaten 7 = .ok (.if_acmp .eq 10, 3) := by decide +kernel
theorem dX6_canStillBeEaten_10 : decode cX6_canStillBeEaten 10 = .ok (.aload_n 0, 1) := by decide +kernel
theorem dX6_canStillBeEaten_11 : decode cX6_canStillBeEaten 11 = .ok (.invokevirtual 52, 3) := by decide +kernel
theorem dX6_canStillBeEaten_14 : decode cX6_canStillBeEaten 14 = .ok (.ifCond .eq 7, 3) := by decide +kernel
theorem dX6_canStillBeEaten_17 : decode cX6_canStillBeEaten 17 = .ok (.iconst 1, 1) := by decide +kernel
theorem dX6_canStillBeEaten_18 : decode cX6_canStillBeEaten 18 = .ok (.goto 4, 3) := by decide +kernel
theorem dX6_canStillBeEaten_21 : decode cX6_canStillBeEaten 21 = .ok (.iconst 0, 1) := by decide +kernel
theorem dX6_canStillBeEaten_22 : decode cX6_canStillBeEaten 22 = .ok (.ireturn, 1) := by decide +kernel
theorem dX6_worth_0 : decode cX6_worth 0 = .ok (.aload_n 0, 1) := by decide +kernel
theorem dX6_worth_1 : decode cX6_worth 1 = .ok (.getfield 15, 3) := by decide +kernel
theorem dX6_worth_4 : decode cX6_worth 4 = .ok (.iconst 3, 1) := by decide +kernel
theorem dX6_worth_5 : decode cX6_worth 5 = .ok (.aload_n 0, 1) := by decide +kernel
theorem dX6_worth_6 : decode cX6_worth 6 = .ok (.getfield 18, 3) := by decide +kernel
theorem dX6_worth_9 : decode cX6_worth 9 = .ok (.iadd, 1) := by decide +kernel
theorem dX6_worth_10 : decode cX6_worth 10 = .ok (.imul, 1) := by decide +kernel
theorem dX6_worth_11 : decode cX6_worth 11 = .ok (.ireturn, 1) := by decide +kernel
theorem dX8_init_0 : decode cX8_init 0 = .ok (.aload_n 0, 1) := by decide +kernel
theorem dX8_init_1 : decode cX8_init 1 = .ok (.invokespecial 3, 3) := by decide +kernel
theorem dX8_init_4 : decode cX8_init 4 = .ok (.aload_n 0, 1) := by decide +kernel
theorem dX8_init_5 : decode cX8_init 5 = .ok (.bipush 20, 2) := by decide +kernel
theorem dX8_init_7 : decode cX8_init 7 = .ok (.anewarray 9, 3) := by decide +kernel
theorem dX8_init_10 : decode cX8_init 10 = .ok (.putfield 11, 3) := by decide +kernel
theorem dX8_init_13 : decode cX8_init 13 = .ok (.aload_n 0, 1) := by decide +kernel
theorem dX8_init_14 : decode cX8_init 14 = .ok (.iconst 0, 1) := by decide +kernel
theorem dX8_init_15 : decode cX8_init 15 = .ok (.putfield 17, 3) := by decide +kernel
theorem dX8_init_18 : decode cX8_init 18 = .ok (.aload_n 0, 1) := by decide +kernel
theorem dX8_init_19 : decode cX8_init 19 = .ok (.iconst 0, 1) := by decide +kernel
theorem dX8_init_20 : decode cX8_init 20 = .ok (.putfield 21, 3) := by decide +kernel
theorem dX8_init_23 : decode cX8_init 23 = .ok (.iconst 0, 1) := by decide +kernel
theorem dX8_init_24 : decode cX8_init 24 = .ok (.istore_n 1, 1) := by decide +kernel
theorem dX8_init_25 : decode cX8_init 25 = .ok (.iload_n 1, 1) := by decide +kernel
theorem dX8_init_26 : decode cX8_init 26 = .ok (.aload_n 0, 1) := by decide +kernel
theorem dX8_init_27 : decode cX8_init 27 = .ok (.getfield 11, 3) := by decide +kernel
theorem dX8_init_30 : decode cX8_init 30 = .ok (.arraylength, 1) := by decide +kernel
theorem dX8_init_31 : decode cX8_init 31 = .ok (.if_icmp .ge 22, 3) := by decide +kernel
theorem dX8_init_34 : decode cX8_init 34 = .ok (.aload_n 0, 1) := by decide +kernel
theorem dX8_init_35 : decode cX8_init 35 = .ok (.getfield 11, 3) := by decide +kernel
theorem dX8_init_38 : decode cX8_init 38 = .ok (.iload_n 1, 1) := by decide +kernel
theorem dX8_init_39 : decode cX8_init 39 = .ok (.new 9, 3) := by decide +kernel
theorem dX8_init_42 : decode cX8_init 42 = .ok (.dup, 1) := by decide +kernel
theorem dX8_init_43 : decode cX8_init 43 = .ok (.invokespecial 24, 3) := by decide +kernel
theorem dX8_init_46 : decode cX8_init 46 = .ok (.aastore, 1) := by decide +kernel
theorem dX8_init_47 : decode cX8_init 47 = .ok (.iinc 1 1, 3) := by decide +kernel
theorem dX8_init_50 : decode cX8_init 50 = .ok (.goto (-25), 3) := by decide +kernel
theorem dX8_init_53 : decode cX8_init 53 = .ok (.return_, 1) := by decide +kernel
theorem dX9_init_0 : decode cX9_init 0 = .ok (.aload_n 0, 1) := by decide +kernel
theorem dX9_init_1 : decode cX9_init 1 = .ok (.invokespecial 3, 3) := by decide +kernel
theorem dX9_init_4 : decode cX9_init 4 = .ok (.aload_n 0, 1) := by decide +kernel
theorem dX9_init_5 : decode cX9_init 5 = .ok (.iconst 0, 1) := by decide +kernel
theorem dX9_init_6 : decode cX9_init 6 = .ok (.putfield 9, 3) := by decide +kernel
theorem dX9_init_9 : decode cX9_init 9 = .ok (.aload_n 0, 1) := by decide +kernel
theorem dX9_init_10 : decode cX9_init 10 = .ok (.iconst 0, 1) := by decide +kernel
theorem dX9_init_11 : decode cX9_init 11 = .ok (.putfield 15, 3) := by decide +kernel
theorem dX9_init_14 : decode cX9_init 14 = .ok (.aload_n 0, 1) := by decide +kernel
theorem dX9_init_15 : decode cX9_init 15 = .ok (.iconst (-1), 1) := by decide +kernel
theorem dX9_init_16 : decode cX9_init 16 = .ok (.putfield 18, 3) := by decide +kernel
theorem dX9_init_19 : decode cX9_init 19 = .ok (.return_, 1) := by decide +kernel
theorem dX9_clear_0 : decode cX9_clear 0 = .ok (.aload_n 0, 1) := by decide +kernel
theorem dX9_clear_1 : decode cX9_clear 1 = .ok (.iconst 0, 1) := by decide +kernel
theorem dX9_clear_2 : decode cX9_clear 2 = .ok (.putfield 9, 3) := by decide +kernel
theorem dX9_clear_5 : decode cX9_clear 5 = .ok (.aload_n 0, 1) := by decide +kernel
theorem dX9_clear_6 : decode cX9_clear 6 = .ok (.iconst 0, 1) := by decide +kernel
theorem dX9_clear_7 : decode cX9_clear 7 = .ok (.putfield 15, 3) := by decide +kernel
theorem dX9_clear_10 : decode cX9_clear 10 = .ok (.aload_n 0, 1) := by decide +kernel
theorem dX9_clear_11 : decode cX9_clear 11 = .ok (.iconst (-1), 1) := by decide +kernel
theorem dX9_clear_12 : decode cX9_clear 12 = .ok (.putfield 18, 3) := by decide +kernel
theorem dX9_clear_15 : decode cX9_clear 15 = .ok (.return_, 1) := by decide +kernel
theorem dX9_copyFrom_0 : decode cX9_copyFrom 0 = .ok (.aload_n 0, 1) := by decide +kernel
theorem dX9_copyFrom_1 : decode cX9_copyFrom 1 = .ok (.aload_n 1, 1) := by decide +kernel
theorem dX9_copyFrom_2 : decode cX9_copyFrom 2 = .ok (.getfield 9, 3) := by decide +kernel
theorem dX9_copyFrom_5 : decode cX9_copyFrom 5 = .ok (.putfield 9, 3) := by decide +kernel
theorem dX9_copyFrom_8 : decode cX9_copyFrom 8 = .ok (.aload_n 0, 1) := by decide +kernel
theorem dX9_copyFrom_9 : decode cX9_copyFrom 9 = .ok (.aload_n 1, 1) := by decide +kernel
theorem dX9_copyFrom_10 : decode cX9_copyFrom 10 = .ok (.getfield 15, 3) := by decide +kernel
theorem dX9_copyFrom_13 : decode cX9_copyFrom 13 = .ok (.putfield 15, 3) := by decide +kernel
theorem dX9_copyFrom_16 : decode cX9_copyFrom 16 = .ok (.aload_n 0, 1) := by decide +kernel
theorem dX9_copyFrom_17 : decode cX9_copyFrom 17 = .ok (.aload_n 1, 1) := by decide +kernel
theorem dX9_copyFrom_18 : decode cX9_copyFrom 18 = .ok (.getfield 18, 3) := by decide +kernel
theorem dX9_copyFrom_21 : decode cX9_copyFrom 21 = .ok (.putfield 18, 3) := by decide +kernel
theorem dX9_copyFrom_24 : decode cX9_copyFrom 24 = .ok (.return_, 1) := by decide +kernel
theorem dX10_init_0 : decode cX10_init 0 = .ok (.aload_n 0, 1) := by decide +kernel
theorem dX10_init_1 : decode cX10_init 1 = .ok (.invokespecial 3, 3) := by decide +kernel
theorem dX10_init_4 : decode cX10_init 4 = .ok (.aload_n 0, 1) := by decide +kernel
theorem dX10_init_5 : decode cX10_init 5 = .ok (.sipush 500, 3) := by decide +kernel
theorem dX10_init_8 : decode cX10_init 8 = .ok (.newarray .byte, 2) := by decide +kernel
theorem dX10_init_10 : decode cX10_init 10 = .ok (.putfield 9, 3) := by decide +kernel
theorem dX10_init_13 : decode cX10_init 13 = .ok (.aload_n 0, 1) := by decide +kernel
theorem dX10_init_14 : decode cX10_init 14 = .ok (.iconst 0, 1) := by decide +kernel
theorem dX10_init_15 : decode cX10_init 15 = .ok (.putfield 15, 3) := by decide +kernel
theorem dX10_init_18 : decode cX10_init 18 = .ok (.aload_n 0, 1) := by decide +kernel
theorem dX10_init_19 : decode cX10_init 19 = .ok (.iconst 0, 1) := by decide +kernel
theorem dX10_init_20 : decode cX10_init 20 = .ok (.putfield 19, 3) := by decide +kernel
theorem dX10_init_23 : decode cX10_init 23 = .ok (.aload_n 0, 1) := by decide +kernel
theorem dX10_init_24 : decode cX10_init 24 = .ok (.iconst 0, 1) := by decide +kernel
theorem dX10_init_25 : decode cX10_init 25 = .ok (.putfield 22, 3) := by decide +kernel
theorem dX10_init_28 : decode cX10_init 28 = .ok (.aload_n 0, 1) := by decide +kernel
theorem dX10_init_29 : decode cX10_init 29 = .ok (.iconst 0, 1) := by decide +kernel
theorem dX10_init_30 : decode cX10_init 30 = .ok (.putfield 25, 3) := by decide +kernel
theorem dX10_init_33 : decode cX10_init 33 = .ok (.aload_n 0, 1) := by decide +kernel
theorem dX10_init_34 : decode cX10_init 34 = .ok (.iconst 0, 1) := by decide +kernel
theorem dX10_init_35 : decode cX10_init 35 = .ok (.putfield 28, 3) := by decide +kernel
theorem dX10_init_38 : decode cX10_init 38 = .ok (.aload_n 0, 1) := by decide +kernel
theorem dX10_init_39 : decode cX10_init 39 = .ok (.iconst 0, 1) := by decide +kernel
theorem dX10_init_40 : decode cX10_init 40 = .ok (.putfield 31, 3) := by decide +kernel
theorem dX10_init_43 : decode cX10_init 43 = .ok (.aload_n 0, 1) := by decide +kernel
theorem dX10_init_44 : decode cX10_init 44 = .ok (.iconst (-1), 1) := by decide +kernel
theorem dX10_init_45 : decode cX10_init 45 = .ok (.putfield 34, 3) := by decide +kernel
theorem dX10_init_48 : decode cX10_init 48 = .ok (.return_, 1) := by decide +kernel
theorem dX10_hasRoomFor_0 : decode cX10_hasRoomFor 0 = .ok (.aload_n 0, 1) := by decide +kernel
theorem dX10_hasRoomFor_1 : decode cX10_hasRoomFor 1 = .ok (.getfield 15, 3) := by decide +kernel
theorem dX10_hasRoomFor_4 : decode cX10_hasRoomFor 4 = .ok (.iload_n 1, 1) := by decide +kernel
theorem dX10_hasRoomFor_5 : decode cX10_hasRoomFor 5 = .ok (.iadd, 1) := by decide +kernel
theorem dX10_hasRoomFor_6 : decode cX10_hasRoomFor 6 = .ok (.aload_n 0, 1) := by decide +kernel
theorem dX10_hasRoomFor_7 : decode cX10_hasRoomFor 7 = .ok (.getfield 9, 3) := by decide +kernel
theorem dX10_hasRoomFor_10 : decode cX10_hasRoomFor 10 = .ok (.arraylength, 1) := by decide +kernel
theorem dX10_hasRoomFor_11 : decode cX10_hasRoomFor 11 = .ok (.if_icmp .gt 7, 3) := by decide +kernel
theorem dX10_hasRoomFor_14 : decode cX10_hasRoomFor 14 = .ok (.iconst 1, 1) := by decide +kernel
theorem dX10_hasRoomFor_15 : decode cX10_hasRoomFor 15 = .ok (.goto 4, 3) := by decide +kernel
theorem dX10_hasRoomFor_18 : decode cX10_hasRoomFor 18 = .ok (.iconst 0, 1) := by decide +kernel
theorem dX10_hasRoomFor_19 : decode cX10_hasRoomFor 19 = .ok (.ireturn, 1) := by decide +kernel
theorem dX10_appendInt_0 : decode cX10_appendInt 0 = .ok (.aload_n 0, 1) := by decide +kernel
theorem dX10_appendInt_1 : decode cX10_appendInt 1 = .ok (.iload_n 1, 1) := by decide +kernel
theorem dX10_appendInt_2 : decode cX10_appendInt 2 = .ok (.bipush 24, 2) := by decide +kernel
theorem dX10_appendInt_4 : decode cX10_appendInt 4 = .ok (.iushr, 1) := by decide +kernel
theorem dX10_appendInt_5 : decode cX10_appendInt 5 = .ok (.invokevirtual 37, 3) := by decide +kernel
theorem dX10_appendInt_8 : decode cX10_appendInt 8 = .ok (.aload_n 0, 1) := by decide +kernel
theorem dX10_appendInt_9 : decode cX10_appendInt 9 = .ok (.iload_n 1, 1) := by decide +kernel
theorem dX10_appendInt_10 : decode cX10_appendInt 10 = .ok (.bipush 16, 2) := by decide +kernel
theorem dX10_appendInt_12 : decode cX10_appendInt 12 = .ok (.iushr, 1) := by decide +kernel
theorem dX10_appendInt_13 : decode cX10_appendInt 13 = .ok (.invokevirtual 37, 3) := by decide +kernel
theorem dX10_appendInt_16 : decode cX10_appendInt 16 = .ok (.aload_n 0, 1) := by decide +kernel
theorem dX10_appendInt_17 : decode cX10_appendInt 17 = .ok (.iload_n 1, 1) := by decide +kernel
theorem dX10_appendInt_18 : decode cX10_appendInt 18 = .ok (.bipush 8, 2) := by decide +kernel
theorem dX10_appendInt_20 : decode cX10_appendInt 20 = .ok (.iushr, 1) := by decide +kernel
theorem dX10_appendInt_21 : decode cX10_appendInt 21 = .ok (.invokevirtual 37, 3) := by decide +kernel
theorem dX10_appendInt_24 : decode cX10_appendInt 24 = .ok (.aload_n 0, 1) := by decide +kernel
theorem dX10_appendInt_25 : decode cX10_appendInt 25 = .ok (.iload_n 1, 1) := by decide +kernel
theorem dX10_appendInt_26 : decode cX10_appendInt 26 = .ok (.invokevirtual 37, 3) := by decide +kernel
theorem dX10_appendInt_29 : decode cX10_appendInt 29 = .ok (.return_, 1) := by decide +kernel
theorem dX10_appendSigns_0 : decode cX10_appendSigns 0 = .ok (.iconst 0, 1) := by decide +kernel
theorem dX10_appendSigns_1 : decode cX10_appendSigns 1 = .ok (.istore_n 2, 1) := by decide +kernel
theorem dX10_appendSigns_2 : decode cX10_appendSigns 2 = .ok (.iload_n 2, 1) := by decide +kernel
theorem dX10_appendSigns_3 : decode cX10_appendSigns 3 = .ok (.aload_n 1, 1) := by decide +kernel
theorem dX10_appendSigns_4 : decode cX10_appendSigns 4 = .ok (.invokevirtual 41, 3) := by decide +kernel
theorem dX10_appendSigns_7 : decode cX10_appendSigns 7 = .ok (.if_icmp .ge 18, 3) := by decide +kernel
theorem dX10_appendSigns_10 : decode cX10_appendSigns 10 = .ok (.aload_n 0, 1) := by decide +kernel
theorem dX10_appendSigns_11 : decode cX10_appendSigns 11 = .ok (.aload_n 1, 1) := by decide +kernel
theorem dX10_appendSigns_12 : decode cX10_appendSigns 12 = .ok (.iload_n 2, 1) := by decide +kernel
theorem dX10_appendSigns_13 : decode cX10_appendSigns 13 = .ok (.invokevirtual 46, 3) := by decide +kernel
theorem dX10_appendSigns_16 : decode cX10_appendSigns 16 = .ok (.invokevirtual 37, 3) := by decide +kernel
theorem dX10_appendSigns_19 : decode cX10_appendSigns 19 = .ok (.iinc 2 1, 3) := by decide +kernel
theorem dX10_appendSigns_22 : decode cX10_appendSigns 22 = .ok (.goto (-20), 3) := by decide +kernel
theorem dX10_appendSigns_25 : decode cX10_appendSigns 25 = .ok (.return_, 1) := by decide +kernel
theorem dX10_appendByte_0 : decode cX10_appendByte 0 = .ok (.aload_n 0, 1) := by decide +kernel
theorem dX10_appendByte_1 : decode cX10_appendByte 1 = .ok (.getfield 15, 3) := by decide +kernel
theorem dX10_appendByte_4 : decode cX10_appendByte 4 = .ok (.aload_n 0, 1) := by decide +kernel
theorem dX10_appendByte_5 : decode cX10_appendByte 5 = .ok (.getfield 9, 3) := by decide +kernel
theorem dX10_appendByte_8 : decode cX10_appendByte 8 = .ok (.arraylength, 1) := by decide +kernel
theorem dX10_appendByte_9 : decode cX10_appendByte 9 = .ok (.if_icmp .ge 24, 3) := by decide +kernel
theorem dX10_appendByte_12 : decode cX10_appendByte 12 = .ok (.aload_n 0, 1) := by decide +kernel
theorem dX10_appendByte_13 : decode cX10_appendByte 13 = .ok (.getfield 9, 3) := by decide +kernel
theorem dX10_appendByte_16 : decode cX10_appendByte 16 = .ok (.aload_n 0, 1) := by decide +kernel
theorem dX10_appendByte_17 : decode cX10_appendByte 17 = .ok (.getfield 15, 3) := by decide +kernel
theorem dX10_appendByte_20 : decode cX10_appendByte 20 = .ok (.iload_n 1, 1) := by decide +kernel
theorem dX10_appendByte_21 : decode cX10_appendByte 21 = .ok (.i2b, 1) := by decide +kernel
theorem dX10_appendByte_22 : decode cX10_appendByte 22 = .ok (.bastore, 1) := by decide +kernel
theorem dX10_appendByte_23 : decode cX10_appendByte 23 = .ok (.aload_n 0, 1) := by decide +kernel
theorem dX10_appendByte_24 : decode cX10_appendByte 24 = .ok (.dup, 1) := by decide +kernel
theorem dX10_appendByte_25 : decode cX10_appendByte 25 = .ok (.getfield 15, 3) := by decide +kernel
theorem dX10_appendByte_28 : decode cX10_appendByte 28 = .ok (.iconst 1, 1) := by decide +kernel
theorem dX10_appendByte_29 : decode cX10_appendByte 29 = .ok (.iadd, 1) := by decide +kernel
theorem dX10_appendByte_30 : decode cX10_appendByte 30 = .ok (.putfield 15, 3) := by decide +kernel
theorem dX10_appendByte_33 : decode cX10_appendByte 33 = .ok (.return_, 1) := by decide +kernel
theorem dX10_empty_0 : decode cX10_empty 0 = .ok (.aload_n 0, 1) := by decide +kernel
theorem dX10_empty_1 : decode cX10_empty 1 = .ok (.iconst 0, 1) := by decide +kernel
theorem dX10_empty_2 : decode cX10_empty 2 = .ok (.putfield 15, 3) := by decide +kernel
theorem dX10_empty_5 : decode cX10_empty 5 = .ok (.return_, 1) := by decide +kernel
theorem dX10_begin_0 : decode cX10_begin 0 = .ok (.aload_n 0, 1) := by decide +kernel
theorem dX10_begin_1 : decode cX10_begin 1 = .ok (.iload_n 1, 1) := by decide +kernel
theorem dX10_begin_2 : decode cX10_begin 2 = .ok (.aload_n 0, 1) := by decide +kernel
theorem dX10_begin_3 : decode cX10_begin 3 = .ok (.getfield 9, 3) := by decide +kernel
theorem dX10_begin_6 : decode cX10_begin 6 = .ok (.arraylength, 1) := by decide +kernel
theorem dX10_begin_7 : decode cX10_begin 7 = .ok (.invokestatic 50, 3) := by decide +kernel
theorem dX10_begin_10 : decode cX10_begin 10 = .ok (.putfield 19, 3) := by decide +kernel
theorem dX10_begin_13 : decode cX10_begin 13 = .ok (.aload_n 0, 1) := by decide +kernel
theorem dX10_begin_14 : decode cX10_begin 14 = .ok (.iconst 0, 1) := by decide +kernel
theorem dX10_begin_15 : decode cX10_begin 15 = .ok (.putfield 28, 3) := by decide +kernel
theorem dX10_begin_18 : decode cX10_begin 18 = .ok (.aload_n 0, 1) := by decide +kernel
theorem dX10_begin_19 : decode cX10_begin 19 = .ok (.iconst 0, 1) := by decide +kernel
theorem dX10_begin_20 : decode cX10_begin 20 = .ok (.putfield 31, 3) := by decide +kernel
theorem dX10_begin_23 : decode cX10_begin 23 = .ok (.aload_n 0, 1) := by decide +kernel
theorem dX10_begin_24 : decode cX10_begin 24 = .ok (.iconst (-1), 1) := by decide +kernel
theorem dX10_begin_25 : decode cX10_begin 25 = .ok (.putfield 34, 3) := by decide +kernel
theorem dX10_begin_28 : decode cX10_begin 28 = .ok (.aload_n 0, 1) := by decide +kernel
theorem dX10_begin_29 : decode cX10_begin 29 = .ok (.invokevirtual 56, 3) := by decide +kernel
theorem dX10_begin_32 : decode cX10_begin 32 = .ok (.return_, 1) := by decide +kernel
theorem dX10_failed_0 : decode cX10_failed 0 = .ok (.aload_n 0, 1) := by decide +kernel
theorem dX10_failed_1 : decode cX10_failed 1 = .ok (.getfield 31, 3) := by decide +kernel
theorem dX10_failed_4 : decode cX10_failed 4 = .ok (.ifCond .eq 7, 3) := by decide +kernel
theorem dX10_failed_7 : decode cX10_failed 7 = .ok (.iconst 1, 1) := by decide +kernel
theorem dX10_failed_8 : decode cX10_failed 8 = .ok (.goto 4, 3) := by decide +kernel
theorem dX10_failed_11 : decode cX10_failed 11 = .ok (.iconst 0, 1) := by decide +kernel
theorem dX10_failed_12 : decode cX10_failed 12 = .ok (.ireturn, 1) := by decide +kernel
theorem dX10_fail_0 : decode cX10_fail 0 = .ok (.aload_n 0, 1) := by decide +kernel
theorem dX10_fail_1 : decode cX10_fail 1 = .ok (.iload_n 1, 1) := by decide +kernel
theorem dX10_fail_2 : decode cX10_fail 2 = .ok (.aload_n 0, 1) := by decide +kernel
theorem dX10_fail_3 : decode cX10_fail 3 = .ok (.getfield 25, 3) := by decide +kernel
theorem dX10_fail_6 : decode cX10_fail 6 = .ok (.invokevirtual 59, 3) := by decide +kernel
theorem dX10_fail_9 : decode cX10_fail 9 = .ok (.return_, 1) := by decide +kernel
theorem dX10_failAt_0 : decode cX10_failAt 0 = .ok (.aload_n 0, 1) := by decide +kernel
theorem dX10_failAt_1 : decode cX10_failAt 1 = .ok (.getfield 31, 3) := by decide +kernel
theorem dX10_failAt_4 : decode cX10_failAt 4 = .ok (.ifCond .ne 13, 3) := by decide +kernel
theorem dX10_failAt_7 : decode cX10_failAt 7 = .ok (.aload_n 0, 1) := by decide +kernel
theorem dX10_failAt_8 : decode cX10_failAt 8 = .ok (.iload_n 1, 1) := by decide +kernel
theorem dX10_failAt_9 : decode cX10_failAt 9 = .ok (.putfield 31, 3) := by decide +kernel
theorem dX10_failAt_12 : decode cX10_failAt 12 = .ok (.aload_n 0, 1) := by decide +kernel
theorem dX10_failAt_13 : decode cX10_failAt 13 = .ok (.iload_n 2, 1) := by decide +kernel
theorem dX10_failAt_14 : decode cX10_failAt 14 = .ok (.putfield 34, 3) := by decide +kernel
theorem dX10_failAt_17 : decode cX10_failAt 17 = .ok (.return_, 1) := by decide +kernel
theorem dX10_advance_0 : decode cX10_advance 0 = .ok (.aload_n 0, 1) := by decide +kernel
theorem dX10_advance_1 : decode cX10_advance 1 = .ok (.aload_n 0, 1) := by decide +kernel
theorem dX10_advance_2 : decode cX10_advance 2 = .ok (.getfield 28, 3) := by decide +kernel
theorem dX10_advance_5 : decode cX10_advance 5 = .ok (.putfield 25, 3) := by decide +kernel
theorem dX10_advance_8 : decode cX10_advance 8 = .ok (.aload_n 0, 1) := by decide +kernel
theorem dX10_advance_9 : decode cX10_advance 9 = .ok (.getfield 25, 3) := by decide +kernel
theorem dX10_advance_12 : decode cX10_advance 12 = .ok (.aload_n 0, 1) := by decide +kernel
theorem dX10_advance_13 : decode cX10_advance 13 = .ok (.getfield 19, 3) := by decide +kernel
theorem dX10_advance_16 : decode cX10_advance 16 = .ok (.if_icmp .ge 32, 3) := by decide +kernel
theorem dX10_advance_19 : decode cX10_advance 19 = .ok (.aload_n 0, 1) := by decide +kernel
theorem dX10_advance_20 : decode cX10_advance 20 = .ok (.getfield 9, 3) := by decide +kernel
theorem dX10_advance_23 : decode cX10_advance 23 = .ok (.aload_n 0, 1) := by decide +kernel
theorem dX10_advance_24 : decode cX10_advance 24 = .ok (.getfield 25, 3) := by decide +kernel
theorem dX10_advance_27 : decode cX10_advance 27 = .ok (.baload, 1) := by decide +kernel
theorem dX10_advance_28 : decode cX10_advance 28 = .ok (.invokestatic 63, 3) := by decide +kernel
theorem dX10_advance_31 : decode cX10_advance 31 = .ok (.iconst 2, 1) := by decide +kernel
theorem dX10_advance_32 : decode cX10_advance 32 = .ok (.if_icmp .ne 16, 3) := by decide +kernel
theorem dX10_advance_35 : decode cX10_advance 35 = .ok (.aload_n 0, 1) := by decide +kernel
theorem dX10_advance_36 : decode cX10_advance 36 = .ok (.dup, 1) := by decide +kernel
theorem dX10_advance_37 : decode cX10_advance 37 = .ok (.getfield 25, 3) := by decide +kernel
theorem dX10_advance_40 : decode cX10_advance 40 = .ok (.iconst 1, 1) := by decide +kernel
theorem dX10_advance_41 : decode cX10_advance 41 = .ok (.iadd, 1) := by decide +kernel
theorem dX10_advance_42 : decode cX10_advance 42 = .ok (.putfield 25, 3) := by decide +kernel
theorem dX10_advance_45 : decode cX10_advance 45 = .ok (.goto (-37), 3) := by decide +kernel
theorem dX10_advance_48 : decode cX10_advance 48 = .ok (.aload_n 0, 1) := by decide +kernel
theorem dX10_advance_49 : decode cX10_advance 49 = .ok (.aload_n 0, 1) := by decide +kernel
theorem dX10_advance_50 : decode cX10_advance 50 = .ok (.getfield 25, 3) := by decide +kernel
theorem dX10_advance_53 : decode cX10_advance 53 = .ok (.putfield 28, 3) := by decide +kernel
theorem dX10_advance_56 : decode cX10_advance 56 = .ok (.aload_n 0, 1) := by decide +kernel
theorem dX10_advance_57 : decode cX10_advance 57 = .ok (.iconst 0, 1) := by decide +kernel
theorem dX10_advance_58 : decode cX10_advance 58 = .ok (.putfield 22, 3) := by decide +kernel
theorem dX10_advance_61 : decode cX10_advance 61 = .ok (.aload_n 0, 1) := by decide +kernel
theorem dX10_advance_62 : decode cX10_advance 62 = .ok (.getfield 25, 3) := by decide +kernel
theorem dX10_advance_65 : decode cX10_advance 65 = .ok (.aload_n 0, 1) := by decide +kernel
theorem dX10_advance_66 : decode cX10_advance 66 = .ok (.getfield 19, 3) := by decide +kernel
theorem dX10_advance_69 : decode cX10_advance 69 = .ok (.if_icmp .lt 4, 3) := by decide +kernel
theorem dX10_advance_72 : decode cX10_advance 72 = .ok (.return_, 1) := by decide +kernel
theorem dX10_advance_73 : decode cX10_advance 73 = .ok (.aload_n 0, 1) := by decide +kernel
theorem dX10_advance_74 : decode cX10_advance 74 = .ok (.aload_n 0, 1) := by decide +kernel
theorem dX10_advance_75 : decode cX10_advance 75 = .ok (.getfield 9, 3) := by decide +kernel
theorem dX10_advance_78 : decode cX10_advance 78 = .ok (.aload_n 0, 1) := by decide +kernel
theorem dX10_advance_79 : decode cX10_advance 79 = .ok (.getfield 25, 3) := by decide +kernel
theorem dX10_advance_82 : decode cX10_advance 82 = .ok (.baload, 1) := by decide +kernel
theorem dX10_advance_83 : decode cX10_advance 83 = .ok (.invokestatic 63, 3) := by decide +kernel
theorem dX10_advance_86 : decode cX10_advance 86 = .ok (.putfield 22, 3) := by decide +kernel
theorem dX10_advance_89 : decode cX10_advance 89 = .ok (.aload_n 0, 1) := by decide +kernel
theorem dX10_advance_90 : decode cX10_advance 90 = .ok (.dup, 1) := by decide +kernel
theorem dX10_advance_91 : decode cX10_advance 91 = .ok (.getfield 28, 3) := by decide +kernel
theorem dX10_advance_94 : decode cX10_advance 94 = .ok (.iconst 1, 1) := by decide +kernel
theorem dX10_advance_95 : decode cX10_advance 95 = .ok (.iadd, 1) := by decide +kernel
theorem dX10_advance_96 : decode cX10_advance 96 = .ok (.putfield 28, 3) := by decide +kernel
theorem dX10_advance_99 : decode cX10_advance 99 = .ok (.aload_n 0, 1) := by decide +kernel
theorem dX10_advance_100 : decode cX10_advance 100 = .ok (.getfield 22, 3) := by decide +kernel
theorem dX10_advance_103 : decode cX10_advance 103 = .ok (.iconst 3, 1) := by decide +kernel
theorem dX10_advance_104 : decode cX10_advance 104 = .ok (.if_icmp .eq 11, 3) := by decide +kernel
theorem dX10_advance_107 : decode cX10_advance 107 = .ok (.aload_n 0, 1) := by decide +kernel
theorem dX10_advance_108 : decode cX10_advance 108 = .ok (.getfield 22, 3) := by decide +kernel
theorem dX10_advance_111 : decode cX10_advance 111 = .ok (.iconst 4, 1) := by decide +kernel
theorem dX10_advance_112 : decode cX10_advance 112 = .ok (.if_icmp .ne 46, 3) := by decide +kernel
theorem dX10_advance_115 : decode cX10_advance 115 = .ok (.aload_n 0, 1) := by decide +kernel
theorem dX10_advance_116 : decode cX10_advance 116 = .ok (.getfield 28, 3) := by decide +kernel
theorem dX10_advance_119 : decode cX10_advance 119 = .ok (.aload_n 0, 1) := by decide +kernel
theorem dX10_advance_120 : decode cX10_advance 120 = .ok (.getfield 19, 3) := by decide +kernel
theorem dX10_advance_123 : decode cX10_advance 123 = .ok (.if_icmp .ge 35, 3) := by decide +kernel
theorem dX10_advance_126 : decode cX10_advance 126 = .ok (.aload_n 0, 1) := by decide +kernel
theorem dX10_advance_127 : decode cX10_advance 127 = .ok (.getfield 9, 3) := by decide +kernel
theorem dX10_advance_130 : decode cX10_advance 130 = .ok (.aload_n 0, 1) := by decide +kernel
theorem dX10_advance_131 : decode cX10_advance 131 = .ok (.getfield 28, 3) := by decide +kernel
theorem dX10_advance_134 : decode cX10_advance 134 = .ok (.baload, 1) := by decide +kernel
theorem dX10_advance_135 : decode cX10_advance 135 = .ok (.invokestatic 63, 3) := by decide +kernel
theorem dX10_advance_138 : decode cX10_advance 138 = .ok (.aload_n 0, 1) := by decide +kernel
theorem dX10_advance_139 : decode cX10_advance 139 = .ok (.getfield 22, 3) := by decide +kernel
theorem dX10_advance_142 : decode cX10_advance 142 = .ok (.if_icmp .ne 16, 3) := by decide +kernel
theorem dX10_advance_145 : decode cX10_advance 145 = .ok (.aload_n 0, 1) := by decide +kernel
theorem dX10_advance_146 : decode cX10_advance 146 = .ok (.dup, 1) := by decide +kernel
theorem dX10_advance_147 : decode cX10_advance 147 = .ok (.getfield 28, 3) := by decide +kernel
theorem dX10_advance_150 : decode cX10_advance 150 = .ok (.iconst 1, 1) := by decide +kernel
theorem dX10_advance_151 : decode cX10_advance 151 = .ok (.iadd, 1) := by decide +kernel
theorem dX10_advance_152 : decode cX10_advance 152 = .ok (.putfield 28, 3) := by decide +kernel
theorem dX10_advance_155 : decode cX10_advance 155 = .ok (.goto (-40), 3) := by decide +kernel
theorem dX10_advance_158 : decode cX10_advance 158 = .ok (.return_, 1) := by decide +kernel
theorem dX10_kindOf_0 : decode cX10_kindOf 0 = .ok (.iload_n 0, 1) := by decide +kernel
theorem dX10_kindOf_1 : decode cX10_kindOf 1 = .ok (.bipush 97, 2) := by decide +kernel
theorem dX10_kindOf_3 : decode cX10_kindOf 3 = .ok (.if_icmp .lt 11, 3) := by decide +kernel
theorem dX10_kindOf_6 : decode cX10_kindOf 6 = .ok (.iload_n 0, 1) := by decide +kernel
theorem dX10_kindOf_7 : decode cX10_kindOf 7 = .ok (.bipush 122, 2) := by decide +kernel
theorem dX10_kindOf_9 : decode cX10_kindOf 9 = .ok (.if_icmp .gt 5, 3) := by decide +kernel
theorem dX10_kindOf_12 : decode cX10_kindOf 12 = .ok (.iconst 3, 1) := by decide +kernel
theorem dX10_kindOf_13 : decode cX10_kindOf 13 = .ok (.ireturn, 1) := by decide +kernel
theorem dX10_kindOf_14 : decode cX10_kindOf 14 = .ok (.iload_n 0, 1) := by decide +kernel
theorem dX10_kindOf_15 : decode cX10_kindOf 15 = .ok (.bipush 48, 2) := by decide +kernel
theorem dX10_kindOf_17 : decode cX10_kindOf 17 = .ok (.if_icmp .lt 11, 3) := by decide +kernel
theorem dX10_kindOf_20 : decode cX10_kindOf 20 = .ok (.iload_n 0, 1) := by decide +kernel
theorem dX10_kindOf_21 : decode cX10_kindOf 21 = .ok (.bipush 57, 2) := by decide +kernel
theorem dX10_kindOf_23 : decode cX10_kindOf 23 = .ok (.if_icmp .gt 5, 3) := by decide +kernel
theorem dX10_kindOf_26 : decode cX10_kindOf 26 = .ok (.iconst 4, 1) := by decide +kernel
theorem dX10_kindOf_27 : decode cX10_kindOf 27 = .ok (.ireturn, 1) := by decide +kernel
theorem dX10_kindOf_28 : decode cX10_kindOf 28 = .ok (.iload_n 0, 1) := by decide +kernel
theorem dX10_kindOf_29 : decode cX10_kindOf 29 = .ok (.lookupswitch 61 #[(10, 51), (32, 51), (40, 55), (41, 58), (59, 53)], 51) := by decide +kernel
theorem dX10_kindOf_80 : decode cX10_kindOf 80 = .ok (.iconst 2, 1) := by decide +kernel
theorem dX10_kindOf_81 : decode cX10_kindOf 81 = .ok (.ireturn, 1) := by decide +kernel
theorem dX10_kindOf_82 : decode cX10_kindOf 82 = .ok (.iconst 5, 1) := by decide +kernel
theorem dX10_kindOf_83 : decode cX10_kindOf 83 = .ok (.ireturn, 1) := by decide +kernel
theorem dX10_kindOf_84 : decode cX10_kindOf 84 = .ok (.bipush 6, 2) := by decide +kernel
theorem dX10_kindOf_86 : decode cX10_kindOf 86 = .ok (.ireturn, 1) := by decide +kernel
theorem dX10_kindOf_87 : decode cX10_kindOf 87 = .ok (.bipush 7, 2) := by decide +kernel
theorem dX10_kindOf_89 : decode cX10_kindOf 89 = .ok (.ireturn, 1) := by decide +kernel
theorem dX10_kindOf_90 : decode cX10_kindOf 90 = .ok (.iconst 1, 1) := by decide +kernel
theorem dX10_kindOf_91 : decode cX10_kindOf 91 = .ok (.ireturn, 1) := by decide +kernel
theorem dX10_isAt_0 : decode cX10_isAt 0 = .ok (.aload_n 0, 1) := by decide +kernel
theorem dX10_isAt_1 : decode cX10_isAt 1 = .ok (.getfield 31, 3) := by decide +kernel
theorem dX10_isAt_4 : decode cX10_isAt 4 = .ok (.ifCond .ne 15, 3) := by decide +kernel
theorem dX10_isAt_7 : decode cX10_isAt 7 = .ok (.aload_n 0, 1) := by decide +kernel
theorem dX10_isAt_8 : decode cX10_isAt 8 = .ok (.getfield 22, 3) := by decide +kernel
theorem dX10_isAt_11 : decode cX10_isAt 11 = .ok (.iload_n 1, 1) := by decide +kernel
theorem dX10_isAt_12 : decode cX10_isAt 12 = .ok (.if_icmp .ne 7, 3) := by decide +kernel
theorem dX10_isAt_15 : decode cX10_isAt 15 = .ok (.iconst 1, 1) := by decide +kernel
theorem dX10_isAt_16 : decode cX10_isAt 16 = .ok (.goto 4, 3) := by decide +kernel
theorem dX10_isAt_19 : decode cX10_isAt 19 = .ok (.iconst 0, 1) := by decide +kernel
theorem dX10_isAt_20 : decode cX10_isAt 20 = .ok (.ireturn, 1) := by decide +kernel
theorem dX10_isAtWord_0 : decode cX10_isAtWord 0 = .ok (.aload_n 0, 1) := by decide +kernel
theorem dX10_isAtWord_1 : decode cX10_isAtWord 1 = .ok (.iconst 3, 1) := by decide +kernel
theorem dX10_isAtWord_2 : decode cX10_isAtWord 2 = .ok (.invokevirtual 67, 3) := by decide +kernel
theorem dX10_isAtWord_5 : decode cX10_isAtWord 5 = .ok (.ifCond .eq 19, 3) := by decide +kernel
theorem dX10_isAtWord_8 : decode cX10_isAtWord 8 = .ok (.aload_n 0, 1) := by decide +kernel
theorem dX10_isAtWord_9 : decode cX10_isAtWord 9 = .ok (.getfield 28, 3) := by decide +kernel
theorem dX10_isAtWord_12 : decode cX10_isAtWord 12 = .ok (.aload_n 0, 1) := by decide +kernel
theorem dX10_isAtWord_13 : decode cX10_isAtWord 13 = .ok (.getfield 25, 3) := by decide +kernel
theorem dX10_isAtWord_16 : decode cX10_isAtWord 16 = .ok (.isub, 1) := by decide +kernel
theorem dX10_isAtWord_17 : decode cX10_isAtWord 17 = .ok (.aload_n 1, 1) := by decide +kernel
theorem dX10_isAtWord_18 : decode cX10_isAtWord 18 = .ok (.invokevirtual 41, 3) := by decide +kernel
theorem dX10_isAtWord_21 : decode cX10_isAtWord 21 = .ok (.if_icmp .eq 5, 3) := by decide +kernel
theorem dX10_isAtWord_24 : decode cX10_isAtWord 24 = .ok (.iconst 0, 1) := by decide +kernel
theorem dX10_isAtWord_25 : decode cX10_isAtWord 25 = .ok (.ireturn, 1) := by decide +kernel
theorem dX10_isAtWord_26 : decode cX10_isAtWord 26 = .ok (.iconst 0, 1) := by decide +kernel
theorem dX10_isAtWord_27 : decode cX10_isAtWord 27 = .ok (.istore_n 2, 1) := by decide +kernel
theorem dX10_isAtWord_28 : decode cX10_isAtWord 28 = .ok (.iload_n 2, 1) := by decide +kernel
theorem dX10_isAtWord_29 : decode cX10_isAtWord 29 = .ok (.aload_n 1, 1) := by decide +kernel
theorem dX10_isAtWord_30 : decode cX10_isAtWord 30 = .ok (.invokevirtual 41, 3) := by decide +kernel
theorem dX10_isAtWord_33 : decode cX10_isAtWord 33 = .ok (.if_icmp .ge 44, 3) := by decide +kernel
theorem dX10_isAtWord_36 : decode cX10_isAtWord 36 = .ok (.aload_n 0, 1) := by decide +kernel
theorem dX10_isAtWord_37 : decode cX10_isAtWord 37 = .ok (.getfield 25, 3) := by decide +kernel
theorem dX10_isAtWord_40 : decode cX10_isAtWord 40 = .ok (.iload_n 2, 1) := by decide +kernel
theorem dX10_isAtWord_41 : decode cX10_isAtWord 41 = .ok (.iadd, 1) := by decide +kernel
theorem dX10_isAtWord_42 : decode cX10_isAtWord 42 = .ok (.aload_n 0, 1) := by decide +kernel
theorem dX10_isAtWord_43 : decode cX10_isAtWord 43 = .ok (.getfield 9, 3) := by decide +kernel
theorem dX10_isAtWord_46 : decode cX10_isAtWord 46 = .ok (.arraylength, 1) := by decide +kernel
theorem dX10_isAtWord_47 : decode cX10_isAtWord 47 = .ok (.if_icmp .ge 30, 3) := by decide +kernel
theorem dX10_isAtWord_50 : decode cX10_isAtWord 50 = .ok (.aload_n 0, 1) := by decide +kernel
theorem dX10_isAtWord_51 : decode cX10_isAtWord 51 = .ok (.getfield 9, 3) := by decide +kernel
theorem dX10_isAtWord_54 : decode cX10_isAtWord 54 = .ok (.aload_n 0, 1) := by decide +kernel
theorem dX10_isAtWord_55 : decode cX10_isAtWord 55 = .ok (.getfield 25, 3) := by decide +kernel
theorem dX10_isAtWord_58 : decode cX10_isAtWord 58 = .ok (.iload_n 2, 1) := by decide +kernel
theorem dX10_isAtWord_59 : decode cX10_isAtWord 59 = .ok (.iadd, 1) := by decide +kernel
theorem dX10_isAtWord_60 : decode cX10_isAtWord 60 = .ok (.baload, 1) := by decide +kernel
theorem dX10_isAtWord_61 : decode cX10_isAtWord 61 = .ok (.aload_n 1, 1) := by decide +kernel
theorem dX10_isAtWord_62 : decode cX10_isAtWord 62 = .ok (.iload_n 2, 1) := by decide +kernel
theorem dX10_isAtWord_63 : decode cX10_isAtWord 63 = .ok (.invokevirtual 46, 3) := by decide +kernel
theorem dX10_isAtWord_66 : decode cX10_isAtWord 66 = .ok (.if_icmp .eq 5, 3) := by decide +kernel
theorem dX10_isAtWord_69 : decode cX10_isAtWord 69 = .ok (.iconst 0, 1) := by decide +kernel
theorem dX10_isAtWord_70 : decode cX10_isAtWord 70 = .ok (.ireturn, 1) := by decide +kernel
theorem dX10_isAtWord_71 : decode cX10_isAtWord 71 = .ok (.iinc 2 1, 3) := by decide +kernel
theorem dX10_isAtWord_74 : decode cX10_isAtWord 74 = .ok (.goto (-46), 3) := by decide +kernel
theorem dX10_isAtWord_77 : decode cX10_isAtWord 77 = .ok (.iconst 1, 1) := by decide +kernel
theorem dX10_isAtWord_78 : decode cX10_isAtWord 78 = .ok (.ireturn, 1) := by decide +kernel
theorem dX10_readWord_0 : decode cX10_readWord 0 = .ok (.aload_n 0, 1) := by decide +kernel
theorem dX10_readWord_1 : decode cX10_readWord 1 = .ok (.aload_n 1, 1) := by decide +kernel
theorem dX10_readWord_2 : decode cX10_readWord 2 = .ok (.invokevirtual 71, 3) := by decide +kernel
theorem dX10_readWord_5 : decode cX10_readWord 5 = .ok (.ifCond .eq 10, 3) := by decide +kernel
theorem dX10_readWord_8 : decode cX10_readWord 8 = .ok (.aload_n 0, 1) := by decide +kernel
theorem dX10_readWord_9 : decode cX10_readWord 9 = .ok (.invokevirtual 56, 3) := by decide +kernel
theorem dX10_readWord_12 : decode cX10_readWord 12 = .ok (.goto 8, 3) := by decide +kernel
theorem dX10_readWord_15 : decode cX10_readWord 15 = .ok (.aload_n 0, 1) := by decide +kernel
theorem dX10_readWord_16 : decode cX10_readWord 16 = .ok (.iconst 1, 1) := by decide +kernel
theorem dX10_readWord_17 : decode cX10_readWord 17 = .ok (.invokevirtual 75, 3) := by decide +kernel
theorem dX10_readWord_20 : decode cX10_readWord 20 = .ok (.return_, 1) := by decide +kernel
theorem dX10_readToken_0 : decode cX10_readToken 0 = .ok (.aload_n 0, 1) := by decide +kernel
theorem dX10_readToken_1 : decode cX10_readToken 1 = .ok (.iload_n 1, 1) := by decide +kernel
theorem dX10_readToken_2 : decode cX10_readToken 2 = .ok (.invokevirtual 67, 3) := by decide +kernel
theorem dX10_readToken_5 : decode cX10_readToken 5 = .ok (.ifCond .eq 10, 3) := by decide +kernel
theorem dX10_readToken_8 : decode cX10_readToken 8 = .ok (.aload_n 0, 1) := by decide +kernel
theorem dX10_readToken_9 : decode cX10_readToken 9 = .ok (.invokevirtual 56, 3) := by decide +kernel
theorem dX10_readToken_12 : decode cX10_readToken 12 = .ok (.goto 8, 3) := by decide +kernel
theorem dX10_readToken_15 : decode cX10_readToken 15 = .ok (.aload_n 0, 1) := by decide +kernel
theorem dX10_readToken_16 : decode cX10_readToken 16 = .ok (.iconst 1, 1) := by decide +kernel
theorem dX10_readToken_17 : decode cX10_readToken 17 = .ok (.invokevirtual 75, 3) := by decide +kernel
theorem dX10_readToken_20 : decode cX10_readToken 20 = .ok (.return_, 1) := by decide +kernel
theorem dX10_readNumber_0 : decode cX10_readNumber 0 = .ok (.aload_n 0, 1) := by decide +kernel
theorem dX10_readNumber_1 : decode cX10_readNumber 1 = .ok (.iconst 4, 1) := by decide +kernel
theorem dX10_readNumber_2 : decode cX10_readNumber 2 = .ok (.invokevirtual 67, 3) := by decide +kernel
theorem dX10_readNumber_5 : decode cX10_readNumber 5 = .ok (.ifCond .ne 10, 3) := by decide +kernel
theorem dX10_readNumber_8 : decode cX10_readNumber 8 = .ok (.aload_n 0, 1) := by decide +kernel
theorem dX10_readNumber_9 : decode cX10_readNumber 9 = .ok (.iconst 1, 1) := by decide +kernel
theorem dX10_readNumber_10 : decode cX10_readNumber 10 = .ok (.invokevirtual 75, 3) := by decide +kernel
theorem dX10_readNumber_13 : decode cX10_readNumber 13 = .ok (.iload_n 1, 1) := by decide +kernel
theorem dX10_readNumber_14 : decode cX10_readNumber 14 = .ok (.ireturn, 1) := by decide +kernel
theorem dX10_readNumber_15 : decode cX10_readNumber 15 = .ok (.iconst 0, 1) := by decide +kernel
theorem dX10_readNumber_16 : decode cX10_readNumber 16 = .ok (.istore_n 3, 1) := by decide +kernel
theorem dX10_readNumber_17 : decode cX10_readNumber 17 = .ok (.aload_n 0, 1) := by decide +kernel
theorem dX10_readNumber_18 : decode cX10_readNumber 18 = .ok (.getfield 25, 3) := by decide +kernel
theorem dX10_readNumber_21 : decode cX10_readNumber 21 = .ok (.istore 4, 2) := by decide +kernel
theorem dX10_readNumber_23 : decode cX10_readNumber 23 = .ok (.iload 4, 2) := by decide +kernel
theorem dX10_readNumber_25 : decode cX10_readNumber 25 = .ok (.aload_n 0, 1) := by decide +kernel
theorem dX10_readNumber_26 : decode cX10_readNumber 26 = .ok (.getfield 28, 3) := by decide +kernel
theorem dX10_readNumber_29 : decode cX10_readNumber 29 = .ok (.if_icmp .ge 40, 3) := by decide +kernel
theorem dX10_readNumber_32 : decode cX10_readNumber 32 = .ok (.iload 4, 2) := by decide +kernel
theorem dX10_readNumber_34 : decode cX10_readNumber 34 = .ok (.aload_n 0, 1) := by decide +kernel
theorem dX10_readNumber_35 : decode cX10_readNumber 35 = .ok (.getfield 9, 3) := by decide +kernel
theorem dX10_readNumber_38 : decode cX10_readNumber 38 = .ok (.arraylength, 1) := by decide +kernel
theorem dX10_readNumber_39 : decode cX10_readNumber 39 = .ok (.if_icmp .ge 30, 3) := by decide +kernel
theorem dX10_readNumber_42 : decode cX10_readNumber 42 = .ok (.bipush 10, 2) := by decide +kernel
theorem dX10_readNumber_44 : decode cX10_readNumber 44 = .ok (.iload_n 3, 1) := by decide +kernel
theorem dX10_readNumber_45 : decode cX10_readNumber 45 = .ok (.imul, 1) := by decide +kernel
theorem dX10_readNumber_46 : decode cX10_readNumber 46 = .ok (.aload_n 0, 1) := by decide +kernel
theorem dX10_readNumber_47 : decode cX10_readNumber 47 = .ok (.getfield 9, 3) := by decide +kernel
theorem dX10_readNumber_50 : decode cX10_readNumber 50 = .ok (.iload 4, 2) := by decide +kernel
theorem dX10_readNumber_52 : decode cX10_readNumber 52 = .ok (.baload, 1) := by decide +kernel
theorem dX10_readNumber_53 : decode cX10_readNumber 53 = .ok (.iadd, 1) := by decide +kernel
theorem dX10_readNumber_54 : decode cX10_readNumber 54 = .ok (.bipush 48, 2) := by decide +kernel
theorem dX10_readNumber_56 : decode cX10_readNumber 56 = .ok (.isub, 1) := by decide +kernel
theorem dX10_readNumber_57 : decode cX10_readNumber 57 = .ok (.ldc 78, 2) := by decide +kernel
theorem dX10_readNumber_59 : decode cX10_readNumber 59 = .ok (.invokestatic 50, 3) := by decide +kernel
theorem dX10_readNumber_62 : decode cX10_readNumber 62 = .ok (.istore_n 3, 1) := by decide +kernel
theorem dX10_readNumber_63 : decode cX10_readNumber 63 = .ok (.iinc 4 1, 3) := by decide +kernel
theorem dX10_readNumber_66 : decode cX10_readNumber 66 = .ok (.goto (-43), 3) := by decide +kernel
theorem dX10_readNumber_69 : decode cX10_readNumber 69 = .ok (.iload_n 3, 1) := by decide +kernel
theorem dX10_readNumber_70 : decode cX10_readNumber 70 = .ok (.iload_n 1, 1) := by decide +kernel
theorem dX10_readNumber_71 : decode cX10_readNumber 71 = .ok (.if_icmp .lt 8, 3) := by decide +kernel
theorem dX10_readNumber_74 : decode cX10_readNumber 74 = .ok (.iload_n 3, 1) := by decide +kernel
theorem dX10_readNumber_75 : decode cX10_readNumber 75 = .ok (.iload_n 2, 1) := by decide +kernel
theorem dX10_readNumber_76 : decode cX10_readNumber 76 = .ok (.if_icmp .le 10, 3) := by decide +kernel
theorem dX10_readNumber_79 : decode cX10_readNumber 79 = .ok (.aload_n 0, 1) := by decide +kernel
theorem dX10_readNumber_80 : decode cX10_readNumber 80 = .ok (.iconst 2, 1) := by decide +kernel
theorem dX10_readNumber_81 : decode cX10_readNumber 81 = .ok (.invokevirtual 75, 3) := by decide +kernel
theorem dX10_readNumber_84 : decode cX10_readNumber 84 = .ok (.iload_n 1, 1) := by decide +kernel
theorem dX10_readNumber_85 : decode cX10_readNumber 85 = .ok (.ireturn, 1) := by decide +kernel
theorem dX10_readNumber_86 : decode cX10_readNumber 86 = .ok (.aload_n 0, 1) := by decide +kernel
theorem dX10_readNumber_87 : decode cX10_readNumber 87 = .ok (.invokevirtual 56, 3) := by decide +kernel
theorem dX10_readNumber_90 : decode cX10_readNumber 90 = .ok (.iload_n 3, 1) := by decide +kernel
theorem dX10_readNumber_91 : decode cX10_readNumber 91 = .ok (.ireturn, 1) := by decide +kernel
theorem dX12_init_0 : decode cX12_init 0 = .ok (.aload_n 0, 1) := by decide +kernel
theorem dX12_init_1 : decode cX12_init 1 = .ok (.invokespecial 1, 3) := by decide +kernel
theorem dX12_init_4 : decode cX12_init 4 = .ok (.aload_n 0, 1) := by decide +kernel
theorem dX12_init_5 : decode cX12_init 5 = .ok (.new 7, 3) := by decide +kernel
theorem dX12_init_8 : decode cX12_init 8 = .ok (.dup, 1) := by decide +kernel
theorem dX12_init_9 : decode cX12_init 9 = .ok (.invokespecial 9, 3) := by decide +kernel
theorem dX12_init_12 : decode cX12_init 12 = .ok (.putfield 10, 3) := by decide +kernel
theorem dX12_init_15 : decode cX12_init 15 = .ok (.aload_n 0, 1) := by decide +kernel
theorem dX12_init_16 : decode cX12_init 16 = .ok (.new 16, 3) := by decide +kernel
theorem dX12_init_19 : decode cX12_init 19 = .ok (.dup, 1) := by decide +kernel
theorem dX12_init_20 : decode cX12_init 20 = .ok (.invokespecial 18, 3) := by decide +kernel
theorem dX12_init_23 : decode cX12_init 23 = .ok (.putfield 19, 3) := by decide +kernel
theorem dX12_init_26 : decode cX12_init 26 = .ok (.aload_n 0, 1) := by decide +kernel
theorem dX12_init_27 : decode cX12_init 27 = .ok (.new 23, 3) := by decide +kernel
theorem dX12_init_30 : decode cX12_init 30 = .ok (.dup, 1) := by decide +kernel
theorem dX12_init_31 : decode cX12_init 31 = .ok (.invokespecial 25, 3) := by decide +kernel
theorem dX12_init_34 : decode cX12_init 34 = .ok (.putfield 26, 3) := by decide +kernel
theorem dX12_init_37 : decode cX12_init 37 = .ok (.aload_n 0, 1) := by decide +kernel
theorem dX12_init_38 : decode cX12_init 38 = .ok (.new 30, 3) := by decide +kernel
theorem dX12_init_41 : decode cX12_init 41 = .ok (.dup, 1) := by decide +kernel
theorem dX12_init_42 : decode cX12_init 42 = .ok (.invokespecial 32, 3) := by decide +kernel
theorem dX12_init_45 : decode cX12_init 45 = .ok (.putfield 33, 3) := by decide +kernel
theorem dX12_init_48 : decode cX12_init 48 = .ok (.aload_n 0, 1) := by decide +kernel
theorem dX12_init_49 : decode cX12_init 49 = .ok (.iconst 0, 1) := by decide +kernel
theorem dX12_init_50 : decode cX12_init 50 = .ok (.putfield 37, 3) := by decide +kernel
theorem dX12_init_53 : decode cX12_init 53 = .ok (.aload_n 0, 1) := by decide +kernel
theorem dX12_init_54 : decode cX12_init 54 = .ok (.new 30, 3) := by decide +kernel
theorem dX12_init_57 : decode cX12_init 57 = .ok (.dup, 1) := by decide +kernel
theorem dX12_init_58 : decode cX12_init 58 = .ok (.invokespecial 32, 3) := by decide +kernel
theorem dX12_init_61 : decode cX12_init 61 = .ok (.putfield 41, 3) := by decide +kernel
theorem dX12_init_64 : decode cX12_init 64 = .ok (.aload_n 0, 1) := by decide +kernel
theorem dX12_init_65 : decode cX12_init 65 = .ok (.new 30, 3) := by decide +kernel
theorem dX12_init_68 : decode cX12_init 68 = .ok (.dup, 1) := by decide +kernel
theorem dX12_init_69 : decode cX12_init 69 = .ok (.invokespecial 32, 3) := by decide +kernel
theorem dX12_init_72 : decode cX12_init 72 = .ok (.putfield 44, 3) := by decide +kernel
theorem dX12_init_75 : decode cX12_init 75 = .ok (.aload_n 0, 1) := by decide +kernel
theorem dX12_init_76 : decode cX12_init 76 = .ok (.bipush 31, 2) := by decide +kernel
theorem dX12_init_78 : decode cX12_init 78 = .ok (.newarray .byte, 2) := by decide +kernel
theorem dX12_init_80 : decode cX12_init 80 = .ok (.putfield 47, 3) := by decide +kernel
theorem dX12_init_83 : decode cX12_init 83 = .ok (.aload_n 0, 1) := by decide +kernel
theorem dX12_init_84 : decode cX12_init 84 = .ok (.iconst 0, 1) := by decide +kernel
theorem dX12_init_85 : decode cX12_init 85 = .ok (.putfield 51, 3) := by decide +kernel
theorem dX12_init_88 : decode cX12_init 88 = .ok (.aload_n 0, 1) := by decide +kernel
theorem dX12_init_89 : decode cX12_init 89 = .ok (.getfield 10, 3) := by decide +kernel
theorem dX12_init_92 : decode cX12_init 92 = .ok (.ldc 55, 2) := by decide +kernel
theorem dX12_init_94 : decode cX12_init 94 = .ok (.invokevirtual 57, 3) := by decide +kernel
theorem dX12_init_97 : decode cX12_init 97 = .ok (.aload_n 0, 1) := by decide +kernel
theorem dX12_init_98 : decode cX12_init 98 = .ok (.getfield 10, 3) := by decide +kernel
theorem dX12_init_101 : decode cX12_init 101 = .ok (.ldc 55, 2) := by decide +kernel
theorem dX12_init_103 : decode cX12_init 103 = .ok (.invokevirtual 61, 3) := by decide +kernel
theorem dX12_init_106 : decode cX12_init 106 = .ok (.invokevirtual 67, 3) := by decide +kernel
theorem dX12_init_109 : decode cX12_init 109 = .ok (.aload_n 0, 1) := by decide +kernel
theorem dX12_init_110 : decode cX12_init 110 = .ok (.getfield 10, 3) := by decide +kernel
theorem dX12_init_113 : decode cX12_init 113 = .ok (.aload_n 0, 1) := by decide +kernel
theorem dX12_init_114 : decode cX12_init 114 = .ok (.getfield 41, 3) := by decide +kernel
theorem dX12_init_117 : decode cX12_init 117 = .ok (.invokestatic 71, 3) := by decide +kernel
theorem dX12_init_120 : decode cX12_init 120 = .ok (.aload_n 0, 1) := by decide +kernel
theorem dX12_init_121 : decode cX12_init 121 = .ok (.getfield 10, 3) := by decide +kernel
theorem dX12_init_124 : decode cX12_init 124 = .ok (.invokevirtual 77, 3) := by decide +kernel
theorem dX12_init_127 : decode cX12_init 127 = .ok (.return_, 1) := by decide +kernel
theorem dX12_appendText_0 : decode cX12_appendText 0 = .ok (.aload_n 0, 1) := by decide +kernel
theorem dX12_appendText_1 : decode cX12_appendText 1 = .ok (.getfield 10, 3) := by decide +kernel
theorem dX12_appendText_4 : decode cX12_appendText 4 = .ok (.bipush 20, 2) := by decide +kernel
theorem dX12_appendText_6 : decode cX12_appendText 6 = .ok (.invokevirtual 80, 3) := by decide +kernel
theorem dX12_appendText_9 : decode cX12_appendText 9 = .ok (.ifCond .ne 5, 3) := by decide +kernel
theorem dX12_appendText_12 : decode cX12_appendText 12 = .ok (.iconst (-1), 1) := by decide +kernel
theorem dX12_appendText_13 : decode cX12_appendText 13 = .ok (.ireturn, 1) := by decide +kernel
theorem dX12_appendText_14 : decode cX12_appendText 14 = .ok (.aload_n 0, 1) := by decide +kernel
theorem dX12_appendText_15 : decode cX12_appendText 15 = .ok (.getfield 10, 3) := by decide +kernel
theorem dX12_appendText_18 : decode cX12_appendText 18 = .ok (.iload_n 1, 1) := by decide +kernel
theorem dX12_appendText_19 : decode cX12_appendText 19 = .ok (.invokevirtual 84, 3) := by decide +kernel
theorem dX12_appendText_22 : decode cX12_appendText 22 = .ok (.aload_n 0, 1) := by decide +kernel
theorem dX12_appendText_23 : decode cX12_appendText 23 = .ok (.getfield 10, 3) := by decide +kernel
theorem dX12_appendText_26 : decode cX12_appendText 26 = .ok (.iload_n 2, 1) := by decide +kernel
theorem dX12_appendText_27 : decode cX12_appendText 27 = .ok (.invokevirtual 84, 3) := by decide +kernel
theorem dX12_appendText_30 : decode cX12_appendText 30 = .ok (.aload_n 0, 1) := by decide +kernel
theorem dX12_appendText_31 : decode cX12_appendText 31 = .ok (.getfield 10, 3) := by decide +kernel
theorem dX12_appendText_34 : decode cX12_appendText 34 = .ok (.iload_n 3, 1) := by decide +kernel
theorem dX12_appendText_35 : decode cX12_appendText 35 = .ok (.invokevirtual 84, 3) := by decide +kernel
theorem dX12_appendText_38 : decode cX12_appendText 38 = .ok (.aload_n 0, 1) := by decide +kernel
theorem dX12_appendText_39 : decode cX12_appendText 39 = .ok (.getfield 10, 3) := by decide +kernel
theorem dX12_appendText_42 : decode cX12_appendText 42 = .ok (.iload 4, 2) := by decide +kernel
theorem dX12_appendText_44 : decode cX12_appendText 44 = .ok (.invokevirtual 84, 3) := by decide +kernel
theorem dX12_appendText_47 : decode cX12_appendText 47 = .ok (.aload_n 0, 1) := by decide +kernel
theorem dX12_appendText_48 : decode cX12_appendText 48 = .ok (.getfield 10, 3) := by decide +kernel
theorem dX12_appendText_51 : decode cX12_appendText 51 = .ok (.iload 5, 2) := by decide +kernel
theorem dX12_appendText_53 : decode cX12_appendText 53 = .ok (.invokevirtual 84, 3) := by decide +kernel
theorem dX12_appendText_56 : decode cX12_appendText 56 = .ok (.aload_n 0, 1) := by decide +kernel
theorem dX12_appendText_57 : decode cX12_appendText 57 = .ok (.getfield 10, 3) := by decide +kernel
theorem dX12_appendText_60 : decode cX12_appendText 60 = .ok (.getfield 87, 3) := by decide +kernel
theorem dX12_appendText_63 : decode cX12_appendText 63 = .ok (.ireturn, 1) := by decide +kernel
theorem dX12_loadCanal_0 : decode cX12_loadCanal 0 = .ok (.aload_n 0, 1) := by decide +kernel
theorem dX12_loadCanal_1 : decode cX12_loadCanal 1 = .ok (.iload_n 1, 1) := by decide +kernel
theorem dX12_loadCanal_2 : decode cX12_loadCanal 2 = .ok (.invokevirtual 90, 3) := by decide +kernel
theorem dX12_loadCanal_5 : decode cX12_loadCanal 5 = .ok (.aload_n 0, 1) := by decide +kernel
theorem dX12_loadCanal_6 : decode cX12_loadCanal 6 = .ok (.getfield 10, 3) := by decide +kernel
theorem dX12_loadCanal_9 : decode cX12_loadCanal 9 = .ok (.iload_n 1, 1) := by decide +kernel
theorem dX12_loadCanal_10 : decode cX12_loadCanal 10 = .ok (.invokevirtual 67, 3) := by decide +kernel
theorem dX12_loadCanal_13 : decode cX12_loadCanal 13 = .ok (.aload_n 0, 1) := by decide +kernel
theorem dX12_loadCanal_14 : decode cX12_loadCanal 14 = .ok (.getfield 10, 3) := by decide +kernel
theorem dX12_loadCanal_17 : decode cX12_loadCanal 17 = .ok (.aload_n 0, 1) := by decide +kernel
theorem dX12_loadCanal_18 : decode cX12_loadCanal 18 = .ok (.getfield 44, 3) := by decide +kernel
theorem dX12_loadCanal_21 : decode cX12_loadCanal 21 = .ok (.invokestatic 71, 3) := by decide +kernel
theorem dX12_loadCanal_24 : decode cX12_loadCanal 24 = .ok (.aload_n 0, 1) := by decide +kernel
theorem dX12_loadCanal_25 : decode cX12_loadCanal 25 = .ok (.getfield 10, 3) := by decide +kernel
theorem dX12_loadCanal_28 : decode cX12_loadCanal 28 = .ok (.invokevirtual 77, 3) := by decide +kernel
theorem dX12_loadCanal_31 : decode cX12_loadCanal 31 = .ok (.aload_n 0, 1) := by decide +kernel
theorem dX12_loadCanal_32 : decode cX12_loadCanal 32 = .ok (.getfield 10, 3) := by decide +kernel
theorem dX12_loadCanal_35 : decode cX12_loadCanal 35 = .ok (.invokevirtual 93, 3) := by decide +kernel
theorem dX12_loadCanal_38 : decode cX12_loadCanal 38 = .ok (.ifCond .eq 5, 3) := by decide +kernel
theorem dX12_loadCanal_41 : decode cX12_loadCanal 41 = .ok (.iconst (-1), 1) := by decide +kernel
theorem dX12_loadCanal_42 : decode cX12_loadCanal 42 = .ok (.ireturn, 1) := by decide +kernel
theorem dX12_loadCanal_43 : decode cX12_loadCanal 43 = .ok (.aload_n 0, 1) := by decide +kernel
theorem dX12_loadCanal_44 : decode cX12_loadCanal 44 = .ok (.getfield 41, 3) := by decide +kernel
theorem dX12_loadCanal_47 : decode cX12_loadCanal 47 = .ok (.astore_n 2, 1) := by decide +kernel
theorem dX12_loadCanal_48 : decode cX12_loadCanal 48 = .ok (.aload_n 0, 1) := by decide +kernel
theorem dX12_loadCanal_49 : decode cX12_loadCanal 49 = .ok (.aload_n 0, 1) := by decide +kernel
theorem dX12_loadCanal_50 : decode cX12_loadCanal 50 = .ok (.getfield 44, 3) := by decide +kernel
theorem dX12_loadCanal_53 : decode cX12_loadCanal 53 = .ok (.putfield 41, 3) := by decide +kernel
theorem dX12_loadCanal_56 : decode cX12_loadCanal 56 = .ok (.aload_n 0, 1) := by decide +kernel
theorem dX12_loadCanal_57 : decode cX12_loadCanal 57 = .ok (.aload_n 2, 1) := by decide +kernel
theorem dX12_loadCanal_58 : decode cX12_loadCanal 58 = .ok (.putfield 44, 3) := by decide +kernel
theorem dX12_loadCanal_61 : decode cX12_loadCanal 61 = .ok (.aload_n 0, 1) := by decide +kernel
theorem dX12_loadCanal_62 : decode cX12_loadCanal 62 = .ok (.getfield 26, 3) := by decide +kernel
theorem dX12_loadCanal_65 : decode cX12_loadCanal 65 = .ok (.invokevirtual 97, 3) := by decide +kernel
theorem dX12_loadCanal_68 : decode cX12_loadCanal 68 = .ok (.aload_n 0, 1) := by decide +kernel
theorem dX12_loadCanal_69 : decode cX12_loadCanal 69 = .ok (.iconst 0, 1) := by decide +kernel
theorem dX12_loadCanal_70 : decode cX12_loadCanal 70 = .ok (.putfield 37, 3) := by decide +kernel
theorem dX12_loadCanal_73 : decode cX12_loadCanal 73 = .ok (.aload_n 0, 1) := by decide +kernel
theorem dX12_loadCanal_74 : decode cX12_loadCanal 74 = .ok (.getfield 41, 3) := by decide +kernel
theorem dX12_loadCanal_77 : decode cX12_loadCanal 77 = .ok (.getfield 100, 3) := by decide +kernel
theorem dX12_loadCanal_80 : decode cX12_loadCanal 80 = .ok (.ireturn, 1) := by decide +kernel
theorem dX12_minute_0 : decode cX12_minute 0 = .ok (.aload_n 0, 1) := by decide +kernel
theorem dX12_minute_1 : decode cX12_minute 1 = .ok (.getfield 41, 3) := by decide +kernel
theorem dX12_minute_4 : decode cX12_minute 4 = .ok (.getfield 109, 3) := by decide +kernel
theorem dX12_minute_7 : decode cX12_minute 7 = .ok (.ireturn, 1) := by decide +kernel
theorem dX12_placeCount_0 : decode cX12_placeCount 0 = .ok (.aload_n 0, 1) := by decide +kernel
theorem dX12_placeCount_1 : decode cX12_placeCount 1 = .ok (.getfield 41, 3) := by decide +kernel
theorem dX12_placeCount_4 : decode cX12_placeCount 4 = .ok (.getfield 112, 3) := by decide +kernel
theorem dX12_placeCount_7 : decode cX12_placeCount 7 = .ok (.ireturn, 1) := by decide +kernel
theorem dX12_lockWait_0 : decode cX12_lockWait 0 = .ok (.aload_n 0, 1) := by decide +kernel
theorem dX12_lockWait_1 : decode cX12_lockWait 1 = .ok (.iload_n 1, 1) := by decide +kernel
theorem dX12_lockWait_2 : decode cX12_lockWait 2 = .ok (.invokevirtual 115, 3) := by decide +kernel
theorem dX12_lockWait_5 : decode cX12_lockWait 5 = .ok (.getfield 119, 3) := by decide +kernel
theorem dX12_lockWait_8 : decode cX12_lockWait 8 = .ok (.ireturn, 1) := by decide +kernel
theorem dX12_bargeInLock_0 : decode cX12_bargeInLock 0 = .ok (.aload_n 0, 1) := by decide +kernel
theorem dX12_bargeInLock_1 : decode cX12_bargeInLock 1 = .ok (.iload_n 1, 1) := by decide +kernel
theorem dX12_bargeInLock_2 : decode cX12_bargeInLock 2 = .ok (.invokevirtual 115, 3) := by decide +kernel
theorem dX12_bargeInLock_5 : decode cX12_bargeInLock 5 = .ok (.getfield 127, 3) := by decide +kernel
theorem dX12_bargeInLock_8 : decode cX12_bargeInLock 8 = .ok (.ireturn, 1) := by decide +kernel
theorem dX12_usedPairs_0 : decode cX12_usedPairs 0 = .ok (.aload_n 0, 1) := by decide +kernel
theorem dX12_usedPairs_1 : decode cX12_usedPairs 1 = .ok (.iload_n 1, 1) := by decide +kernel
theorem dX12_usedPairs_2 : decode cX12_usedPairs 2 = .ok (.invokevirtual 130, 3) := by decide +kernel
theorem dX12_usedPairs_5 : decode cX12_usedPairs 5 = .ok (.aload_n 0, 1) := by decide +kernel
theorem dX12_usedPairs_6 : decode cX12_usedPairs 6 = .ok (.getfield 41, 3) := by decide +kernel
theorem dX12_usedPairs_9 : decode cX12_usedPairs 9 = .ok (.getfield 133, 3) := by decide +kernel
theorem dX12_usedPairs_12 : decode cX12_usedPairs 12 = .ok (.iload_n 1, 1) := by decide +kernel
theorem dX12_usedPairs_13 : decode cX12_usedPairs 13 = .ok (.iaload, 1) := by decide +kernel
theorem dX12_usedPairs_14 : decode cX12_usedPairs 14 = .ok (.ireturn, 1) := by decide +kernel
theorem dX12_bargesAt_0 : decode cX12_bargesAt 0 = .ok (.aload_n 0, 1) := by decide +kernel
theorem dX12_bargesAt_1 : decode cX12_bargesAt 1 = .ok (.iload_n 1, 1) := by decide +kernel
theorem dX12_bargesAt_2 : decode cX12_bargesAt 2 = .ok (.invokevirtual 130, 3) := by decide +kernel
theorem dX12_bargesAt_5 : decode cX12_bargesAt 5 = .ok (.aload_n 0, 1) := by decide +kernel
theorem dX12_bargesAt_6 : decode cX12_bargesAt 6 = .ok (.getfield 41, 3) := by decide +kernel
theorem dX12_bargesAt_9 : decode cX12_bargesAt 9 = .ok (.iload_n 1, 1) := by decide +kernel
theorem dX12_bargesAt_10 : decode cX12_bargesAt 10 = .ok (.invokevirtual 137, 3) := by decide +kernel
theorem dX12_bargesAt_13 : decode cX12_bargesAt 13 = .ok (.ireturn, 1) := by decide +kernel
theorem dX12_ordersAt_0 : decode cX12_ordersAt 0 = .ok (.aload_n 0, 1) := by decide +kernel
theorem dX12_ordersAt_1 : decode cX12_ordersAt 1 = .ok (.iload_n 1, 1) := by decide +kernel
theorem dX12_ordersAt_2 : decode cX12_ordersAt 2 = .ok (.invokevirtual 130, 3) := by decide +kernel
theorem dX12_ordersAt_5 : decode cX12_ordersAt 5 = .ok (.aload_n 0, 1) := by decide +kernel
theorem dX12_ordersAt_6 : decode cX12_ordersAt 6 = .ok (.getfield 41, 3) := by decide +kernel
theorem dX12_ordersAt_9 : decode cX12_ordersAt 9 = .ok (.iload_n 1, 1) := by decide +kernel
theorem dX12_ordersAt_10 : decode cX12_ordersAt 10 = .ok (.invokevirtual 141, 3) := by decide +kernel
theorem dX12_ordersAt_13 : decode cX12_ordersAt 13 = .ok (.ireturn, 1) := by decide +kernel
theorem dX12_bargeCount_0 : decode cX12_bargeCount 0 = .ok (.aload_n 0, 1) := by decide +kernel
theorem dX12_bargeCount_1 : decode cX12_bargeCount 1 = .ok (.getfield 41, 3) := by decide +kernel
theorem dX12_bargeCount_4 : decode cX12_bargeCount 4 = .ok (.getfield 100, 3) := by decide +kernel
theorem dX12_bargeCount_7 : decode cX12_bargeCount 7 = .ok (.ireturn, 1) := by decide +kernel
theorem dX12_placeOf_0 : decode cX12_placeOf 0 = .ok (.aload_n 0, 1) := by decide +kernel
theorem dX12_placeOf_1 : decode cX12_placeOf 1 = .ok (.iload_n 1, 1) := by decide +kernel
theorem dX12_placeOf_2 : decode cX12_placeOf 2 = .ok (.invokevirtual 144, 3) := by decide +kernel
theorem dX12_placeOf_5 : decode cX12_placeOf 5 = .ok (.getfield 148, 3) := by decide +kernel
theorem dX12_placeOf_8 : decode cX12_placeOf 8 = .ok (.ireturn, 1) := by decide +kernel
theorem dX12_targetOf_0 : decode cX12_targetOf 0 = .ok (.aload_n 0, 1) := by decide +kernel
theorem dX12_targetOf_1 : decode cX12_targetOf 1 = .ok (.iload_n 1, 1) := by decide +kernel
theorem dX12_targetOf_2 : decode cX12_targetOf 2 = .ok (.invokevirtual 144, 3) := by decide +kernel
theorem dX12_targetOf_5 : decode cX12_targetOf 5 = .ok (.getfield 153, 3) := by decide +kernel
theorem dX12_targetOf_8 : decode cX12_targetOf 8 = .ok (.ireturn, 1) := by decide +kernel
theorem dX12_timeInLock_0 : decode cX12_timeInLock 0 = .ok (.aload_n 0, 1) := by decide +kernel
theorem dX12_timeInLock_1 : decode cX12_timeInLock 1 = .ok (.iload_n 1, 1) := by decide +kernel
theorem dX12_timeInLock_2 : decode cX12_timeInLock 2 = .ok (.invokevirtual 144, 3) := by decide +kernel
theorem dX12_timeInLock_5 : decode cX12_timeInLock 5 = .ok (.getfield 159, 3) := by decide +kernel
theorem dX12_timeInLock_8 : decode cX12_timeInLock 8 = .ok (.ireturn, 1) := by decide +kernel
theorem dX12_flour_0 : decode cX12_flour 0 = .ok (.aload_n 0, 1) := by decide +kernel
theorem dX12_flour_1 : decode cX12_flour 1 = .ok (.iload_n 1, 1) := by decide +kernel
theorem dX12_flour_2 : decode cX12_flour 2 = .ok (.invokevirtual 144, 3) := by decide +kernel
theorem dX12_flour_5 : decode cX12_flour 5 = .ok (.getfield 162, 3) := by decide +kernel
theorem dX12_flour_8 : decode cX12_flour 8 = .ok (.ireturn, 1) := by decide +kernel
theorem dX12_cleanPairs_0 : decode cX12_cleanPairs 0 = .ok (.aload_n 0, 1) := by decide +kernel
theorem dX12_cleanPairs_1 : decode cX12_cleanPairs 1 = .ok (.iload_n 1, 1) := by decide +kernel
theorem dX12_cleanPairs_2 : decode cX12_cleanPairs 2 = .ok (.invokevirtual 144, 3) := by decide +kernel
theorem dX12_cleanPairs_5 : decode cX12_cleanPairs 5 = .ok (.getfield 165, 3) := by decide +kernel
theorem dX12_cleanPairs_8 : decode cX12_cleanPairs 8 = .ok (.ireturn, 1) := by decide +kernel
theorem dX12_dirtyPairs_0 : decode cX12_dirtyPairs 0 = .ok (.aload_n 0, 1) := by decide +kernel
theorem dX12_dirtyPairs_1 : decode cX12_dirtyPairs 1 = .ok (.iload_n 1, 1) := by decide +kernel
theorem dX12_dirtyPairs_2 : decode cX12_dirtyPairs 2 = .ok (.invokevirtual 144, 3) := by decide +kernel
theorem dX12_dirtyPairs_5 : decode cX12_dirtyPairs 5 = .ok (.getfield 168, 3) := by decide +kernel
theorem dX12_dirtyPairs_8 : decode cX12_dirtyPairs 8 = .ok (.ireturn, 1) := by decide +kernel
theorem dX12_queueLength_0 : decode cX12_queueLength 0 = .ok (.aload_n 0, 1) := by decide +kernel
theorem dX12_queueLength_1 : decode cX12_queueLength 1 = .ok (.iload_n 1, 1) := by decide +kernel
theorem dX12_queueLength_2 : decode cX12_queueLength 2 = .ok (.invokevirtual 144, 3) := by decide +kernel
theorem dX12_queueLength_5 : decode cX12_queueLength 5 = .ok (.getfield 171, 3) := by decide +kernel
theorem dX12_queueLength_8 : decode cX12_queueLength 8 = .ok (.ireturn, 1) := by decide +kernel
theorem dX12_queuedOrder_0 : decode cX12_queuedOrder 0 = .ok (.aload_n 0, 1) := by decide +kernel
theorem dX12_queuedOrder_1 : decode cX12_queuedOrder 1 = .ok (.iload_n 1, 1) := by decide +kernel
theorem dX12_queuedOrder_2 : decode cX12_queuedOrder 2 = .ok (.invokevirtual 144, 3) := by decide +kernel
theorem dX12_queuedOrder_5 : decode cX12_queuedOrder 5 = .ok (.iload_n 2, 1) := by decide +kernel
theorem dX12_queuedOrder_6 : decode cX12_queuedOrder 6 = .ok (.invokevirtual 174, 3) := by decide +kernel
theorem dX12_queuedOrder_9 : decode cX12_queuedOrder 9 = .ok (.ireturn, 1) := by decide +kernel
theorem dX12_readyCount_0 : decode cX12_readyCount 0 = .ok (.aload_n 0, 1) := by decide +kernel
theorem dX12_readyCount_1 : decode cX12_readyCount 1 = .ok (.iload_n 1, 1) := by decide +kernel
theorem dX12_readyCount_2 : decode cX12_readyCount 2 = .ok (.invokevirtual 177, 3) := by decide +kernel
theorem dX12_readyCount_5 : decode cX12_readyCount 5 = .ok (.aload_n 0, 1) := by decide +kernel
theorem dX12_readyCount_6 : decode cX12_readyCount 6 = .ok (.getfield 41, 3) := by decide +kernel
theorem dX12_readyCount_9 : decode cX12_readyCount 9 = .ok (.iload_n 1, 1) := by decide +kernel
theorem dX12_readyCount_10 : decode cX12_readyCount 10 = .ok (.invokevirtual 180, 3) := by decide +kernel
theorem dX12_readyCount_13 : decode cX12_readyCount 13 = .ok (.aload_n 0, 1) := by decide +kernel
theorem dX12_readyCount_14 : decode cX12_readyCount 14 = .ok (.iload_n 1, 1) := by decide +kernel
theorem dX12_readyCount_15 : decode cX12_readyCount 15 = .ok (.invokevirtual 144, 3) := by decide +kernel
theorem dX12_readyCount_18 : decode cX12_readyCount 18 = .ok (.getfield 171, 3) := by decide +kernel
theorem dX12_readyCount_21 : decode cX12_readyCount 21 = .ok (.isub, 1) := by decide +kernel
theorem dX12_readyCount_22 : decode cX12_readyCount 22 = .ok (.ireturn, 1) := by decide +kernel
theorem dX12_flourNeeded_0 : decode cX12_flourNeeded 0 = .ok (.aload_n 0, 1) := by decide +kernel
theorem dX12_flourNeeded_1 : decode cX12_flourNeeded 1 = .ok (.getfield 41, 3) := by decide +kernel
theorem dX12_flourNeeded_4 : decode cX12_flourNeeded 4 = .ok (.aload_n 0, 1) := by decide +kernel
theorem dX12_flourNeeded_5 : decode cX12_flourNeeded 5 = .ok (.iload_n 1, 1) := by decide +kernel
theorem dX12_flourNeeded_6 : decode cX12_flourNeeded 6 = .ok (.invokevirtual 144, 3) := by decide +kernel
theorem dX12_flourNeeded_9 : decode cX12_flourNeeded 9 = .ok (.invokevirtual 183, 3) := by decide +kernel
theorem dX12_flourNeeded_12 : decode cX12_flourNeeded 12 = .ok (.ireturn, 1) := by decide +kernel
theorem dX12_orderCount_0 : decode cX12_orderCount 0 = .ok (.aload_n 0, 1) := by decide +kernel
theorem dX12_orderCount_1 : decode cX12_orderCount 1 = .ok (.getfield 41, 3) := by decide +kernel
theorem dX12_orderCount_4 : decode cX12_orderCount 4 = .ok (.getfield 187, 3) := by decide +kernel
theorem dX12_orderCount_7 : decode cX12_orderCount 7 = .ok (.ireturn, 1) := by decide +kernel
theorem dX12_orderPlace_0 : decode cX12_orderPlace 0 = .ok (.aload_n 0, 1) := by decide +kernel
theorem dX12_orderPlace_1 : decode cX12_orderPlace 1 = .ok (.iload_n 1, 1) := by decide +kernel
theorem dX12_orderPlace_2 : decode cX12_orderPlace 2 = .ok (.invokevirtual 190, 3) := by decide +kernel
theorem dX12_orderPlace_5 : decode cX12_orderPlace 5 = .ok (.getfield 194, 3) := by decide +kernel
theorem dX12_orderPlace_8 : decode cX12_orderPlace 8 = .ok (.ireturn, 1) := by decide +kernel
theorem dX12_bowls_0 : decode cX12_bowls 0 = .ok (.aload_n 0, 1) := by decide +kernel
theorem dX12_bowls_1 : decode cX12_bowls 1 = .ok (.iload_n 1, 1) := by decide +kernel
theorem dX12_bowls_2 : decode cX12_bowls 2 = .ok (.invokevirtual 190, 3) := by decide +kernel
theorem dX12_bowls_5 : decode cX12_bowls 5 = .ok (.getfield 197, 3) := by decide +kernel
theorem dX12_bowls_8 : decode cX12_bowls 8 = .ok (.ireturn, 1) := by decide +kernel
theorem dX12_pullsLeft_0 : decode cX12_pullsLeft 0 = .ok (.aload_n 0, 1) := by decide +kernel
theorem dX12_pullsLeft_1 : decode cX12_pullsLeft 1 = .ok (.iload_n 1, 1) := by decide +kernel
theorem dX12_pullsLeft_2 : decode cX12_pullsLeft 2 = .ok (.invokevirtual 190, 3) := by decide +kernel
theorem dX12_pullsLeft_5 : decode cX12_pullsLeft 5 = .ok (.getfield 200, 3) := by decide +kernel
theorem dX12_pullsLeft_8 : decode cX12_pullsLeft 8 = .ok (.ireturn, 1) := by decide +kernel
theorem dX12_deadline_0 : decode cX12_deadline 0 = .ok (.aload_n 0, 1) := by decide +kernel
theorem dX12_deadline_1 : decode cX12_deadline 1 = .ok (.iload_n 1, 1) := by decide +kernel
theorem dX12_deadline_2 : decode cX12_deadline 2 = .ok (.invokevirtual 190, 3) := by decide +kernel
theorem dX12_deadline_5 : decode cX12_deadline 5 = .ok (.getfield 203, 3) := by decide +kernel
theorem dX12_deadline_8 : decode cX12_deadline 8 = .ok (.ireturn, 1) := by decide +kernel
theorem dX12_price_0 : decode cX12_price 0 = .ok (.aload_n 0, 1) := by decide +kernel
theorem dX12_price_1 : decode cX12_price 1 = .ok (.iload_n 1, 1) := by decide +kernel
theorem dX12_price_2 : decode cX12_price 2 = .ok (.invokevirtual 190, 3) := by decide +kernel
theorem dX12_price_5 : decode cX12_price 5 = .ok (.invokevirtual 206, 3) := by decide +kernel
theorem dX12_price_8 : decode cX12_price 8 = .ok (.ireturn, 1) := by decide +kernel
theorem dX12_bargeOf_0 : decode cX12_bargeOf 0 = .ok (.aload_n 0, 1) := by decide +kernel
theorem dX12_bargeOf_1 : decode cX12_bargeOf 1 = .ok (.iload_n 1, 1) := by decide +kernel
theorem dX12_bargeOf_2 : decode cX12_bargeOf 2 = .ok (.invokevirtual 190, 3) := by decide +kernel
theorem dX12_bargeOf_5 : decode cX12_bargeOf 5 = .ok (.getfield 209, 3) := by decide +kernel
theorem dX12_bargeOf_8 : decode cX12_bargeOf 8 = .ok (.ireturn, 1) := by decide +kernel
theorem dX12_isOpen_0 : decode cX12_isOpen 0 = .ok (.aload_n 0, 1) := by decide +kernel
theorem dX12_isOpen_1 : decode cX12_isOpen 1 = .ok (.iload_n 1, 1) := by decide +kernel
theorem dX12_isOpen_2 : decode cX12_isOpen 2 = .ok (.invokevirtual 190, 3) := by decide +kernel
theorem dX12_isOpen_5 : decode cX12_isOpen 5 = .ok (.getfield 212, 3) := by decide +kernel
theorem dX12_isOpen_8 : decode cX12_isOpen 8 = .ok (.getstatic 216, 3) := by decide +kernel
theorem dX12_isOpen_11 : decode cX12_isOpen 11 = .ok (.if_acmp .ne 7, 3) := by decide +kernel
theorem dX12_isOpen_14 : decode cX12_isOpen 14 = .ok (.iconst 1, 1) := by decide +kernel
theorem dX12_isOpen_15 : decode cX12_isOpen 15 = .ok (.goto 4, 3) := by decide +kernel
theorem dX12_isOpen_18 : decode cX12_isOpen 18 = .ok (.iconst 0, 1) := by decide +kernel
theorem dX12_isOpen_19 : decode cX12_isOpen 19 = .ok (.ireturn, 1) := by decide +kernel
theorem dX12_isReady_0 : decode cX12_isReady 0 = .ok (.aload_n 0, 1) := by decide +kernel
theorem dX12_isReady_1 : decode cX12_isReady 1 = .ok (.iload_n 1, 1) := by decide +kernel
theorem dX12_isReady_2 : decode cX12_isReady 2 = .ok (.invokevirtual 190, 3) := by decide +kernel
theorem dX12_isReady_5 : decode cX12_isReady 5 = .ok (.getfield 212, 3) := by decide +kernel
theorem dX12_isReady_8 : decode cX12_isReady 8 = .ok (.getstatic 221, 3) := by decide +kernel
theorem dX12_isReady_11 : decode cX12_isReady 11 = .ok (.if_acmp .ne 7, 3) := by decide +kernel
theorem dX12_isReady_14 : decode cX12_isReady 14 = .ok (.iconst 1, 1) := by decide +kernel
theorem dX12_isReady_15 : decode cX12_isReady 15 = .ok (.goto 4, 3) := by decide +kernel
theorem dX12_isReady_18 : decode cX12_isReady 18 = .ok (.iconst 0, 1) := by decide +kernel
theorem dX12_isReady_19 : decode cX12_isReady 19 = .ok (.ireturn, 1) := by decide +kernel
theorem dX12_isEaten_0 : decode cX12_isEaten 0 = .ok (.aload_n 0, 1) := by decide +kernel
theorem dX12_isEaten_1 : decode cX12_isEaten 1 = .ok (.iload_n 1, 1) := by decide +kernel
theorem dX12_isEaten_2 : decode cX12_isEaten 2 = .ok (.invokevirtual 190, 3) := by decide +kernel
theorem dX12_isEaten_5 : decode cX12_isEaten 5 = .ok (.getfield 212, 3) := by decide +kernel
theorem dX12_isEaten_8 : decode cX12_isEaten 8 = .ok (.getstatic 224, 3) := by decide +kernel
theorem dX12_isEaten_11 : decode cX12_isEaten 11 = .ok (.if_acmp .ne 7, 3) := by decide +kernel
theorem dX12_isEaten_14 : decode cX12_isEaten 14 = .ok (.iconst 1, 1) := by decide +kernel
theorem dX12_isEaten_15 : decode cX12_isEaten 15 = .ok (.goto 4, 3) := by decide +kernel
theorem dX12_isEaten_18 : decode cX12_isEaten 18 = .ok (.iconst 0, 1) := by decide +kernel
theorem dX12_isEaten_19 : decode cX12_isEaten 19 = .ok (.ireturn, 1) := by decide +kernel
theorem dX12_mostUrgentOrder_0 : decode cX12_mostUrgentOrder 0 = .ok (.aload_n 0, 1) := by decide +kernel
theorem dX12_mostUrgentOrder_1 : decode cX12_mostUrgentOrder 1 = .ok (.getfield 41, 3) := by decide +kernel
theorem dX12_mostUrgentOrder_4 : decode cX12_mostUrgentOrder 4 = .ok (.invokevirtual 227, 3) := by decide +kernel
theorem dX12_mostUrgentOrder_7 : decode cX12_mostUrgentOrder 7 = .ok (.ireturn, 1) := by decide +kernel
theorem dX12_coins_0 : decode cX12_coins 0 = .ok (.aload_n 0, 1) := by decide +kernel
theorem dX12_coins_1 : decode cX12_coins 1 = .ok (.getfield 41, 3) := by decide +kernel
theorem dX12_coins_4 : decode cX12_coins 4 = .ok (.getfield 230, 3) := by decide +kernel
theorem dX12_coins_7 : decode cX12_coins 7 = .ok (.ireturn, 1) := by decide +kernel
theorem dX12_eatenBowls_0 : decode cX12_eatenBowls 0 = .ok (.aload_n 0, 1) := by decide +kernel
theorem dX12_eatenBowls_1 : decode cX12_eatenBowls 1 = .ok (.getfield 41, 3) := by decide +kernel
theorem dX12_eatenBowls_4 : decode cX12_eatenBowls 4 = .ok (.getfield 233, 3) := by decide +kernel
theorem dX12_eatenBowls_7 : decode cX12_eatenBowls 7 = .ok (.ireturn, 1) := by decide +kernel
theorem dX12_expiredOrders_0 : decode cX12_expiredOrders 0 = .ok (.aload_n 0, 1) := by decide +kernel
theorem dX12_expiredOrders_1 : decode cX12_expiredOrders 1 = .ok (.getfield 41, 3) := by decide +kernel
theorem dX12_expiredOrders_4 : decode cX12_expiredOrders 4 = .ok (.getfield 236, 3) := by decide +kernel
theorem dX12_expiredOrders_7 : decode cX12_expiredOrders 7 = .ok (.ireturn, 1) := by decide +kernel
theorem dX12_eatenShare_0 : decode cX12_eatenShare 0 = .ok (.aload_n 0, 1) := by decide +kernel
theorem dX12_eatenShare_1 : decode cX12_eatenShare 1 = .ok (.getfield 41, 3) := by decide +kernel
theorem dX12_eatenShare_4 : decode cX12_eatenShare 4 = .ok (.getfield 242, 3) := by decide +kernel
theorem dX12_eatenShare_7 : decode cX12_eatenShare 7 = .ok (.aload_n 0, 1) := by decide +kernel
theorem dX12_eatenShare_8 : decode cX12_eatenShare 8 = .ok (.getfield 41, 3) := by decide +kernel
theorem dX12_eatenShare_11 : decode cX12_eatenShare 11 = .ok (.getfield 236, 3) := by decide +kernel
theorem dX12_eatenShare_14 : decode cX12_eatenShare 14 = .ok (.iadd, 1) := by decide +kernel
theorem dX12_eatenShare_15 : decode cX12_eatenShare 15 = .ok (.istore_n 1, 1) := by decide +kernel
theorem dX12_eatenShare_16 : decode cX12_eatenShare 16 = .ok (.iload_n 1, 1) := by decide +kernel
theorem dX12_eatenShare_17 : decode cX12_eatenShare 17 = .ok (.iconst 1, 1) := by decide +kernel
theorem dX12_eatenShare_18 : decode cX12_eatenShare 18 = .ok (.if_icmp .ge 5, 3) := by decide +kernel
theorem dX12_eatenShare_21 : decode cX12_eatenShare 21 = .ok (.fconst 0, 1) := by decide +kernel
theorem dX12_eatenShare_22 : decode cX12_eatenShare 22 = .ok (.freturn, 1) := by decide +kernel
theorem dX12_eatenShare_23 : decode cX12_eatenShare 23 = .ok (.aload_n 0, 1) := by decide +kernel
theorem dX12_eatenShare_24 : decode cX12_eatenShare 24 = .ok (.getfield 41, 3) := by decide +kernel
theorem dX12_eatenShare_27 : decode cX12_eatenShare 27 = .ok (.getfield 242, 3) := by decide +kernel
theorem dX12_eatenShare_30 : decode cX12_eatenShare 30 = .ok (.i2f, 1) := by decide +kernel
theorem dX12_eatenShare_31 : decode cX12_eatenShare 31 = .ok (.iload_n 1, 1) := by decide +kernel
theorem dX12_eatenShare_32 : decode cX12_eatenShare 32 = .ok (.i2f, 1) := by decide +kernel
theorem dX12_eatenShare_33 : decode cX12_eatenShare 33 = .ok (.fdiv, 1) := by decide +kernel
theorem dX12_eatenShare_34 : decode cX12_eatenShare 34 = .ok (.freturn, 1) := by decide +kernel
theorem dX12_gap_0 : decode cX12_gap 0 = .ok (.aload_n 0, 1) := by decide +kernel
theorem dX12_gap_1 : decode cX12_gap 1 = .ok (.getfield 41, 3) := by decide +kernel
theorem dX12_gap_4 : decode cX12_gap 4 = .ok (.invokevirtual 245, 3) := by decide +kernel
theorem dX12_gap_7 : decode cX12_gap 7 = .ok (.aload_n 0, 1) := by decide +kernel
theorem dX12_gap_8 : decode cX12_gap 8 = .ok (.getfield 41, 3) := by decide +kernel
theorem dX12_gap_11 : decode cX12_gap 11 = .ok (.invokevirtual 248, 3) := by decide +kernel
theorem dX12_gap_14 : decode cX12_gap 14 = .ok (.iadd, 1) := by decide +kernel
theorem dX12_gap_15 : decode cX12_gap 15 = .ok (.ireturn, 1) := by decide +kernel
theorem dX12_sailObstacle_0 : decode cX12_sailObstacle 0 = .ok (.aload_n 0, 1) := by decide +kernel
theorem dX12_sailObstacle_1 : decode cX12_sailObstacle 1 = .ok (.iload_n 1, 1) := by decide +kernel
theorem dX12_sailObstacle_2 : decode cX12_sailObstacle 2 = .ok (.invokevirtual 177, 3) := by decide +kernel
theorem dX12_sailObstacle_5 : decode cX12_sailObstacle 5 = .ok (.aload_n 0, 1) := by decide +kernel
theorem dX12_sailObstacle_6 : decode cX12_sailObstacle 6 = .ok (.iload_n 2, 1) := by decide +kernel
theorem dX12_sailObstacle_7 : decode cX12_sailObstacle 7 = .ok (.invokevirtual 130, 3) := by decide +kernel
theorem dX12_sailObstacle_10 : decode cX12_sailObstacle 10 = .ok (.aload_n 0, 1) := by decide +kernel
theorem dX12_sailObstacle_11 : decode cX12_sailObstacle 11 = .ok (.getfield 41, 3) := by decide +kernel
theorem dX12_sailObstacle_14 : decode cX12_sailObstacle 14 = .ok (.iload_n 1, 1) := by decide +kernel
theorem dX12_sailObstacle_15 : decode cX12_sailObstacle 15 = .ok (.iload_n 2, 1) := by decide +kernel
theorem dX12_sailObstacle_16 : decode cX12_sailObstacle 16 = .ok (.invokevirtual 251, 3) := by decide +kernel
theorem dX12_sailObstacle_19 : decode cX12_sailObstacle 19 = .ok (.ireturn, 1) := by decide +kernel
theorem dX12_journeyTime_0 : decode cX12_journeyTime 0 = .ok (.aload_n 0, 1) := by decide +kernel
theorem dX12_journeyTime_1 : decode cX12_journeyTime 1 = .ok (.iload_n 1, 1) := by decide +kernel
theorem dX12_journeyTime_2 : decode cX12_journeyTime 2 = .ok (.invokevirtual 130, 3) := by decide +kernel
theorem dX12_journeyTime_5 : decode cX12_journeyTime 5 = .ok (.aload_n 0, 1) := by decide +kernel
theorem dX12_journeyTime_6 : decode cX12_journeyTime 6 = .ok (.iload_n 2, 1) := by decide +kernel
theorem dX12_journeyTime_7 : decode cX12_journeyTime 7 = .ok (.invokevirtual 130, 3) := by decide +kernel
theorem dX12_journeyTime_10 : decode cX12_journeyTime 10 = .ok (.aload_n 0, 1) := by decide +kernel
theorem dX12_journeyTime_11 : decode cX12_journeyTime 11 = .ok (.getfield 41, 3) := by decide +kernel
theorem dX12_journeyTime_14 : decode cX12_journeyTime 14 = .ok (.iload_n 1, 1) := by decide +kernel
theorem dX12_journeyTime_15 : decode cX12_journeyTime 15 = .ok (.iload_n 2, 1) := by decide +kernel
theorem dX12_journeyTime_16 : decode cX12_journeyTime 16 = .ok (.invokevirtual 255, 3) := by decide +kernel
theorem dX12_journeyTime_19 : decode cX12_journeyTime 19 = .ok (.ireturn, 1) := by decide +kernel
theorem dX12_minutesToTarget_0 : decode cX12_minutesToTarget 0 = .ok (.aload_n 0, 1) := by decide +kernel
theorem dX12_minutesToTarget_1 : decode cX12_minutesToTarget 1 = .ok (.iload_n 1, 1) := by decide +kernel
theorem dX12_minutesToTarget_2 : decode cX12_minutesToTarget 2 = .ok (.invokevirtual 177, 3) := by decide +kernel
theorem dX12_minutesToTarget_5 : decode cX12_minutesToTarget 5 = .ok (.aload_n 0, 1) := by decide +kernel
theorem dX12_minutesToTarget_6 : decode cX12_minutesToTarget 6 = .ok (.getfield 44, 3) := by decide +kernel
theorem dX12_minutesToTarget_9 : decode cX12_minutesToTarget 9 = .ok (.aload_n 0, 1) := by decide +kernel
theorem dX12_minutesToTarget_10 : decode cX12_minutesToTarget 10 = .ok (.getfield 41, 3) := by decide +kernel
theorem dX12_minutesToTarget_13 : decode cX12_minutesToTarget 13 = .ok (.invokevirtual 258, 3) := by decide +kernel
theorem dX12_minutesToTarget_16 : decode cX12_minutesToTarget 16 = .ok (.iconst 0, 1) := by decide +kernel
theorem dX12_minutesToTarget_17 : decode cX12_minutesToTarget 17 = .ok (.istore_n 2, 1) := by decide +kernel
theorem dX12_minutesToTarget_18 : decode cX12_minutesToTarget 18 = .ok (.iload_n 2, 1) := by decide +kernel
theorem dX12_minutesToTarget_19 : decode cX12_minutesToTarget 19 = .ok (.sipush 200, 3) := by decide +kernel
theorem dX12_minutesToTarget_22 : decode cX12_minutesToTarget 22 = .ok (.if_icmp .gt 30, 3) := by decide +kernel
theorem dX12_minutesToTarget_25 : decode cX12_minutesToTarget 25 = .ok (.aload_n 0, 1) := by decide +kernel
theorem dX12_minutesToTarget_26 : decode cX12_minutesToTarget 26 = .ok (.getfield 44, 3) := by decide +kernel
theorem dX12_minutesToTarget_29 : decode cX12_minutesToTarget 29 = .ok (.iload_n 1, 1) := by decide +kernel
theorem dX12_minutesToTarget_30 : decode cX12_minutesToTarget 30 = .ok (.invokevirtual 262, 3) := by decide +kernel
theorem dX12_minutesToTarget_33 : decode cX12_minutesToTarget 33 = .ok (.ifCond .ne 5, 3) := by decide +kernel
theorem dX12_minutesToTarget_36 : decode cX12_minutesToTarget 36 = .ok (.iload_n 2, 1) := by decide +kernel
theorem dX12_minutesToTarget_37 : decode cX12_minutesToTarget 37 = .ok (.ireturn, 1) := by decide +kernel
theorem dX12_minutesToTarget_38 : decode cX12_minutesToTarget 38 = .ok (.aload_n 0, 1) := by decide +kernel
theorem dX12_minutesToTarget_39 : decode cX12_minutesToTarget 39 = .ok (.getfield 44, 3) := by decide +kernel
theorem dX12_minutesToTarget_42 : decode cX12_minutesToTarget 42 = .ok (.iconst 1, 1) := by decide +kernel
theorem dX12_minutesToTarget_43 : decode cX12_minutesToTarget 43 = .ok (.invokevirtual 265, 3) := by decide +kernel
theorem dX12_minutesToTarget_46 : decode cX12_minutesToTarget 46 = .ok (.iinc 2 1, 3) := by decide +kernel
theorem dX12_minutesToTarget_49 : decode cX12_minutesToTarget 49 = .ok (.goto (-31), 3) := by decide +kernel
theorem dX12_minutesToTarget_52 : decode cX12_minutesToTarget 52 = .ok (.iconst (-1), 1) := by decide +kernel
theorem dX12_minutesToTarget_53 : decode cX12_minutesToTarget 53 = .ok (.ireturn, 1) := by decide +kernel
theorem dX12_willBeEaten_0 : decode cX12_willBeEaten 0 = .ok (.aload_n 0, 1) := by decide +kernel
theorem dX12_willBeEaten_1 : decode cX12_willBeEaten 1 = .ok (.iload_n 1, 1) := by decide +kernel
theorem dX12_willBeEaten_2 : decode cX12_willBeEaten 2 = .ok (.invokevirtual 268, 3) := by decide +kernel
theorem dX12_willBeEaten_5 : decode cX12_willBeEaten 5 = .ok (.aload_n 0, 1) := by decide +kernel
theorem dX12_willBeEaten_6 : decode cX12_willBeEaten 6 = .ok (.getfield 44, 3) := by decide +kernel
theorem dX12_willBeEaten_9 : decode cX12_willBeEaten 9 = .ok (.aload_n 0, 1) := by decide +kernel
theorem dX12_willBeEaten_10 : decode cX12_willBeEaten 10 = .ok (.getfield 41, 3) := by decide +kernel
theorem dX12_willBeEaten_13 : decode cX12_willBeEaten 13 = .ok (.invokevirtual 258, 3) := by decide +kernel
theorem dX12_willBeEaten_16 : decode cX12_willBeEaten 16 = .ok (.aload_n 0, 1) := by decide +kernel
theorem dX12_willBeEaten_17 : decode cX12_willBeEaten 17 = .ok (.getfield 44, 3) := by decide +kernel
theorem dX12_willBeEaten_20 : decode cX12_willBeEaten 20 = .ok (.sipush 200, 3) := by decide +kernel
theorem dX12_willBeEaten_23 : decode cX12_willBeEaten 23 = .ok (.invokevirtual 265, 3) := by decide +kernel
theorem dX12_willBeEaten_26 : decode cX12_willBeEaten 26 = .ok (.aload_n 0, 1) := by decide +kernel
theorem dX12_willBeEaten_27 : decode cX12_willBeEaten 27 = .ok (.getfield 44, 3) := by decide +kernel
theorem dX12_willBeEaten_30 : decode cX12_willBeEaten 30 = .ok (.iload_n 1, 1) := by decide +kernel
theorem dX12_willBeEaten_31 : decode cX12_willBeEaten 31 = .ok (.invokevirtual 271, 3) := by decide +kernel
theorem dX12_willBeEaten_34 : decode cX12_willBeEaten 34 = .ok (.ireturn, 1) := by decide +kernel
theorem dX12_coinsAfter_0 : decode cX12_coinsAfter 0 = .ok (.iload_n 1, 1) := by decide +kernel
theorem dX12_coinsAfter_1 : decode cX12_coinsAfter 1 = .ok (.iconst 0, 1) := by decide +kernel
theorem dX12_coinsAfter_2 : decode cX12_coinsAfter 2 = .ok (.sipush 200, 3) := by decide +kernel
theorem dX12_coinsAfter_5 : decode cX12_coinsAfter 5 = .ok (.invokestatic 274, 3) := by decide +kernel
theorem dX12_coinsAfter_8 : decode cX12_coinsAfter 8 = .ok (.aload_n 0, 1) := by decide +kernel
theorem dX12_coinsAfter_9 : decode cX12_coinsAfter 9 = .ok (.getfield 44, 3) := by decide +kernel
theorem dX12_coinsAfter_12 : decode cX12_coinsAfter 12 = .ok (.aload_n 0, 1) := by decide +kernel
theorem dX12_coinsAfter_13 : decode cX12_coinsAfter 13 = .ok (.getfield 41, 3) := by decide +kernel
theorem dX12_coinsAfter_16 : decode cX12_coinsAfter 16 = .ok (.invokevirtual 258, 3) := by decide +kernel
theorem dX12_coinsAfter_19 : decode cX12_coinsAfter 19 = .ok (.aload_n 0, 1) := by decide +kernel
theorem dX12_coinsAfter_20 : decode cX12_coinsAfter 20 = .ok (.getfield 44, 3) := by decide +kernel
theorem dX12_coinsAfter_23 : decode cX12_coinsAfter 23 = .ok (.iload_n 1, 1) := by decide +kernel
theorem dX12_coinsAfter_24 : decode cX12_coinsAfter 24 = .ok (.invokevirtual 265, 3) := by decide +kernel
theorem dX12_coinsAfter_27 : decode cX12_coinsAfter 27 = .ok (.aload_n 0, 1) := by decide +kernel
theorem dX12_coinsAfter_28 : decode cX12_coinsAfter 28 = .ok (.getfield 44, 3) := by decide +kernel
theorem dX12_coinsAfter_31 : decode cX12_coinsAfter 31 = .ok (.getfield 230, 3) := by decide +kernel
theorem dX12_coinsAfter_34 : decode cX12_coinsAfter 34 = .ok (.ireturn, 1) := by decide +kernel
theorem dX12_nearestBarge_0 : decode cX12_nearestBarge 0 = .ok (.aload_n 0, 1) := by decide +kernel
theorem dX12_nearestBarge_1 : decode cX12_nearestBarge 1 = .ok (.getfield 41, 3) := by decide +kernel
theorem dX12_nearestBarge_4 : decode cX12_nearestBarge 4 = .ok (.aload_n 0, 1) := by decide +kernel
theorem dX12_nearestBarge_5 : decode cX12_nearestBarge 5 = .ok (.iload_n 1, 1) := by decide +kernel
theorem dX12_nearestBarge_6 : decode cX12_nearestBarge 6 = .ok (.invokevirtual 190, 3) := by decide +kernel
theorem dX12_nearestBarge_9 : decode cX12_nearestBarge 9 = .ok (.getfield 194, 3) := by decide +kernel
theorem dX12_nearestBarge_12 : decode cX12_nearestBarge 12 = .ok (.invokevirtual 278, 3) := by decide +kernel
theorem dX12_nearestBarge_15 : decode cX12_nearestBarge 15 = .ok (.ireturn, 1) := by decide +kernel
theorem dX12_sail_0 : decode cX12_sail 0 = .ok (.aload_n 0, 1) := by decide +kernel
theorem dX12_sail_1 : decode cX12_sail 1 = .ok (.iload_n 1, 1) := by decide +kernel
theorem dX12_sail_2 : decode cX12_sail 2 = .ok (.invokevirtual 177, 3) := by decide +kernel
theorem dX12_sail_5 : decode cX12_sail 5 = .ok (.aload_n 0, 1) := by decide +kernel
theorem dX12_sail_6 : decode cX12_sail 6 = .ok (.iload_n 2, 1) := by decide +kernel
theorem dX12_sail_7 : decode cX12_sail 7 = .ok (.invokevirtual 130, 3) := by decide +kernel
theorem dX12_sail_10 : decode cX12_sail 10 = .ok (.aload_n 0, 1) := by decide +kernel
theorem dX12_sail_11 : decode cX12_sail 11 = .ok (.getfield 41, 3) := by decide +kernel
theorem dX12_sail_14 : decode cX12_sail 14 = .ok (.iload_n 1, 1) := by decide +kernel
theorem dX12_sail_15 : decode cX12_sail 15 = .ok (.iload_n 2, 1) := by decide +kernel
theorem dX12_sail_16 : decode cX12_sail 16 = .ok (.invokevirtual 281, 3) := by decide +kernel
theorem dX12_sail_19 : decode cX12_sail 19 = .ok (.invokestatic 285, 3) := by decide +kernel
theorem dX12_sail_22 : decode cX12_sail 22 = .ok (.aload_n 0, 1) := by decide +kernel
theorem dX12_sail_23 : decode cX12_sail 23 = .ok (.getfield 26, 3) := by decide +kernel
theorem dX12_sail_26 : decode cX12_sail 26 = .ok (.aload_n 0, 1) := by decide +kernel
theorem dX12_sail_27 : decode cX12_sail 27 = .ok (.getfield 41, 3) := by decide +kernel
theorem dX12_sail_30 : decode cX12_sail 30 = .ok (.invokevirtual 289, 3) := by decide +kernel
theorem dX12_sail_33 : decode cX12_sail 33 = .ok (.aload_n 0, 1) := by decide +kernel
theorem dX12_sail_34 : decode cX12_sail 34 = .ok (.getfield 41, 3) := by decide +kernel
theorem dX12_sail_37 : decode cX12_sail 37 = .ok (.iload_n 1, 1) := by decide +kernel
theorem dX12_sail_38 : decode cX12_sail 38 = .ok (.iload_n 2, 1) := by decide +kernel
theorem dX12_sail_39 : decode cX12_sail 39 = .ok (.invokevirtual 292, 3) := by decide +kernel
theorem dX12_sail_42 : decode cX12_sail 42 = .ok (.aload_n 0, 1) := by decide +kernel
theorem dX12_sail_43 : decode cX12_sail 43 = .ok (.getfield 41, 3) := by decide +kernel
theorem dX12_sail_46 : decode cX12_sail 46 = .ok (.aload_n 0, 1) := by decide +kernel
theorem dX12_sail_47 : decode cX12_sail 47 = .ok (.iload_n 1, 1) := by decide +kernel
theorem dX12_sail_48 : decode cX12_sail 48 = .ok (.invokevirtual 144, 3) := by decide +kernel
theorem dX12_sail_51 : decode cX12_sail 51 = .ok (.getfield 148, 3) := by decide +kernel
theorem dX12_sail_54 : decode cX12_sail 54 = .ok (.iload_n 2, 1) := by decide +kernel
theorem dX12_sail_55 : decode cX12_sail 55 = .ok (.invokevirtual 255, 3) := by decide +kernel
theorem dX12_sail_58 : decode cX12_sail 58 = .ok (.ireturn, 1) := by decide +kernel
theorem dX12_makeOrder_0 : decode cX12_makeOrder 0 = .ok (.aload_n 0, 1) := by decide +kernel
theorem dX12_makeOrder_1 : decode cX12_makeOrder 1 = .ok (.iload_n 1, 1) := by decide +kernel
theorem dX12_makeOrder_2 : decode cX12_makeOrder 2 = .ok (.invokevirtual 130, 3) := by decide +kernel
theorem dX12_makeOrder_5 : decode cX12_makeOrder 5 = .ok (.iload_n 2, 1) := by decide +kernel
theorem dX12_makeOrder_6 : decode cX12_makeOrder 6 = .ok (.iconst 1, 1) := by decide +kernel
theorem dX12_makeOrder_7 : decode cX12_makeOrder 7 = .ok (.iconst 4, 1) := by decide +kernel
theorem dX12_makeOrder_8 : decode cX12_makeOrder 8 = .ok (.invokestatic 274, 3) := by decide +kernel
theorem dX12_makeOrder_11 : decode cX12_makeOrder 11 = .ok (.iload_n 3, 1) := by decide +kernel
theorem dX12_makeOrder_12 : decode cX12_makeOrder 12 = .ok (.iconst 1, 1) := by decide +kernel
theorem dX12_makeOrder_13 : decode cX12_makeOrder 13 = .ok (.bipush 6, 2) := by decide +kernel
theorem dX12_makeOrder_15 : decode cX12_makeOrder 15 = .ok (.invokestatic 274, 3) := by decide +kernel
theorem dX12_makeOrder_18 : decode cX12_makeOrder 18 = .ok (.iload 4, 2) := by decide +kernel
theorem dX12_makeOrder_20 : decode cX12_makeOrder 20 = .ok (.iconst 1, 1) := by decide +kernel
theorem dX12_makeOrder_21 : decode cX12_makeOrder 21 = .ok (.sipush 500, 3) := by decide +kernel
theorem dX12_makeOrder_24 : decode cX12_makeOrder 24 = .ok (.invokestatic 274, 3) := by decide +kernel
theorem dX12_makeOrder_27 : decode cX12_makeOrder 27 = .ok (.aload_n 0, 1) := by decide +kernel
theorem dX12_makeOrder_28 : decode cX12_makeOrder 28 = .ok (.getfield 41, 3) := by decide +kernel
theorem dX12_makeOrder_31 : decode cX12_makeOrder 31 = .ok (.iload_n 1, 1) := by decide +kernel
theorem dX12_makeOrder_32 : decode cX12_makeOrder 32 = .ok (.invokevirtual 296, 3) := by decide +kernel
theorem dX12_makeOrder_35 : decode cX12_makeOrder 35 = .ok (.invokestatic 285, 3) := by decide +kernel
theorem dX12_makeOrder_38 : decode cX12_makeOrder 38 = .ok (.aload_n 0, 1) := by decide +kernel
theorem dX12_makeOrder_39 : decode cX12_makeOrder 39 = .ok (.getfield 26, 3) := by decide +kernel
theorem dX12_makeOrder_42 : decode cX12_makeOrder 42 = .ok (.aload_n 0, 1) := by decide +kernel
theorem dX12_makeOrder_43 : decode cX12_makeOrder 43 = .ok (.getfield 41, 3) := by decide +kernel
theorem dX12_makeOrder_46 : decode cX12_makeOrder 46 = .ok (.invokevirtual 289, 3) := by decide +kernel
theorem dX12_makeOrder_49 : decode cX12_makeOrder 49 = .ok (.aload_n 0, 1) := by decide +kernel
theorem dX12_makeOrder_50 : decode cX12_makeOrder 50 = .ok (.getfield 41, 3) := by decide +kernel
theorem dX12_makeOrder_53 : decode cX12_makeOrder 53 = .ok (.iload_n 1, 1) := by decide +kernel
theorem dX12_makeOrder_54 : decode cX12_makeOrder 54 = .ok (.iload_n 2, 1) := by decide +kernel
theorem dX12_makeOrder_55 : decode cX12_makeOrder 55 = .ok (.iload_n 3, 1) := by decide +kernel
theorem dX12_makeOrder_56 : decode cX12_makeOrder 56 = .ok (.iload 4, 2) := by decide +kernel
theorem dX12_makeOrder_58 : decode cX12_makeOrder 58 = .ok (.invokevirtual 299, 3) := by decide +kernel
theorem dX12_makeOrder_61 : decode cX12_makeOrder 61 = .ok (.aload_n 0, 1) := by decide +kernel
theorem dX12_makeOrder_62 : decode cX12_makeOrder 62 = .ok (.getfield 41, 3) := by decide +kernel
theorem dX12_makeOrder_65 : decode cX12_makeOrder 65 = .ok (.getfield 187, 3) := by decide +kernel
theorem dX12_makeOrder_68 : decode cX12_makeOrder 68 = .ok (.iconst 1, 1) := by decide +kernel
theorem dX12_makeOrder_69 : decode cX12_makeOrder 69 = .ok (.isub, 1) := by decide +kernel
theorem dX12_makeOrder_70 : decode cX12_makeOrder 70 = .ok (.ireturn, 1) := by decide +kernel
theorem dX12_take_0 : decode cX12_take 0 = .ok (.aload_n 0, 1) := by decide +kernel
theorem dX12_take_1 : decode cX12_take 1 = .ok (.iload_n 1, 1) := by decide +kernel
theorem dX12_take_2 : decode cX12_take 2 = .ok (.invokevirtual 177, 3) := by decide +kernel
theorem dX12_take_5 : decode cX12_take 5 = .ok (.aload_n 0, 1) := by decide +kernel
theorem dX12_take_6 : decode cX12_take 6 = .ok (.iload_n 2, 1) := by decide +kernel
theorem dX12_take_7 : decode cX12_take 7 = .ok (.invokevirtual 268, 3) := by decide +kernel
theorem dX12_take_10 : decode cX12_take 10 = .ok (.aload_n 0, 1) := by decide +kernel
theorem dX12_take_11 : decode cX12_take 11 = .ok (.getfield 41, 3) := by decide +kernel
theorem dX12_take_14 : decode cX12_take 14 = .ok (.iload_n 1, 1) := by decide +kernel
theorem dX12_take_15 : decode cX12_take 15 = .ok (.iload_n 2, 1) := by decide +kernel
theorem dX12_take_16 : decode cX12_take 16 = .ok (.invokevirtual 303, 3) := by decide +kernel
theorem dX12_take_19 : decode cX12_take 19 = .ok (.invokestatic 285, 3) := by decide +kernel
theorem dX12_take_22 : decode cX12_take 22 = .ok (.aload_n 0, 1) := by decide +kernel
theorem dX12_take_23 : decode cX12_take 23 = .ok (.getfield 26, 3) := by decide +kernel
theorem dX12_take_26 : decode cX12_take 26 = .ok (.aload_n 0, 1) := by decide +kernel
theorem dX12_take_27 : decode cX12_take 27 = .ok (.getfield 41, 3) := by decide +kernel
theorem dX12_take_30 : decode cX12_take 30 = .ok (.invokevirtual 289, 3) := by decide +kernel
theorem dX12_take_33 : decode cX12_take 33 = .ok (.aload_n 0, 1) := by decide +kernel
theorem dX12_take_34 : decode cX12_take 34 = .ok (.getfield 41, 3) := by decide +kernel
theorem dX12_take_37 : decode cX12_take 37 = .ok (.iload_n 1, 1) := by decide +kernel
theorem dX12_take_38 : decode cX12_take 38 = .ok (.iload_n 2, 1) := by decide +kernel
theorem dX12_take_39 : decode cX12_take 39 = .ok (.invokevirtual 306, 3) := by decide +kernel
theorem dX12_take_42 : decode cX12_take 42 = .ok (.aload_n 0, 1) := by decide +kernel
theorem dX12_take_43 : decode cX12_take 43 = .ok (.iload_n 1, 1) := by decide +kernel
theorem dX12_take_44 : decode cX12_take 44 = .ok (.invokevirtual 144, 3) := by decide +kernel
theorem dX12_take_47 : decode cX12_take 47 = .ok (.getfield 171, 3) := by decide +kernel
theorem dX12_take_50 : decode cX12_take 50 = .ok (.ireturn, 1) := by decide +kernel
theorem dX12_drop_0 : decode cX12_drop 0 = .ok (.aload_n 0, 1) := by decide +kernel
theorem dX12_drop_1 : decode cX12_drop 1 = .ok (.iload_n 1, 1) := by decide +kernel
theorem dX12_drop_2 : decode cX12_drop 2 = .ok (.invokevirtual 268, 3) := by decide +kernel
theorem dX12_drop_5 : decode cX12_drop 5 = .ok (.aload_n 0, 1) := by decide +kernel
theorem dX12_drop_6 : decode cX12_drop 6 = .ok (.getfield 41, 3) := by decide +kernel
theorem dX12_drop_9 : decode cX12_drop 9 = .ok (.iload_n 1, 1) := by decide +kernel
theorem dX12_drop_10 : decode cX12_drop 10 = .ok (.invokevirtual 309, 3) := by decide +kernel
theorem dX12_drop_13 : decode cX12_drop 13 = .ok (.invokestatic 285, 3) := by decide +kernel
theorem dX12_drop_16 : decode cX12_drop 16 = .ok (.aload_n 0, 1) := by decide +kernel
theorem dX12_drop_17 : decode cX12_drop 17 = .ok (.getfield 26, 3) := by decide +kernel
theorem dX12_drop_20 : decode cX12_drop 20 = .ok (.aload_n 0, 1) := by decide +kernel
theorem dX12_drop_21 : decode cX12_drop 21 = .ok (.getfield 41, 3) := by decide +kernel
theorem dX12_drop_24 : decode cX12_drop 24 = .ok (.invokevirtual 289, 3) := by decide +kernel
theorem dX12_drop_27 : decode cX12_drop 27 = .ok (.aload_n 0, 1) := by decide +kernel
theorem dX12_drop_28 : decode cX12_drop 28 = .ok (.iload_n 1, 1) := by decide +kernel
theorem dX12_drop_29 : decode cX12_drop 29 = .ok (.invokevirtual 190, 3) := by decide +kernel
theorem dX12_drop_32 : decode cX12_drop 32 = .ok (.getfield 209, 3) := by decide +kernel
theorem dX12_drop_35 : decode cX12_drop 35 = .ok (.istore_n 2, 1) := by decide +kernel
theorem dX12_drop_36 : decode cX12_drop 36 = .ok (.aload_n 0, 1) := by decide +kernel
theorem dX12_drop_37 : decode cX12_drop 37 = .ok (.getfield 41, 3) := by decide +kernel
theorem dX12_drop_40 : decode cX12_drop 40 = .ok (.iload_n 1, 1) := by decide +kernel
theorem dX12_drop_41 : decode cX12_drop 41 = .ok (.invokevirtual 312, 3) := by decide +kernel
theorem dX12_drop_44 : decode cX12_drop 44 = .ok (.iload_n 2, 1) := by decide +kernel
theorem dX12_drop_45 : decode cX12_drop 45 = .ok (.ireturn, 1) := by decide +kernel
theorem dX12_buyFlour_0 : decode cX12_buyFlour 0 = .ok (.aload_n 0, 1) := by decide +kernel
theorem dX12_buyFlour_1 : decode cX12_buyFlour 1 = .ok (.iload_n 1, 1) := by decide +kernel
theorem dX12_buyFlour_2 : decode cX12_buyFlour 2 = .ok (.invokevirtual 177, 3) := by decide +kernel
theorem dX12_buyFlour_5 : decode cX12_buyFlour 5 = .ok (.iload_n 2, 1) := by decide +kernel
theorem dX12_buyFlour_6 : decode cX12_buyFlour 6 = .ok (.iconst 1, 1) := by decide +kernel
theorem dX12_buyFlour_7 : decode cX12_buyFlour 7 = .ok (.bipush 99, 2) := by decide +kernel
theorem dX12_buyFlour_9 : decode cX12_buyFlour 9 = .ok (.invokestatic 274, 3) := by decide +kernel
theorem dX12_buyFlour_12 : decode cX12_buyFlour 12 = .ok (.aload_n 0, 1) := by decide +kernel
theorem dX12_buyFlour_13 : decode cX12_buyFlour 13 = .ok (.getfield 41, 3) := by decide +kernel
theorem dX12_buyFlour_16 : decode cX12_buyFlour 16 = .ok (.iload_n 1, 1) := by decide +kernel
theorem dX12_buyFlour_17 : decode cX12_buyFlour 17 = .ok (.iload_n 2, 1) := by decide +kernel
theorem dX12_buyFlour_18 : decode cX12_buyFlour 18 = .ok (.invokevirtual 315, 3) := by decide +kernel
theorem dX12_buyFlour_21 : decode cX12_buyFlour 21 = .ok (.invokestatic 285, 3) := by decide +kernel
theorem dX12_buyFlour_24 : decode cX12_buyFlour 24 = .ok (.aload_n 0, 1) := by decide +kernel
theorem dX12_buyFlour_25 : decode cX12_buyFlour 25 = .ok (.getfield 26, 3) := by decide +kernel
theorem dX12_buyFlour_28 : decode cX12_buyFlour 28 = .ok (.aload_n 0, 1) := by decide +kernel
theorem dX12_buyFlour_29 : decode cX12_buyFlour 29 = .ok (.getfield 41, 3) := by decide +kernel
theorem dX12_buyFlour_32 : decode cX12_buyFlour 32 = .ok (.invokevirtual 289, 3) := by decide +kernel
theorem dX12_buyFlour_35 : decode cX12_buyFlour 35 = .ok (.aload_n 0, 1) := by decide +kernel
theorem dX12_buyFlour_36 : decode cX12_buyFlour 36 = .ok (.getfield 41, 3) := by decide +kernel
theorem dX12_buyFlour_39 : decode cX12_buyFlour 39 = .ok (.iload_n 1, 1) := by decide +kernel
theorem dX12_buyFlour_40 : decode cX12_buyFlour 40 = .ok (.iload_n 2, 1) := by decide +kernel
theorem dX12_buyFlour_41 : decode cX12_buyFlour 41 = .ok (.invokevirtual 318, 3) := by decide +kernel
theorem dX12_buyFlour_44 : decode cX12_buyFlour 44 = .ok (.aload_n 0, 1) := by decide +kernel
theorem dX12_buyFlour_45 : decode cX12_buyFlour 45 = .ok (.iload_n 1, 1) := by decide +kernel
theorem dX12_buyFlour_46 : decode cX12_buyFlour 46 = .ok (.invokevirtual 144, 3) := by decide +kernel
theorem dX12_buyFlour_49 : decode cX12_buyFlour 49 = .ok (.getfield 162, 3) := by decide +kernel
theorem dX12_buyFlour_52 : decode cX12_buyFlour 52 = .ok (.ireturn, 1) := by decide +kernel
theorem dX12_collect_0 : decode cX12_collect 0 = .ok (.aload_n 0, 1) := by decide +kernel
theorem dX12_collect_1 : decode cX12_collect 1 = .ok (.iload_n 1, 1) := by decide +kernel
theorem dX12_collect_2 : decode cX12_collect 2 = .ok (.invokevirtual 177, 3) := by decide +kernel
theorem dX12_collect_5 : decode cX12_collect 5 = .ok (.aload_n 0, 1) := by decide +kernel
theorem dX12_collect_6 : decode cX12_collect 6 = .ok (.getfield 41, 3) := by decide +kernel
theorem dX12_collect_9 : decode cX12_collect 9 = .ok (.iload_n 1, 1) := by decide +kernel
theorem dX12_collect_10 : decode cX12_collect 10 = .ok (.invokevirtual 321, 3) := by decide +kernel
theorem dX12_collect_13 : decode cX12_collect 13 = .ok (.invokestatic 285, 3) := by decide +kernel
theorem dX12_collect_16 : decode cX12_collect 16 = .ok (.aload_n 0, 1) := by decide +kernel
theorem dX12_collect_17 : decode cX12_collect 17 = .ok (.getfield 26, 3) := by decide +kernel
theorem dX12_collect_20 : decode cX12_collect 20 = .ok (.aload_n 0, 1) := by decide +kernel
theorem dX12_collect_21 : decode cX12_collect 21 = .ok (.getfield 41, 3) := by decide +kernel
theorem dX12_collect_24 : decode cX12_collect 24 = .ok (.invokevirtual 289, 3) := by decide +kernel
theorem dX12_collect_27 : decode cX12_collect 27 = .ok (.aload_n 0, 1) := by decide +kernel
theorem dX12_collect_28 : decode cX12_collect 28 = .ok (.iload_n 1, 1) := by decide +kernel
theorem dX12_collect_29 : decode cX12_collect 29 = .ok (.invokevirtual 144, 3) := by decide +kernel
theorem dX12_collect_32 : decode cX12_collect 32 = .ok (.getfield 168, 3) := by decide +kernel
theorem dX12_collect_35 : decode cX12_collect 35 = .ok (.istore_n 2, 1) := by decide +kernel
theorem dX12_collect_36 : decode cX12_collect 36 = .ok (.aload_n 0, 1) := by decide +kernel
theorem dX12_collect_37 : decode cX12_collect 37 = .ok (.getfield 41, 3) := by decide +kernel
theorem dX12_collect_40 : decode cX12_collect 40 = .ok (.iload_n 1, 1) := by decide +kernel
theorem dX12_collect_41 : decode cX12_collect 41 = .ok (.invokevirtual 324, 3) := by decide +kernel
theorem dX12_collect_44 : decode cX12_collect 44 = .ok (.aload_n 0, 1) := by decide +kernel
theorem dX12_collect_45 : decode cX12_collect 45 = .ok (.iload_n 1, 1) := by decide +kernel
theorem dX12_collect_46 : decode cX12_collect 46 = .ok (.invokevirtual 144, 3) := by decide +kernel
theorem dX12_collect_49 : decode cX12_collect 49 = .ok (.getfield 168, 3) := by decide +kernel
theorem dX12_collect_52 : decode cX12_collect 52 = .ok (.iload_n 2, 1) := by decide +kernel
theorem dX12_collect_53 : decode cX12_collect 53 = .ok (.isub, 1) := by decide +kernel
theorem dX12_collect_54 : decode cX12_collect 54 = .ok (.ireturn, 1) := by decide +kernel
theorem dX12_wash_0 : decode cX12_wash 0 = .ok (.aload_n 0, 1) := by decide +kernel
theorem dX12_wash_1 : decode cX12_wash 1 = .ok (.iload_n 1, 1) := by decide +kernel
theorem dX12_wash_2 : decode cX12_wash 2 = .ok (.invokevirtual 177, 3) := by decide +kernel
theorem dX12_wash_5 : decode cX12_wash 5 = .ok (.aload_n 0, 1) := by decide +kernel
theorem dX12_wash_6 : decode cX12_wash 6 = .ok (.getfield 41, 3) := by decide +kernel
theorem dX12_wash_9 : decode cX12_wash 9 = .ok (.iload_n 1, 1) := by decide +kernel
theorem dX12_wash_10 : decode cX12_wash 10 = .ok (.invokevirtual 327, 3) := by decide +kernel
theorem dX12_wash_13 : decode cX12_wash 13 = .ok (.invokestatic 285, 3) := by decide +kernel
theorem dX12_wash_16 : decode cX12_wash 16 = .ok (.aload_n 0, 1) := by decide +kernel
theorem dX12_wash_17 : decode cX12_wash 17 = .ok (.getfield 26, 3) := by decide +kernel
theorem dX12_wash_20 : decode cX12_wash 20 = .ok (.aload_n 0, 1) := by decide +kernel
theorem dX12_wash_21 : decode cX12_wash 21 = .ok (.getfield 41, 3) := by decide +kernel
theorem dX12_wash_24 : decode cX12_wash 24 = .ok (.invokevirtual 289, 3) := by decide +kernel
theorem dX12_wash_27 : decode cX12_wash 27 = .ok (.aload_n 0, 1) := by decide +kernel
theorem dX12_wash_28 : decode cX12_wash 28 = .ok (.getfield 41, 3) := by decide +kernel
theorem dX12_wash_31 : decode cX12_wash 31 = .ok (.iload_n 1, 1) := by decide +kernel
theorem dX12_wash_32 : decode cX12_wash 32 = .ok (.invokevirtual 330, 3) := by decide +kernel
theorem dX12_wash_35 : decode cX12_wash 35 = .ok (.aload_n 0, 1) := by decide +kernel
theorem dX12_wash_36 : decode cX12_wash 36 = .ok (.iload_n 1, 1) := by decide +kernel
theorem dX12_wash_37 : decode cX12_wash 37 = .ok (.invokevirtual 144, 3) := by decide +kernel
theorem dX12_wash_40 : decode cX12_wash 40 = .ok (.getfield 165, 3) := by decide +kernel
theorem dX12_wash_43 : decode cX12_wash 43 = .ok (.ireturn, 1) := by decide +kernel
theorem dX12_passMinutes_0 : decode cX12_passMinutes 0 = .ok (.iload_n 1, 1) := by decide +kernel
theorem dX12_passMinutes_1 : decode cX12_passMinutes 1 = .ok (.iconst 1, 1) := by decide +kernel
theorem dX12_passMinutes_2 : decode cX12_passMinutes 2 = .ok (.bipush 60, 2) := by decide +kernel
theorem dX12_passMinutes_4 : decode cX12_passMinutes 4 = .ok (.invokestatic 274, 3) := by decide +kernel
theorem dX12_passMinutes_7 : decode cX12_passMinutes 7 = .ok (.aload_n 0, 1) := by decide +kernel
theorem dX12_passMinutes_8 : decode cX12_passMinutes 8 = .ok (.getfield 41, 3) := by decide +kernel
theorem dX12_passMinutes_11 : decode cX12_passMinutes 11 = .ok (.iload_n 1, 1) := by decide +kernel
theorem dX12_passMinutes_12 : decode cX12_passMinutes 12 = .ok (.invokevirtual 332, 3) := by decide +kernel
theorem dX12_passMinutes_15 : decode cX12_passMinutes 15 = .ok (.invokestatic 285, 3) := by decide +kernel
theorem dX12_passMinutes_18 : decode cX12_passMinutes 18 = .ok (.aload_n 0, 1) := by decide +kernel
theorem dX12_passMinutes_19 : decode cX12_passMinutes 19 = .ok (.getfield 26, 3) := by decide +kernel
theorem dX12_passMinutes_22 : decode cX12_passMinutes 22 = .ok (.aload_n 0, 1) := by decide +kernel
theorem dX12_passMinutes_23 : decode cX12_passMinutes 23 = .ok (.getfield 41, 3) := by decide +kernel
theorem dX12_passMinutes_26 : decode cX12_passMinutes 26 = .ok (.invokevirtual 289, 3) := by decide +kernel
theorem dX12_passMinutes_29 : decode cX12_passMinutes 29 = .ok (.aload_n 0, 1) := by decide +kernel
theorem dX12_passMinutes_30 : decode cX12_passMinutes 30 = .ok (.getfield 41, 3) := by decide +kernel
theorem dX12_passMinutes_33 : decode cX12_passMinutes 33 = .ok (.getfield 242, 3) := by decide +kernel
theorem dX12_passMinutes_36 : decode cX12_passMinutes 36 = .ok (.istore_n 2, 1) := by decide +kernel
theorem dX12_passMinutes_37 : decode cX12_passMinutes 37 = .ok (.aload_n 0, 1) := by decide +kernel
theorem dX12_passMinutes_38 : decode cX12_passMinutes 38 = .ok (.getfield 41, 3) := by decide +kernel
theorem dX12_passMinutes_41 : decode cX12_passMinutes 41 = .ok (.iload_n 1, 1) := by decide +kernel
theorem dX12_passMinutes_42 : decode cX12_passMinutes 42 = .ok (.invokevirtual 265, 3) := by decide +kernel
theorem dX12_passMinutes_45 : decode cX12_passMinutes 45 = .ok (.aload_n 0, 1) := by decide +kernel
theorem dX12_passMinutes_46 : decode cX12_passMinutes 46 = .ok (.getfield 41, 3) := by decide +kernel
theorem dX12_passMinutes_49 : decode cX12_passMinutes 49 = .ok (.getfield 242, 3) := by decide +kernel
theorem dX12_passMinutes_52 : decode cX12_passMinutes 52 = .ok (.iload_n 2, 1) := by decide +kernel
theorem dX12_passMinutes_53 : decode cX12_passMinutes 53 = .ok (.isub, 1) := by decide +kernel
theorem dX12_passMinutes_54 : decode cX12_passMinutes 54 = .ok (.ireturn, 1) := by decide +kernel
theorem dX12_writeCanal_0 : decode cX12_writeCanal 0 = .ok (.aload_n 0, 1) := by decide +kernel
theorem dX12_writeCanal_1 : decode cX12_writeCanal 1 = .ok (.iconst 0, 1) := by decide +kernel
theorem dX12_writeCanal_2 : decode cX12_writeCanal 2 = .ok (.putfield 51, 3) := by decide +kernel
theorem dX12_writeCanal_5 : decode cX12_writeCanal 5 = .ok (.iconst 0, 1) := by decide +kernel
theorem dX12_writeCanal_6 : decode cX12_writeCanal 6 = .ok (.istore_n 1, 1) := by decide +kernel
theorem dX12_writeCanal_7 : decode cX12_writeCanal 7 = .ok (.iload_n 1, 1) := by decide +kernel
theorem dX12_writeCanal_8 : decode cX12_writeCanal 8 = .ok (.aload_n 0, 1) := by decide +kernel
theorem dX12_writeCanal_9 : decode cX12_writeCanal 9 = .ok (.getfield 41, 3) := by decide +kernel
theorem dX12_writeCanal_12 : decode cX12_writeCanal 12 = .ok (.getfield 112, 3) := by decide +kernel
theorem dX12_writeCanal_15 : decode cX12_writeCanal 15 = .ok (.if_icmp .ge 39, 3) := by decide +kernel
theorem dX12_writeCanal_18 : decode cX12_writeCanal 18 = .ok (.iload_n 1, 1) := by decide +kernel
theorem dX12_writeCanal_19 : decode cX12_writeCanal 19 = .ok (.ifCond .le 17, 3) := by decide +kernel
theorem dX12_writeCanal_22 : decode cX12_writeCanal 22 = .ok (.aload_n 0, 1) := by decide +kernel
theorem dX12_writeCanal_23 : decode cX12_writeCanal 23 = .ok (.aload_n 0, 1) := by decide +kernel
theorem dX12_writeCanal_24 : decode cX12_writeCanal 24 = .ok (.getfield 41, 3) := by decide +kernel
theorem dX12_writeCanal_27 : decode cX12_writeCanal 27 = .ok (.iload_n 1, 1) := by decide +kernel
theorem dX12_writeCanal_28 : decode cX12_writeCanal 28 = .ok (.iconst 1, 1) := by decide +kernel
theorem dX12_writeCanal_29 : decode cX12_writeCanal 29 = .ok (.isub, 1) := by decide +kernel
theorem dX12_writeCanal_30 : decode cX12_writeCanal 30 = .ok (.invokevirtual 342, 3) := by decide +kernel
theorem dX12_writeCanal_33 : decode cX12_writeCanal 33 = .ok (.invokevirtual 346, 3) := by decide +kernel
theorem dX12_writeCanal_36 : decode cX12_writeCanal 36 = .ok (.aload_n 0, 1) := by decide +kernel
theorem dX12_writeCanal_37 : decode cX12_writeCanal 37 = .ok (.aload_n 0, 1) := by decide +kernel
theorem dX12_writeCanal_38 : decode cX12_writeCanal 38 = .ok (.getfield 41, 3) := by decide +kernel
theorem dX12_writeCanal_41 : decode cX12_writeCanal 41 = .ok (.iload_n 1, 1) := by decide +kernel
theorem dX12_writeCanal_42 : decode cX12_writeCanal 42 = .ok (.invokevirtual 350, 3) := by decide +kernel
theorem dX12_writeCanal_45 : decode cX12_writeCanal 45 = .ok (.invokevirtual 346, 3) := by decide +kernel
theorem dX12_writeCanal_48 : decode cX12_writeCanal 48 = .ok (.iinc 1 1, 3) := by decide +kernel
theorem dX12_writeCanal_51 : decode cX12_writeCanal 51 = .ok (.goto (-44), 3) := by decide +kernel
theorem dX12_writeCanal_54 : decode cX12_writeCanal 54 = .ok (.aload_n 0, 1) := by decide +kernel
theorem dX12_writeCanal_55 : decode cX12_writeCanal 55 = .ok (.getfield 51, 3) := by decide +kernel
theorem dX12_writeCanal_58 : decode cX12_writeCanal 58 = .ok (.ireturn, 1) := by decide +kernel
theorem dX12_undoableCount_0 : decode cX12_undoableCount 0 = .ok (.aload_n 0, 1) := by decide +kernel
theorem dX12_undoableCount_1 : decode cX12_undoableCount 1 = .ok (.getfield 26, 3) := by decide +kernel
theorem dX12_undoableCount_4 : decode cX12_undoableCount 4 = .ok (.getfield 359, 3) := by decide +kernel
theorem dX12_undoableCount_7 : decode cX12_undoableCount 7 = .ok (.ireturn, 1) := by decide +kernel
theorem dX12_undo_0 : decode cX12_undo 0 = .ok (.aload_n 0, 1) := by decide +kernel
theorem dX12_undo_1 : decode cX12_undo 1 = .ok (.getfield 26, 3) := by decide +kernel
theorem dX12_undo_4 : decode cX12_undo 4 = .ok (.getfield 359, 3) := by decide +kernel
theorem dX12_undo_7 : decode cX12_undo 7 = .ok (.ifCond .le 7, 3) := by decide +kernel
theorem dX12_undo_10 : decode cX12_undo 10 = .ok (.iconst 1, 1) := by decide +kernel
theorem dX12_undo_11 : decode cX12_undo 11 = .ok (.goto 4, 3) := by decide +kernel
theorem dX12_undo_14 : decode cX12_undo 14 = .ok (.iconst 0, 1) := by decide +kernel
theorem dX12_undo_15 : decode cX12_undo 15 = .ok (.invokestatic 285, 3) := by decide +kernel
theorem dX12_undo_18 : decode cX12_undo 18 = .ok (.aload_n 0, 1) := by decide +kernel
theorem dX12_undo_19 : decode cX12_undo 19 = .ok (.getfield 26, 3) := by decide +kernel
theorem dX12_undo_22 : decode cX12_undo 22 = .ok (.aload_n 0, 1) := by decide +kernel
theorem dX12_undo_23 : decode cX12_undo 23 = .ok (.getfield 41, 3) := by decide +kernel
theorem dX12_undo_26 : decode cX12_undo 26 = .ok (.invokevirtual 362, 3) := by decide +kernel
theorem dX12_undo_29 : decode cX12_undo 29 = .ok (.aload_n 0, 1) := by decide +kernel
theorem dX12_undo_30 : decode cX12_undo 30 = .ok (.getfield 26, 3) := by decide +kernel
theorem dX12_undo_33 : decode cX12_undo 33 = .ok (.getfield 359, 3) := by decide +kernel
theorem dX12_undo_36 : decode cX12_undo 36 = .ok (.ireturn, 1) := by decide +kernel
theorem dX12_saveSnapshot_0 : decode cX12_saveSnapshot 0 = .ok (.aload_n 0, 1) := by decide +kernel
theorem dX12_saveSnapshot_1 : decode cX12_saveSnapshot 1 = .ok (.getfield 33, 3) := by decide +kernel
theorem dX12_saveSnapshot_4 : decode cX12_saveSnapshot 4 = .ok (.aload_n 0, 1) := by decide +kernel
theorem dX12_saveSnapshot_5 : decode cX12_saveSnapshot 5 = .ok (.getfield 41, 3) := by decide +kernel
theorem dX12_saveSnapshot_8 : decode cX12_saveSnapshot 8 = .ok (.invokevirtual 258, 3) := by decide +kernel
theorem dX12_saveSnapshot_11 : decode cX12_saveSnapshot 11 = .ok (.aload_n 0, 1) := by decide +kernel
theorem dX12_saveSnapshot_12 : decode cX12_saveSnapshot 12 = .ok (.iconst 1, 1) := by decide +kernel
theorem dX12_saveSnapshot_13 : decode cX12_saveSnapshot 13 = .ok (.putfield 37, 3) := by decide +kernel
theorem dX12_saveSnapshot_16 : decode cX12_saveSnapshot 16 = .ok (.return_, 1) := by decide +kernel
theorem dX12_restoreSnapshot_0 : decode cX12_restoreSnapshot 0 = .ok (.aload_n 0, 1) := by decide +kernel
theorem dX12_restoreSnapshot_1 : decode cX12_restoreSnapshot 1 = .ok (.getfield 37, 3) := by decide +kernel
theorem dX12_restoreSnapshot_4 : decode cX12_restoreSnapshot 4 = .ok (.invokestatic 285, 3) := by decide +kernel
theorem dX12_restoreSnapshot_7 : decode cX12_restoreSnapshot 7 = .ok (.aload_n 0, 1) := by decide +kernel
theorem dX12_restoreSnapshot_8 : decode cX12_restoreSnapshot 8 = .ok (.getfield 41, 3) := by decide +kernel
theorem dX12_restoreSnapshot_11 : decode cX12_restoreSnapshot 11 = .ok (.aload_n 0, 1) := by decide +kernel
theorem dX12_restoreSnapshot_12 : decode cX12_restoreSnapshot 12 = .ok (.getfield 33, 3) := by decide +kernel
theorem dX12_restoreSnapshot_15 : decode cX12_restoreSnapshot 15 = .ok (.invokevirtual 258, 3) := by decide +kernel
theorem dX12_restoreSnapshot_18 : decode cX12_restoreSnapshot 18 = .ok (.aload_n 0, 1) := by decide +kernel
theorem dX12_restoreSnapshot_19 : decode cX12_restoreSnapshot 19 = .ok (.getfield 26, 3) := by decide +kernel
theorem dX12_restoreSnapshot_22 : decode cX12_restoreSnapshot 22 = .ok (.invokevirtual 97, 3) := by decide +kernel
theorem dX12_restoreSnapshot_25 : decode cX12_restoreSnapshot 25 = .ok (.aload_n 0, 1) := by decide +kernel
theorem dX12_restoreSnapshot_26 : decode cX12_restoreSnapshot 26 = .ok (.getfield 41, 3) := by decide +kernel
theorem dX12_restoreSnapshot_29 : decode cX12_restoreSnapshot 29 = .ok (.getfield 109, 3) := by decide +kernel
theorem dX12_restoreSnapshot_32 : decode cX12_restoreSnapshot 32 = .ok (.ireturn, 1) := by decide +kernel
theorem dX12_writeSign_0 : decode cX12_writeSign 0 = .ok (.aload_n 0, 1) := by decide +kernel
theorem dX12_writeSign_1 : decode cX12_writeSign 1 = .ok (.getfield 51, 3) := by decide +kernel
theorem dX12_writeSign_4 : decode cX12_writeSign 4 = .ok (.aload_n 0, 1) := by decide +kernel
theorem dX12_writeSign_5 : decode cX12_writeSign 5 = .ok (.getfield 47, 3) := by decide +kernel
theorem dX12_writeSign_8 : decode cX12_writeSign 8 = .ok (.arraylength, 1) := by decide +kernel
theorem dX12_writeSign_9 : decode cX12_writeSign 9 = .ok (.if_icmp .ge 24, 3) := by decide +kernel
theorem dX12_writeSign_12 : decode cX12_writeSign 12 = .ok (.aload_n 0, 1) := by decide +kernel
theorem dX12_writeSign_13 : decode cX12_writeSign 13 = .ok (.getfield 47, 3) := by decide +kernel
theorem dX12_writeSign_16 : decode cX12_writeSign 16 = .ok (.aload_n 0, 1) := by decide +kernel
theorem dX12_writeSign_17 : decode cX12_writeSign 17 = .ok (.getfield 51, 3) := by decide +kernel
theorem dX12_writeSign_20 : decode cX12_writeSign 20 = .ok (.iload_n 1, 1) := by decide +kernel
theorem dX12_writeSign_21 : decode cX12_writeSign 21 = .ok (.i2b, 1) := by decide +kernel
theorem dX12_writeSign_22 : decode cX12_writeSign 22 = .ok (.bastore, 1) := by decide +kernel
theorem dX12_writeSign_23 : decode cX12_writeSign 23 = .ok (.aload_n 0, 1) := by decide +kernel
theorem dX12_writeSign_24 : decode cX12_writeSign 24 = .ok (.dup, 1) := by decide +kernel
theorem dX12_writeSign_25 : decode cX12_writeSign 25 = .ok (.getfield 51, 3) := by decide +kernel
theorem dX12_writeSign_28 : decode cX12_writeSign 28 = .ok (.iconst 1, 1) := by decide +kernel
theorem dX12_writeSign_29 : decode cX12_writeSign 29 = .ok (.iadd, 1) := by decide +kernel
theorem dX12_writeSign_30 : decode cX12_writeSign 30 = .ok (.putfield 51, 3) := by decide +kernel
theorem dX12_writeSign_33 : decode cX12_writeSign 33 = .ok (.return_, 1) := by decide +kernel
theorem dX12_sectionAt_0 : decode cX12_sectionAt 0 = .ok (.aload_n 0, 1) := by decide +kernel
theorem dX12_sectionAt_1 : decode cX12_sectionAt 1 = .ok (.getfield 41, 3) := by decide +kernel
theorem dX12_sectionAt_4 : decode cX12_sectionAt 4 = .ok (.iload_n 1, 1) := by decide +kernel
theorem dX12_sectionAt_5 : decode cX12_sectionAt 5 = .ok (.invokevirtual 365, 3) := by decide +kernel
theorem dX12_sectionAt_8 : decode cX12_sectionAt 8 = .ok (.ifCond .ne 14, 3) := by decide +kernel
theorem dX12_sectionAt_11 : decode cX12_sectionAt 11 = .ok (.new 353, 3) := by decide +kernel
theorem dX12_sectionAt_14 : decode cX12_sectionAt 14 = .ok (.dup, 1) := by decide +kernel
theorem dX12_sectionAt_15 : decode cX12_sectionAt 15 = .ok (.ldc_w 368, 3) := by decide +kernel
theorem dX12_sectionAt_18 : decode cX12_sectionAt 18 = .ok (.invokespecial 357, 3) := by decide +kernel
theorem dX12_sectionAt_21 : decode cX12_sectionAt 21 = .ok (.athrow, 1) := by decide +kernel
theorem dX12_sectionAt_22 : decode cX12_sectionAt 22 = .ok (.aload_n 0, 1) := by decide +kernel
theorem dX12_sectionAt_23 : decode cX12_sectionAt 23 = .ok (.getfield 41, 3) := by decide +kernel
theorem dX12_sectionAt_26 : decode cX12_sectionAt 26 = .ok (.getfield 370, 3) := by decide +kernel
theorem dX12_sectionAt_29 : decode cX12_sectionAt 29 = .ok (.iload_n 1, 1) := by decide +kernel
theorem dX12_sectionAt_30 : decode cX12_sectionAt 30 = .ok (.aaload, 1) := by decide +kernel
theorem dX12_sectionAt_31 : decode cX12_sectionAt 31 = .ok (.areturn, 1) := by decide +kernel
theorem dX12_bargeAt_0 : decode cX12_bargeAt 0 = .ok (.aload_n 0, 1) := by decide +kernel
theorem dX12_bargeAt_1 : decode cX12_bargeAt 1 = .ok (.iload_n 1, 1) := by decide +kernel
theorem dX12_bargeAt_2 : decode cX12_bargeAt 2 = .ok (.invokevirtual 177, 3) := by decide +kernel
theorem dX12_bargeAt_5 : decode cX12_bargeAt 5 = .ok (.aload_n 0, 1) := by decide +kernel
theorem dX12_bargeAt_6 : decode cX12_bargeAt 6 = .ok (.getfield 41, 3) := by decide +kernel
theorem dX12_bargeAt_9 : decode cX12_bargeAt 9 = .ok (.getfield 374, 3) := by decide +kernel
theorem dX12_bargeAt_12 : decode cX12_bargeAt 12 = .ok (.iload_n 1, 1) := by decide +kernel
theorem dX12_bargeAt_13 : decode cX12_bargeAt 13 = .ok (.aaload, 1) := by decide +kernel
theorem dX12_bargeAt_14 : decode cX12_bargeAt 14 = .ok (.areturn, 1) := by decide +kernel
theorem dX12_orderAt_0 : decode cX12_orderAt 0 = .ok (.aload_n 0, 1) := by decide +kernel
theorem dX12_orderAt_1 : decode cX12_orderAt 1 = .ok (.iload_n 1, 1) := by decide +kernel
theorem dX12_orderAt_2 : decode cX12_orderAt 2 = .ok (.invokevirtual 268, 3) := by decide +kernel
theorem dX12_orderAt_5 : decode cX12_orderAt 5 = .ok (.aload_n 0, 1) := by decide +kernel
theorem dX12_orderAt_6 : decode cX12_orderAt 6 = .ok (.getfield 41, 3) := by decide +kernel
theorem dX12_orderAt_9 : decode cX12_orderAt 9 = .ok (.getfield 378, 3) := by decide +kernel
theorem dX12_orderAt_12 : decode cX12_orderAt 12 = .ok (.iload_n 1, 1) := by decide +kernel
theorem dX12_orderAt_13 : decode cX12_orderAt 13 = .ok (.aaload, 1) := by decide +kernel
theorem dX12_orderAt_14 : decode cX12_orderAt 14 = .ok (.areturn, 1) := by decide +kernel
theorem dX12_requirePlace_0 : decode cX12_requirePlace 0 = .ok (.aload_n 0, 1) := by decide +kernel
theorem dX12_requirePlace_1 : decode cX12_requirePlace 1 = .ok (.getfield 41, 3) := by decide +kernel
theorem dX12_requirePlace_4 : decode cX12_requirePlace 4 = .ok (.iload_n 1, 1) := by decide +kernel
theorem dX12_requirePlace_5 : decode cX12_requirePlace 5 = .ok (.invokevirtual 382, 3) := by decide +kernel
theorem dX12_requirePlace_8 : decode cX12_requirePlace 8 = .ok (.ifCond .ne 14, 3) := by decide +kernel
theorem dX12_requirePlace_11 : decode cX12_requirePlace 11 = .ok (.new 353, 3) := by decide +kernel
theorem dX12_requirePlace_14 : decode cX12_requirePlace 14 = .ok (.dup, 1) := by decide +kernel
theorem dX12_requirePlace_15 : decode cX12_requirePlace 15 = .ok (.ldc_w 385, 3) := by decide +kernel
theorem dX12_requirePlace_18 : decode cX12_requirePlace 18 = .ok (.invokespecial 357, 3) := by decide +kernel
theorem dX12_requirePlace_21 : decode cX12_requirePlace 21 = .ok (.athrow, 1) := by decide +kernel
theorem dX12_requirePlace_22 : decode cX12_requirePlace 22 = .ok (.return_, 1) := by decide +kernel
theorem dX12_requireBarge_0 : decode cX12_requireBarge 0 = .ok (.aload_n 0, 1) := by decide +kernel
theorem dX12_requireBarge_1 : decode cX12_requireBarge 1 = .ok (.getfield 41, 3) := by decide +kernel
theorem dX12_requireBarge_4 : decode cX12_requireBarge 4 = .ok (.iload_n 1, 1) := by decide +kernel
theorem dX12_requireBarge_5 : decode cX12_requireBarge 5 = .ok (.invokevirtual 387, 3) := by decide +kernel
theorem dX12_requireBarge_8 : decode cX12_requireBarge 8 = .ok (.ifCond .ne 14, 3) := by decide +kernel
theorem dX12_requireBarge_11 : decode cX12_requireBarge 11 = .ok (.new 353, 3) := by decide +kernel
theorem dX12_requireBarge_14 : decode cX12_requireBarge 14 = .ok (.dup, 1) := by decide +kernel
theorem dX12_requireBarge_15 : decode cX12_requireBarge 15 = .ok (.ldc_w 390, 3) := by decide +kernel
theorem dX12_requireBarge_18 : decode cX12_requireBarge 18 = .ok (.invokespecial 357, 3) := by decide +kernel
theorem dX12_requireBarge_21 : decode cX12_requireBarge 21 = .ok (.athrow, 1) := by decide +kernel
theorem dX12_requireBarge_22 : decode cX12_requireBarge 22 = .ok (.return_, 1) := by decide +kernel
theorem dX12_requireOrder_0 : decode cX12_requireOrder 0 = .ok (.aload_n 0, 1) := by decide +kernel
theorem dX12_requireOrder_1 : decode cX12_requireOrder 1 = .ok (.getfield 41, 3) := by decide +kernel
theorem dX12_requireOrder_4 : decode cX12_requireOrder 4 = .ok (.iload_n 1, 1) := by decide +kernel
theorem dX12_requireOrder_5 : decode cX12_requireOrder 5 = .ok (.invokevirtual 392, 3) := by decide +kernel
theorem dX12_requireOrder_8 : decode cX12_requireOrder 8 = .ok (.ifCond .ne 14, 3) := by decide +kernel
theorem dX12_requireOrder_11 : decode cX12_requireOrder 11 = .ok (.new 353, 3) := by decide +kernel
theorem dX12_requireOrder_14 : decode cX12_requireOrder 14 = .ok (.dup, 1) := by decide +kernel
theorem dX12_requireOrder_15 : decode cX12_requireOrder 15 = .ok (.ldc_w 395, 3) := by decide +kernel
theorem dX12_requireOrder_18 : decode cX12_requireOrder 18 = .ok (.invokespecial 357, 3) := by decide +kernel
theorem dX12_requireOrder_21 : decode cX12_requireOrder 21 = .ok (.athrow, 1) := by decide +kernel
theorem dX12_requireOrder_22 : decode cX12_requireOrder 22 = .ok (.return_, 1) := by decide +kernel
theorem dX12_requireText_0 : decode cX12_requireText 0 = .ok (.iload_n 1, 1) := by decide +kernel
theorem dX12_requireText_1 : decode cX12_requireText 1 = .ok (.ifCond .lt 14, 3) := by decide +kernel
theorem dX12_requireText_4 : decode cX12_requireText 4 = .ok (.iload_n 1, 1) := by decide +kernel
theorem dX12_requireText_5 : decode cX12_requireText 5 = .ok (.aload_n 0, 1) := by decide +kernel
theorem dX12_requireText_6 : decode cX12_requireText 6 = .ok (.getfield 10, 3) := by decide +kernel
theorem dX12_requireText_9 : decode cX12_requireText 9 = .ok (.getfield 87, 3) := by decide +kernel
theorem dX12_requireText_12 : decode cX12_requireText 12 = .ok (.if_icmp .le 14, 3) := by decide +kernel
theorem dX12_requireText_15 : decode cX12_requireText 15 = .ok (.new 397, 3) := by decide +kernel
theorem dX12_requireText_18 : decode cX12_requireText 18 = .ok (.dup, 1) := by decide +kernel
theorem dX12_requireText_19 : decode cX12_requireText 19 = .ok (.ldc_w 399, 3) := by decide +kernel
theorem dX12_requireText_22 : decode cX12_requireText 22 = .ok (.invokespecial 401, 3) := by decide +kernel
theorem dX12_requireText_25 : decode cX12_requireText 25 = .ok (.athrow, 1) := by decide +kernel
theorem dX12_requireText_26 : decode cX12_requireText 26 = .ok (.return_, 1) := by decide +kernel
theorem dX12_requireRange_0 : decode cX12_requireRange 0 = .ok (.iload_n 0, 1) := by decide +kernel
theorem dX12_requireRange_1 : decode cX12_requireRange 1 = .ok (.iload_n 1, 1) := by decide +kernel
theorem dX12_requireRange_2 : decode cX12_requireRange 2 = .ok (.if_icmp .lt 8, 3) := by decide +kernel
theorem dX12_requireRange_5 : decode cX12_requireRange 5 = .ok (.iload_n 0, 1) := by decide +kernel
theorem dX12_requireRange_6 : decode cX12_requireRange 6 = .ok (.iload_n 2, 1) := by decide +kernel
theorem dX12_requireRange_7 : decode cX12_requireRange 7 = .ok (.if_icmp .le 14, 3) := by decide +kernel
theorem dX12_requireRange_10 : decode cX12_requireRange 10 = .ok (.new 397, 3) := by decide +kernel
theorem dX12_requireRange_13 : decode cX12_requireRange 13 = .ok (.dup, 1) := by decide +kernel
theorem dX12_requireRange_14 : decode cX12_requireRange 14 = .ok (.ldc_w 402, 3) := by decide +kernel
theorem dX12_requireRange_17 : decode cX12_requireRange 17 = .ok (.invokespecial 401, 3) := by decide +kernel
theorem dX12_requireRange_20 : decode cX12_requireRange 20 = .ok (.athrow, 1) := by decide +kernel
theorem dX12_requireRange_21 : decode cX12_requireRange 21 = .ok (.return_, 1) := by decide +kernel
theorem dX12_requireState_0 : decode cX12_requireState 0 = .ok (.iload_n 0, 1) := by decide +kernel
theorem dX12_requireState_1 : decode cX12_requireState 1 = .ok (.ifCond .ne 14, 3) := by decide +kernel
theorem dX12_requireState_4 : decode cX12_requireState 4 = .ok (.new 404, 3) := by decide +kernel
theorem dX12_requireState_7 : decode cX12_requireState 7 = .ok (.dup, 1) := by decide +kernel
theorem dX12_requireState_8 : decode cX12_requireState 8 = .ok (.ldc_w 406, 3) := by decide +kernel
theorem dX12_requireState_11 : decode cX12_requireState 11 = .ok (.invokespecial 408, 3) := by decide +kernel
theorem dX12_requireState_14 : decode cX12_requireState 14 = .ok (.athrow, 1) := by decide +kernel
theorem dX12_requireState_15 : decode cX12_requireState 15 = .ok (.return_, 1) := by decide +kernel
theorem dJ5_init_a7421_0 : decode cJ5_init_a7421 0 = .ok (.aload_n 0, 1) := by decide +kernel
theorem dJ5_init_a7421_1 : decode cJ5_init_a7421 1 = .ok (.invokespecial 3, 3) := by decide +kernel
theorem dJ5_init_a7421_4 : decode cJ5_init_a7421 4 = .ok (.aload_n 1, 1) := by decide +kernel
theorem dJ5_init_a7421_5 : decode cJ5_init_a7421 5 = .ok (.invokevirtual 32, 3) := by decide +kernel
theorem dJ5_init_a7421_8 : decode cJ5_init_a7421 8 = .ok (.istore_n 2, 1) := by decide +kernel
theorem dJ5_init_a7421_9 : decode cJ5_init_a7421 9 = .ok (.iload_n 2, 1) := by decide +kernel
theorem dJ5_init_a7421_10 : decode cJ5_init_a7421 10 = .ok (.ldc 38, 2) := by decide +kernel
theorem dJ5_init_a7421_12 : decode cJ5_init_a7421 12 = .ok (.if_icmp .ge 10, 3) := by decide +kernel
theorem dJ5_init_a7421_15 : decode cJ5_init_a7421 15 = .ok (.iload_n 2, 1) := by decide +kernel
theorem dJ5_init_a7421_16 : decode cJ5_init_a7421 16 = .ok (.bipush 16, 2) := by decide +kernel
theorem dJ5_init_a7421_18 : decode cJ5_init_a7421 18 = .ok (.iadd, 1) := by decide +kernel
theorem dJ5_init_a7421_19 : decode cJ5_init_a7421 19 = .ok (.goto 5, 3) := by decide +kernel
theorem dJ5_init_a7421_22 : decode cJ5_init_a7421 22 = .ok (.ldc 39, 2) := by decide +kernel
theorem dJ5_init_a7421_24 : decode cJ5_init_a7421 24 = .ok (.istore_n 3, 1) := by decide +kernel
theorem dJ5_init_a7421_25 : decode cJ5_init_a7421 25 = .ok (.aload_n 1, 1) := by decide +kernel
theorem dJ5_init_a7421_26 : decode cJ5_init_a7421 26 = .ok (.invokevirtual 40, 3) := by decide +kernel
theorem dJ5_init_a7421_29 : decode cJ5_init_a7421 29 = .ok (.istore 4, 2) := by decide +kernel
theorem dJ5_init_a7421_31 : decode cJ5_init_a7421 31 = .ok (.aload_n 0, 1) := by decide +kernel
theorem dJ5_init_a7421_32 : decode cJ5_init_a7421 32 = .ok (.iload 4, 2) := by decide +kernel
theorem dJ5_init_a7421_34 : decode cJ5_init_a7421 34 = .ok (.putfield 22, 3) := by decide +kernel
theorem dJ5_init_a7421_37 : decode cJ5_init_a7421 37 = .ok (.aload_n 0, 1) := by decide +kernel
theorem dJ5_init_a7421_38 : decode cJ5_init_a7421 38 = .ok (.iload 4, 2) := by decide +kernel
theorem dJ5_init_a7421_40 : decode cJ5_init_a7421 40 = .ok (.ifCond .ne 9, 3) := by decide +kernel
theorem dJ5_init_a7421_43 : decode cJ5_init_a7421 43 = .ok (.iload_n 3, 1) := by decide +kernel
theorem dJ5_init_a7421_44 : decode cJ5_init_a7421 44 = .ok (.newarray .byte, 2) := by decide +kernel
theorem dJ5_init_a7421_46 : decode cJ5_init_a7421 46 = .ok (.goto 7, 3) := by decide +kernel
theorem dJ5_init_a7421_49 : decode cJ5_init_a7421 49 = .ok (.iload_n 3, 1) := by decide +kernel
theorem dJ5_init_a7421_50 : decode cJ5_init_a7421 50 = .ok (.invokestatic 26, 3) := by decide +kernel
theorem dJ5_init_a7421_53 : decode cJ5_init_a7421 53 = .ok (.putfield 15, 3) := by decide +kernel
theorem dJ5_init_a7421_56 : decode cJ5_init_a7421 56 = .ok (.aload_n 0, 1) := by decide +kernel
theorem dJ5_init_a7421_57 : decode cJ5_init_a7421 57 = .ok (.aload_n 1, 1) := by decide +kernel
theorem dJ5_init_a7421_58 : decode cJ5_init_a7421 58 = .ok (.invokevirtual 43, 3) := by decide +kernel
theorem dJ5_init_a7421_61 : decode cJ5_init_a7421 61 = .ok (.pop, 1) := by decide +kernel
theorem dJ5_init_a7421_62 : decode cJ5_init_a7421 62 = .ok (.return_, 1) := by decide +kernel
theorem dJ5_length_8abf5_0 : decode cJ5_length_8abf5 0 = .ok (.aload_n 0, 1) := by decide +kernel
theorem dJ5_length_8abf5_1 : decode cJ5_length_8abf5 1 = .ok (.getfield 79, 3) := by decide +kernel
theorem dJ5_length_8abf5_4 : decode cJ5_length_8abf5 4 = .ok (.ireturn, 1) := by decide +kernel
theorem dJ5_ensureCapacityInternal_d00df_0 : decode cJ5_ensureCapacityInternal_d00df 0 = .ok (.aload_n 0, 1) := by decide +kernel
theorem dJ5_ensureCapacityInternal_d00df_1 : decode cJ5_ensureCapacityInternal_d00df 1 = .ok (.getfield 15, 3) := by decide +kernel
theorem dJ5_ensureCapacityInternal_d00df_4 : decode cJ5_ensureCapacityInternal_d00df 4 = .ok (.arraylength, 1) := by decide +kernel
theorem dJ5_ensureCapacityInternal_d00df_5 : decode cJ5_ensureCapacityInternal_d00df 5 = .ok (.aload_n 0, 1) := by decide +kernel
theorem dJ5_ensureCapacityInternal_d00df_6 : decode cJ5_ensureCapacityInternal_d00df 6 = .ok (.getfield 22, 3) := by decide +kernel
theorem dJ5_ensureCapacityInternal_d00df_9 : decode cJ5_ensureCapacityInternal_d00df 9 = .ok (.ishr, 1) := by decide +kernel
theorem dJ5_ensureCapacityInternal_d00df_10 : decode cJ5_ensureCapacityInternal_d00df 10 = .ok (.istore_n 2, 1) := by decide +kernel
theorem dJ5_ensureCapacityInternal_d00df_11 : decode cJ5_ensureCapacityInternal_d00df 11 = .ok (.iload_n 1, 1) := by decide +kernel
theorem dJ5_ensureCapacityInternal_d00df_12 : decode cJ5_ensureCapacityInternal_d00df 12 = .ok (.iload_n 2, 1) := by decide +kernel
theorem dJ5_ensureCapacityInternal_d00df_13 : decode cJ5_ensureCapacityInternal_d00df 13 = .ok (.isub, 1) := by decide +kernel
theorem dJ5_ensureCapacityInternal_d00df_14 : decode cJ5_ensureCapacityInternal_d00df 14 = .ok (.ifCond .le 24, 3) := by decide +kernel
theorem dJ5_ensureCapacityInternal_d00df_17 : decode cJ5_ensureCapacityInternal_d00df 17 = .ok (.aload_n 0, 1) := by decide +kernel
theorem dJ5_ensureCapacityInternal_d00df_18 : decode cJ5_ensureCapacityInternal_d00df 18 = .ok (.aload_n 0, 1) := by decide +kernel
theorem dJ5_ensureCapacityInternal_d00df_19 : decode cJ5_ensureCapacityInternal_d00df 19 = .ok (.getfield 15, 3) := by decide +kernel
theorem dJ5_ensureCapacityInternal_d00df_22 : decode cJ5_ensureCapacityInternal_d00df 22 = .ok (.aload_n 0, 1) := by decide +kernel
theorem dJ5_ensureCapacityInternal_d00df_23 : decode cJ5_ensureCapacityInternal_d00df 23 = .ok (.iload_n 1, 1) := by decide +kernel
theorem dJ5_ensureCapacityInternal_d00df_24 : decode cJ5_ensureCapacityInternal_d00df 24 = .ok (.invokevirtual 104, 3) := by decide +kernel
theorem dJ5_ensureCapacityInternal_d00df_27 : decode cJ5_ensureCapacityInternal_d00df 27 = .ok (.aload_n 0, 1) := by decide +kernel
theorem dJ5_ensureCapacityInternal_d00df_28 : decode cJ5_ensureCapacityInternal_d00df 28 = .ok (.getfield 22, 3) := by decide +kernel
theorem dJ5_ensureCapacityInternal_d00df_31 : decode cJ5_ensureCapacityInternal_d00df 31 = .ok (.ishl, 1) := by decide +kernel
theorem dJ5_ensureCapacityInternal_d00df_32 : decode cJ5_ensureCapacityInternal_d00df 32 = .ok (.invokestatic 108, 3) := by decide +kernel
theorem dJ5_ensureCapacityInternal_d00df_35 : decode cJ5_ensureCapacityInternal_d00df 35 = .ok (.putfield 15, 3) := by decide +kernel
theorem dJ5_ensureCapacityInternal_d00df_38 : decode cJ5_ensureCapacityInternal_d00df 38 = .ok (.return_, 1) := by decide +kernel
theorem dJ5_newCapacity_0f7a4_0 : decode cJ5_newCapacity_0f7a4 0 = .ok (.aload_n 0, 1) := by decide +kernel
theorem dJ5_newCapacity_0f7a4_1 : decode cJ5_newCapacity_0f7a4 1 = .ok (.getfield 15, 3) := by decide +kernel
theorem dJ5_newCapacity_0f7a4_4 : decode cJ5_newCapacity_0f7a4 4 = .ok (.arraylength, 1) := by decide +kernel
theorem dJ5_newCapacity_0f7a4_5 : decode cJ5_newCapacity_0f7a4 5 = .ok (.istore_n 2, 1) := by decide +kernel
theorem dJ5_newCapacity_0f7a4_6 : decode cJ5_newCapacity_0f7a4 6 = .ok (.iload_n 1, 1) := by decide +kernel
theorem dJ5_newCapacity_0f7a4_7 : decode cJ5_newCapacity_0f7a4 7 = .ok (.aload_n 0, 1) := by decide +kernel
theorem dJ5_newCapacity_0f7a4_8 : decode cJ5_newCapacity_0f7a4 8 = .ok (.getfield 22, 3) := by decide +kernel
theorem dJ5_newCapacity_0f7a4_11 : decode cJ5_newCapacity_0f7a4 11 = .ok (.ishl, 1) := by decide +kernel
theorem dJ5_newCapacity_0f7a4_12 : decode cJ5_newCapacity_0f7a4 12 = .ok (.istore_n 3, 1) := by decide +kernel
theorem dJ5_newCapacity_0f7a4_13 : decode cJ5_newCapacity_0f7a4 13 = .ok (.iload_n 3, 1) := by decide +kernel
theorem dJ5_newCapacity_0f7a4_14 : decode cJ5_newCapacity_0f7a4 14 = .ok (.iload_n 2, 1) := by decide +kernel
theorem dJ5_newCapacity_0f7a4_15 : decode cJ5_newCapacity_0f7a4 15 = .ok (.isub, 1) := by decide +kernel
theorem dJ5_newCapacity_0f7a4_16 : decode cJ5_newCapacity_0f7a4 16 = .ok (.istore 4, 2) := by decide +kernel
theorem dJ5_newCapacity_0f7a4_18 : decode cJ5_newCapacity_0f7a4 18 = .ok (.iload_n 2, 1) := by decide +kernel
theorem dJ5_newCapacity_0f7a4_19 : decode cJ5_newCapacity_0f7a4 19 = .ok (.iload 4, 2) := by decide +kernel
theorem dJ5_newCapacity_0f7a4_21 : decode cJ5_newCapacity_0f7a4 21 = .ok (.iload_n 2, 1) := by decide +kernel
theorem dJ5_newCapacity_0f7a4_22 : decode cJ5_newCapacity_0f7a4 22 = .ok (.iconst 2, 1) := by decide +kernel
theorem dJ5_newCapacity_0f7a4_23 : decode cJ5_newCapacity_0f7a4 23 = .ok (.aload_n 0, 1) := by decide +kernel
theorem dJ5_newCapacity_0f7a4_24 : decode cJ5_newCapacity_0f7a4 24 = .ok (.getfield 22, 3) := by decide +kernel
theorem dJ5_newCapacity_0f7a4_27 : decode cJ5_newCapacity_0f7a4 27 = .ok (.ishl, 1) := by decide +kernel
theorem dJ5_newCapacity_0f7a4_28 : decode cJ5_newCapacity_0f7a4 28 = .ok (.iadd, 1) := by decide +kernel
theorem dJ5_newCapacity_0f7a4_29 : decode cJ5_newCapacity_0f7a4 29 = .ok (.invokestatic 114, 3) := by decide +kernel
theorem dJ5_newCapacity_0f7a4_32 : decode cJ5_newCapacity_0f7a4 32 = .ok (.istore 5, 2) := by decide +kernel
theorem dJ5_newCapacity_0f7a4_34 : decode cJ5_newCapacity_0f7a4 34 = .ok (.iload 5, 2) := by decide +kernel
theorem dJ5_newCapacity_0f7a4_36 : decode cJ5_newCapacity_0f7a4 36 = .ok (.ldc 39, 2) := by decide +kernel
theorem dJ5_newCapacity_0f7a4_38 : decode cJ5_newCapacity_0f7a4 38 = .ok (.if_icmp .ne 13, 3) := by decide +kernel
theorem dJ5_newCapacity_0f7a4_41 : decode cJ5_newCapacity_0f7a4 41 = .ok (.new 120, 3) := by decide +kernel
theorem dJ5_newCapacity_0f7a4_44 : decode cJ5_newCapacity_0f7a4 44 = .ok (.dup, 1) := by decide +kernel
theorem dJ5_newCapacity_0f7a4_45 : decode cJ5_newCapacity_0f7a4 45 = .ok (.ldc 122, 2) := by decide +kernel
theorem dJ5_newCapacity_0f7a4_47 : decode cJ5_newCapacity_0f7a4 47 = .ok (.invokespecial 124, 3) := by decide +kernel
theorem dJ5_newCapacity_0f7a4_50 : decode cJ5_newCapacity_0f7a4 50 = .ok (.athrow, 1) := by decide +kernel
theorem dJ5_newCapacity_0f7a4_51 : decode cJ5_newCapacity_0f7a4 51 = .ok (.iload 5, 2) := by decide +kernel
theorem dJ5_newCapacity_0f7a4_53 : decode cJ5_newCapacity_0f7a4 53 = .ok (.aload_n 0, 1) := by decide +kernel
theorem dJ5_newCapacity_0f7a4_54 : decode cJ5_newCapacity_0f7a4 54 = .ok (.getfield 22, 3) := by decide +kernel
theorem dJ5_newCapacity_0f7a4_57 : decode cJ5_newCapacity_0f7a4 57 = .ok (.ishr, 1) := by decide +kernel
theorem dJ5_newCapacity_0f7a4_58 : decode cJ5_newCapacity_0f7a4 58 = .ok (.ireturn, 1) := by decide +kernel
theorem dJ5_inflate_da8c8_0 : decode cJ5_inflate_da8c8 0 = .ok (.aload_n 0, 1) := by decide +kernel
theorem dJ5_inflate_da8c8_1 : decode cJ5_inflate_da8c8 1 = .ok (.invokevirtual 83, 3) := by decide +kernel
theorem dJ5_inflate_da8c8_4 : decode cJ5_inflate_da8c8 4 = .ok (.ifCond .ne 4, 3) := by decide +kernel
theorem dJ5_inflate_da8c8_7 : decode cJ5_inflate_da8c8 7 = .ok (.return_, 1) := by decide +kernel
theorem dJ5_inflate_da8c8_8 : decode cJ5_inflate_da8c8 8 = .ok (.aload_n 0, 1) := by decide +kernel
theorem dJ5_inflate_da8c8_9 : decode cJ5_inflate_da8c8 9 = .ok (.getfield 15, 3) := by decide +kernel
theorem dJ5_inflate_da8c8_12 : decode cJ5_inflate_da8c8 12 = .ok (.arraylength, 1) := by decide +kernel
theorem dJ5_inflate_da8c8_13 : decode cJ5_inflate_da8c8 13 = .ok (.invokestatic 26, 3) := by decide +kernel
theorem dJ5_inflate_da8c8_16 : decode cJ5_inflate_da8c8 16 = .ok (.astore_n 1, 1) := by decide +kernel
theorem dJ5_inflate_da8c8_17 : decode cJ5_inflate_da8c8 17 = .ok (.aload_n 0, 1) := by decide +kernel
theorem dJ5_inflate_da8c8_18 : decode cJ5_inflate_da8c8 18 = .ok (.getfield 15, 3) := by decide +kernel
theorem dJ5_inflate_da8c8_21 : decode cJ5_inflate_da8c8 21 = .ok (.iconst 0, 1) := by decide +kernel
theorem dJ5_inflate_da8c8_22 : decode cJ5_inflate_da8c8 22 = .ok (.aload_n 1, 1) := by decide +kernel
theorem dJ5_inflate_da8c8_23 : decode cJ5_inflate_da8c8 23 = .ok (.iconst 0, 1) := by decide +kernel
theorem dJ5_inflate_da8c8_24 : decode cJ5_inflate_da8c8 24 = .ok (.aload_n 0, 1) := by decide +kernel
theorem dJ5_inflate_da8c8_25 : decode cJ5_inflate_da8c8 25 = .ok (.getfield 79, 3) := by decide +kernel
theorem dJ5_inflate_da8c8_28 : decode cJ5_inflate_da8c8 28 = .ok (.invokestatic 125, 3) := by decide +kernel
theorem dJ5_inflate_da8c8_31 : decode cJ5_inflate_da8c8 31 = .ok (.aload_n 0, 1) := by decide +kernel
theorem dJ5_inflate_da8c8_32 : decode cJ5_inflate_da8c8 32 = .ok (.aload_n 1, 1) := by decide +kernel
theorem dJ5_inflate_da8c8_33 : decode cJ5_inflate_da8c8 33 = .ok (.putfield 15, 3) := by decide +kernel
theorem dJ5_inflate_da8c8_36 : decode cJ5_inflate_da8c8 36 = .ok (.aload_n 0, 1) := by decide +kernel
theorem dJ5_inflate_da8c8_37 : decode cJ5_inflate_da8c8 37 = .ok (.iconst 1, 1) := by decide +kernel
theorem dJ5_inflate_da8c8_38 : decode cJ5_inflate_da8c8 38 = .ok (.putfield 22, 3) := by decide +kernel
theorem dJ5_inflate_da8c8_41 : decode cJ5_inflate_da8c8 41 = .ok (.return_, 1) := by decide +kernel
theorem dJ5_append_cf1ce_0 : decode cJ5_append_cf1ce 0 = .ok (.aload_n 1, 1) := by decide +kernel
theorem dJ5_append_cf1ce_1 : decode cJ5_append_cf1ce 1 = .ok (.ifnonnull 8, 3) := by decide +kernel
theorem dJ5_append_cf1ce_4 : decode cJ5_append_cf1ce 4 = .ok (.aload_n 0, 1) := by decide +kernel
theorem dJ5_append_cf1ce_5 : decode cJ5_append_cf1ce 5 = .ok (.invokevirtual 204, 3) := by decide +kernel
theorem dJ5_append_cf1ce_8 : decode cJ5_append_cf1ce 8 = .ok (.areturn, 1) := by decide +kernel
theorem dJ5_append_cf1ce_9 : decode cJ5_append_cf1ce 9 = .ok (.aload_n 1, 1) := by decide +kernel
theorem dJ5_append_cf1ce_10 : decode cJ5_append_cf1ce 10 = .ok (.invokevirtual 32, 3) := by decide +kernel
theorem dJ5_append_cf1ce_13 : decode cJ5_append_cf1ce 13 = .ok (.istore_n 2, 1) := by decide +kernel
theorem dJ5_append_cf1ce_14 : decode cJ5_append_cf1ce 14 = .ok (.aload_n 0, 1) := by decide +kernel
theorem dJ5_append_cf1ce_15 : decode cJ5_append_cf1ce 15 = .ok (.aload_n 0, 1) := by decide +kernel
theorem dJ5_append_cf1ce_16 : decode cJ5_append_cf1ce 16 = .ok (.getfield 79, 3) := by decide +kernel
theorem dJ5_append_cf1ce_19 : decode cJ5_append_cf1ce 19 = .ok (.iload_n 2, 1) := by decide +kernel
theorem dJ5_append_cf1ce_20 : decode cJ5_append_cf1ce 20 = .ok (.iadd, 1) := by decide +kernel
theorem dJ5_append_cf1ce_21 : decode cJ5_append_cf1ce 21 = .ok (.invokevirtual 100, 3) := by decide +kernel
theorem dJ5_append_cf1ce_24 : decode cJ5_append_cf1ce 24 = .ok (.aload_n 0, 1) := by decide +kernel
theorem dJ5_append_cf1ce_25 : decode cJ5_append_cf1ce 25 = .ok (.aload_n 0, 1) := by decide +kernel
theorem dJ5_append_cf1ce_26 : decode cJ5_append_cf1ce 26 = .ok (.getfield 79, 3) := by decide +kernel
theorem dJ5_append_cf1ce_29 : decode cJ5_append_cf1ce 29 = .ok (.aload_n 1, 1) := by decide +kernel
theorem dJ5_append_cf1ce_30 : decode cJ5_append_cf1ce 30 = .ok (.invokevirtual 208, 3) := by decide +kernel
theorem dJ5_append_cf1ce_33 : decode cJ5_append_cf1ce 33 = .ok (.aload_n 0, 1) := by decide +kernel
theorem dJ5_append_cf1ce_34 : decode cJ5_append_cf1ce 34 = .ok (.dup, 1) := by decide +kernel
theorem dJ5_append_cf1ce_35 : decode cJ5_append_cf1ce 35 = .ok (.getfield 79, 3) := by decide +kernel
theorem dJ5_append_cf1ce_38 : decode cJ5_append_cf1ce 38 = .ok (.iload_n 2, 1) := by decide +kernel
theorem dJ5_append_cf1ce_39 : decode cJ5_append_cf1ce 39 = .ok (.iadd, 1) := by decide +kernel
theorem dJ5_append_cf1ce_40 : decode cJ5_append_cf1ce 40 = .ok (.putfield 79, 3) := by decide +kernel
theorem dJ5_append_cf1ce_43 : decode cJ5_append_cf1ce 43 = .ok (.aload_n 0, 1) := by decide +kernel
theorem dJ5_append_cf1ce_44 : decode cJ5_append_cf1ce 44 = .ok (.areturn, 1) := by decide +kernel
theorem dJ5_appendNull_278bc_0 : decode cJ5_appendNull_278bc 0 = .ok (.aload_n 0, 1) := by decide +kernel
theorem dJ5_appendNull_278bc_1 : decode cJ5_appendNull_278bc 1 = .ok (.aload_n 0, 1) := by decide +kernel
theorem dJ5_appendNull_278bc_2 : decode cJ5_appendNull_278bc 2 = .ok (.getfield 79, 3) := by decide +kernel
theorem dJ5_appendNull_278bc_5 : decode cJ5_appendNull_278bc 5 = .ok (.iconst 4, 1) := by decide +kernel
theorem dJ5_appendNull_278bc_6 : decode cJ5_appendNull_278bc 6 = .ok (.iadd, 1) := by decide +kernel
theorem dJ5_appendNull_278bc_7 : decode cJ5_appendNull_278bc 7 = .ok (.invokevirtual 100, 3) := by decide +kernel
theorem dJ5_appendNull_278bc_10 : decode cJ5_appendNull_278bc 10 = .ok (.aload_n 0, 1) := by decide +kernel
theorem dJ5_appendNull_278bc_11 : decode cJ5_appendNull_278bc 11 = .ok (.getfield 79, 3) := by decide +kernel
theorem dJ5_appendNull_278bc_14 : decode cJ5_appendNull_278bc 14 = .ok (.istore_n 1, 1) := by decide +kernel
theorem dJ5_appendNull_278bc_15 : decode cJ5_appendNull_278bc 15 = .ok (.aload_n 0, 1) := by decide +kernel
theorem dJ5_appendNull_278bc_16 : decode cJ5_appendNull_278bc 16 = .ok (.getfield 15, 3) := by decide +kernel
theorem dJ5_appendNull_278bc_19 : decode cJ5_appendNull_278bc 19 = .ok (.astore_n 2, 1) := by decide +kernel
theorem dJ5_appendNull_278bc_20 : decode cJ5_appendNull_278bc 20 = .ok (.aload_n 0, 1) := by decide +kernel
theorem dJ5_appendNull_278bc_21 : decode cJ5_appendNull_278bc 21 = .ok (.invokevirtual 83, 3) := by decide +kernel
theorem dJ5_appendNull_278bc_24 : decode cJ5_appendNull_278bc 24 = .ok (.ifCond .eq 38, 3) := by decide +kernel
theorem dJ5_appendNull_278bc_27 : decode cJ5_appendNull_278bc 27 = .ok (.aload_n 2, 1) := by decide +kernel
theorem dJ5_appendNull_278bc_28 : decode cJ5_appendNull_278bc 28 = .ok (.iload_n 1, 1) := by decide +kernel
theorem dJ5_appendNull_278bc_29 : decode cJ5_appendNull_278bc 29 = .ok (.iinc 1 1, 3) := by decide +kernel
theorem dJ5_appendNull_278bc_32 : decode cJ5_appendNull_278bc 32 = .ok (.bipush 110, 2) := by decide +kernel
theorem dJ5_appendNull_278bc_34 : decode cJ5_appendNull_278bc 34 = .ok (.bastore, 1) := by decide +kernel
theorem dJ5_appendNull_278bc_35 : decode cJ5_appendNull_278bc 35 = .ok (.aload_n 2, 1) := by decide +kernel
theorem dJ5_appendNull_278bc_36 : decode cJ5_appendNull_278bc 36 = .ok (.iload_n 1, 1) := by decide +kernel
theorem dJ5_appendNull_278bc_37 : decode cJ5_appendNull_278bc 37 = .ok (.iinc 1 1, 3) := by decide +kernel
theorem dJ5_appendNull_278bc_40 : decode cJ5_appendNull_278bc 40 = .ok (.bipush 117, 2) := by decide +kernel
theorem dJ5_appendNull_278bc_42 : decode cJ5_appendNull_278bc 42 = .ok (.bastore, 1) := by decide +kernel
theorem dJ5_appendNull_278bc_43 : decode cJ5_appendNull_278bc 43 = .ok (.aload_n 2, 1) := by decide +kernel
theorem dJ5_appendNull_278bc_44 : decode cJ5_appendNull_278bc 44 = .ok (.iload_n 1, 1) := by decide +kernel
theorem dJ5_appendNull_278bc_45 : decode cJ5_appendNull_278bc 45 = .ok (.iinc 1 1, 3) := by decide +kernel
theorem dJ5_appendNull_278bc_48 : decode cJ5_appendNull_278bc 48 = .ok (.bipush 108, 2) := by decide +kernel
theorem dJ5_appendNull_278bc_50 : decode cJ5_appendNull_278bc 50 = .ok (.bastore, 1) := by decide +kernel
theorem dJ5_appendNull_278bc_51 : decode cJ5_appendNull_278bc 51 = .ok (.aload_n 2, 1) := by decide +kernel
theorem dJ5_appendNull_278bc_52 : decode cJ5_appendNull_278bc 52 = .ok (.iload_n 1, 1) := by decide +kernel
theorem dJ5_appendNull_278bc_53 : decode cJ5_appendNull_278bc 53 = .ok (.iinc 1 1, 3) := by decide +kernel
theorem dJ5_appendNull_278bc_56 : decode cJ5_appendNull_278bc 56 = .ok (.bipush 108, 2) := by decide +kernel
theorem dJ5_appendNull_278bc_58 : decode cJ5_appendNull_278bc 58 = .ok (.bastore, 1) := by decide +kernel
theorem dJ5_appendNull_278bc_59 : decode cJ5_appendNull_278bc 59 = .ok (.goto 17, 3) := by decide +kernel
theorem dJ5_appendNull_278bc_62 : decode cJ5_appendNull_278bc 62 = .ok (.aload_n 2, 1) := by decide +kernel
theorem dJ5_appendNull_278bc_63 : decode cJ5_appendNull_278bc 63 = .ok (.iload_n 1, 1) := by decide +kernel
theorem dJ5_appendNull_278bc_64 : decode cJ5_appendNull_278bc 64 = .ok (.bipush 110, 2) := by decide +kernel
theorem dJ5_appendNull_278bc_66 : decode cJ5_appendNull_278bc 66 = .ok (.bipush 117, 2) := by decide +kernel
theorem dJ5_appendNull_278bc_68 : decode cJ5_appendNull_278bc 68 = .ok (.bipush 108, 2) := by decide +kernel
theorem dJ5_appendNull_278bc_70 : decode cJ5_appendNull_278bc 70 = .ok (.bipush 108, 2) := by decide +kernel
theorem dJ5_appendNull_278bc_72 : decode cJ5_appendNull_278bc 72 = .ok (.invokestatic 226, 3) := by decide +kernel
theorem dJ5_appendNull_278bc_75 : decode cJ5_appendNull_278bc 75 = .ok (.istore_n 1, 1) := by decide +kernel
theorem dJ5_appendNull_278bc_76 : decode cJ5_appendNull_278bc 76 = .ok (.aload_n 0, 1) := by decide +kernel
theorem dJ5_appendNull_278bc_77 : decode cJ5_appendNull_278bc 77 = .ok (.iload_n 1, 1) := by decide +kernel
theorem dJ5_appendNull_278bc_78 : decode cJ5_appendNull_278bc 78 = .ok (.putfield 79, 3) := by decide +kernel
theorem dJ5_appendNull_278bc_81 : decode cJ5_appendNull_278bc 81 = .ok (.aload_n 0, 1) := by decide +kernel
theorem dJ5_appendNull_278bc_82 : decode cJ5_appendNull_278bc 82 = .ok (.areturn, 1) := by decide +kernel
theorem dJ5_append_3fe6f_0 : decode cJ5_append_3fe6f 0 = .ok (.aload_n 0, 1) := by decide +kernel
theorem dJ5_append_3fe6f_1 : decode cJ5_append_3fe6f 1 = .ok (.aload_n 0, 1) := by decide +kernel
theorem dJ5_append_3fe6f_2 : decode cJ5_append_3fe6f 2 = .ok (.getfield 79, 3) := by decide +kernel
theorem dJ5_append_3fe6f_5 : decode cJ5_append_3fe6f 5 = .ok (.iconst 1, 1) := by decide +kernel
theorem dJ5_append_3fe6f_6 : decode cJ5_append_3fe6f 6 = .ok (.iadd, 1) := by decide +kernel
theorem dJ5_append_3fe6f_7 : decode cJ5_append_3fe6f 7 = .ok (.invokevirtual 100, 3) := by decide +kernel
theorem dJ5_append_3fe6f_10 : decode cJ5_append_3fe6f 10 = .ok (.aload_n 0, 1) := by decide +kernel
theorem dJ5_append_3fe6f_11 : decode cJ5_append_3fe6f 11 = .ok (.invokevirtual 83, 3) := by decide +kernel
theorem dJ5_append_3fe6f_14 : decode cJ5_append_3fe6f 14 = .ok (.ifCond .eq 31, 3) := by decide +kernel
theorem dJ5_append_3fe6f_17 : decode cJ5_append_3fe6f 17 = .ok (.iload_n 1, 1) := by decide +kernel
theorem dJ5_append_3fe6f_18 : decode cJ5_append_3fe6f 18 = .ok (.invokestatic 191, 3) := by decide +kernel
theorem dJ5_append_3fe6f_21 : decode cJ5_append_3fe6f 21 = .ok (.ifCond .eq 24, 3) := by decide +kernel
theorem dJ5_append_3fe6f_24 : decode cJ5_append_3fe6f 24 = .ok (.aload_n 0, 1) := by decide +kernel
theorem dJ5_append_3fe6f_25 : decode cJ5_append_3fe6f 25 = .ok (.getfield 15, 3) := by decide +kernel
theorem dJ5_append_3fe6f_28 : decode cJ5_append_3fe6f 28 = .ok (.aload_n 0, 1) := by decide +kernel
theorem dJ5_append_3fe6f_29 : decode cJ5_append_3fe6f 29 = .ok (.dup, 1) := by decide +kernel
theorem dJ5_append_3fe6f_30 : decode cJ5_append_3fe6f 30 = .ok (.getfield 79, 3) := by decide +kernel
theorem dJ5_append_3fe6f_33 : decode cJ5_append_3fe6f 33 = .ok (.dup_x1, 1) := by decide +kernel
theorem dJ5_append_3fe6f_34 : decode cJ5_append_3fe6f 34 = .ok (.iconst 1, 1) := by decide +kernel
theorem dJ5_append_3fe6f_35 : decode cJ5_append_3fe6f 35 = .ok (.iadd, 1) := by decide +kernel
theorem dJ5_append_3fe6f_36 : decode cJ5_append_3fe6f 36 = .ok (.putfield 79, 3) := by decide +kernel
theorem dJ5_append_3fe6f_39 : decode cJ5_append_3fe6f 39 = .ok (.iload_n 1, 1) := by decide +kernel
theorem dJ5_append_3fe6f_40 : decode cJ5_append_3fe6f 40 = .ok (.i2b, 1) := by decide +kernel
theorem dJ5_append_3fe6f_41 : decode cJ5_append_3fe6f 41 = .ok (.bastore, 1) := by decide +kernel
theorem dJ5_append_3fe6f_42 : decode cJ5_append_3fe6f 42 = .ok (.goto 33, 3) := by decide +kernel
theorem dJ5_append_3fe6f_45 : decode cJ5_append_3fe6f 45 = .ok (.aload_n 0, 1) := by decide +kernel
theorem dJ5_append_3fe6f_46 : decode cJ5_append_3fe6f 46 = .ok (.invokevirtual 83, 3) := by decide +kernel
theorem dJ5_append_3fe6f_49 : decode cJ5_append_3fe6f 49 = .ok (.ifCond .eq 7, 3) := by decide +kernel
theorem dJ5_append_3fe6f_52 : decode cJ5_append_3fe6f 52 = .ok (.aload_n 0, 1) := by decide +kernel
theorem dJ5_append_3fe6f_53 : decode cJ5_append_3fe6f 53 = .ok (.invokevirtual 195, 3) := by decide +kernel
theorem dJ5_append_3fe6f_56 : decode cJ5_append_3fe6f 56 = .ok (.aload_n 0, 1) := by decide +kernel
theorem dJ5_append_3fe6f_57 : decode cJ5_append_3fe6f 57 = .ok (.getfield 15, 3) := by decide +kernel
theorem dJ5_append_3fe6f_60 : decode cJ5_append_3fe6f 60 = .ok (.aload_n 0, 1) := by decide +kernel
theorem dJ5_append_3fe6f_61 : decode cJ5_append_3fe6f 61 = .ok (.dup, 1) := by decide +kernel
theorem dJ5_append_3fe6f_62 : decode cJ5_append_3fe6f 62 = .ok (.getfield 79, 3) := by decide +kernel
theorem dJ5_append_3fe6f_65 : decode cJ5_append_3fe6f 65 = .ok (.dup_x1, 1) := by decide +kernel
theorem dJ5_append_3fe6f_66 : decode cJ5_append_3fe6f 66 = .ok (.iconst 1, 1) := by decide +kernel
theorem dJ5_append_3fe6f_67 : decode cJ5_append_3fe6f 67 = .ok (.iadd, 1) := by decide +kernel
theorem dJ5_append_3fe6f_68 : decode cJ5_append_3fe6f 68 = .ok (.putfield 79, 3) := by decide +kernel
theorem dJ5_append_3fe6f_71 : decode cJ5_append_3fe6f 71 = .ok (.iload_n 1, 1) := by decide +kernel
theorem dJ5_append_3fe6f_72 : decode cJ5_append_3fe6f 72 = .ok (.invokestatic 197, 3) := by decide +kernel
theorem dJ5_append_3fe6f_75 : decode cJ5_append_3fe6f 75 = .ok (.aload_n 0, 1) := by decide +kernel
theorem dJ5_append_3fe6f_76 : decode cJ5_append_3fe6f 76 = .ok (.areturn, 1) := by decide +kernel
theorem dJ5_append_c97b9_0 : decode cJ5_append_c97b9 0 = .ok (.aload_n 0, 1) := by decide +kernel
theorem dJ5_append_c97b9_1 : decode cJ5_append_c97b9 1 = .ok (.getfield 79, 3) := by decide +kernel
theorem dJ5_append_c97b9_4 : decode cJ5_append_c97b9 4 = .ok (.istore_n 2, 1) := by decide +kernel
theorem dJ5_append_c97b9_5 : decode cJ5_append_c97b9 5 = .ok (.iload_n 2, 1) := by decide +kernel
theorem dJ5_append_c97b9_6 : decode cJ5_append_c97b9 6 = .ok (.iload_n 1, 1) := by decide +kernel
theorem dJ5_append_c97b9_7 : decode cJ5_append_c97b9 7 = .ok (.invokestatic 245, 3) := by decide +kernel
theorem dJ5_append_c97b9_10 : decode cJ5_append_c97b9 10 = .ok (.iadd, 1) := by decide +kernel
theorem dJ5_append_c97b9_11 : decode cJ5_append_c97b9 11 = .ok (.istore_n 3, 1) := by decide +kernel
theorem dJ5_append_c97b9_12 : decode cJ5_append_c97b9 12 = .ok (.aload_n 0, 1) := by decide +kernel
theorem dJ5_append_c97b9_13 : decode cJ5_append_c97b9 13 = .ok (.iload_n 3, 1) := by decide +kernel
theorem dJ5_append_c97b9_14 : decode cJ5_append_c97b9 14 = .ok (.invokevirtual 100, 3) := by decide +kernel
theorem dJ5_append_c97b9_17 : decode cJ5_append_c97b9 17 = .ok (.aload_n 0, 1) := by decide +kernel
theorem dJ5_append_c97b9_18 : decode cJ5_append_c97b9 18 = .ok (.invokevirtual 83, 3) := by decide +kernel
theorem dJ5_append_c97b9_21 : decode cJ5_append_c97b9 21 = .ok (.ifCond .eq 16, 3) := by decide +kernel
theorem dJ5_append_c97b9_24 : decode cJ5_append_c97b9 24 = .ok (.iload_n 1, 1) := by decide +kernel
theorem dJ5_append_c97b9_25 : decode cJ5_append_c97b9 25 = .ok (.iload_n 3, 1) := by decide +kernel
theorem dJ5_append_c97b9_26 : decode cJ5_append_c97b9 26 = .ok (.aload_n 0, 1) := by decide +kernel
theorem dJ5_append_c97b9_27 : decode cJ5_append_c97b9 27 = .ok (.getfield 15, 3) := by decide +kernel
theorem dJ5_append_c97b9_30 : decode cJ5_append_c97b9 30 = .ok (.invokestatic 248, 3) := by decide +kernel
theorem dJ5_append_c97b9_33 : decode cJ5_append_c97b9 33 = .ok (.pop, 1) := by decide +kernel
theorem dJ5_append_c97b9_34 : decode cJ5_append_c97b9 34 = .ok (.goto 14, 3) := by decide +kernel
theorem dJ5_append_c97b9_37 : decode cJ5_append_c97b9 37 = .ok (.iload_n 1, 1) := by decide +kernel
theorem dJ5_append_c97b9_38 : decode cJ5_append_c97b9 38 = .ok (.iload_n 2, 1) := by decide +kernel
theorem dJ5_append_c97b9_39 : decode cJ5_append_c97b9 39 = .ok (.iload_n 3, 1) := by decide +kernel
theorem dJ5_append_c97b9_40 : decode cJ5_append_c97b9 40 = .ok (.aload_n 0, 1) := by decide +kernel
theorem dJ5_append_c97b9_41 : decode cJ5_append_c97b9 41 = .ok (.getfield 15, 3) := by decide +kernel
theorem dJ5_append_c97b9_44 : decode cJ5_append_c97b9 44 = .ok (.invokestatic 251, 3) := by decide +kernel
theorem dJ5_append_c97b9_47 : decode cJ5_append_c97b9 47 = .ok (.pop, 1) := by decide +kernel
theorem dJ5_append_c97b9_48 : decode cJ5_append_c97b9 48 = .ok (.aload_n 0, 1) := by decide +kernel
theorem dJ5_append_c97b9_49 : decode cJ5_append_c97b9 49 = .ok (.iload_n 3, 1) := by decide +kernel
theorem dJ5_append_c97b9_50 : decode cJ5_append_c97b9 50 = .ok (.putfield 79, 3) := by decide +kernel
theorem dJ5_append_c97b9_53 : decode cJ5_append_c97b9 53 = .ok (.aload_n 0, 1) := by decide +kernel
theorem dJ5_append_c97b9_54 : decode cJ5_append_c97b9 54 = .ok (.areturn, 1) := by decide +kernel
theorem dJ5_getValue_6d5f1_0 : decode cJ5_getValue_6d5f1 0 = .ok (.aload_n 0, 1) := by decide +kernel
theorem dJ5_getValue_6d5f1_1 : decode cJ5_getValue_6d5f1 1 = .ok (.getfield 15, 3) := by decide +kernel
theorem dJ5_getValue_6d5f1_4 : decode cJ5_getValue_6d5f1 4 = .ok (.areturn, 1) := by decide +kernel
theorem dJ5_isLatin1_aae02_0 : decode cJ5_isLatin1_aae02 0 = .ok (.getstatic 18, 3) := by decide +kernel
theorem dJ5_isLatin1_aae02_3 : decode cJ5_isLatin1_aae02 3 = .ok (.ifCond .eq 14, 3) := by decide +kernel
theorem dJ5_isLatin1_aae02_6 : decode cJ5_isLatin1_aae02 6 = .ok (.aload_n 0, 1) := by decide +kernel
theorem dJ5_isLatin1_aae02_7 : decode cJ5_isLatin1_aae02 7 = .ok (.getfield 22, 3) := by decide +kernel
theorem dJ5_isLatin1_aae02_10 : decode cJ5_isLatin1_aae02 10 = .ok (.ifCond .ne 7, 3) := by decide +kernel
theorem dJ5_isLatin1_aae02_13 : decode cJ5_isLatin1_aae02 13 = .ok (.iconst 1, 1) := by decide +kernel
theorem dJ5_isLatin1_aae02_14 : decode cJ5_isLatin1_aae02 14 = .ok (.goto 4, 3) := by decide +kernel
theorem dJ5_isLatin1_aae02_17 : decode cJ5_isLatin1_aae02 17 = .ok (.iconst 0, 1) := by decide +kernel
theorem dJ5_isLatin1_aae02_18 : decode cJ5_isLatin1_aae02 18 = .ok (.ireturn, 1) := by decide +kernel
theorem dJ5_inflateIfNeededFor_a7421_0 : decode cJ5_inflateIfNeededFor_a7421 0 = .ok (.getstatic 18, 3) := by decide +kernel
theorem dJ5_inflateIfNeededFor_a7421_3 : decode cJ5_inflateIfNeededFor_a7421 3 = .ok (.ifCond .eq 18, 3) := by decide +kernel
theorem dJ5_inflateIfNeededFor_a7421_6 : decode cJ5_inflateIfNeededFor_a7421 6 = .ok (.aload_n 0, 1) := by decide +kernel
theorem dJ5_inflateIfNeededFor_a7421_7 : decode cJ5_inflateIfNeededFor_a7421 7 = .ok (.getfield 22, 3) := by decide +kernel
theorem dJ5_inflateIfNeededFor_a7421_10 : decode cJ5_inflateIfNeededFor_a7421 10 = .ok (.aload_n 1, 1) := by decide +kernel
theorem dJ5_inflateIfNeededFor_a7421_11 : decode cJ5_inflateIfNeededFor_a7421 11 = .ok (.invokevirtual 40, 3) := by decide +kernel
theorem dJ5_inflateIfNeededFor_a7421_14 : decode cJ5_inflateIfNeededFor_a7421 14 = .ok (.if_icmp .eq 7, 3) := by decide +kernel
theorem dJ5_inflateIfNeededFor_a7421_17 : decode cJ5_inflateIfNeededFor_a7421 17 = .ok (.aload_n 0, 1) := by decide +kernel
theorem dJ5_inflateIfNeededFor_a7421_18 : decode cJ5_inflateIfNeededFor_a7421 18 = .ok (.invokevirtual 195, 3) := by decide +kernel
theorem dJ5_inflateIfNeededFor_a7421_21 : decode cJ5_inflateIfNeededFor_a7421 21 = .ok (.return_, 1) := by decide +kernel
theorem dJ5_putStringAt_47b60_0 : decode cJ5_putStringAt_47b60 0 = .ok (.aload_n 0, 1) := by decide +kernel
theorem dJ5_putStringAt_47b60_1 : decode cJ5_putStringAt_47b60 1 = .ok (.aload_n 2, 1) := by decide +kernel
theorem dJ5_putStringAt_47b60_2 : decode cJ5_putStringAt_47b60 2 = .ok (.invokevirtual 397, 3) := by decide +kernel
theorem dJ5_putStringAt_47b60_5 : decode cJ5_putStringAt_47b60 5 = .ok (.aload_n 2, 1) := by decide +kernel
theorem dJ5_putStringAt_47b60_6 : decode cJ5_putStringAt_47b60 6 = .ok (.aload_n 0, 1) := by decide +kernel
theorem dJ5_putStringAt_47b60_7 : decode cJ5_putStringAt_47b60 7 = .ok (.getfield 15, 3) := by decide +kernel
theorem dJ5_putStringAt_47b60_10 : decode cJ5_putStringAt_47b60 10 = .ok (.iload_n 1, 1) := by decide +kernel
theorem dJ5_putStringAt_47b60_11 : decode cJ5_putStringAt_47b60 11 = .ok (.aload_n 0, 1) := by decide +kernel
theorem dJ5_putStringAt_47b60_12 : decode cJ5_putStringAt_47b60 12 = .ok (.getfield 22, 3) := by decide +kernel
theorem dJ5_putStringAt_47b60_15 : decode cJ5_putStringAt_47b60 15 = .ok (.invokevirtual 399, 3) := by decide +kernel
theorem dJ5_putStringAt_47b60_18 : decode cJ5_putStringAt_47b60 18 = .ok (.return_, 1) := by decide +kernel
theorem dJ6_getChars_ba4f3_0 : decode cJ6_getChars_ba4f3 0 = .ok (.iload_n 1, 1) := by decide +kernel
theorem dJ6_getChars_ba4f3_1 : decode cJ6_getChars_ba4f3 1 = .ok (.istore 5, 2) := by decide +kernel
theorem dJ6_getChars_ba4f3_3 : decode cJ6_getChars_ba4f3 3 = .ok (.iload_n 0, 1) := by decide +kernel
theorem dJ6_getChars_ba4f3_4 : decode cJ6_getChars_ba4f3 4 = .ok (.ifCond .ge 7, 3) := by decide +kernel
theorem dJ6_getChars_ba4f3_7 : decode cJ6_getChars_ba4f3 7 = .ok (.iconst 1, 1) := by decide +kernel
theorem dJ6_getChars_ba4f3_8 : decode cJ6_getChars_ba4f3 8 = .ok (.goto 4, 3) := by decide +kernel
theorem dJ6_getChars_ba4f3_11 : decode cJ6_getChars_ba4f3 11 = .ok (.iconst 0, 1) := by decide +kernel
theorem dJ6_getChars_ba4f3_12 : decode cJ6_getChars_ba4f3 12 = .ok (.istore 6, 2) := by decide +kernel
theorem dJ6_getChars_ba4f3_14 : decode cJ6_getChars_ba4f3 14 = .ok (.iload 6, 2) := by decide +kernel
theorem dJ6_getChars_ba4f3_16 : decode cJ6_getChars_ba4f3 16 = .ok (.ifCond .ne 6, 3) := by decide +kernel
theorem dJ6_getChars_ba4f3_19 : decode cJ6_getChars_ba4f3 19 = .ok (.iload_n 0, 1) := by decide +kernel
theorem dJ6_getChars_ba4f3_20 : decode cJ6_getChars_ba4f3 20 = .ok (.ineg, 1) := by decide +kernel
theorem dJ6_getChars_ba4f3_21 : decode cJ6_getChars_ba4f3 21 = .ok (.istore_n 0, 1) := by decide +kernel
theorem dJ6_getChars_ba4f3_22 : decode cJ6_getChars_ba4f3 22 = .ok (.iload_n 0, 1) := by decide +kernel
theorem dJ6_getChars_ba4f3_23 : decode cJ6_getChars_ba4f3 23 = .ok (.bipush (-100), 2) := by decide +kernel
theorem dJ6_getChars_ba4f3_25 : decode cJ6_getChars_ba4f3 25 = .ok (.if_icmp .gt 47, 3) := by decide +kernel
theorem dJ6_getChars_ba4f3_28 : decode cJ6_getChars_ba4f3 28 = .ok (.iload_n 0, 1) := by decide +kernel
theorem dJ6_getChars_ba4f3_29 : decode cJ6_getChars_ba4f3 29 = .ok (.bipush 100, 2) := by decide +kernel
theorem dJ6_getChars_ba4f3_31 : decode cJ6_getChars_ba4f3 31 = .ok (.idiv, 1) := by decide +kernel
theorem dJ6_getChars_ba4f3_32 : decode cJ6_getChars_ba4f3 32 = .ok (.istore_n 3, 1) := by decide +kernel
theorem dJ6_getChars_ba4f3_33 : decode cJ6_getChars_ba4f3 33 = .ok (.iload_n 3, 1) := by decide +kernel
theorem dJ6_getChars_ba4f3_34 : decode cJ6_getChars_ba4f3 34 = .ok (.bipush 100, 2) := by decide +kernel
theorem dJ6_getChars_ba4f3_36 : decode cJ6_getChars_ba4f3 36 = .ok (.imul, 1) := by decide +kernel
theorem dJ6_getChars_ba4f3_37 : decode cJ6_getChars_ba4f3 37 = .ok (.iload_n 0, 1) := by decide +kernel
theorem dJ6_getChars_ba4f3_38 : decode cJ6_getChars_ba4f3 38 = .ok (.isub, 1) := by decide +kernel
theorem dJ6_getChars_ba4f3_39 : decode cJ6_getChars_ba4f3 39 = .ok (.istore 4, 2) := by decide +kernel
theorem dJ6_getChars_ba4f3_41 : decode cJ6_getChars_ba4f3 41 = .ok (.iload_n 3, 1) := by decide +kernel
theorem dJ6_getChars_ba4f3_42 : decode cJ6_getChars_ba4f3 42 = .ok (.istore_n 0, 1) := by decide +kernel
theorem dJ6_getChars_ba4f3_43 : decode cJ6_getChars_ba4f3 43 = .ok (.aload_n 2, 1) := by decide +kernel
theorem dJ6_getChars_ba4f3_44 : decode cJ6_getChars_ba4f3 44 = .ok (.iinc 5 (-1), 3) := by decide +kernel
theorem dJ6_getChars_ba4f3_47 : decode cJ6_getChars_ba4f3 47 = .ok (.iload 5, 2) := by decide +kernel
theorem dJ6_getChars_ba4f3_49 : decode cJ6_getChars_ba4f3 49 = .ok (.getstatic 83, 3) := by decide +kernel
theorem dJ6_getChars_ba4f3_52 : decode cJ6_getChars_ba4f3 52 = .ok (.iload 4, 2) := by decide +kernel
theorem dJ6_getChars_ba4f3_54 : decode cJ6_getChars_ba4f3 54 = .ok (.baload, 1) := by decide +kernel
theorem dJ6_getChars_ba4f3_55 : decode cJ6_getChars_ba4f3 55 = .ok (.bastore, 1) := by decide +kernel
theorem dJ6_getChars_ba4f3_56 : decode cJ6_getChars_ba4f3 56 = .ok (.aload_n 2, 1) := by decide +kernel
theorem dJ6_getChars_ba4f3_57 : decode cJ6_getChars_ba4f3 57 = .ok (.iinc 5 (-1), 3) := by decide +kernel
theorem dJ6_getChars_ba4f3_60 : decode cJ6_getChars_ba4f3 60 = .ok (.iload 5, 2) := by decide +kernel
theorem dJ6_getChars_ba4f3_62 : decode cJ6_getChars_ba4f3 62 = .ok (.getstatic 87, 3) := by decide +kernel
theorem dJ6_getChars_ba4f3_65 : decode cJ6_getChars_ba4f3 65 = .ok (.iload 4, 2) := by decide +kernel
theorem dJ6_getChars_ba4f3_67 : decode cJ6_getChars_ba4f3 67 = .ok (.baload, 1) := by decide +kernel
theorem dJ6_getChars_ba4f3_68 : decode cJ6_getChars_ba4f3 68 = .ok (.bastore, 1) := by decide +kernel
theorem dJ6_getChars_ba4f3_69 : decode cJ6_getChars_ba4f3 69 = .ok (.goto (-47), 3) := by decide +kernel
theorem dJ6_getChars_ba4f3_72 : decode cJ6_getChars_ba4f3 72 = .ok (.aload_n 2, 1) := by decide +kernel
theorem dJ6_getChars_ba4f3_73 : decode cJ6_getChars_ba4f3 73 = .ok (.iinc 5 (-1), 3) := by decide +kernel
theorem dJ6_getChars_ba4f3_76 : decode cJ6_getChars_ba4f3 76 = .ok (.iload 5, 2) := by decide +kernel
theorem dJ6_getChars_ba4f3_78 : decode cJ6_getChars_ba4f3 78 = .ok (.getstatic 83, 3) := by decide +kernel
theorem dJ6_getChars_ba4f3_81 : decode cJ6_getChars_ba4f3 81 = .ok (.iload_n 0, 1) := by decide +kernel
theorem dJ6_getChars_ba4f3_82 : decode cJ6_getChars_ba4f3 82 = .ok (.ineg, 1) := by decide +kernel
theorem dJ6_getChars_ba4f3_83 : decode cJ6_getChars_ba4f3 83 = .ok (.baload, 1) := by decide +kernel
theorem dJ6_getChars_ba4f3_84 : decode cJ6_getChars_ba4f3 84 = .ok (.bastore, 1) := by decide +kernel
theorem dJ6_getChars_ba4f3_85 : decode cJ6_getChars_ba4f3 85 = .ok (.iload_n 0, 1) := by decide +kernel
theorem dJ6_getChars_ba4f3_86 : decode cJ6_getChars_ba4f3 86 = .ok (.bipush (-9), 2) := by decide +kernel
theorem dJ6_getChars_ba4f3_88 : decode cJ6_getChars_ba4f3 88 = .ok (.if_icmp .ge 16, 3) := by decide +kernel
theorem dJ6_getChars_ba4f3_91 : decode cJ6_getChars_ba4f3 91 = .ok (.aload_n 2, 1) := by decide +kernel
theorem dJ6_getChars_ba4f3_92 : decode cJ6_getChars_ba4f3 92 = .ok (.iinc 5 (-1), 3) := by decide +kernel
theorem dJ6_getChars_ba4f3_95 : decode cJ6_getChars_ba4f3 95 = .ok (.iload 5, 2) := by decide +kernel
theorem dJ6_getChars_ba4f3_97 : decode cJ6_getChars_ba4f3 97 = .ok (.getstatic 87, 3) := by decide +kernel
theorem dJ6_getChars_ba4f3_100 : decode cJ6_getChars_ba4f3 100 = .ok (.iload_n 0, 1) := by decide +kernel
theorem dJ6_getChars_ba4f3_101 : decode cJ6_getChars_ba4f3 101 = .ok (.ineg, 1) := by decide +kernel
theorem dJ6_getChars_ba4f3_102 : decode cJ6_getChars_ba4f3 102 = .ok (.baload, 1) := by decide +kernel
theorem dJ6_getChars_ba4f3_103 : decode cJ6_getChars_ba4f3 103 = .ok (.bastore, 1) := by decide +kernel
theorem dJ6_getChars_ba4f3_104 : decode cJ6_getChars_ba4f3 104 = .ok (.iload 6, 2) := by decide +kernel
theorem dJ6_getChars_ba4f3_106 : decode cJ6_getChars_ba4f3 106 = .ok (.ifCond .eq 12, 3) := by decide +kernel
theorem dJ6_getChars_ba4f3_109 : decode cJ6_getChars_ba4f3 109 = .ok (.aload_n 2, 1) := by decide +kernel
theorem dJ6_getChars_ba4f3_110 : decode cJ6_getChars_ba4f3 110 = .ok (.iinc 5 (-1), 3) := by decide +kernel
theorem dJ6_getChars_ba4f3_113 : decode cJ6_getChars_ba4f3 113 = .ok (.iload 5, 2) := by decide +kernel
theorem dJ6_getChars_ba4f3_115 : decode cJ6_getChars_ba4f3 115 = .ok (.bipush 45, 2) := by decide +kernel
theorem dJ6_getChars_ba4f3_117 : decode cJ6_getChars_ba4f3 117 = .ok (.bastore, 1) := by decide +kernel
theorem dJ6_getChars_ba4f3_118 : decode cJ6_getChars_ba4f3 118 = .ok (.iload 5, 2) := by decide +kernel
theorem dJ6_getChars_ba4f3_120 : decode cJ6_getChars_ba4f3 120 = .ok (.ireturn, 1) := by decide +kernel
theorem dJ6_stringSize_0f7a4_0 : decode cJ6_stringSize_0f7a4 0 = .ok (.iconst 1, 1) := by decide +kernel
theorem dJ6_stringSize_0f7a4_1 : decode cJ6_stringSize_0f7a4 1 = .ok (.istore_n 1, 1) := by decide +kernel
theorem dJ6_stringSize_0f7a4_2 : decode cJ6_stringSize_0f7a4 2 = .ok (.iload_n 0, 1) := by decide +kernel
theorem dJ6_stringSize_0f7a4_3 : decode cJ6_stringSize_0f7a4 3 = .ok (.ifCond .lt 8, 3) := by decide +kernel
theorem dJ6_stringSize_0f7a4_6 : decode cJ6_stringSize_0f7a4 6 = .ok (.iconst 0, 1) := by decide +kernel
theorem dJ6_stringSize_0f7a4_7 : decode cJ6_stringSize_0f7a4 7 = .ok (.istore_n 1, 1) := by decide +kernel
theorem dJ6_stringSize_0f7a4_8 : decode cJ6_stringSize_0f7a4 8 = .ok (.iload_n 0, 1) := by decide +kernel
theorem dJ6_stringSize_0f7a4_9 : decode cJ6_stringSize_0f7a4 9 = .ok (.ineg, 1) := by decide +kernel
theorem dJ6_stringSize_0f7a4_10 : decode cJ6_stringSize_0f7a4 10 = .ok (.istore_n 0, 1) := by decide +kernel
theorem dJ6_stringSize_0f7a4_11 : decode cJ6_stringSize_0f7a4 11 = .ok (.bipush (-10), 2) := by decide +kernel
theorem dJ6_stringSize_0f7a4_13 : decode cJ6_stringSize_0f7a4 13 = .ok (.istore_n 2, 1) := by decide +kernel
theorem dJ6_stringSize_0f7a4_14 : decode cJ6_stringSize_0f7a4 14 = .ok (.iconst 1, 1) := by decide +kernel
theorem dJ6_stringSize_0f7a4_15 : decode cJ6_stringSize_0f7a4 15 = .ok (.istore_n 3, 1) := by decide +kernel
theorem dJ6_stringSize_0f7a4_16 : decode cJ6_stringSize_0f7a4 16 = .ok (.iload_n 3, 1) := by decide +kernel
theorem dJ6_stringSize_0f7a4_17 : decode cJ6_stringSize_0f7a4 17 = .ok (.bipush 10, 2) := by decide +kernel
theorem dJ6_stringSize_0f7a4_19 : decode cJ6_stringSize_0f7a4 19 = .ok (.if_icmp .ge 23, 3) := by decide +kernel
theorem dJ6_stringSize_0f7a4_22 : decode cJ6_stringSize_0f7a4 22 = .ok (.iload_n 0, 1) := by decide +kernel
theorem dJ6_stringSize_0f7a4_23 : decode cJ6_stringSize_0f7a4 23 = .ok (.iload_n 2, 1) := by decide +kernel
theorem dJ6_stringSize_0f7a4_24 : decode cJ6_stringSize_0f7a4 24 = .ok (.if_icmp .le 7, 3) := by decide +kernel
theorem dJ6_stringSize_0f7a4_27 : decode cJ6_stringSize_0f7a4 27 = .ok (.iload_n 3, 1) := by decide +kernel
theorem dJ6_stringSize_0f7a4_28 : decode cJ6_stringSize_0f7a4 28 = .ok (.iload_n 1, 1) := by decide +kernel
theorem dJ6_stringSize_0f7a4_29 : decode cJ6_stringSize_0f7a4 29 = .ok (.iadd, 1) := by decide +kernel
theorem dJ6_stringSize_0f7a4_30 : decode cJ6_stringSize_0f7a4 30 = .ok (.ireturn, 1) := by decide +kernel
theorem dJ6_stringSize_0f7a4_31 : decode cJ6_stringSize_0f7a4 31 = .ok (.bipush 10, 2) := by decide +kernel
theorem dJ6_stringSize_0f7a4_33 : decode cJ6_stringSize_0f7a4 33 = .ok (.iload_n 2, 1) := by decide +kernel
theorem dJ6_stringSize_0f7a4_34 : decode cJ6_stringSize_0f7a4 34 = .ok (.imul, 1) := by decide +kernel
theorem dJ6_stringSize_0f7a4_35 : decode cJ6_stringSize_0f7a4 35 = .ok (.istore_n 2, 1) := by decide +kernel
theorem dJ6_stringSize_0f7a4_36 : decode cJ6_stringSize_0f7a4 36 = .ok (.iinc 3 1, 3) := by decide +kernel
theorem dJ6_stringSize_0f7a4_39 : decode cJ6_stringSize_0f7a4 39 = .ok (.goto (-23), 3) := by decide +kernel
theorem dJ6_stringSize_0f7a4_42 : decode cJ6_stringSize_0f7a4 42 = .ok (.bipush 10, 2) := by decide +kernel
theorem dJ6_stringSize_0f7a4_44 : decode cJ6_stringSize_0f7a4 44 = .ok (.iload_n 1, 1) := by decide +kernel
theorem dJ6_stringSize_0f7a4_45 : decode cJ6_stringSize_0f7a4 45 = .ok (.iadd, 1) := by decide +kernel
theorem dJ6_stringSize_0f7a4_46 : decode cJ6_stringSize_0f7a4 46 = .ok (.ireturn, 1) := by decide +kernel
theorem dJ9_abs_0f7a4_0 : decode cJ9_abs_0f7a4 0 = .ok (.iload_n 0, 1) := by decide +kernel
theorem dJ9_abs_0f7a4_1 : decode cJ9_abs_0f7a4 1 = .ok (.ifCond .ge 8, 3) := by decide +kernel
theorem dJ9_abs_0f7a4_4 : decode cJ9_abs_0f7a4 4 = .ok (.iload_n 0, 1) := by decide +kernel
theorem dJ9_abs_0f7a4_5 : decode cJ9_abs_0f7a4 5 = .ok (.ineg, 1) := by decide +kernel
theorem dJ9_abs_0f7a4_6 : decode cJ9_abs_0f7a4 6 = .ok (.goto 4, 3) := by decide +kernel
theorem dJ9_abs_0f7a4_9 : decode cJ9_abs_0f7a4 9 = .ok (.iload_n 0, 1) := by decide +kernel
theorem dJ9_abs_0f7a4_10 : decode cJ9_abs_0f7a4 10 = .ok (.ireturn, 1) := by decide +kernel
theorem dJ9_max_7cf53_0 : decode cJ9_max_7cf53 0 = .ok (.iload_n 0, 1) := by decide +kernel
theorem dJ9_max_7cf53_1 : decode cJ9_max_7cf53 1 = .ok (.iload_n 1, 1) := by decide +kernel
theorem dJ9_max_7cf53_2 : decode cJ9_max_7cf53 2 = .ok (.if_icmp .lt 7, 3) := by decide +kernel
theorem dJ9_max_7cf53_5 : decode cJ9_max_7cf53 5 = .ok (.iload_n 0, 1) := by decide +kernel
theorem dJ9_max_7cf53_6 : decode cJ9_max_7cf53 6 = .ok (.goto 4, 3) := by decide +kernel
theorem dJ9_max_7cf53_9 : decode cJ9_max_7cf53 9 = .ok (.iload_n 1, 1) := by decide +kernel
theorem dJ9_max_7cf53_10 : decode cJ9_max_7cf53 10 = .ok (.ireturn, 1) := by decide +kernel
theorem dJ9_min_7cf53_0 : decode cJ9_min_7cf53 0 = .ok (.iload_n 0, 1) := by decide +kernel
theorem dJ9_min_7cf53_1 : decode cJ9_min_7cf53 1 = .ok (.iload_n 1, 1) := by decide +kernel
theorem dJ9_min_7cf53_2 : decode cJ9_min_7cf53 2 = .ok (.if_icmp .gt 7, 3) := by decide +kernel
theorem dJ9_min_7cf53_5 : decode cJ9_min_7cf53 5 = .ok (.iload_n 0, 1) := by decide +kernel
theorem dJ9_min_7cf53_6 : decode cJ9_min_7cf53 6 = .ok (.goto 4, 3) := by decide +kernel
theorem dJ9_min_7cf53_9 : decode cJ9_min_7cf53 9 = .ok (.iload_n 1, 1) := by decide +kernel
theorem dJ9_min_7cf53_10 : decode cJ9_min_7cf53 10 = .ok (.ireturn, 1) := by decide +kernel
theorem dJ0_init_81219_0 : decode cJ0_init_81219 0 = .ok (.aload_n 0, 1) := by decide +kernel
theorem dJ0_init_81219_1 : decode cJ0_init_81219 1 = .ok (.aload_n 1, 1) := by decide +kernel
theorem dJ0_init_81219_2 : decode cJ0_init_81219 2 = .ok (.aconst_null, 1) := by decide +kernel
theorem dJ0_init_81219_3 : decode cJ0_init_81219 3 = .ok (.invokespecial 489, 3) := by decide +kernel
theorem dJ0_init_81219_6 : decode cJ0_init_81219 6 = .ok (.return_, 1) := by decide +kernel
theorem dJ0_length_8abf5_0 : decode cJ0_length_8abf5 0 = .ok (.aload_n 0, 1) := by decide +kernel
theorem dJ0_length_8abf5_1 : decode cJ0_length_8abf5 1 = .ok (.getfield 9, 3) := by decide +kernel
theorem dJ0_length_8abf5_4 : decode cJ0_length_8abf5 4 = .ok (.arraylength, 1) := by decide +kernel
theorem dJ0_length_8abf5_5 : decode cJ0_length_8abf5 5 = .ok (.aload_n 0, 1) := by decide +kernel
theorem dJ0_length_8abf5_6 : decode cJ0_length_8abf5 6 = .ok (.invokevirtual 335, 3) := by decide +kernel
theorem dJ0_length_8abf5_9 : decode cJ0_length_8abf5 9 = .ok (.ishr, 1) := by decide +kernel
theorem dJ0_length_8abf5_10 : decode cJ0_length_8abf5 10 = .ok (.ireturn, 1) := by decide +kernel
theorem dJ0_charAt_5068e_0 : decode cJ0_charAt_5068e 0 = .ok (.aload_n 0, 1) := by decide +kernel
theorem dJ0_charAt_5068e_1 : decode cJ0_charAt_5068e 1 = .ok (.invokevirtual 492, 3) := by decide +kernel
theorem dJ0_charAt_5068e_4 : decode cJ0_charAt_5068e 4 = .ok (.ifCond .eq 12, 3) := by decide +kernel
theorem dJ0_charAt_5068e_7 : decode cJ0_charAt_5068e 7 = .ok (.aload_n 0, 1) := by decide +kernel
theorem dJ0_charAt_5068e_8 : decode cJ0_charAt_5068e 8 = .ok (.getfield 9, 3) := by decide +kernel
theorem dJ0_charAt_5068e_11 : decode cJ0_charAt_5068e 11 = .ok (.iload_n 1, 1) := by decide +kernel
theorem dJ0_charAt_5068e_12 : decode cJ0_charAt_5068e 12 = .ok (.invokestatic 495, 3) := by decide +kernel
theorem dJ0_charAt_5068e_15 : decode cJ0_charAt_5068e 15 = .ok (.ireturn, 1) := by decide +kernel
theorem dJ0_charAt_5068e_16 : decode cJ0_charAt_5068e 16 = .ok (.aload_n 0, 1) := by decide +kernel
theorem dJ0_charAt_5068e_17 : decode cJ0_charAt_5068e 17 = .ok (.getfield 9, 3) := by decide +kernel
theorem dJ0_charAt_5068e_20 : decode cJ0_charAt_5068e 20 = .ok (.iload_n 1, 1) := by decide +kernel
theorem dJ0_charAt_5068e_21 : decode cJ0_charAt_5068e 21 = .ok (.invokestatic 498, 3) := by decide +kernel
theorem dJ0_charAt_5068e_24 : decode cJ0_charAt_5068e 24 = .ok (.ireturn, 1) := by decide +kernel
theorem dJ0_getBytes_840e7_0 : decode cJ0_getBytes_840e7 0 = .ok (.aload_n 0, 1) := by decide +kernel
theorem dJ0_getBytes_840e7_1 : decode cJ0_getBytes_840e7 1 = .ok (.invokevirtual 335, 3) := by decide +kernel
theorem dJ0_getBytes_840e7_4 : decode cJ0_getBytes_840e7 4 = .ok (.iload_n 3, 1) := by decide +kernel
theorem dJ0_getBytes_840e7_5 : decode cJ0_getBytes_840e7 5 = .ok (.if_icmp .ne 23, 3) := by decide +kernel
theorem dJ0_getBytes_840e7_8 : decode cJ0_getBytes_840e7 8 = .ok (.aload_n 0, 1) := by decide +kernel
theorem dJ0_getBytes_840e7_9 : decode cJ0_getBytes_840e7 9 = .ok (.getfield 9, 3) := by decide +kernel
theorem dJ0_getBytes_840e7_12 : decode cJ0_getBytes_840e7 12 = .ok (.iconst 0, 1) := by decide +kernel
theorem dJ0_getBytes_840e7_13 : decode cJ0_getBytes_840e7 13 = .ok (.aload_n 1, 1) := by decide +kernel
theorem dJ0_getBytes_840e7_14 : decode cJ0_getBytes_840e7 14 = .ok (.iload_n 2, 1) := by decide +kernel
theorem dJ0_getBytes_840e7_15 : decode cJ0_getBytes_840e7 15 = .ok (.iload_n 3, 1) := by decide +kernel
theorem dJ0_getBytes_840e7_16 : decode cJ0_getBytes_840e7 16 = .ok (.ishl, 1) := by decide +kernel
theorem dJ0_getBytes_840e7_17 : decode cJ0_getBytes_840e7 17 = .ok (.aload_n 0, 1) := by decide +kernel
theorem dJ0_getBytes_840e7_18 : decode cJ0_getBytes_840e7 18 = .ok (.getfield 9, 3) := by decide +kernel
theorem dJ0_getBytes_840e7_21 : decode cJ0_getBytes_840e7 21 = .ok (.arraylength, 1) := by decide +kernel
theorem dJ0_getBytes_840e7_22 : decode cJ0_getBytes_840e7 22 = .ok (.invokestatic 212, 3) := by decide +kernel
theorem dJ0_getBytes_840e7_25 : decode cJ0_getBytes_840e7 25 = .ok (.goto 18, 3) := by decide +kernel
theorem dJ0_getBytes_840e7_28 : decode cJ0_getBytes_840e7 28 = .ok (.aload_n 0, 1) := by decide +kernel
theorem dJ0_getBytes_840e7_29 : decode cJ0_getBytes_840e7 29 = .ok (.getfield 9, 3) := by decide +kernel
theorem dJ0_getBytes_840e7_32 : decode cJ0_getBytes_840e7 32 = .ok (.iconst 0, 1) := by decide +kernel
theorem dJ0_getBytes_840e7_33 : decode cJ0_getBytes_840e7 33 = .ok (.aload_n 1, 1) := by decide +kernel
theorem dJ0_getBytes_840e7_34 : decode cJ0_getBytes_840e7 34 = .ok (.iload_n 2, 1) := by decide +kernel
theorem dJ0_getBytes_840e7_35 : decode cJ0_getBytes_840e7 35 = .ok (.aload_n 0, 1) := by decide +kernel
theorem dJ0_getBytes_840e7_36 : decode cJ0_getBytes_840e7 36 = .ok (.getfield 9, 3) := by decide +kernel
theorem dJ0_getBytes_840e7_39 : decode cJ0_getBytes_840e7 39 = .ok (.arraylength, 1) := by decide +kernel
theorem dJ0_getBytes_840e7_40 : decode cJ0_getBytes_840e7 40 = .ok (.invokestatic 106, 3) := by decide +kernel
theorem dJ0_getBytes_840e7_43 : decode cJ0_getBytes_840e7 43 = .ok (.return_, 1) := by decide +kernel
theorem dJ0_init_db425_0 : decode cJ0_init_db425 0 = .ok (.aload_n 0, 1) := by decide +kernel
theorem dJ0_init_db425_1 : decode cJ0_init_db425 1 = .ok (.invokespecial 1, 3) := by decide +kernel
theorem dJ0_init_db425_4 : decode cJ0_init_db425 4 = .ok (.aload_n 1, 1) := by decide +kernel
theorem dJ0_init_db425_5 : decode cJ0_init_db425 5 = .ok (.invokevirtual 552, 3) := by decide +kernel
theorem dJ0_init_db425_8 : decode cJ0_init_db425 8 = .ok (.astore_n 3, 1) := by decide +kernel
theorem dJ0_init_db425_9 : decode cJ0_init_db425 9 = .ok (.aload_n 1, 1) := by decide +kernel
theorem dJ0_init_db425_10 : decode cJ0_init_db425 10 = .ok (.invokevirtual 549, 3) := by decide +kernel
theorem dJ0_init_db425_13 : decode cJ0_init_db425 13 = .ok (.istore 4, 2) := by decide +kernel
theorem dJ0_init_db425_15 : decode cJ0_init_db425 15 = .ok (.aload_n 1, 1) := by decide +kernel
theorem dJ0_init_db425_16 : decode cJ0_init_db425 16 = .ok (.invokevirtual 1047, 3) := by decide +kernel
theorem dJ0_init_db425_19 : decode cJ0_init_db425 19 = .ok (.ifCond .eq 22, 3) := by decide +kernel
theorem dJ0_init_db425_22 : decode cJ0_init_db425 22 = .ok (.aload_n 0, 1) := by decide +kernel
theorem dJ0_init_db425_23 : decode cJ0_init_db425 23 = .ok (.iconst 0, 1) := by decide +kernel
theorem dJ0_init_db425_24 : decode cJ0_init_db425 24 = .ok (.putfield 15, 3) := by decide +kernel
theorem dJ0_init_db425_27 : decode cJ0_init_db425 27 = .ok (.aload_n 0, 1) := by decide +kernel
theorem dJ0_init_db425_28 : decode cJ0_init_db425 28 = .ok (.aload_n 3, 1) := by decide +kernel
theorem dJ0_init_db425_29 : decode cJ0_init_db425 29 = .ok (.iconst 0, 1) := by decide +kernel
theorem dJ0_init_db425_30 : decode cJ0_init_db425 30 = .ok (.iload 4, 2) := by decide +kernel
theorem dJ0_init_db425_32 : decode cJ0_init_db425 32 = .ok (.invokestatic 54, 3) := by decide +kernel
theorem dJ0_init_db425_35 : decode cJ0_init_db425 35 = .ok (.putfield 9, 3) := by decide +kernel
theorem dJ0_init_db425_38 : decode cJ0_init_db425 38 = .ok (.goto 59, 3) := by decide +kernel
theorem dJ0_init_db425_41 : decode cJ0_init_db425 41 = .ok (.getstatic 38, 3) := by decide +kernel
theorem dJ0_init_db425_44 : decode cJ0_init_db425 44 = .ok (.ifCond .eq 35, 3) := by decide +kernel
theorem dJ0_init_db425_47 : decode cJ0_init_db425 47 = .ok (.aload_n 1, 1) := by decide +kernel
theorem dJ0_init_db425_48 : decode cJ0_init_db425 48 = .ok (.getfield 1048, 3) := by decide +kernel
theorem dJ0_init_db425_51 : decode cJ0_init_db425 51 = .ok (.ifCond .eq 28, 3) := by decide +kernel
theorem dJ0_init_db425_54 : decode cJ0_init_db425 54 = .ok (.aload_n 0, 1) := by decide +kernel
theorem dJ0_init_db425_55 : decode cJ0_init_db425 55 = .ok (.aload_n 3, 1) := by decide +kernel
theorem dJ0_init_db425_56 : decode cJ0_init_db425 56 = .ok (.iconst 0, 1) := by decide +kernel
theorem dJ0_init_db425_57 : decode cJ0_init_db425 57 = .ok (.iload 4, 2) := by decide +kernel
theorem dJ0_init_db425_59 : decode cJ0_init_db425 59 = .ok (.invokestatic 1051, 3) := by decide +kernel
theorem dJ0_init_db425_62 : decode cJ0_init_db425 62 = .ok (.putfield 9, 3) := by decide +kernel
theorem dJ0_init_db425_65 : decode cJ0_init_db425 65 = .ok (.aload_n 0, 1) := by decide +kernel
theorem dJ0_init_db425_66 : decode cJ0_init_db425 66 = .ok (.aload_n 0, 1) := by decide +kernel
theorem dJ0_init_db425_67 : decode cJ0_init_db425 67 = .ok (.getfield 9, 3) := by decide +kernel
theorem dJ0_init_db425_70 : decode cJ0_init_db425 70 = .ok (.iload 4, 2) := by decide +kernel
theorem dJ0_init_db425_72 : decode cJ0_init_db425 72 = .ok (.invokestatic 47, 3) := by decide +kernel
theorem dJ0_init_db425_75 : decode cJ0_init_db425 75 = .ok (.putfield 15, 3) := by decide +kernel
theorem dJ0_init_db425_78 : decode cJ0_init_db425 78 = .ok (.return_, 1) := by decide +kernel
theorem dJ0_init_db425_79 : decode cJ0_init_db425 79 = .ok (.aload_n 0, 1) := by decide +kernel
theorem dJ0_init_db425_80 : decode cJ0_init_db425 80 = .ok (.iconst 1, 1) := by decide +kernel
theorem dJ0_init_db425_81 : decode cJ0_init_db425 81 = .ok (.putfield 15, 3) := by decide +kernel
theorem dJ0_init_db425_84 : decode cJ0_init_db425 84 = .ok (.aload_n 0, 1) := by decide +kernel
theorem dJ0_init_db425_85 : decode cJ0_init_db425 85 = .ok (.aload_n 3, 1) := by decide +kernel
theorem dJ0_init_db425_86 : decode cJ0_init_db425 86 = .ok (.iconst 0, 1) := by decide +kernel
theorem dJ0_init_db425_87 : decode cJ0_init_db425 87 = .ok (.iload 4, 2) := by decide +kernel
theorem dJ0_init_db425_89 : decode cJ0_init_db425 89 = .ok (.iconst 1, 1) := by decide +kernel
theorem dJ0_init_db425_90 : decode cJ0_init_db425 90 = .ok (.ishl, 1) := by decide +kernel
theorem dJ0_init_db425_91 : decode cJ0_init_db425 91 = .ok (.invokestatic 54, 3) := by decide +kernel
theorem dJ0_init_db425_94 : decode cJ0_init_db425 94 = .ok (.putfield 9, 3) := by decide +kernel
theorem dJ0_init_db425_97 : decode cJ0_init_db425 97 = .ok (.return_, 1) := by decide +kernel
theorem dJ0_coder_7d493_0 : decode cJ0_coder_7d493 0 = .ok (.getstatic 38, 3) := by decide +kernel
theorem dJ0_coder_7d493_3 : decode cJ0_coder_7d493 3 = .ok (.ifCond .eq 10, 3) := by decide +kernel
theorem dJ0_coder_7d493_6 : decode cJ0_coder_7d493 6 = .ok (.aload_n 0, 1) := by decide +kernel
theorem dJ0_coder_7d493_7 : decode cJ0_coder_7d493 7 = .ok (.getfield 15, 3) := by decide +kernel
theorem dJ0_coder_7d493_10 : decode cJ0_coder_7d493 10 = .ok (.goto 4, 3) := by decide +kernel
theorem dJ0_coder_7d493_13 : decode cJ0_coder_7d493 13 = .ok (.iconst 1, 1) := by decide +kernel
theorem dJ0_coder_7d493_14 : decode cJ0_coder_7d493 14 = .ok (.ireturn, 1) := by decide +kernel
theorem dJ0_isLatin1_aae02_0 : decode cJ0_isLatin1_aae02 0 = .ok (.getstatic 38, 3) := by decide +kernel
theorem dJ0_isLatin1_aae02_3 : decode cJ0_isLatin1_aae02 3 = .ok (.ifCond .eq 14, 3) := by decide +kernel
theorem dJ0_isLatin1_aae02_6 : decode cJ0_isLatin1_aae02 6 = .ok (.aload_n 0, 1) := by decide +kernel
theorem dJ0_isLatin1_aae02_7 : decode cJ0_isLatin1_aae02 7 = .ok (.getfield 15, 3) := by decide +kernel
theorem dJ0_isLatin1_aae02_10 : decode cJ0_isLatin1_aae02 10 = .ok (.ifCond .ne 7, 3) := by decide +kernel
theorem dJ0_isLatin1_aae02_13 : decode cJ0_isLatin1_aae02 13 = .ok (.iconst 1, 1) := by decide +kernel
theorem dJ0_isLatin1_aae02_14 : decode cJ0_isLatin1_aae02 14 = .ok (.goto 4, 3) := by decide +kernel
theorem dJ0_isLatin1_aae02_17 : decode cJ0_isLatin1_aae02 17 = .ok (.iconst 0, 1) := by decide +kernel
theorem dJ0_isLatin1_aae02_18 : decode cJ0_isLatin1_aae02 18 = .ok (.ireturn, 1) := by decide +kernel
theorem dJ0_checkIndex_df160_0 : decode cJ0_checkIndex_df160 0 = .ok (.iload_n 0, 1) := by decide +kernel
theorem dJ0_checkIndex_df160_1 : decode cJ0_checkIndex_df160 1 = .ok (.iload_n 1, 1) := by decide +kernel
theorem dJ0_checkIndex_df160_2 : decode cJ0_checkIndex_df160 2 = .ok (.getstatic 1053, 3) := by decide +kernel
theorem dJ0_checkIndex_df160_5 : decode cJ0_checkIndex_df160 5 = .ok (.invokestatic 1059, 3) := by decide +kernel
theorem dJ0_checkIndex_df160_8 : decode cJ0_checkIndex_df160 8 = .ok (.pop, 1) := by decide +kernel
theorem dJ0_checkIndex_df160_9 : decode cJ0_checkIndex_df160 9 = .ok (.return_, 1) := by decide +kernel
theorem dJ0_checkBoundsOffCount_cabcc_0 : decode cJ0_checkBoundsOffCount_cabcc 0 = .ok (.iload_n 0, 1) := by decide +kernel
theorem dJ0_checkBoundsOffCount_cabcc_1 : decode cJ0_checkBoundsOffCount_cabcc 1 = .ok (.iload_n 1, 1) := by decide +kernel
theorem dJ0_checkBoundsOffCount_cabcc_2 : decode cJ0_checkBoundsOffCount_cabcc 2 = .ok (.iload_n 2, 1) := by decide +kernel
theorem dJ0_checkBoundsOffCount_cabcc_3 : decode cJ0_checkBoundsOffCount_cabcc 3 = .ok (.getstatic 1053, 3) := by decide +kernel
theorem dJ0_checkBoundsOffCount_cabcc_6 : decode cJ0_checkBoundsOffCount_cabcc 6 = .ok (.invokestatic 1065, 3) := by decide +kernel
theorem dJ0_checkBoundsOffCount_cabcc_9 : decode cJ0_checkBoundsOffCount_cabcc 9 = .ok (.ireturn, 1) := by decide +kernel
theorem dJ0_checkBoundsBeginEnd_23922_0 : decode cJ0_checkBoundsBeginEnd_23922 0 = .ok (.iload_n 0, 1) := by decide +kernel
theorem dJ0_checkBoundsBeginEnd_23922_1 : decode cJ0_checkBoundsBeginEnd_23922 1 = .ok (.iload_n 1, 1) := by decide +kernel
theorem dJ0_checkBoundsBeginEnd_23922_2 : decode cJ0_checkBoundsBeginEnd_23922 2 = .ok (.iload_n 2, 1) := by decide +kernel
theorem dJ0_checkBoundsBeginEnd_23922_3 : decode cJ0_checkBoundsBeginEnd_23922 3 = .ok (.getstatic 1053, 3) := by decide +kernel
theorem dJ0_checkBoundsBeginEnd_23922_6 : decode cJ0_checkBoundsBeginEnd_23922 6 = .ok (.invokestatic 1062, 3) := by decide +kernel
theorem dJ0_checkBoundsBeginEnd_23922_9 : decode cJ0_checkBoundsBeginEnd_23922 9 = .ok (.pop, 1) := by decide +kernel
theorem dJ0_checkBoundsBeginEnd_23922_10 : decode cJ0_checkBoundsBeginEnd_23922 10 = .ok (.return_, 1) := by decide +kernel
theorem dJ4_init_a7421_0 : decode cJ4_init_a7421 0 = .ok (.aload_n 0, 1) := by decide +kernel
theorem dJ4_init_a7421_1 : decode cJ4_init_a7421 1 = .ok (.aload_n 1, 1) := by decide +kernel
theorem dJ4_init_a7421_2 : decode cJ4_init_a7421 2 = .ok (.invokespecial 7, 3) := by decide +kernel
theorem dJ4_init_a7421_5 : decode cJ4_init_a7421 5 = .ok (.return_, 1) := by decide +kernel
theorem dJ4_append_15ec4_0 : decode cJ4_append_15ec4 0 = .ok (.aload_n 0, 1) := by decide +kernel
theorem dJ4_append_15ec4_1 : decode cJ4_append_15ec4 1 = .ok (.aload_n 1, 1) := by decide +kernel
theorem dJ4_append_15ec4_2 : decode cJ4_append_15ec4 2 = .ok (.invokespecial 29, 3) := by decide +kernel
theorem dJ4_append_15ec4_5 : decode cJ4_append_15ec4 5 = .ok (.pop, 1) := by decide +kernel
theorem dJ4_append_15ec4_6 : decode cJ4_append_15ec4 6 = .ok (.aload_n 0, 1) := by decide +kernel
theorem dJ4_append_15ec4_7 : decode cJ4_append_15ec4 7 = .ok (.areturn, 1) := by decide +kernel
theorem dJ4_append_cf468_0 : decode cJ4_append_cf468 0 = .ok (.aload_n 0, 1) := by decide +kernel
theorem dJ4_append_cf468_1 : decode cJ4_append_cf468 1 = .ok (.iload_n 1, 1) := by decide +kernel
theorem dJ4_append_cf468_2 : decode cJ4_append_cf468 2 = .ok (.invokespecial 50, 3) := by decide +kernel
theorem dJ4_append_cf468_5 : decode cJ4_append_cf468 5 = .ok (.pop, 1) := by decide +kernel
theorem dJ4_append_cf468_6 : decode cJ4_append_cf468 6 = .ok (.aload_n 0, 1) := by decide +kernel
theorem dJ4_append_cf468_7 : decode cJ4_append_cf468 7 = .ok (.areturn, 1) := by decide +kernel
theorem dJ4_append_bf812_0 : decode cJ4_append_bf812 0 = .ok (.aload_n 0, 1) := by decide +kernel
theorem dJ4_append_bf812_1 : decode cJ4_append_bf812 1 = .ok (.iload_n 1, 1) := by decide +kernel
theorem dJ4_append_bf812_2 : decode cJ4_append_bf812 2 = .ok (.invokespecial 53, 3) := by decide +kernel
theorem dJ4_append_bf812_5 : decode cJ4_append_bf812 5 = .ok (.pop, 1) := by decide +kernel
theorem dJ4_append_bf812_6 : decode cJ4_append_bf812 6 = .ok (.aload_n 0, 1) := by decide +kernel
theorem dJ4_append_bf812_7 : decode cJ4_append_bf812 7 = .ok (.areturn, 1) := by decide +kernel
theorem dJ4_toString_0e30d_0 : decode cJ4_toString_0e30d 0 = .ok (.new 18, 3) := by decide +kernel
theorem dJ4_toString_0e30d_3 : decode cJ4_toString_0e30d 3 = .ok (.dup, 1) := by decide +kernel
theorem dJ4_toString_0e30d_4 : decode cJ4_toString_0e30d 4 = .ok (.aload_n 0, 1) := by decide +kernel
theorem dJ4_toString_0e30d_5 : decode cJ4_toString_0e30d 5 = .ok (.invokespecial 137, 3) := by decide +kernel
theorem dJ4_toString_0e30d_8 : decode cJ4_toString_0e30d 8 = .ok (.areturn, 1) := by decide +kernel
theorem dJ4_append_cf1ce_0 : decode cJ4_append_cf1ce 0 = .ok (.aload_n 0, 1) := by decide +kernel
theorem dJ4_append_cf1ce_1 : decode cJ4_append_cf1ce 1 = .ok (.aload_n 1, 1) := by decide +kernel
theorem dJ4_append_cf1ce_2 : decode cJ4_append_cf1ce 2 = .ok (.invokevirtual 23, 3) := by decide +kernel
theorem dJ4_append_cf1ce_5 : decode cJ4_append_cf1ce 5 = .ok (.areturn, 1) := by decide +kernel
theorem dJ4_length_8abf5_0 : decode cJ4_length_8abf5 0 = .ok (.aload_n 0, 1) := by decide +kernel
theorem dJ4_length_8abf5_1 : decode cJ4_length_8abf5 1 = .ok (.invokespecial 343, 3) := by decide +kernel
theorem dJ4_length_8abf5_4 : decode cJ4_length_8abf5 4 = .ok (.ireturn, 1) := by decide +kernel
theorem dJ1_charAt_3b067_0 : decode cJ1_charAt_3b067 0 = .ok (.iload_n 1, 1) := by decide +kernel
theorem dJ1_charAt_3b067_1 : decode cJ1_charAt_3b067 1 = .ok (.aload_n 0, 1) := by decide +kernel
theorem dJ1_charAt_3b067_2 : decode cJ1_charAt_3b067 2 = .ok (.arraylength, 1) := by decide +kernel
theorem dJ1_charAt_3b067_3 : decode cJ1_charAt_3b067 3 = .ok (.invokestatic 9, 3) := by decide +kernel
theorem dJ1_charAt_3b067_6 : decode cJ1_charAt_3b067 6 = .ok (.aload_n 0, 1) := by decide +kernel
theorem dJ1_charAt_3b067_7 : decode cJ1_charAt_3b067 7 = .ok (.iload_n 1, 1) := by decide +kernel
theorem dJ1_charAt_3b067_8 : decode cJ1_charAt_3b067 8 = .ok (.baload, 1) := by decide +kernel
theorem dJ1_charAt_3b067_9 : decode cJ1_charAt_3b067 9 = .ok (.sipush 255, 3) := by decide +kernel
theorem dJ1_charAt_3b067_12 : decode cJ1_charAt_3b067 12 = .ok (.iand, 1) := by decide +kernel
theorem dJ1_charAt_3b067_13 : decode cJ1_charAt_3b067 13 = .ok (.i2c, 1) := by decide +kernel
theorem dJ1_charAt_3b067_14 : decode cJ1_charAt_3b067 14 = .ok (.ireturn, 1) := by decide +kernel
theorem dJ1_canEncode_fc78d_0 : decode cJ1_canEncode_fc78d 0 = .ok (.iload_n 0, 1) := by decide +kernel
theorem dJ1_canEncode_fc78d_1 : decode cJ1_canEncode_fc78d 1 = .ok (.sipush 255, 3) := by decide +kernel
theorem dJ1_canEncode_fc78d_4 : decode cJ1_canEncode_fc78d 4 = .ok (.if_icmp .gt 7, 3) := by decide +kernel
theorem dJ1_canEncode_fc78d_7 : decode cJ1_canEncode_fc78d 7 = .ok (.iconst 1, 1) := by decide +kernel
theorem dJ1_canEncode_fc78d_8 : decode cJ1_canEncode_fc78d 8 = .ok (.goto 4, 3) := by decide +kernel
theorem dJ1_canEncode_fc78d_11 : decode cJ1_canEncode_fc78d 11 = .ok (.iconst 0, 1) := by decide +kernel
theorem dJ1_canEncode_fc78d_12 : decode cJ1_canEncode_fc78d 12 = .ok (.ireturn, 1) := by decide +kernel
theorem dJ1_inflate_0e8fd_0 : decode cJ1_inflate_0e8fd 0 = .ok (.aload_n 0, 1) := by decide +kernel
theorem dJ1_inflate_0e8fd_1 : decode cJ1_inflate_0e8fd 1 = .ok (.iload_n 1, 1) := by decide +kernel
theorem dJ1_inflate_0e8fd_2 : decode cJ1_inflate_0e8fd 2 = .ok (.aload_n 2, 1) := by decide +kernel
theorem dJ1_inflate_0e8fd_3 : decode cJ1_inflate_0e8fd 3 = .ok (.iload_n 3, 1) := by decide +kernel
theorem dJ1_inflate_0e8fd_4 : decode cJ1_inflate_0e8fd 4 = .ok (.iload 4, 2) := by decide +kernel
theorem dJ1_inflate_0e8fd_6 : decode cJ1_inflate_0e8fd 6 = .ok (.invokestatic 240, 3) := by decide +kernel
theorem dJ1_inflate_0e8fd_9 : decode cJ1_inflate_0e8fd 9 = .ok (.return_, 1) := by decide +kernel
theorem dJ2_newBytesFor_77867_0 : decode cJ2_newBytesFor_77867 0 = .ok (.iload_n 0, 1) := by decide +kernel
theorem dJ2_newBytesFor_77867_1 : decode cJ2_newBytesFor_77867 1 = .ok (.invokestatic 11, 3) := by decide +kernel
theorem dJ2_newBytesFor_77867_4 : decode cJ2_newBytesFor_77867 4 = .ok (.newarray .byte, 2) := by decide +kernel
theorem dJ2_newBytesFor_77867_6 : decode cJ2_newBytesFor_77867 6 = .ok (.areturn, 1) := by decide +kernel
theorem dJ2_newBytesLength_0f7a4_0 : decode cJ2_newBytesLength_0f7a4 0 = .ok (.iload_n 0, 1) := by decide +kernel
theorem dJ2_newBytesLength_0f7a4_1 : decode cJ2_newBytesLength_0f7a4 1 = .ok (.ifCond .ge 11, 3) := by decide +kernel
theorem dJ2_newBytesLength_0f7a4_4 : decode cJ2_newBytesLength_0f7a4 4 = .ok (.new 17, 3) := by decide +kernel
theorem dJ2_newBytesLength_0f7a4_7 : decode cJ2_newBytesLength_0f7a4 7 = .ok (.dup, 1) := by decide +kernel
theorem dJ2_newBytesLength_0f7a4_8 : decode cJ2_newBytesLength_0f7a4 8 = .ok (.invokespecial 19, 3) := by decide +kernel
theorem dJ2_newBytesLength_0f7a4_11 : decode cJ2_newBytesLength_0f7a4 11 = .ok (.athrow, 1) := by decide +kernel
theorem dJ2_newBytesLength_0f7a4_12 : decode cJ2_newBytesLength_0f7a4 12 = .ok (.iload_n 0, 1) := by decide +kernel
theorem dJ2_newBytesLength_0f7a4_13 : decode cJ2_newBytesLength_0f7a4 13 = .ok (.ldc 20, 2) := by decide +kernel
theorem dJ2_newBytesLength_0f7a4_15 : decode cJ2_newBytesLength_0f7a4 15 = .ok (.if_icmp .lt 40, 3) := by decide +kernel
theorem dJ2_newBytesLength_0f7a4_18 : decode cJ2_newBytesLength_0f7a4 18 = .ok (.new 21, 3) := by decide +kernel
theorem dJ2_newBytesLength_0f7a4_21 : decode cJ2_newBytesLength_0f7a4 21 = .ok (.dup, 1) := by decide +kernel
theorem dJ2_newBytesLength_0f7a4_22 : decode cJ2_newBytesLength_0f7a4 22 = .ok (.new 23, 3) := by decide +kernel
theorem dJ2_newBytesLength_0f7a4_25 : decode cJ2_newBytesLength_0f7a4 25 = .ok (.dup, 1) := by decide +kernel
theorem dJ2_newBytesLength_0f7a4_26 : decode cJ2_newBytesLength_0f7a4 26 = .ok (.invokespecial 25, 3) := by decide +kernel
theorem dJ2_newBytesLength_0f7a4_29 : decode cJ2_newBytesLength_0f7a4 29 = .ok (.ldc 26, 2) := by decide +kernel
theorem dJ2_newBytesLength_0f7a4_31 : decode cJ2_newBytesLength_0f7a4 31 = .ok (.invokevirtual 28, 3) := by decide +kernel
theorem dJ2_newBytesLength_0f7a4_34 : decode cJ2_newBytesLength_0f7a4 34 = .ok (.iload_n 0, 1) := by decide +kernel
theorem dJ2_newBytesLength_0f7a4_35 : decode cJ2_newBytesLength_0f7a4 35 = .ok (.invokevirtual 32, 3) := by decide +kernel
theorem dJ2_newBytesLength_0f7a4_38 : decode cJ2_newBytesLength_0f7a4 38 = .ok (.ldc 35, 2) := by decide +kernel
theorem dJ2_newBytesLength_0f7a4_40 : decode cJ2_newBytesLength_0f7a4 40 = .ok (.invokevirtual 28, 3) := by decide +kernel
theorem dJ2_newBytesLength_0f7a4_43 : decode cJ2_newBytesLength_0f7a4 43 = .ok (.ldc 20, 2) := by decide +kernel
theorem dJ2_newBytesLength_0f7a4_45 : decode cJ2_newBytesLength_0f7a4 45 = .ok (.invokevirtual 32, 3) := by decide +kernel
theorem dJ2_newBytesLength_0f7a4_48 : decode cJ2_newBytesLength_0f7a4 48 = .ok (.invokevirtual 37, 3) := by decide +kernel
theorem dJ2_newBytesLength_0f7a4_51 : decode cJ2_newBytesLength_0f7a4 51 = .ok (.invokespecial 41, 3) := by decide +kernel
theorem dJ2_newBytesLength_0f7a4_54 : decode cJ2_newBytesLength_0f7a4 54 = .ok (.athrow, 1) := by decide +kernel
theorem dJ2_newBytesLength_0f7a4_55 : decode cJ2_newBytesLength_0f7a4 55 = .ok (.iload_n 0, 1) := by decide +kernel
theorem dJ2_newBytesLength_0f7a4_56 : decode cJ2_newBytesLength_0f7a4 56 = .ok (.iconst 1, 1) := by decide +kernel
theorem dJ2_newBytesLength_0f7a4_57 : decode cJ2_newBytesLength_0f7a4 57 = .ok (.ishl, 1) := by decide +kernel
theorem dJ2_newBytesLength_0f7a4_58 : decode cJ2_newBytesLength_0f7a4 58 = .ok (.ireturn, 1) := by decide +kernel
theorem dJ2_putChar_b72d1_0 : decode cJ2_putChar_b72d1 0 = .ok (.getstatic 44, 3) := by decide +kernel
theorem dJ2_putChar_b72d1_3 : decode cJ2_putChar_b72d1 3 = .ok (.ifCond .ne 25, 3) := by decide +kernel
theorem dJ2_putChar_b72d1_6 : decode cJ2_putChar_b72d1 6 = .ok (.iload_n 1, 1) := by decide +kernel
theorem dJ2_putChar_b72d1_7 : decode cJ2_putChar_b72d1 7 = .ok (.ifCond .lt 11, 3) := by decide +kernel
theorem dJ2_putChar_b72d1_10 : decode cJ2_putChar_b72d1 10 = .ok (.iload_n 1, 1) := by decide +kernel
theorem dJ2_putChar_b72d1_11 : decode cJ2_putChar_b72d1 11 = .ok (.aload_n 0, 1) := by decide +kernel
theorem dJ2_putChar_b72d1_12 : decode cJ2_putChar_b72d1 12 = .ok (.invokestatic 48, 3) := by decide +kernel
theorem dJ2_putChar_b72d1_15 : decode cJ2_putChar_b72d1 15 = .ok (.if_icmp .lt 13, 3) := by decide +kernel
theorem dJ2_putChar_b72d1_18 : decode cJ2_putChar_b72d1 18 = .ok (.new 52, 3) := by decide +kernel
theorem dJ2_putChar_b72d1_21 : decode cJ2_putChar_b72d1 21 = .ok (.dup, 1) := by decide +kernel
theorem dJ2_putChar_b72d1_22 : decode cJ2_putChar_b72d1 22 = .ok (.ldc 54, 2) := by decide +kernel
theorem dJ2_putChar_b72d1_24 : decode cJ2_putChar_b72d1 24 = .ok (.invokespecial 56, 3) := by decide +kernel
theorem dJ2_putChar_b72d1_27 : decode cJ2_putChar_b72d1 27 = .ok (.athrow, 1) := by decide +kernel
theorem dJ2_putChar_b72d1_28 : decode cJ2_putChar_b72d1 28 = .ok (.iload_n 1, 1) := by decide +kernel
theorem dJ2_putChar_b72d1_29 : decode cJ2_putChar_b72d1 29 = .ok (.iconst 1, 1) := by decide +kernel
theorem dJ2_putChar_b72d1_30 : decode cJ2_putChar_b72d1 30 = .ok (.ishl, 1) := by decide +kernel
theorem dJ2_putChar_b72d1_31 : decode cJ2_putChar_b72d1 31 = .ok (.istore_n 1, 1) := by decide +kernel
theorem dJ2_putChar_b72d1_32 : decode cJ2_putChar_b72d1 32 = .ok (.aload_n 0, 1) := by decide +kernel
theorem dJ2_putChar_b72d1_33 : decode cJ2_putChar_b72d1 33 = .ok (.iload_n 1, 1) := by decide +kernel
theorem dJ2_putChar_b72d1_34 : decode cJ2_putChar_b72d1 34 = .ok (.iinc 1 1, 3) := by decide +kernel
theorem dJ2_putChar_b72d1_37 : decode cJ2_putChar_b72d1 37 = .ok (.iload_n 2, 1) := by decide +kernel
theorem dJ2_putChar_b72d1_38 : decode cJ2_putChar_b72d1 38 = .ok (.getstatic 59, 3) := by decide +kernel
theorem dJ2_putChar_b72d1_41 : decode cJ2_putChar_b72d1 41 = .ok (.ishr, 1) := by decide +kernel
theorem dJ2_putChar_b72d1_42 : decode cJ2_putChar_b72d1 42 = .ok (.i2b, 1) := by decide +kernel
theorem dJ2_putChar_b72d1_43 : decode cJ2_putChar_b72d1 43 = .ok (.bastore, 1) := by decide +kernel
theorem dJ2_putChar_b72d1_44 : decode cJ2_putChar_b72d1 44 = .ok (.aload_n 0, 1) := by decide +kernel
theorem dJ2_putChar_b72d1_45 : decode cJ2_putChar_b72d1 45 = .ok (.iload_n 1, 1) := by decide +kernel
theorem dJ2_putChar_b72d1_46 : decode cJ2_putChar_b72d1 46 = .ok (.iload_n 2, 1) := by decide +kernel
theorem dJ2_putChar_b72d1_47 : decode cJ2_putChar_b72d1 47 = .ok (.getstatic 63, 3) := by decide +kernel
theorem dJ2_putChar_b72d1_50 : decode cJ2_putChar_b72d1 50 = .ok (.ishr, 1) := by decide +kernel
theorem dJ2_putChar_b72d1_51 : decode cJ2_putChar_b72d1 51 = .ok (.i2b, 1) := by decide +kernel
theorem dJ2_putChar_b72d1_52 : decode cJ2_putChar_b72d1 52 = .ok (.bastore, 1) := by decide +kernel
theorem dJ2_putChar_b72d1_53 : decode cJ2_putChar_b72d1 53 = .ok (.return_, 1) := by decide +kernel
theorem dJ2_getChar_3b067_0 : decode cJ2_getChar_3b067 0 = .ok (.getstatic 44, 3) := by decide +kernel
theorem dJ2_getChar_3b067_3 : decode cJ2_getChar_3b067 3 = .ok (.ifCond .ne 25, 3) := by decide +kernel
theorem dJ2_getChar_3b067_6 : decode cJ2_getChar_3b067 6 = .ok (.iload_n 1, 1) := by decide +kernel
theorem dJ2_getChar_3b067_7 : decode cJ2_getChar_3b067 7 = .ok (.ifCond .lt 11, 3) := by decide +kernel
theorem dJ2_getChar_3b067_10 : decode cJ2_getChar_3b067 10 = .ok (.iload_n 1, 1) := by decide +kernel
theorem dJ2_getChar_3b067_11 : decode cJ2_getChar_3b067 11 = .ok (.aload_n 0, 1) := by decide +kernel
theorem dJ2_getChar_3b067_12 : decode cJ2_getChar_3b067 12 = .ok (.invokestatic 48, 3) := by decide +kernel
theorem dJ2_getChar_3b067_15 : decode cJ2_getChar_3b067 15 = .ok (.if_icmp .lt 13, 3) := by decide +kernel
theorem dJ2_getChar_3b067_18 : decode cJ2_getChar_3b067 18 = .ok (.new 52, 3) := by decide +kernel
theorem dJ2_getChar_3b067_21 : decode cJ2_getChar_3b067 21 = .ok (.dup, 1) := by decide +kernel
theorem dJ2_getChar_3b067_22 : decode cJ2_getChar_3b067 22 = .ok (.ldc 54, 2) := by decide +kernel
theorem dJ2_getChar_3b067_24 : decode cJ2_getChar_3b067 24 = .ok (.invokespecial 56, 3) := by decide +kernel
theorem dJ2_getChar_3b067_27 : decode cJ2_getChar_3b067 27 = .ok (.athrow, 1) := by decide +kernel
theorem dJ2_getChar_3b067_28 : decode cJ2_getChar_3b067 28 = .ok (.iload_n 1, 1) := by decide +kernel
theorem dJ2_getChar_3b067_29 : decode cJ2_getChar_3b067 29 = .ok (.iconst 1, 1) := by decide +kernel
theorem dJ2_getChar_3b067_30 : decode cJ2_getChar_3b067 30 = .ok (.ishl, 1) := by decide +kernel
theorem dJ2_getChar_3b067_31 : decode cJ2_getChar_3b067 31 = .ok (.istore_n 1, 1) := by decide +kernel
theorem dJ2_getChar_3b067_32 : decode cJ2_getChar_3b067 32 = .ok (.aload_n 0, 1) := by decide +kernel
theorem dJ2_getChar_3b067_33 : decode cJ2_getChar_3b067 33 = .ok (.iload_n 1, 1) := by decide +kernel
theorem dJ2_getChar_3b067_34 : decode cJ2_getChar_3b067 34 = .ok (.iinc 1 1, 3) := by decide +kernel
theorem dJ2_getChar_3b067_37 : decode cJ2_getChar_3b067 37 = .ok (.baload, 1) := by decide +kernel
theorem dJ2_getChar_3b067_38 : decode cJ2_getChar_3b067 38 = .ok (.sipush 255, 3) := by decide +kernel
theorem dJ2_getChar_3b067_41 : decode cJ2_getChar_3b067 41 = .ok (.iand, 1) := by decide +kernel
theorem dJ2_getChar_3b067_42 : decode cJ2_getChar_3b067 42 = .ok (.getstatic 59, 3) := by decide +kernel
theorem dJ2_getChar_3b067_45 : decode cJ2_getChar_3b067 45 = .ok (.ishl, 1) := by decide +kernel
theorem dJ2_getChar_3b067_46 : decode cJ2_getChar_3b067 46 = .ok (.aload_n 0, 1) := by decide +kernel
theorem dJ2_getChar_3b067_47 : decode cJ2_getChar_3b067 47 = .ok (.iload_n 1, 1) := by decide +kernel
theorem dJ2_getChar_3b067_48 : decode cJ2_getChar_3b067 48 = .ok (.baload, 1) := by decide +kernel
theorem dJ2_getChar_3b067_49 : decode cJ2_getChar_3b067 49 = .ok (.sipush 255, 3) := by decide +kernel
theorem dJ2_getChar_3b067_52 : decode cJ2_getChar_3b067 52 = .ok (.iand, 1) := by decide +kernel
theorem dJ2_getChar_3b067_53 : decode cJ2_getChar_3b067 53 = .ok (.getstatic 63, 3) := by decide +kernel
theorem dJ2_getChar_3b067_56 : decode cJ2_getChar_3b067 56 = .ok (.ishl, 1) := by decide +kernel
theorem dJ2_getChar_3b067_57 : decode cJ2_getChar_3b067 57 = .ok (.ior, 1) := by decide +kernel
theorem dJ2_getChar_3b067_58 : decode cJ2_getChar_3b067 58 = .ok (.i2c, 1) := by decide +kernel
theorem dJ2_getChar_3b067_59 : decode cJ2_getChar_3b067 59 = .ok (.ireturn, 1) := by decide +kernel
theorem dJ2_length_9d52b_0 : decode cJ2_length_9d52b 0 = .ok (.aload_n 0, 1) := by decide +kernel
theorem dJ2_length_9d52b_1 : decode cJ2_length_9d52b 1 = .ok (.arraylength, 1) := by decide +kernel
theorem dJ2_length_9d52b_2 : decode cJ2_length_9d52b 2 = .ok (.iconst 1, 1) := by decide +kernel
theorem dJ2_length_9d52b_3 : decode cJ2_length_9d52b 3 = .ok (.ishr, 1) := by decide +kernel
theorem dJ2_length_9d52b_4 : decode cJ2_length_9d52b 4 = .ok (.ireturn, 1) := by decide +kernel
theorem dJ2_coderFromArrayLen_85cad_0 : decode cJ2_coderFromArrayLen_85cad 0 = .ok (.iload_n 1, 1) := by decide +kernel
theorem dJ2_coderFromArrayLen_85cad_1 : decode cJ2_coderFromArrayLen_85cad 1 = .ok (.aload_n 0, 1) := by decide +kernel
theorem dJ2_coderFromArrayLen_85cad_2 : decode cJ2_coderFromArrayLen_85cad 2 = .ok (.arraylength, 1) := by decide +kernel
theorem dJ2_coderFromArrayLen_85cad_3 : decode cJ2_coderFromArrayLen_85cad 3 = .ok (.isub, 1) := by decide +kernel
theorem dJ2_coderFromArrayLen_85cad_4 : decode cJ2_coderFromArrayLen_85cad 4 = .ok (.bipush 31, 2) := by decide +kernel
theorem dJ2_coderFromArrayLen_85cad_6 : decode cJ2_coderFromArrayLen_85cad 6 = .ok (.iushr, 1) := by decide +kernel
theorem dJ2_coderFromArrayLen_85cad_7 : decode cJ2_coderFromArrayLen_85cad 7 = .ok (.i2b, 1) := by decide +kernel
theorem dJ2_coderFromArrayLen_85cad_8 : decode cJ2_coderFromArrayLen_85cad 8 = .ok (.ireturn, 1) := by decide +kernel
theorem dJ2_compress_39247_0 : decode cJ2_compress_39247 0 = .ok (.iload_n 2, 1) := by decide +kernel
theorem dJ2_compress_39247_1 : decode cJ2_compress_39247 1 = .ok (.newarray .byte, 2) := by decide +kernel
theorem dJ2_compress_39247_3 : decode cJ2_compress_39247 3 = .ok (.astore_n 3, 1) := by decide +kernel
theorem dJ2_compress_39247_4 : decode cJ2_compress_39247 4 = .ok (.aload_n 0, 1) := by decide +kernel
theorem dJ2_compress_39247_5 : decode cJ2_compress_39247 5 = .ok (.iload_n 1, 1) := by decide +kernel
theorem dJ2_compress_39247_6 : decode cJ2_compress_39247 6 = .ok (.aload_n 3, 1) := by decide +kernel
theorem dJ2_compress_39247_7 : decode cJ2_compress_39247 7 = .ok (.iconst 0, 1) := by decide +kernel
theorem dJ2_compress_39247_8 : decode cJ2_compress_39247 8 = .ok (.iload_n 2, 1) := by decide +kernel
theorem dJ2_compress_39247_9 : decode cJ2_compress_39247 9 = .ok (.invokestatic 123, 3) := by decide +kernel
theorem dJ2_compress_39247_12 : decode cJ2_compress_39247 12 = .ok (.istore 4, 2) := by decide +kernel
theorem dJ2_compress_39247_14 : decode cJ2_compress_39247 14 = .ok (.iload 4, 2) := by decide +kernel
theorem dJ2_compress_39247_16 : decode cJ2_compress_39247 16 = .ok (.iload_n 2, 1) := by decide +kernel
theorem dJ2_compress_39247_17 : decode cJ2_compress_39247 17 = .ok (.if_icmp .eq 47, 3) := by decide +kernel
theorem dJ2_compress_39247_20 : decode cJ2_compress_39247 20 = .ok (.aload_n 0, 1) := by decide +kernel
theorem dJ2_compress_39247_21 : decode cJ2_compress_39247 21 = .ok (.iload_n 1, 1) := by decide +kernel
theorem dJ2_compress_39247_22 : decode cJ2_compress_39247 22 = .ok (.iconst 1, 1) := by decide +kernel
theorem dJ2_compress_39247_23 : decode cJ2_compress_39247 23 = .ok (.ishl, 1) := by decide +kernel
theorem dJ2_compress_39247_24 : decode cJ2_compress_39247 24 = .ok (.iload_n 1, 1) := by decide +kernel
theorem dJ2_compress_39247_25 : decode cJ2_compress_39247 25 = .ok (.iload_n 2, 1) := by decide +kernel
theorem dJ2_compress_39247_26 : decode cJ2_compress_39247 26 = .ok (.iadd, 1) := by decide +kernel
theorem dJ2_compress_39247_27 : decode cJ2_compress_39247 27 = .ok (.invokestatic 11, 3) := by decide +kernel
theorem dJ2_compress_39247_30 : decode cJ2_compress_39247 30 = .ok (.invokestatic 126, 3) := by decide +kernel
theorem dJ2_compress_39247_33 : decode cJ2_compress_39247 33 = .ok (.astore 5, 2) := by decide +kernel
theorem dJ2_compress_39247_35 : decode cJ2_compress_39247 35 = .ok (.aload 5, 2) := by decide +kernel
theorem dJ2_compress_39247_37 : decode cJ2_compress_39247 37 = .ok (.iload 4, 2) := by decide +kernel
theorem dJ2_compress_39247_39 : decode cJ2_compress_39247 39 = .ok (.invokestatic 71, 3) := by decide +kernel
theorem dJ2_compress_39247_42 : decode cJ2_compress_39247 42 = .ok (.sipush 255, 3) := by decide +kernel
theorem dJ2_compress_39247_45 : decode cJ2_compress_39247 45 = .ok (.if_icmp .gt 16, 3) := by decide +kernel
theorem dJ2_compress_39247_48 : decode cJ2_compress_39247 48 = .ok (.aload 5, 2) := by decide +kernel
theorem dJ2_compress_39247_50 : decode cJ2_compress_39247 50 = .ok (.iconst 0, 1) := by decide +kernel
theorem dJ2_compress_39247_51 : decode cJ2_compress_39247 51 = .ok (.aload_n 3, 1) := by decide +kernel
theorem dJ2_compress_39247_52 : decode cJ2_compress_39247 52 = .ok (.iconst 0, 1) := by decide +kernel
theorem dJ2_compress_39247_53 : decode cJ2_compress_39247 53 = .ok (.iload_n 2, 1) := by decide +kernel
theorem dJ2_compress_39247_54 : decode cJ2_compress_39247 54 = .ok (.invokestatic 123, 3) := by decide +kernel
theorem dJ2_compress_39247_57 : decode cJ2_compress_39247 57 = .ok (.iload_n 2, 1) := by decide +kernel
theorem dJ2_compress_39247_58 : decode cJ2_compress_39247 58 = .ok (.if_icmp .eq 6, 3) := by decide +kernel
theorem dJ2_compress_39247_61 : decode cJ2_compress_39247 61 = .ok (.aload 5, 2) := by decide +kernel
theorem dJ2_compress_39247_63 : decode cJ2_compress_39247 63 = .ok (.areturn, 1) := by decide +kernel
theorem dJ2_compress_39247_64 : decode cJ2_compress_39247 64 = .ok (.aload_n 3, 1) := by decide +kernel
theorem dJ2_compress_39247_65 : decode cJ2_compress_39247 65 = .ok (.areturn, 1) := by decide +kernel
theorem dJ2_compress_5af95_0 : decode cJ2_compress_5af95 0 = .ok (.iload_n 1, 1) := by decide +kernel
theorem dJ2_compress_5af95_1 : decode cJ2_compress_5af95 1 = .ok (.iload 4, 2) := by decide +kernel
theorem dJ2_compress_5af95_3 : decode cJ2_compress_5af95 3 = .ok (.aload_n 0, 1) := by decide +kernel
theorem dJ2_compress_5af95_4 : decode cJ2_compress_5af95 4 = .ok (.invokestatic 173, 3) := by decide +kernel
theorem dJ2_compress_5af95_7 : decode cJ2_compress_5af95 7 = .ok (.iconst 0, 1) := by decide +kernel
theorem dJ2_compress_5af95_8 : decode cJ2_compress_5af95 8 = .ok (.istore 5, 2) := by decide +kernel
theorem dJ2_compress_5af95_10 : decode cJ2_compress_5af95 10 = .ok (.iload 5, 2) := by decide +kernel
theorem dJ2_compress_5af95_12 : decode cJ2_compress_5af95 12 = .ok (.iload 4, 2) := by decide +kernel
theorem dJ2_compress_5af95_14 : decode cJ2_compress_5af95 14 = .ok (.if_icmp .ge 39, 3) := by decide +kernel
theorem dJ2_compress_5af95_17 : decode cJ2_compress_5af95 17 = .ok (.aload_n 0, 1) := by decide +kernel
theorem dJ2_compress_5af95_18 : decode cJ2_compress_5af95 18 = .ok (.iload_n 1, 1) := by decide +kernel
theorem dJ2_compress_5af95_19 : decode cJ2_compress_5af95 19 = .ok (.invokestatic 71, 3) := by decide +kernel
theorem dJ2_compress_5af95_22 : decode cJ2_compress_5af95 22 = .ok (.istore 6, 2) := by decide +kernel
theorem dJ2_compress_5af95_24 : decode cJ2_compress_5af95 24 = .ok (.iload 6, 2) := by decide +kernel
theorem dJ2_compress_5af95_26 : decode cJ2_compress_5af95 26 = .ok (.sipush 255, 3) := by decide +kernel
theorem dJ2_compress_5af95_29 : decode cJ2_compress_5af95 29 = .ok (.if_icmp .le 6, 3) := by decide +kernel
theorem dJ2_compress_5af95_32 : decode cJ2_compress_5af95 32 = .ok (.iload 5, 2) := by decide +kernel
theorem dJ2_compress_5af95_34 : decode cJ2_compress_5af95 34 = .ok (.ireturn, 1) := by decide +kernel
theorem dJ2_compress_5af95_35 : decode cJ2_compress_5af95 35 = .ok (.aload_n 2, 1) := by decide +kernel
theorem dJ2_compress_5af95_36 : decode cJ2_compress_5af95 36 = .ok (.iload_n 3, 1) := by decide +kernel
theorem dJ2_compress_5af95_37 : decode cJ2_compress_5af95 37 = .ok (.iload 6, 2) := by decide +kernel
theorem dJ2_compress_5af95_39 : decode cJ2_compress_5af95 39 = .ok (.i2b, 1) := by decide +kernel
theorem dJ2_compress_5af95_40 : decode cJ2_compress_5af95 40 = .ok (.bastore, 1) := by decide +kernel
theorem dJ2_compress_5af95_41 : decode cJ2_compress_5af95 41 = .ok (.iinc 1 1, 3) := by decide +kernel
theorem dJ2_compress_5af95_44 : decode cJ2_compress_5af95 44 = .ok (.iinc 3 1, 3) := by decide +kernel
theorem dJ2_compress_5af95_47 : decode cJ2_compress_5af95 47 = .ok (.iinc 5 1, 3) := by decide +kernel
theorem dJ2_compress_5af95_50 : decode cJ2_compress_5af95 50 = .ok (.goto (-40), 3) := by decide +kernel
theorem dJ2_compress_5af95_53 : decode cJ2_compress_5af95 53 = .ok (.iload 4, 2) := by decide +kernel
theorem dJ2_compress_5af95_55 : decode cJ2_compress_5af95 55 = .ok (.ireturn, 1) := by decide +kernel
theorem dJ2_putCharSB_b72d1_0 : decode cJ2_putCharSB_b72d1 0 = .ok (.iload_n 1, 1) := by decide +kernel
theorem dJ2_putCharSB_b72d1_1 : decode cJ2_putCharSB_b72d1 1 = .ok (.aload_n 0, 1) := by decide +kernel
theorem dJ2_putCharSB_b72d1_2 : decode cJ2_putCharSB_b72d1 2 = .ok (.invokestatic 67, 3) := by decide +kernel
theorem dJ2_putCharSB_b72d1_5 : decode cJ2_putCharSB_b72d1 5 = .ok (.aload_n 0, 1) := by decide +kernel
theorem dJ2_putCharSB_b72d1_6 : decode cJ2_putCharSB_b72d1 6 = .ok (.iload_n 1, 1) := by decide +kernel
theorem dJ2_putCharSB_b72d1_7 : decode cJ2_putCharSB_b72d1 7 = .ok (.iload_n 2, 1) := by decide +kernel
theorem dJ2_putCharSB_b72d1_8 : decode cJ2_putCharSB_b72d1 8 = .ok (.invokestatic 111, 3) := by decide +kernel
theorem dJ2_putCharSB_b72d1_11 : decode cJ2_putCharSB_b72d1 11 = .ok (.return_, 1) := by decide +kernel
theorem dJ2_getChars_46870_0 : decode cJ2_getChars_46870 0 = .ok (.iload_n 1, 1) := by decide +kernel
theorem dJ2_getChars_46870_1 : decode cJ2_getChars_46870 1 = .ok (.iload_n 2, 1) := by decide +kernel
theorem dJ2_getChars_46870_2 : decode cJ2_getChars_46870 2 = .ok (.aload_n 3, 1) := by decide +kernel
theorem dJ2_getChars_46870_3 : decode cJ2_getChars_46870 3 = .ok (.invokestatic 96, 3) := by decide +kernel
theorem dJ2_getChars_46870_6 : decode cJ2_getChars_46870 6 = .ok (.iload_n 0, 1) := by decide +kernel
theorem dJ2_getChars_46870_7 : decode cJ2_getChars_46870 7 = .ok (.iload_n 2, 1) := by decide +kernel
theorem dJ2_getChars_46870_8 : decode cJ2_getChars_46870 8 = .ok (.aload_n 3, 1) := by decide +kernel
theorem dJ2_getChars_46870_9 : decode cJ2_getChars_46870 9 = .ok (.invokestatic 393, 3) := by decide +kernel
theorem dJ2_getChars_46870_12 : decode cJ2_getChars_46870 12 = .ok (.istore 4, 2) := by decide +kernel
theorem dJ2_getChars_46870_14 : decode cJ2_getChars_46870 14 = .ok (.getstatic 44, 3) := by decide +kernel
theorem dJ2_getChars_46870_17 : decode cJ2_getChars_46870 17 = .ok (.ifCond .ne 17, 3) := by decide +kernel
theorem dJ2_getChars_46870_20 : decode cJ2_getChars_46870 20 = .ok (.iload_n 1, 1) := by decide +kernel
theorem dJ2_getChars_46870_21 : decode cJ2_getChars_46870 21 = .ok (.iload 4, 2) := by decide +kernel
theorem dJ2_getChars_46870_23 : decode cJ2_getChars_46870 23 = .ok (.if_icmp .eq 11, 3) := by decide +kernel
theorem dJ2_getChars_46870_26 : decode cJ2_getChars_46870 26 = .ok (.new 52, 3) := by decide +kernel
theorem dJ2_getChars_46870_29 : decode cJ2_getChars_46870 29 = .ok (.dup, 1) := by decide +kernel
theorem dJ2_getChars_46870_30 : decode cJ2_getChars_46870 30 = .ok (.invokespecial 66, 3) := by decide +kernel
theorem dJ2_getChars_46870_33 : decode cJ2_getChars_46870 33 = .ok (.athrow, 1) := by decide +kernel
theorem dJ2_getChars_46870_34 : decode cJ2_getChars_46870 34 = .ok (.iload 4, 2) := by decide +kernel
theorem dJ2_getChars_46870_36 : decode cJ2_getChars_46870 36 = .ok (.ireturn, 1) := by decide +kernel
theorem dJ2_putCharsAt_cd4e5_0 : decode cJ2_putCharsAt_cd4e5 0 = .ok (.iload_n 1, 1) := by decide +kernel
theorem dJ2_putCharsAt_cd4e5_1 : decode cJ2_putCharsAt_cd4e5 1 = .ok (.iconst 4, 1) := by decide +kernel
theorem dJ2_putCharsAt_cd4e5_2 : decode cJ2_putCharsAt_cd4e5 2 = .ok (.iadd, 1) := by decide +kernel
theorem dJ2_putCharsAt_cd4e5_3 : decode cJ2_putCharsAt_cd4e5 3 = .ok (.istore 6, 2) := by decide +kernel
theorem dJ2_putCharsAt_cd4e5_5 : decode cJ2_putCharsAt_cd4e5 5 = .ok (.iload_n 1, 1) := by decide +kernel
theorem dJ2_putCharsAt_cd4e5_6 : decode cJ2_putCharsAt_cd4e5 6 = .ok (.iload 6, 2) := by decide +kernel
theorem dJ2_putCharsAt_cd4e5_8 : decode cJ2_putCharsAt_cd4e5 8 = .ok (.aload_n 0, 1) := by decide +kernel
theorem dJ2_putCharsAt_cd4e5_9 : decode cJ2_putCharsAt_cd4e5 9 = .ok (.invokestatic 96, 3) := by decide +kernel
theorem dJ2_putCharsAt_cd4e5_12 : decode cJ2_putCharsAt_cd4e5 12 = .ok (.aload_n 0, 1) := by decide +kernel
theorem dJ2_putCharsAt_cd4e5_13 : decode cJ2_putCharsAt_cd4e5 13 = .ok (.iload_n 1, 1) := by decide +kernel
theorem dJ2_putCharsAt_cd4e5_14 : decode cJ2_putCharsAt_cd4e5 14 = .ok (.iinc 1 1, 3) := by decide +kernel
theorem dJ2_putCharsAt_cd4e5_17 : decode cJ2_putCharsAt_cd4e5 17 = .ok (.iload_n 2, 1) := by decide +kernel
theorem dJ2_putCharsAt_cd4e5_18 : decode cJ2_putCharsAt_cd4e5 18 = .ok (.invokestatic 111, 3) := by decide +kernel
theorem dJ2_putCharsAt_cd4e5_21 : decode cJ2_putCharsAt_cd4e5 21 = .ok (.aload_n 0, 1) := by decide +kernel
theorem dJ2_putCharsAt_cd4e5_22 : decode cJ2_putCharsAt_cd4e5 22 = .ok (.iload_n 1, 1) := by decide +kernel
theorem dJ2_putCharsAt_cd4e5_23 : decode cJ2_putCharsAt_cd4e5 23 = .ok (.iinc 1 1, 3) := by decide +kernel
theorem dJ2_putCharsAt_cd4e5_26 : decode cJ2_putCharsAt_cd4e5 26 = .ok (.iload_n 3, 1) := by decide +kernel
theorem dJ2_putCharsAt_cd4e5_27 : decode cJ2_putCharsAt_cd4e5 27 = .ok (.invokestatic 111, 3) := by decide +kernel
theorem dJ2_putCharsAt_cd4e5_30 : decode cJ2_putCharsAt_cd4e5 30 = .ok (.aload_n 0, 1) := by decide +kernel
theorem dJ2_putCharsAt_cd4e5_31 : decode cJ2_putCharsAt_cd4e5 31 = .ok (.iload_n 1, 1) := by decide +kernel
theorem dJ2_putCharsAt_cd4e5_32 : decode cJ2_putCharsAt_cd4e5 32 = .ok (.iinc 1 1, 3) := by decide +kernel
theorem dJ2_putCharsAt_cd4e5_35 : decode cJ2_putCharsAt_cd4e5 35 = .ok (.iload 4, 2) := by decide +kernel
theorem dJ2_putCharsAt_cd4e5_37 : decode cJ2_putCharsAt_cd4e5 37 = .ok (.invokestatic 111, 3) := by decide +kernel
theorem dJ2_putCharsAt_cd4e5_40 : decode cJ2_putCharsAt_cd4e5 40 = .ok (.aload_n 0, 1) := by decide +kernel
theorem dJ2_putCharsAt_cd4e5_41 : decode cJ2_putCharsAt_cd4e5 41 = .ok (.iload_n 1, 1) := by decide +kernel
theorem dJ2_putCharsAt_cd4e5_42 : decode cJ2_putCharsAt_cd4e5 42 = .ok (.iinc 1 1, 3) := by decide +kernel
theorem dJ2_putCharsAt_cd4e5_45 : decode cJ2_putCharsAt_cd4e5 45 = .ok (.iload 5, 2) := by decide +kernel
theorem dJ2_putCharsAt_cd4e5_47 : decode cJ2_putCharsAt_cd4e5 47 = .ok (.invokestatic 111, 3) := by decide +kernel
theorem dJ2_putCharsAt_cd4e5_50 : decode cJ2_putCharsAt_cd4e5 50 = .ok (.getstatic 44, 3) := by decide +kernel
theorem dJ2_putCharsAt_cd4e5_53 : decode cJ2_putCharsAt_cd4e5 53 = .ok (.ifCond .ne 17, 3) := by decide +kernel
theorem dJ2_putCharsAt_cd4e5_56 : decode cJ2_putCharsAt_cd4e5 56 = .ok (.iload_n 1, 1) := by decide +kernel
theorem dJ2_putCharsAt_cd4e5_57 : decode cJ2_putCharsAt_cd4e5 57 = .ok (.iload 6, 2) := by decide +kernel
theorem dJ2_putCharsAt_cd4e5_59 : decode cJ2_putCharsAt_cd4e5 59 = .ok (.if_icmp .eq 11, 3) := by decide +kernel
theorem dJ2_putCharsAt_cd4e5_62 : decode cJ2_putCharsAt_cd4e5 62 = .ok (.new 52, 3) := by decide +kernel
theorem dJ2_putCharsAt_cd4e5_65 : decode cJ2_putCharsAt_cd4e5 65 = .ok (.dup, 1) := by decide +kernel
theorem dJ2_putCharsAt_cd4e5_66 : decode cJ2_putCharsAt_cd4e5 66 = .ok (.invokespecial 66, 3) := by decide +kernel
theorem dJ2_putCharsAt_cd4e5_69 : decode cJ2_putCharsAt_cd4e5 69 = .ok (.athrow, 1) := by decide +kernel
theorem dJ2_putCharsAt_cd4e5_70 : decode cJ2_putCharsAt_cd4e5 70 = .ok (.iload 6, 2) := by decide +kernel
theorem dJ2_putCharsAt_cd4e5_72 : decode cJ2_putCharsAt_cd4e5 72 = .ok (.ireturn, 1) := by decide +kernel
theorem dJ2_charAt_3b067_0 : decode cJ2_charAt_3b067 0 = .ok (.iload_n 1, 1) := by decide +kernel
theorem dJ2_charAt_3b067_1 : decode cJ2_charAt_3b067 1 = .ok (.aload_n 0, 1) := by decide +kernel
theorem dJ2_charAt_3b067_2 : decode cJ2_charAt_3b067 2 = .ok (.invokestatic 67, 3) := by decide +kernel
theorem dJ2_charAt_3b067_5 : decode cJ2_charAt_3b067 5 = .ok (.aload_n 0, 1) := by decide +kernel
theorem dJ2_charAt_3b067_6 : decode cJ2_charAt_3b067 6 = .ok (.iload_n 1, 1) := by decide +kernel
theorem dJ2_charAt_3b067_7 : decode cJ2_charAt_3b067 7 = .ok (.invokestatic 71, 3) := by decide +kernel
theorem dJ2_charAt_3b067_10 : decode cJ2_charAt_3b067 10 = .ok (.ireturn, 1) := by decide +kernel
theorem dJ2_inflate_0e8fd_0 : decode cJ2_inflate_0e8fd 0 = .ok (.iload_n 3, 1) := by decide +kernel
theorem dJ2_inflate_0e8fd_1 : decode cJ2_inflate_0e8fd 1 = .ok (.iload 4, 2) := by decide +kernel
theorem dJ2_inflate_0e8fd_3 : decode cJ2_inflate_0e8fd 3 = .ok (.aload_n 2, 1) := by decide +kernel
theorem dJ2_inflate_0e8fd_4 : decode cJ2_inflate_0e8fd 4 = .ok (.invokestatic 173, 3) := by decide +kernel
theorem dJ2_inflate_0e8fd_7 : decode cJ2_inflate_0e8fd 7 = .ok (.iconst 0, 1) := by decide +kernel
theorem dJ2_inflate_0e8fd_8 : decode cJ2_inflate_0e8fd 8 = .ok (.istore 5, 2) := by decide +kernel
theorem dJ2_inflate_0e8fd_10 : decode cJ2_inflate_0e8fd 10 = .ok (.iload 5, 2) := by decide +kernel
theorem dJ2_inflate_0e8fd_12 : decode cJ2_inflate_0e8fd 12 = .ok (.iload 4, 2) := by decide +kernel
theorem dJ2_inflate_0e8fd_14 : decode cJ2_inflate_0e8fd 14 = .ok (.if_icmp .ge 27, 3) := by decide +kernel
theorem dJ2_inflate_0e8fd_17 : decode cJ2_inflate_0e8fd 17 = .ok (.aload_n 2, 1) := by decide +kernel
theorem dJ2_inflate_0e8fd_18 : decode cJ2_inflate_0e8fd 18 = .ok (.iload_n 3, 1) := by decide +kernel
theorem dJ2_inflate_0e8fd_19 : decode cJ2_inflate_0e8fd 19 = .ok (.iinc 3 1, 3) := by decide +kernel
theorem dJ2_inflate_0e8fd_22 : decode cJ2_inflate_0e8fd 22 = .ok (.aload_n 0, 1) := by decide +kernel
theorem dJ2_inflate_0e8fd_23 : decode cJ2_inflate_0e8fd 23 = .ok (.iload_n 1, 1) := by decide +kernel
theorem dJ2_inflate_0e8fd_24 : decode cJ2_inflate_0e8fd 24 = .ok (.iinc 1 1, 3) := by decide +kernel
theorem dJ2_inflate_0e8fd_27 : decode cJ2_inflate_0e8fd 27 = .ok (.baload, 1) := by decide +kernel
theorem dJ2_inflate_0e8fd_28 : decode cJ2_inflate_0e8fd 28 = .ok (.sipush 255, 3) := by decide +kernel
theorem dJ2_inflate_0e8fd_31 : decode cJ2_inflate_0e8fd 31 = .ok (.iand, 1) := by decide +kernel
theorem dJ2_inflate_0e8fd_32 : decode cJ2_inflate_0e8fd 32 = .ok (.invokestatic 111, 3) := by decide +kernel
theorem dJ2_inflate_0e8fd_35 : decode cJ2_inflate_0e8fd 35 = .ok (.iinc 5 1, 3) := by decide +kernel
theorem dJ2_inflate_0e8fd_38 : decode cJ2_inflate_0e8fd 38 = .ok (.goto (-28), 3) := by decide +kernel
theorem dJ2_inflate_0e8fd_41 : decode cJ2_inflate_0e8fd 41 = .ok (.return_, 1) := by decide +kernel
theorem dJ2_getChars_ba4f3_0 : decode cJ2_getChars_ba4f3 0 = .ok (.iload_n 1, 1) := by decide +kernel
theorem dJ2_getChars_ba4f3_1 : decode cJ2_getChars_ba4f3 1 = .ok (.istore 5, 2) := by decide +kernel
theorem dJ2_getChars_ba4f3_3 : decode cJ2_getChars_ba4f3 3 = .ok (.iload_n 0, 1) := by decide +kernel
theorem dJ2_getChars_ba4f3_4 : decode cJ2_getChars_ba4f3 4 = .ok (.ifCond .ge 7, 3) := by decide +kernel
theorem dJ2_getChars_ba4f3_7 : decode cJ2_getChars_ba4f3 7 = .ok (.iconst 1, 1) := by decide +kernel
theorem dJ2_getChars_ba4f3_8 : decode cJ2_getChars_ba4f3 8 = .ok (.goto 4, 3) := by decide +kernel
theorem dJ2_getChars_ba4f3_11 : decode cJ2_getChars_ba4f3 11 = .ok (.iconst 0, 1) := by decide +kernel
theorem dJ2_getChars_ba4f3_12 : decode cJ2_getChars_ba4f3 12 = .ok (.istore 6, 2) := by decide +kernel
theorem dJ2_getChars_ba4f3_14 : decode cJ2_getChars_ba4f3 14 = .ok (.iload 6, 2) := by decide +kernel
theorem dJ2_getChars_ba4f3_16 : decode cJ2_getChars_ba4f3 16 = .ok (.ifCond .ne 6, 3) := by decide +kernel
theorem dJ2_getChars_ba4f3_19 : decode cJ2_getChars_ba4f3 19 = .ok (.iload_n 0, 1) := by decide +kernel
theorem dJ2_getChars_ba4f3_20 : decode cJ2_getChars_ba4f3 20 = .ok (.ineg, 1) := by decide +kernel
theorem dJ2_getChars_ba4f3_21 : decode cJ2_getChars_ba4f3 21 = .ok (.istore_n 0, 1) := by decide +kernel
theorem dJ2_getChars_ba4f3_22 : decode cJ2_getChars_ba4f3 22 = .ok (.iload_n 0, 1) := by decide +kernel
theorem dJ2_getChars_ba4f3_23 : decode cJ2_getChars_ba4f3 23 = .ok (.bipush (-100), 2) := by decide +kernel
theorem dJ2_getChars_ba4f3_25 : decode cJ2_getChars_ba4f3 25 = .ok (.if_icmp .gt 51, 3) := by decide +kernel
theorem dJ2_getChars_ba4f3_28 : decode cJ2_getChars_ba4f3 28 = .ok (.iload_n 0, 1) := by decide +kernel
theorem dJ2_getChars_ba4f3_29 : decode cJ2_getChars_ba4f3 29 = .ok (.bipush 100, 2) := by decide +kernel
theorem dJ2_getChars_ba4f3_31 : decode cJ2_getChars_ba4f3 31 = .ok (.idiv, 1) := by decide +kernel
theorem dJ2_getChars_ba4f3_32 : decode cJ2_getChars_ba4f3 32 = .ok (.istore_n 3, 1) := by decide +kernel
theorem dJ2_getChars_ba4f3_33 : decode cJ2_getChars_ba4f3 33 = .ok (.iload_n 3, 1) := by decide +kernel
theorem dJ2_getChars_ba4f3_34 : decode cJ2_getChars_ba4f3 34 = .ok (.bipush 100, 2) := by decide +kernel
theorem dJ2_getChars_ba4f3_36 : decode cJ2_getChars_ba4f3 36 = .ok (.imul, 1) := by decide +kernel
theorem dJ2_getChars_ba4f3_37 : decode cJ2_getChars_ba4f3 37 = .ok (.iload_n 0, 1) := by decide +kernel
theorem dJ2_getChars_ba4f3_38 : decode cJ2_getChars_ba4f3 38 = .ok (.isub, 1) := by decide +kernel
theorem dJ2_getChars_ba4f3_39 : decode cJ2_getChars_ba4f3 39 = .ok (.istore 4, 2) := by decide +kernel
theorem dJ2_getChars_ba4f3_41 : decode cJ2_getChars_ba4f3 41 = .ok (.iload_n 3, 1) := by decide +kernel
theorem dJ2_getChars_ba4f3_42 : decode cJ2_getChars_ba4f3 42 = .ok (.istore_n 0, 1) := by decide +kernel
theorem dJ2_getChars_ba4f3_43 : decode cJ2_getChars_ba4f3 43 = .ok (.aload_n 2, 1) := by decide +kernel
theorem dJ2_getChars_ba4f3_44 : decode cJ2_getChars_ba4f3 44 = .ok (.iinc 5 (-1), 3) := by decide +kernel
theorem dJ2_getChars_ba4f3_47 : decode cJ2_getChars_ba4f3 47 = .ok (.iload 5, 2) := by decide +kernel
theorem dJ2_getChars_ba4f3_49 : decode cJ2_getChars_ba4f3 49 = .ok (.getstatic 403, 3) := by decide +kernel
theorem dJ2_getChars_ba4f3_52 : decode cJ2_getChars_ba4f3 52 = .ok (.iload 4, 2) := by decide +kernel
theorem dJ2_getChars_ba4f3_54 : decode cJ2_getChars_ba4f3 54 = .ok (.baload, 1) := by decide +kernel
theorem dJ2_getChars_ba4f3_55 : decode cJ2_getChars_ba4f3 55 = .ok (.invokestatic 111, 3) := by decide +kernel
theorem dJ2_getChars_ba4f3_58 : decode cJ2_getChars_ba4f3 58 = .ok (.aload_n 2, 1) := by decide +kernel
theorem dJ2_getChars_ba4f3_59 : decode cJ2_getChars_ba4f3 59 = .ok (.iinc 5 (-1), 3) := by decide +kernel
theorem dJ2_getChars_ba4f3_62 : decode cJ2_getChars_ba4f3 62 = .ok (.iload 5, 2) := by decide +kernel
theorem dJ2_getChars_ba4f3_64 : decode cJ2_getChars_ba4f3 64 = .ok (.getstatic 407, 3) := by decide +kernel
theorem dJ2_getChars_ba4f3_67 : decode cJ2_getChars_ba4f3 67 = .ok (.iload 4, 2) := by decide +kernel
theorem dJ2_getChars_ba4f3_69 : decode cJ2_getChars_ba4f3 69 = .ok (.baload, 1) := by decide +kernel
theorem dJ2_getChars_ba4f3_70 : decode cJ2_getChars_ba4f3 70 = .ok (.invokestatic 111, 3) := by decide +kernel
theorem dJ2_getChars_ba4f3_73 : decode cJ2_getChars_ba4f3 73 = .ok (.goto (-51), 3) := by decide +kernel
theorem dJ2_getChars_ba4f3_76 : decode cJ2_getChars_ba4f3 76 = .ok (.aload_n 2, 1) := by decide +kernel
theorem dJ2_getChars_ba4f3_77 : decode cJ2_getChars_ba4f3 77 = .ok (.iinc 5 (-1), 3) := by decide +kernel
theorem dJ2_getChars_ba4f3_80 : decode cJ2_getChars_ba4f3 80 = .ok (.iload 5, 2) := by decide +kernel
theorem dJ2_getChars_ba4f3_82 : decode cJ2_getChars_ba4f3 82 = .ok (.getstatic 403, 3) := by decide +kernel
theorem dJ2_getChars_ba4f3_85 : decode cJ2_getChars_ba4f3 85 = .ok (.iload_n 0, 1) := by decide +kernel
theorem dJ2_getChars_ba4f3_86 : decode cJ2_getChars_ba4f3 86 = .ok (.ineg, 1) := by decide +kernel
theorem dJ2_getChars_ba4f3_87 : decode cJ2_getChars_ba4f3 87 = .ok (.baload, 1) := by decide +kernel
theorem dJ2_getChars_ba4f3_88 : decode cJ2_getChars_ba4f3 88 = .ok (.invokestatic 111, 3) := by decide +kernel
theorem dJ2_getChars_ba4f3_91 : decode cJ2_getChars_ba4f3 91 = .ok (.iload_n 0, 1) := by decide +kernel
theorem dJ2_getChars_ba4f3_92 : decode cJ2_getChars_ba4f3 92 = .ok (.bipush (-9), 2) := by decide +kernel
theorem dJ2_getChars_ba4f3_94 : decode cJ2_getChars_ba4f3 94 = .ok (.if_icmp .ge 18, 3) := by decide +kernel
theorem dJ2_getChars_ba4f3_97 : decode cJ2_getChars_ba4f3 97 = .ok (.aload_n 2, 1) := by decide +kernel
theorem dJ2_getChars_ba4f3_98 : decode cJ2_getChars_ba4f3 98 = .ok (.iinc 5 (-1), 3) := by decide +kernel
theorem dJ2_getChars_ba4f3_101 : decode cJ2_getChars_ba4f3 101 = .ok (.iload 5, 2) := by decide +kernel
theorem dJ2_getChars_ba4f3_103 : decode cJ2_getChars_ba4f3 103 = .ok (.getstatic 407, 3) := by decide +kernel
theorem dJ2_getChars_ba4f3_106 : decode cJ2_getChars_ba4f3 106 = .ok (.iload_n 0, 1) := by decide +kernel
theorem dJ2_getChars_ba4f3_107 : decode cJ2_getChars_ba4f3 107 = .ok (.ineg, 1) := by decide +kernel
theorem dJ2_getChars_ba4f3_108 : decode cJ2_getChars_ba4f3 108 = .ok (.baload, 1) := by decide +kernel
theorem dJ2_getChars_ba4f3_109 : decode cJ2_getChars_ba4f3 109 = .ok (.invokestatic 111, 3) := by decide +kernel
theorem dJ2_getChars_ba4f3_112 : decode cJ2_getChars_ba4f3 112 = .ok (.iload 6, 2) := by decide +kernel
theorem dJ2_getChars_ba4f3_114 : decode cJ2_getChars_ba4f3 114 = .ok (.ifCond .eq 14, 3) := by decide +kernel
theorem dJ2_getChars_ba4f3_117 : decode cJ2_getChars_ba4f3 117 = .ok (.aload_n 2, 1) := by decide +kernel
theorem dJ2_getChars_ba4f3_118 : decode cJ2_getChars_ba4f3 118 = .ok (.iinc 5 (-1), 3) := by decide +kernel
theorem dJ2_getChars_ba4f3_121 : decode cJ2_getChars_ba4f3 121 = .ok (.iload 5, 2) := by decide +kernel
theorem dJ2_getChars_ba4f3_123 : decode cJ2_getChars_ba4f3 123 = .ok (.bipush 45, 2) := by decide +kernel
theorem dJ2_getChars_ba4f3_125 : decode cJ2_getChars_ba4f3 125 = .ok (.invokestatic 111, 3) := by decide +kernel
theorem dJ2_getChars_ba4f3_128 : decode cJ2_getChars_ba4f3 128 = .ok (.iload 5, 2) := by decide +kernel
theorem dJ2_getChars_ba4f3_130 : decode cJ2_getChars_ba4f3 130 = .ok (.ireturn, 1) := by decide +kernel
theorem dJ2_checkIndex_2214a_0 : decode cJ2_checkIndex_2214a 0 = .ok (.iload_n 0, 1) := by decide +kernel
theorem dJ2_checkIndex_2214a_1 : decode cJ2_checkIndex_2214a 1 = .ok (.aload_n 1, 1) := by decide +kernel
theorem dJ2_checkIndex_2214a_2 : decode cJ2_checkIndex_2214a 2 = .ok (.invokestatic 48, 3) := by decide +kernel
theorem dJ2_checkIndex_2214a_5 : decode cJ2_checkIndex_2214a 5 = .ok (.invokestatic 414, 3) := by decide +kernel
theorem dJ2_checkIndex_2214a_8 : decode cJ2_checkIndex_2214a 8 = .ok (.return_, 1) := by decide +kernel
theorem dJ2_checkBoundsBeginEnd_d044e_0 : decode cJ2_checkBoundsBeginEnd_d044e 0 = .ok (.iload_n 0, 1) := by decide +kernel
theorem dJ2_checkBoundsBeginEnd_d044e_1 : decode cJ2_checkBoundsBeginEnd_d044e 1 = .ok (.iload_n 1, 1) := by decide +kernel
theorem dJ2_checkBoundsBeginEnd_d044e_2 : decode cJ2_checkBoundsBeginEnd_d044e 2 = .ok (.aload_n 2, 1) := by decide +kernel
theorem dJ2_checkBoundsBeginEnd_d044e_3 : decode cJ2_checkBoundsBeginEnd_d044e 3 = .ok (.invokestatic 48, 3) := by decide +kernel
theorem dJ2_checkBoundsBeginEnd_d044e_6 : decode cJ2_checkBoundsBeginEnd_d044e 6 = .ok (.invokestatic 241, 3) := by decide +kernel
theorem dJ2_checkBoundsBeginEnd_d044e_9 : decode cJ2_checkBoundsBeginEnd_d044e 9 = .ok (.return_, 1) := by decide +kernel
theorem dJ2_checkBoundsOffCount_d044e_0 : decode cJ2_checkBoundsOffCount_d044e 0 = .ok (.iload_n 0, 1) := by decide +kernel
theorem dJ2_checkBoundsOffCount_d044e_1 : decode cJ2_checkBoundsOffCount_d044e 1 = .ok (.iload_n 1, 1) := by decide +kernel
theorem dJ2_checkBoundsOffCount_d044e_2 : decode cJ2_checkBoundsOffCount_d044e 2 = .ok (.aload_n 2, 1) := by decide +kernel
theorem dJ2_checkBoundsOffCount_d044e_3 : decode cJ2_checkBoundsOffCount_d044e 3 = .ok (.invokestatic 48, 3) := by decide +kernel
theorem dJ2_checkBoundsOffCount_d044e_6 : decode cJ2_checkBoundsOffCount_d044e 6 = .ok (.invokestatic 419, 3) := by decide +kernel
theorem dJ2_checkBoundsOffCount_d044e_9 : decode cJ2_checkBoundsOffCount_d044e 9 = .ok (.pop, 1) := by decide +kernel
theorem dJ2_checkBoundsOffCount_d044e_10 : decode cJ2_checkBoundsOffCount_d044e 10 = .ok (.return_, 1) := by decide +kernel
theorem dJ7_copyOf_9075b_0 : decode cJ7_copyOf_9075b 0 = .ok (.iload_n 1, 1) := by decide +kernel
theorem dJ7_copyOf_9075b_1 : decode cJ7_copyOf_9075b 1 = .ok (.aload_n 0, 1) := by decide +kernel
theorem dJ7_copyOf_9075b_2 : decode cJ7_copyOf_9075b 2 = .ok (.arraylength, 1) := by decide +kernel
theorem dJ7_copyOf_9075b_3 : decode cJ7_copyOf_9075b 3 = .ok (.if_icmp .ne 11, 3) := by decide +kernel
theorem dJ7_copyOf_9075b_6 : decode cJ7_copyOf_9075b 6 = .ok (.aload_n 0, 1) := by decide +kernel
theorem dJ7_copyOf_9075b_7 : decode cJ7_copyOf_9075b 7 = .ok (.invokevirtual 310, 3) := by decide +kernel
theorem dJ7_copyOf_9075b_10 : decode cJ7_copyOf_9075b 10 = .ok (.checkcast 311, 3) := by decide +kernel
theorem dJ7_copyOf_9075b_13 : decode cJ7_copyOf_9075b 13 = .ok (.areturn, 1) := by decide +kernel
theorem dJ7_copyOf_9075b_14 : decode cJ7_copyOf_9075b 14 = .ok (.iload_n 1, 1) := by decide +kernel
theorem dJ7_copyOf_9075b_15 : decode cJ7_copyOf_9075b 15 = .ok (.newarray .byte, 2) := by decide +kernel
theorem dJ7_copyOf_9075b_17 : decode cJ7_copyOf_9075b 17 = .ok (.astore_n 2, 1) := by decide +kernel
theorem dJ7_copyOf_9075b_18 : decode cJ7_copyOf_9075b 18 = .ok (.aload_n 0, 1) := by decide +kernel
theorem dJ7_copyOf_9075b_19 : decode cJ7_copyOf_9075b 19 = .ok (.iconst 0, 1) := by decide +kernel
theorem dJ7_copyOf_9075b_20 : decode cJ7_copyOf_9075b 20 = .ok (.aload_n 2, 1) := by decide +kernel
theorem dJ7_copyOf_9075b_21 : decode cJ7_copyOf_9075b 21 = .ok (.iconst 0, 1) := by decide +kernel
theorem dJ7_copyOf_9075b_22 : decode cJ7_copyOf_9075b 22 = .ok (.aload_n 0, 1) := by decide +kernel
theorem dJ7_copyOf_9075b_23 : decode cJ7_copyOf_9075b 23 = .ok (.arraylength, 1) := by decide +kernel
theorem dJ7_copyOf_9075b_24 : decode cJ7_copyOf_9075b 24 = .ok (.iload_n 1, 1) := by decide +kernel
theorem dJ7_copyOf_9075b_25 : decode cJ7_copyOf_9075b 25 = .ok (.invokestatic 304, 3) := by decide +kernel
theorem dJ7_copyOf_9075b_28 : decode cJ7_copyOf_9075b 28 = .ok (.invokestatic 150, 3) := by decide +kernel
theorem dJ7_copyOf_9075b_31 : decode cJ7_copyOf_9075b 31 = .ok (.aload_n 2, 1) := by decide +kernel
theorem dJ7_copyOf_9075b_32 : decode cJ7_copyOf_9075b 32 = .ok (.areturn, 1) := by decide +kernel
theorem dJ7_checkLength_df160_0 : decode cJ7_checkLength_df160 0 = .ok (.iload_n 1, 1) := by decide +kernel
theorem dJ7_checkLength_df160_1 : decode cJ7_checkLength_df160 1 = .ok (.iload_n 0, 1) := by decide +kernel
theorem dJ7_checkLength_df160_2 : decode cJ7_checkLength_df160 2 = .ok (.if_icmp .ge 35, 3) := by decide +kernel
theorem dJ7_checkLength_df160_5 : decode cJ7_checkLength_df160 5 = .ok (.new 43, 3) := by decide +kernel
theorem dJ7_checkLength_df160_8 : decode cJ7_checkLength_df160 8 = .ok (.dup, 1) := by decide +kernel
theorem dJ7_checkLength_df160_9 : decode cJ7_checkLength_df160 9 = .ok (.new 45, 3) := by decide +kernel
theorem dJ7_checkLength_df160_12 : decode cJ7_checkLength_df160 12 = .ok (.dup, 1) := by decide +kernel
theorem dJ7_checkLength_df160_13 : decode cJ7_checkLength_df160 13 = .ok (.invokespecial 47, 3) := by decide +kernel
theorem dJ7_checkLength_df160_16 : decode cJ7_checkLength_df160 16 = .ok (.iload_n 0, 1) := by decide +kernel
theorem dJ7_checkLength_df160_17 : decode cJ7_checkLength_df160 17 = .ok (.invokevirtual 54, 3) := by decide +kernel
theorem dJ7_checkLength_df160_20 : decode cJ7_checkLength_df160 20 = .ok (.ldc_w 337, 3) := by decide +kernel
theorem dJ7_checkLength_df160_23 : decode cJ7_checkLength_df160 23 = .ok (.invokevirtual 50, 3) := by decide +kernel
theorem dJ7_checkLength_df160_26 : decode cJ7_checkLength_df160 26 = .ok (.iload_n 1, 1) := by decide +kernel
theorem dJ7_checkLength_df160_27 : decode cJ7_checkLength_df160 27 = .ok (.invokevirtual 54, 3) := by decide +kernel
theorem dJ7_checkLength_df160_30 : decode cJ7_checkLength_df160 30 = .ok (.invokevirtual 61, 3) := by decide +kernel
theorem dJ7_checkLength_df160_33 : decode cJ7_checkLength_df160 33 = .ok (.invokespecial 65, 3) := by decide +kernel
theorem dJ7_checkLength_df160_36 : decode cJ7_checkLength_df160 36 = .ok (.athrow, 1) := by decide +kernel
theorem dJ7_checkLength_df160_37 : decode cJ7_checkLength_df160 37 = .ok (.return_, 1) := by decide +kernel
theorem dJ7_copyOfRange_39247_0 : decode cJ7_copyOfRange_39247 0 = .ok (.iload_n 1, 1) := by decide +kernel
theorem dJ7_copyOfRange_39247_1 : decode cJ7_copyOfRange_39247 1 = .ok (.ifCond .ne 9, 3) := by decide +kernel
theorem dJ7_copyOfRange_39247_4 : decode cJ7_copyOfRange_39247 4 = .ok (.iload_n 2, 1) := by decide +kernel
theorem dJ7_copyOfRange_39247_5 : decode cJ7_copyOfRange_39247 5 = .ok (.aload_n 0, 1) := by decide +kernel
theorem dJ7_copyOfRange_39247_6 : decode cJ7_copyOfRange_39247 6 = .ok (.arraylength, 1) := by decide +kernel
theorem dJ7_copyOfRange_39247_7 : decode cJ7_copyOfRange_39247 7 = .ok (.if_icmp .eq 10, 3) := by decide +kernel
theorem dJ7_copyOfRange_39247_10 : decode cJ7_copyOfRange_39247 10 = .ok (.aload_n 0, 1) := by decide +kernel
theorem dJ7_copyOfRange_39247_11 : decode cJ7_copyOfRange_39247 11 = .ok (.iload_n 1, 1) := by decide +kernel
theorem dJ7_copyOfRange_39247_12 : decode cJ7_copyOfRange_39247 12 = .ok (.iload_n 2, 1) := by decide +kernel
theorem dJ7_copyOfRange_39247_13 : decode cJ7_copyOfRange_39247 13 = .ok (.invokestatic 339, 3) := by decide +kernel
theorem dJ7_copyOfRange_39247_16 : decode cJ7_copyOfRange_39247 16 = .ok (.areturn, 1) := by decide +kernel
theorem dJ7_copyOfRange_39247_17 : decode cJ7_copyOfRange_39247 17 = .ok (.aload_n 0, 1) := by decide +kernel
theorem dJ7_copyOfRange_39247_18 : decode cJ7_copyOfRange_39247 18 = .ok (.invokevirtual 310, 3) := by decide +kernel
theorem dJ7_copyOfRange_39247_21 : decode cJ7_copyOfRange_39247 21 = .ok (.checkcast 311, 3) := by decide +kernel
theorem dJ7_copyOfRange_39247_24 : decode cJ7_copyOfRange_39247 24 = .ok (.areturn, 1) := by decide +kernel
theorem dJ7_copyOfRangeByte_39247_0 : decode cJ7_copyOfRangeByte_39247 0 = .ok (.iload_n 1, 1) := by decide +kernel
theorem dJ7_copyOfRangeByte_39247_1 : decode cJ7_copyOfRangeByte_39247 1 = .ok (.iload_n 2, 1) := by decide +kernel
theorem dJ7_copyOfRangeByte_39247_2 : decode cJ7_copyOfRangeByte_39247 2 = .ok (.invokestatic 343, 3) := by decide +kernel
theorem dJ7_copyOfRangeByte_39247_5 : decode cJ7_copyOfRangeByte_39247 5 = .ok (.iload_n 2, 1) := by decide +kernel
theorem dJ7_copyOfRangeByte_39247_6 : decode cJ7_copyOfRangeByte_39247 6 = .ok (.iload_n 1, 1) := by decide +kernel
theorem dJ7_copyOfRangeByte_39247_7 : decode cJ7_copyOfRangeByte_39247 7 = .ok (.isub, 1) := by decide +kernel
theorem dJ7_copyOfRangeByte_39247_8 : decode cJ7_copyOfRangeByte_39247 8 = .ok (.istore_n 3, 1) := by decide +kernel
theorem dJ7_copyOfRangeByte_39247_9 : decode cJ7_copyOfRangeByte_39247 9 = .ok (.iload_n 3, 1) := by decide +kernel
theorem dJ7_copyOfRangeByte_39247_10 : decode cJ7_copyOfRangeByte_39247 10 = .ok (.newarray .byte, 2) := by decide +kernel
theorem dJ7_copyOfRangeByte_39247_12 : decode cJ7_copyOfRangeByte_39247 12 = .ok (.astore 4, 2) := by decide +kernel
theorem dJ7_copyOfRangeByte_39247_14 : decode cJ7_copyOfRangeByte_39247 14 = .ok (.aload_n 0, 1) := by decide +kernel
theorem dJ7_copyOfRangeByte_39247_15 : decode cJ7_copyOfRangeByte_39247 15 = .ok (.iload_n 1, 1) := by decide +kernel
theorem dJ7_copyOfRangeByte_39247_16 : decode cJ7_copyOfRangeByte_39247 16 = .ok (.aload 4, 2) := by decide +kernel
theorem dJ7_copyOfRangeByte_39247_18 : decode cJ7_copyOfRangeByte_39247 18 = .ok (.iconst 0, 1) := by decide +kernel
theorem dJ7_copyOfRangeByte_39247_19 : decode cJ7_copyOfRangeByte_39247 19 = .ok (.aload_n 0, 1) := by decide +kernel
theorem dJ7_copyOfRangeByte_39247_20 : decode cJ7_copyOfRangeByte_39247 20 = .ok (.arraylength, 1) := by decide +kernel
theorem dJ7_copyOfRangeByte_39247_21 : decode cJ7_copyOfRangeByte_39247 21 = .ok (.iload_n 1, 1) := by decide +kernel
theorem dJ7_copyOfRangeByte_39247_22 : decode cJ7_copyOfRangeByte_39247 22 = .ok (.isub, 1) := by decide +kernel
theorem dJ7_copyOfRangeByte_39247_23 : decode cJ7_copyOfRangeByte_39247 23 = .ok (.iload_n 3, 1) := by decide +kernel
theorem dJ7_copyOfRangeByte_39247_24 : decode cJ7_copyOfRangeByte_39247 24 = .ok (.invokestatic 304, 3) := by decide +kernel
theorem dJ7_copyOfRangeByte_39247_27 : decode cJ7_copyOfRangeByte_39247 27 = .ok (.invokestatic 150, 3) := by decide +kernel
theorem dJ7_copyOfRangeByte_39247_30 : decode cJ7_copyOfRangeByte_39247 30 = .ok (.aload 4, 2) := by decide +kernel
theorem dJ7_copyOfRangeByte_39247_32 : decode cJ7_copyOfRangeByte_39247 32 = .ok (.areturn, 1) := by decide +kernel
theorem dJ8_newLength_cabcc_0 : decode cJ8_newLength_cabcc 0 = .ok (.iload_n 0, 1) := by decide +kernel
theorem dJ8_newLength_cabcc_1 : decode cJ8_newLength_cabcc 1 = .ok (.iload_n 1, 1) := by decide +kernel
theorem dJ8_newLength_cabcc_2 : decode cJ8_newLength_cabcc 2 = .ok (.iload_n 2, 1) := by decide +kernel
theorem dJ8_newLength_cabcc_3 : decode cJ8_newLength_cabcc 3 = .ok (.invokestatic 194, 3) := by decide +kernel
theorem dJ8_newLength_cabcc_6 : decode cJ8_newLength_cabcc 6 = .ok (.iadd, 1) := by decide +kernel
theorem dJ8_newLength_cabcc_7 : decode cJ8_newLength_cabcc 7 = .ok (.istore_n 3, 1) := by decide +kernel
theorem dJ8_newLength_cabcc_8 : decode cJ8_newLength_cabcc 8 = .ok (.iconst 0, 1) := by decide +kernel
theorem dJ8_newLength_cabcc_9 : decode cJ8_newLength_cabcc 9 = .ok (.iload_n 3, 1) := by decide +kernel
theorem dJ8_newLength_cabcc_10 : decode cJ8_newLength_cabcc 10 = .ok (.if_icmp .ge 11, 3) := by decide +kernel
theorem dJ8_newLength_cabcc_13 : decode cJ8_newLength_cabcc 13 = .ok (.iload_n 3, 1) := by decide +kernel
theorem dJ8_newLength_cabcc_14 : decode cJ8_newLength_cabcc 14 = .ok (.ldc 200, 2) := by decide +kernel
theorem dJ8_newLength_cabcc_16 : decode cJ8_newLength_cabcc 16 = .ok (.if_icmp .gt 5, 3) := by decide +kernel
theorem dJ8_newLength_cabcc_19 : decode cJ8_newLength_cabcc 19 = .ok (.iload_n 3, 1) := by decide +kernel
theorem dJ8_newLength_cabcc_20 : decode cJ8_newLength_cabcc 20 = .ok (.ireturn, 1) := by decide +kernel
theorem dJ8_newLength_cabcc_21 : decode cJ8_newLength_cabcc 21 = .ok (.iload_n 0, 1) := by decide +kernel
theorem dJ8_newLength_cabcc_22 : decode cJ8_newLength_cabcc 22 = .ok (.iload_n 1, 1) := by decide +kernel
theorem dJ8_newLength_cabcc_23 : decode cJ8_newLength_cabcc 23 = .ok (.invokestatic 201, 3) := by decide +kernel
theorem dJ8_newLength_cabcc_26 : decode cJ8_newLength_cabcc 26 = .ok (.ireturn, 1) := by decide +kernel
theorem dJ8_hugeLength_7cf53_0 : decode cJ8_hugeLength_7cf53 0 = .ok (.iload_n 0, 1) := by decide +kernel
theorem dJ8_hugeLength_7cf53_1 : decode cJ8_hugeLength_7cf53 1 = .ok (.iload_n 1, 1) := by decide +kernel
theorem dJ8_hugeLength_7cf53_2 : decode cJ8_hugeLength_7cf53 2 = .ok (.iadd, 1) := by decide +kernel
theorem dJ8_hugeLength_7cf53_3 : decode cJ8_hugeLength_7cf53 3 = .ok (.istore_n 2, 1) := by decide +kernel
theorem dJ8_hugeLength_7cf53_4 : decode cJ8_hugeLength_7cf53 4 = .ok (.iload_n 2, 1) := by decide +kernel
theorem dJ8_hugeLength_7cf53_5 : decode cJ8_hugeLength_7cf53 5 = .ok (.ifCond .ge 44, 3) := by decide +kernel
theorem dJ8_hugeLength_7cf53_8 : decode cJ8_hugeLength_7cf53 8 = .ok (.new 204, 3) := by decide +kernel
theorem dJ8_hugeLength_7cf53_11 : decode cJ8_hugeLength_7cf53 11 = .ok (.dup, 1) := by decide +kernel
theorem dJ8_hugeLength_7cf53_12 : decode cJ8_hugeLength_7cf53 12 = .ok (.new 89, 3) := by decide +kernel
theorem dJ8_hugeLength_7cf53_15 : decode cJ8_hugeLength_7cf53 15 = .ok (.dup, 1) := by decide +kernel
theorem dJ8_hugeLength_7cf53_16 : decode cJ8_hugeLength_7cf53 16 = .ok (.invokespecial 91, 3) := by decide +kernel
theorem dJ8_hugeLength_7cf53_19 : decode cJ8_hugeLength_7cf53 19 = .ok (.ldc 206, 2) := by decide +kernel
theorem dJ8_hugeLength_7cf53_21 : decode cJ8_hugeLength_7cf53 21 = .ok (.invokevirtual 94, 3) := by decide +kernel
theorem dJ8_hugeLength_7cf53_24 : decode cJ8_hugeLength_7cf53 24 = .ok (.iload_n 0, 1) := by decide +kernel
theorem dJ8_hugeLength_7cf53_25 : decode cJ8_hugeLength_7cf53 25 = .ok (.invokevirtual 98, 3) := by decide +kernel
theorem dJ8_hugeLength_7cf53_28 : decode cJ8_hugeLength_7cf53 28 = .ok (.ldc 208, 2) := by decide +kernel
theorem dJ8_hugeLength_7cf53_30 : decode cJ8_hugeLength_7cf53 30 = .ok (.invokevirtual 94, 3) := by decide +kernel
theorem dJ8_hugeLength_7cf53_33 : decode cJ8_hugeLength_7cf53 33 = .ok (.iload_n 1, 1) := by decide +kernel
theorem dJ8_hugeLength_7cf53_34 : decode cJ8_hugeLength_7cf53 34 = .ok (.invokevirtual 98, 3) := by decide +kernel
theorem dJ8_hugeLength_7cf53_37 : decode cJ8_hugeLength_7cf53 37 = .ok (.ldc 210, 2) := by decide +kernel
theorem dJ8_hugeLength_7cf53_39 : decode cJ8_hugeLength_7cf53 39 = .ok (.invokevirtual 94, 3) := by decide +kernel
theorem dJ8_hugeLength_7cf53_42 : decode cJ8_hugeLength_7cf53 42 = .ok (.invokevirtual 101, 3) := by decide +kernel
theorem dJ8_hugeLength_7cf53_45 : decode cJ8_hugeLength_7cf53 45 = .ok (.invokespecial 212, 3) := by decide +kernel
theorem dJ8_hugeLength_7cf53_48 : decode cJ8_hugeLength_7cf53 48 = .ok (.athrow, 1) := by decide +kernel
theorem dJ8_hugeLength_7cf53_49 : decode cJ8_hugeLength_7cf53 49 = .ok (.iload_n 2, 1) := by decide +kernel
theorem dJ8_hugeLength_7cf53_50 : decode cJ8_hugeLength_7cf53 50 = .ok (.ldc 200, 2) := by decide +kernel
theorem dJ8_hugeLength_7cf53_52 : decode cJ8_hugeLength_7cf53 52 = .ok (.if_icmp .gt 6, 3) := by decide +kernel
theorem dJ8_hugeLength_7cf53_55 : decode cJ8_hugeLength_7cf53 55 = .ok (.ldc 200, 2) := by decide +kernel
theorem dJ8_hugeLength_7cf53_57 : decode cJ8_hugeLength_7cf53 57 = .ok (.ireturn, 1) := by decide +kernel
theorem dJ8_hugeLength_7cf53_58 : decode cJ8_hugeLength_7cf53 58 = .ok (.iload_n 2, 1) := by decide +kernel
theorem dJ8_hugeLength_7cf53_59 : decode cJ8_hugeLength_7cf53 59 = .ok (.ireturn, 1) := by decide +kernel
theorem dJ3_checkIndex_8e157_0 : decode cJ3_checkIndex_8e157 0 = .ok (.iload_n 0, 1) := by decide +kernel
theorem dJ3_checkIndex_8e157_1 : decode cJ3_checkIndex_8e157 1 = .ok (.ifCond .lt 8, 3) := by decide +kernel
theorem dJ3_checkIndex_8e157_4 : decode cJ3_checkIndex_8e157 4 = .ok (.iload_n 0, 1) := by decide +kernel
theorem dJ3_checkIndex_8e157_5 : decode cJ3_checkIndex_8e157 5 = .ok (.iload_n 1, 1) := by decide +kernel
theorem dJ3_checkIndex_8e157_6 : decode cJ3_checkIndex_8e157 6 = .ok (.if_icmp .lt 10, 3) := by decide +kernel
theorem dJ3_checkIndex_8e157_9 : decode cJ3_checkIndex_8e157 9 = .ok (.aload_n 2, 1) := by decide +kernel
theorem dJ3_checkIndex_8e157_10 : decode cJ3_checkIndex_8e157 10 = .ok (.iload_n 0, 1) := by decide +kernel
theorem dJ3_checkIndex_8e157_11 : decode cJ3_checkIndex_8e157 11 = .ok (.iload_n 1, 1) := by decide +kernel
theorem dJ3_checkIndex_8e157_12 : decode cJ3_checkIndex_8e157 12 = .ok (.invokestatic 95, 3) := by decide +kernel
theorem dJ3_checkIndex_8e157_15 : decode cJ3_checkIndex_8e157 15 = .ok (.athrow, 1) := by decide +kernel
theorem dJ3_checkIndex_8e157_16 : decode cJ3_checkIndex_8e157 16 = .ok (.iload_n 0, 1) := by decide +kernel
theorem dJ3_checkIndex_8e157_17 : decode cJ3_checkIndex_8e157 17 = .ok (.ireturn, 1) := by decide +kernel
theorem dJ3_checkFromToIndex_8c36e_0 : decode cJ3_checkFromToIndex_8c36e 0 = .ok (.iload_n 0, 1) := by decide +kernel
theorem dJ3_checkFromToIndex_8c36e_1 : decode cJ3_checkFromToIndex_8c36e 1 = .ok (.ifCond .lt 13, 3) := by decide +kernel
theorem dJ3_checkFromToIndex_8c36e_4 : decode cJ3_checkFromToIndex_8c36e 4 = .ok (.iload_n 0, 1) := by decide +kernel
theorem dJ3_checkFromToIndex_8c36e_5 : decode cJ3_checkFromToIndex_8c36e 5 = .ok (.iload_n 1, 1) := by decide +kernel
theorem dJ3_checkFromToIndex_8c36e_6 : decode cJ3_checkFromToIndex_8c36e 6 = .ok (.if_icmp .gt 8, 3) := by decide +kernel
theorem dJ3_checkFromToIndex_8c36e_9 : decode cJ3_checkFromToIndex_8c36e 9 = .ok (.iload_n 1, 1) := by decide +kernel
theorem dJ3_checkFromToIndex_8c36e_10 : decode cJ3_checkFromToIndex_8c36e 10 = .ok (.iload_n 2, 1) := by decide +kernel
theorem dJ3_checkFromToIndex_8c36e_11 : decode cJ3_checkFromToIndex_8c36e 11 = .ok (.if_icmp .le 11, 3) := by decide +kernel
theorem dJ3_checkFromToIndex_8c36e_14 : decode cJ3_checkFromToIndex_8c36e 14 = .ok (.aload_n 3, 1) := by decide +kernel
theorem dJ3_checkFromToIndex_8c36e_15 : decode cJ3_checkFromToIndex_8c36e 15 = .ok (.iload_n 0, 1) := by decide +kernel
theorem dJ3_checkFromToIndex_8c36e_16 : decode cJ3_checkFromToIndex_8c36e 16 = .ok (.iload_n 1, 1) := by decide +kernel
theorem dJ3_checkFromToIndex_8c36e_17 : decode cJ3_checkFromToIndex_8c36e 17 = .ok (.iload_n 2, 1) := by decide +kernel
theorem dJ3_checkFromToIndex_8c36e_18 : decode cJ3_checkFromToIndex_8c36e 18 = .ok (.invokestatic 99, 3) := by decide +kernel
theorem dJ3_checkFromToIndex_8c36e_21 : decode cJ3_checkFromToIndex_8c36e 21 = .ok (.athrow, 1) := by decide +kernel
theorem dJ3_checkFromToIndex_8c36e_22 : decode cJ3_checkFromToIndex_8c36e 22 = .ok (.iload_n 0, 1) := by decide +kernel
theorem dJ3_checkFromToIndex_8c36e_23 : decode cJ3_checkFromToIndex_8c36e 23 = .ok (.ireturn, 1) := by decide +kernel
theorem dJ3_checkFromIndexSize_8c36e_0 : decode cJ3_checkFromIndexSize_8c36e 0 = .ok (.iload_n 2, 1) := by decide +kernel
theorem dJ3_checkFromIndexSize_8c36e_1 : decode cJ3_checkFromIndexSize_8c36e 1 = .ok (.iload_n 0, 1) := by decide +kernel
theorem dJ3_checkFromIndexSize_8c36e_2 : decode cJ3_checkFromIndexSize_8c36e 2 = .ok (.ior, 1) := by decide +kernel
theorem dJ3_checkFromIndexSize_8c36e_3 : decode cJ3_checkFromIndexSize_8c36e 3 = .ok (.iload_n 1, 1) := by decide +kernel
theorem dJ3_checkFromIndexSize_8c36e_4 : decode cJ3_checkFromIndexSize_8c36e 4 = .ok (.ior, 1) := by decide +kernel
theorem dJ3_checkFromIndexSize_8c36e_5 : decode cJ3_checkFromIndexSize_8c36e 5 = .ok (.ifCond .lt 10, 3) := by decide +kernel
theorem dJ3_checkFromIndexSize_8c36e_8 : decode cJ3_checkFromIndexSize_8c36e 8 = .ok (.iload_n 1, 1) := by decide +kernel
theorem dJ3_checkFromIndexSize_8c36e_9 : decode cJ3_checkFromIndexSize_8c36e 9 = .ok (.iload_n 2, 1) := by decide +kernel
theorem dJ3_checkFromIndexSize_8c36e_10 : decode cJ3_checkFromIndexSize_8c36e 10 = .ok (.iload_n 0, 1) := by decide +kernel
theorem dJ3_checkFromIndexSize_8c36e_11 : decode cJ3_checkFromIndexSize_8c36e 11 = .ok (.isub, 1) := by decide +kernel
theorem dJ3_checkFromIndexSize_8c36e_12 : decode cJ3_checkFromIndexSize_8c36e 12 = .ok (.if_icmp .le 11, 3) := by decide +kernel
theorem dJ3_checkFromIndexSize_8c36e_15 : decode cJ3_checkFromIndexSize_8c36e 15 = .ok (.aload_n 3, 1) := by decide +kernel
theorem dJ3_checkFromIndexSize_8c36e_16 : decode cJ3_checkFromIndexSize_8c36e 16 = .ok (.iload_n 0, 1) := by decide +kernel
theorem dJ3_checkFromIndexSize_8c36e_17 : decode cJ3_checkFromIndexSize_8c36e 17 = .ok (.iload_n 1, 1) := by decide +kernel
theorem dJ3_checkFromIndexSize_8c36e_18 : decode cJ3_checkFromIndexSize_8c36e 18 = .ok (.iload_n 2, 1) := by decide +kernel
theorem dJ3_checkFromIndexSize_8c36e_19 : decode cJ3_checkFromIndexSize_8c36e 19 = .ok (.invokestatic 103, 3) := by decide +kernel
theorem dJ3_checkFromIndexSize_8c36e_22 : decode cJ3_checkFromIndexSize_8c36e 22 = .ok (.athrow, 1) := by decide +kernel
theorem dJ3_checkFromIndexSize_8c36e_23 : decode cJ3_checkFromIndexSize_8c36e 23 = .ok (.iload_n 0, 1) := by decide +kernel
theorem dJ3_checkFromIndexSize_8c36e_24 : decode cJ3_checkFromIndexSize_8c36e 24 = .ok (.ireturn, 1) := by decide +kernel
