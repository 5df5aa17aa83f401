theorem dL_loadCanal_0 : decode cL_loadCanal 0 = .ok (.aload_n 2, 1) := by decide +kernel
theorem dL_loadCanal_1 : decode cL_loadCanal 1 = .ok (.iconst 0, 1) := by decide +kernel
theorem dL_loadCanal_2 : decode cL_loadCanal 2 = .ok (.aload_n 0, 1) := by decide +kernel
theorem dL_loadCanal_3 : decode cL_loadCanal 3 = .ok (.iload_n 1, 1) := by decide +kernel
theorem dL_loadCanal_4 : decode cL_loadCanal 4 = .ok (.invokevirtual 7, 3) := by decide +kernel
theorem dL_loadCanal_7 : decode cL_loadCanal 7 = .ok (.i2l, 1) := by decide +kernel
theorem dL_loadCanal_8 : decode cL_loadCanal 8 = .ok (.lastore, 1) := by decide +kernel
theorem dL_loadCanal_9 : decode cL_loadCanal 9 = .ok (.goto 6, 3) := by decide +kernel
theorem dL_loadCanal_12 : decode cL_loadCanal 12 = .ok (.astore_n 3, 1) := by decide +kernel
theorem dL_loadCanal_13 : decode cL_loadCanal 13 = .ok (.iconst 1, 1) := by decide +kernel
theorem dL_loadCanal_14 : decode cL_loadCanal 14 = .ok (.ireturn, 1) := by decide +kernel
theorem dL_loadCanal_15 : decode cL_loadCanal 15 = .ok (.iconst 0, 1) := by decide +kernel
theorem dL_loadCanal_16 : decode cL_loadCanal 16 = .ok (.ireturn, 1) := by decide +kernel
theorem dL_lockWait_0 : decode cL_lockWait 0 = .ok (.aload_n 2, 1) := by decide +kernel
theorem dL_lockWait_1 : decode cL_lockWait 1 = .ok (.iconst 0, 1) := by decide +kernel
theorem dL_lockWait_2 : decode cL_lockWait 2 = .ok (.aload_n 0, 1) := by decide +kernel
theorem dL_lockWait_3 : decode cL_lockWait 3 = .ok (.iload_n 1, 1) := by decide +kernel
theorem dL_lockWait_4 : decode cL_lockWait 4 = .ok (.invokevirtual 15, 3) := by decide +kernel
theorem dL_lockWait_7 : decode cL_lockWait 7 = .ok (.i2l, 1) := by decide +kernel
theorem dL_lockWait_8 : decode cL_lockWait 8 = .ok (.lastore, 1) := by decide +kernel
theorem dL_lockWait_9 : decode cL_lockWait 9 = .ok (.goto 6, 3) := by decide +kernel
theorem dL_lockWait_12 : decode cL_lockWait 12 = .ok (.astore_n 3, 1) := by decide +kernel
theorem dL_lockWait_13 : decode cL_lockWait 13 = .ok (.iconst 1, 1) := by decide +kernel
theorem dL_lockWait_14 : decode cL_lockWait 14 = .ok (.ireturn, 1) := by decide +kernel
theorem dL_lockWait_15 : decode cL_lockWait 15 = .ok (.iconst 0, 1) := by decide +kernel
theorem dL_lockWait_16 : decode cL_lockWait 16 = .ok (.ireturn, 1) := by decide +kernel
theorem dL_clearance_0 : decode cL_clearance 0 = .ok (.aload_n 2, 1) := by decide +kernel
theorem dL_clearance_1 : decode cL_clearance 1 = .ok (.iconst 0, 1) := by decide +kernel
theorem dL_clearance_2 : decode cL_clearance 2 = .ok (.aload_n 0, 1) := by decide +kernel
theorem dL_clearance_3 : decode cL_clearance 3 = .ok (.iload_n 1, 1) := by decide +kernel
theorem dL_clearance_4 : decode cL_clearance 4 = .ok (.invokevirtual 20, 3) := by decide +kernel
theorem dL_clearance_7 : decode cL_clearance 7 = .ok (.i2l, 1) := by decide +kernel
theorem dL_clearance_8 : decode cL_clearance 8 = .ok (.lastore, 1) := by decide +kernel
theorem dL_clearance_9 : decode cL_clearance 9 = .ok (.goto 6, 3) := by decide +kernel
theorem dL_clearance_12 : decode cL_clearance 12 = .ok (.astore_n 3, 1) := by decide +kernel
theorem dL_clearance_13 : decode cL_clearance 13 = .ok (.iconst 1, 1) := by decide +kernel
theorem dL_clearance_14 : decode cL_clearance 14 = .ok (.ireturn, 1) := by decide +kernel
theorem dL_clearance_15 : decode cL_clearance 15 = .ok (.iconst 0, 1) := by decide +kernel
theorem dL_clearance_16 : decode cL_clearance 16 = .ok (.ireturn, 1) := by decide +kernel
theorem dL_bargeInLock_0 : decode cL_bargeInLock 0 = .ok (.aload_n 2, 1) := by decide +kernel
theorem dL_bargeInLock_1 : decode cL_bargeInLock 1 = .ok (.iconst 0, 1) := by decide +kernel
theorem dL_bargeInLock_2 : decode cL_bargeInLock 2 = .ok (.aload_n 0, 1) := by decide +kernel
theorem dL_bargeInLock_3 : decode cL_bargeInLock 3 = .ok (.iload_n 1, 1) := by decide +kernel
theorem dL_bargeInLock_4 : decode cL_bargeInLock 4 = .ok (.invokevirtual 23, 3) := by decide +kernel
theorem dL_bargeInLock_7 : decode cL_bargeInLock 7 = .ok (.i2l, 1) := by decide +kernel
theorem dL_bargeInLock_8 : decode cL_bargeInLock 8 = .ok (.lastore, 1) := by decide +kernel
theorem dL_bargeInLock_9 : decode cL_bargeInLock 9 = .ok (.goto 6, 3) := by decide +kernel
theorem dL_bargeInLock_12 : decode cL_bargeInLock 12 = .ok (.astore_n 3, 1) := by decide +kernel
theorem dL_bargeInLock_13 : decode cL_bargeInLock 13 = .ok (.iconst 1, 1) := by decide +kernel
theorem dL_bargeInLock_14 : decode cL_bargeInLock 14 = .ok (.ireturn, 1) := by decide +kernel
theorem dL_bargeInLock_15 : decode cL_bargeInLock 15 = .ok (.iconst 0, 1) := by decide +kernel
theorem dL_bargeInLock_16 : decode cL_bargeInLock 16 = .ok (.ireturn, 1) := by decide +kernel
theorem dL_usedPairs_0 : decode cL_usedPairs 0 = .ok (.aload_n 2, 1) := by decide +kernel
theorem dL_usedPairs_1 : decode cL_usedPairs 1 = .ok (.iconst 0, 1) := by decide +kernel
theorem dL_usedPairs_2 : decode cL_usedPairs 2 = .ok (.aload_n 0, 1) := by decide +kernel
theorem dL_usedPairs_3 : decode cL_usedPairs 3 = .ok (.iload_n 1, 1) := by decide +kernel
theorem dL_usedPairs_4 : decode cL_usedPairs 4 = .ok (.invokevirtual 26, 3) := by decide +kernel
theorem dL_usedPairs_7 : decode cL_usedPairs 7 = .ok (.i2l, 1) := by decide +kernel
theorem dL_usedPairs_8 : decode cL_usedPairs 8 = .ok (.lastore, 1) := by decide +kernel
theorem dL_usedPairs_9 : decode cL_usedPairs 9 = .ok (.goto 6, 3) := by decide +kernel
theorem dL_usedPairs_12 : decode cL_usedPairs 12 = .ok (.astore_n 3, 1) := by decide +kernel
theorem dL_usedPairs_13 : decode cL_usedPairs 13 = .ok (.iconst 1, 1) := by decide +kernel
theorem dL_usedPairs_14 : decode cL_usedPairs 14 = .ok (.ireturn, 1) := by decide +kernel
theorem dL_usedPairs_15 : decode cL_usedPairs 15 = .ok (.iconst 0, 1) := by decide +kernel
theorem dL_usedPairs_16 : decode cL_usedPairs 16 = .ok (.ireturn, 1) := by decide +kernel
theorem dL_bargesAt_0 : decode cL_bargesAt 0 = .ok (.aload_n 2, 1) := by decide +kernel
theorem dL_bargesAt_1 : decode cL_bargesAt 1 = .ok (.iconst 0, 1) := by decide +kernel
theorem dL_bargesAt_2 : decode cL_bargesAt 2 = .ok (.aload_n 0, 1) := by decide +kernel
theorem dL_bargesAt_3 : decode cL_bargesAt 3 = .ok (.iload_n 1, 1) := by decide +kernel
theorem dL_bargesAt_4 : decode cL_bargesAt 4 = .ok (.invokevirtual 29, 3) := by decide +kernel
theorem dL_bargesAt_7 : decode cL_bargesAt 7 = .ok (.i2l, 1) := by decide +kernel
theorem dL_bargesAt_8 : decode cL_bargesAt 8 = .ok (.lastore, 1) := by decide +kernel
theorem dL_bargesAt_9 : decode cL_bargesAt 9 = .ok (.goto 6, 3) := by decide +kernel
theorem dL_bargesAt_12 : decode cL_bargesAt 12 = .ok (.astore_n 3, 1) := by decide +kernel
theorem dL_bargesAt_13 : decode cL_bargesAt 13 = .ok (.iconst 1, 1) := by decide +kernel
theorem dL_bargesAt_14 : decode cL_bargesAt 14 = .ok (.ireturn, 1) := by decide +kernel
theorem dL_bargesAt_15 : decode cL_bargesAt 15 = .ok (.iconst 0, 1) := by decide +kernel
theorem dL_bargesAt_16 : decode cL_bargesAt 16 = .ok (.ireturn, 1) := by decide +kernel
theorem dL_ordersAt_0 : decode cL_ordersAt 0 = .ok (.aload_n 2, 1) := by decide +kernel
theorem dL_ordersAt_1 : decode cL_ordersAt 1 = .ok (.iconst 0, 1) := by decide +kernel
theorem dL_ordersAt_2 : decode cL_ordersAt 2 = .ok (.aload_n 0, 1) := by decide +kernel
theorem dL_ordersAt_3 : decode cL_ordersAt 3 = .ok (.iload_n 1, 1) := by decide +kernel
theorem dL_ordersAt_4 : decode cL_ordersAt 4 = .ok (.invokevirtual 32, 3) := by decide +kernel
theorem dL_ordersAt_7 : decode cL_ordersAt 7 = .ok (.i2l, 1) := by decide +kernel
theorem dL_ordersAt_8 : decode cL_ordersAt 8 = .ok (.lastore, 1) := by decide +kernel
theorem dL_ordersAt_9 : decode cL_ordersAt 9 = .ok (.goto 6, 3) := by decide +kernel
theorem dL_ordersAt_12 : decode cL_ordersAt 12 = .ok (.astore_n 3, 1) := by decide +kernel
theorem dL_ordersAt_13 : decode cL_ordersAt 13 = .ok (.iconst 1, 1) := by decide +kernel
theorem dL_ordersAt_14 : decode cL_ordersAt 14 = .ok (.ireturn, 1) := by decide +kernel
theorem dL_ordersAt_15 : decode cL_ordersAt 15 = .ok (.iconst 0, 1) := by decide +kernel
theorem dL_ordersAt_16 : decode cL_ordersAt 16 = .ok (.ireturn, 1) := by decide +kernel
theorem dL_placeOf_0 : decode cL_placeOf 0 = .ok (.aload_n 2, 1) := by decide +kernel
theorem dL_placeOf_1 : decode cL_placeOf 1 = .ok (.iconst 0, 1) := by decide +kernel
theorem dL_placeOf_2 : decode cL_placeOf 2 = .ok (.aload_n 0, 1) := by decide +kernel
theorem dL_placeOf_3 : decode cL_placeOf 3 = .ok (.iload_n 1, 1) := by decide +kernel
theorem dL_placeOf_4 : decode cL_placeOf 4 = .ok (.invokevirtual 35, 3) := by decide +kernel
theorem dL_placeOf_7 : decode cL_placeOf 7 = .ok (.i2l, 1) := by decide +kernel
theorem dL_placeOf_8 : decode cL_placeOf 8 = .ok (.lastore, 1) := by decide +kernel
theorem dL_placeOf_9 : decode cL_placeOf 9 = .ok (.goto 6, 3) := by decide +kernel
theorem dL_placeOf_12 : decode cL_placeOf 12 = .ok (.astore_n 3, 1) := by decide +kernel
theorem dL_placeOf_13 : decode cL_placeOf 13 = .ok (.iconst 1, 1) := by decide +kernel
theorem dL_placeOf_14 : decode cL_placeOf 14 = .ok (.ireturn, 1) := by decide +kernel
theorem dL_placeOf_15 : decode cL_placeOf 15 = .ok (.iconst 0, 1) := by decide +kernel
theorem dL_placeOf_16 : decode cL_placeOf 16 = .ok (.ireturn, 1) := by decide +kernel
theorem dL_targetOf_0 : decode cL_targetOf 0 = .ok (.aload_n 2, 1) := by decide +kernel
theorem dL_targetOf_1 : decode cL_targetOf 1 = .ok (.iconst 0, 1) := by decide +kernel
theorem dL_targetOf_2 : decode cL_targetOf 2 = .ok (.aload_n 0, 1) := by decide +kernel
theorem dL_targetOf_3 : decode cL_targetOf 3 = .ok (.iload_n 1, 1) := by decide +kernel
theorem dL_targetOf_4 : decode cL_targetOf 4 = .ok (.invokevirtual 38, 3) := by decide +kernel
theorem dL_targetOf_7 : decode cL_targetOf 7 = .ok (.i2l, 1) := by decide +kernel
theorem dL_targetOf_8 : decode cL_targetOf 8 = .ok (.lastore, 1) := by decide +kernel
theorem dL_targetOf_9 : decode cL_targetOf 9 = .ok (.goto 6, 3) := by decide +kernel
theorem dL_targetOf_12 : decode cL_targetOf 12 = .ok (.astore_n 3, 1) := by decide +kernel
theorem dL_targetOf_13 : decode cL_targetOf 13 = .ok (.iconst 1, 1) := by decide +kernel
theorem dL_targetOf_14 : decode cL_targetOf 14 = .ok (.ireturn, 1) := by decide +kernel
theorem dL_targetOf_15 : decode cL_targetOf 15 = .ok (.iconst 0, 1) := by decide +kernel
theorem dL_targetOf_16 : decode cL_targetOf 16 = .ok (.ireturn, 1) := by decide +kernel
theorem dL_heightOf_0 : decode cL_heightOf 0 = .ok (.aload_n 2, 1) := by decide +kernel
theorem dL_heightOf_1 : decode cL_heightOf 1 = .ok (.iconst 0, 1) := by decide +kernel
theorem dL_heightOf_2 : decode cL_heightOf 2 = .ok (.aload_n 0, 1) := by decide +kernel
theorem dL_heightOf_3 : decode cL_heightOf 3 = .ok (.iload_n 1, 1) := by decide +kernel
theorem dL_heightOf_4 : decode cL_heightOf 4 = .ok (.invokevirtual 41, 3) := by decide +kernel
theorem dL_heightOf_7 : decode cL_heightOf 7 = .ok (.i2l, 1) := by decide +kernel
theorem dL_heightOf_8 : decode cL_heightOf 8 = .ok (.lastore, 1) := by decide +kernel
theorem dL_heightOf_9 : decode cL_heightOf 9 = .ok (.goto 6, 3) := by decide +kernel
theorem dL_heightOf_12 : decode cL_heightOf 12 = .ok (.astore_n 3, 1) := by decide +kernel
theorem dL_heightOf_13 : decode cL_heightOf 13 = .ok (.iconst 1, 1) := by decide +kernel
theorem dL_heightOf_14 : decode cL_heightOf 14 = .ok (.ireturn, 1) := by decide +kernel
theorem dL_heightOf_15 : decode cL_heightOf 15 = .ok (.iconst 0, 1) := by decide +kernel
theorem dL_heightOf_16 : decode cL_heightOf 16 = .ok (.ireturn, 1) := by decide +kernel
theorem dL_timeInLock_0 : decode cL_timeInLock 0 = .ok (.aload_n 2, 1) := by decide +kernel
theorem dL_timeInLock_1 : decode cL_timeInLock 1 = .ok (.iconst 0, 1) := by decide +kernel
theorem dL_timeInLock_2 : decode cL_timeInLock 2 = .ok (.aload_n 0, 1) := by decide +kernel
theorem dL_timeInLock_3 : decode cL_timeInLock 3 = .ok (.iload_n 1, 1) := by decide +kernel
theorem dL_timeInLock_4 : decode cL_timeInLock 4 = .ok (.invokevirtual 44, 3) := by decide +kernel
theorem dL_timeInLock_7 : decode cL_timeInLock 7 = .ok (.i2l, 1) := by decide +kernel
theorem dL_timeInLock_8 : decode cL_timeInLock 8 = .ok (.lastore, 1) := by decide +kernel
theorem dL_timeInLock_9 : decode cL_timeInLock 9 = .ok (.goto 6, 3) := by decide +kernel
theorem dL_timeInLock_12 : decode cL_timeInLock 12 = .ok (.astore_n 3, 1) := by decide +kernel
theorem dL_timeInLock_13 : decode cL_timeInLock 13 = .ok (.iconst 1, 1) := by decide +kernel
theorem dL_timeInLock_14 : decode cL_timeInLock 14 = .ok (.ireturn, 1) := by decide +kernel
theorem dL_timeInLock_15 : decode cL_timeInLock 15 = .ok (.iconst 0, 1) := by decide +kernel
theorem dL_timeInLock_16 : decode cL_timeInLock 16 = .ok (.ireturn, 1) := by decide +kernel
theorem dL_flour_0 : decode cL_flour 0 = .ok (.aload_n 2, 1) := by decide +kernel
theorem dL_flour_1 : decode cL_flour 1 = .ok (.iconst 0, 1) := by decide +kernel
theorem dL_flour_2 : decode cL_flour 2 = .ok (.aload_n 0, 1) := by decide +kernel
theorem dL_flour_3 : decode cL_flour 3 = .ok (.iload_n 1, 1) := by decide +kernel
theorem dL_flour_4 : decode cL_flour 4 = .ok (.invokevirtual 47, 3) := by decide +kernel
theorem dL_flour_7 : decode cL_flour 7 = .ok (.i2l, 1) := by decide +kernel
theorem dL_flour_8 : decode cL_flour 8 = .ok (.lastore, 1) := by decide +kernel
theorem dL_flour_9 : decode cL_flour 9 = .ok (.goto 6, 3) := by decide +kernel
theorem dL_flour_12 : decode cL_flour 12 = .ok (.astore_n 3, 1) := by decide +kernel
theorem dL_flour_13 : decode cL_flour 13 = .ok (.iconst 1, 1) := by decide +kernel
theorem dL_flour_14 : decode cL_flour 14 = .ok (.ireturn, 1) := by decide +kernel
theorem dL_flour_15 : decode cL_flour 15 = .ok (.iconst 0, 1) := by decide +kernel
theorem dL_flour_16 : decode cL_flour 16 = .ok (.ireturn, 1) := by decide +kernel
theorem dL_cleanPairs_0 : decode cL_cleanPairs 0 = .ok (.aload_n 2, 1) := by decide +kernel
theorem dL_cleanPairs_1 : decode cL_cleanPairs 1 = .ok (.iconst 0, 1) := by decide +kernel
theorem dL_cleanPairs_2 : decode cL_cleanPairs 2 = .ok (.aload_n 0, 1) := by decide +kernel
theorem dL_cleanPairs_3 : decode cL_cleanPairs 3 = .ok (.iload_n 1, 1) := by decide +kernel
theorem dL_cleanPairs_4 : decode cL_cleanPairs 4 = .ok (.invokevirtual 50, 3) := by decide +kernel
theorem dL_cleanPairs_7 : decode cL_cleanPairs 7 = .ok (.i2l, 1) := by decide +kernel
theorem dL_cleanPairs_8 : decode cL_cleanPairs 8 = .ok (.lastore, 1) := by decide +kernel
theorem dL_cleanPairs_9 : decode cL_cleanPairs 9 = .ok (.goto 6, 3) := by decide +kernel
theorem dL_cleanPairs_12 : decode cL_cleanPairs 12 = .ok (.astore_n 3, 1) := by decide +kernel
theorem dL_cleanPairs_13 : decode cL_cleanPairs 13 = .ok (.iconst 1, 1) := by decide +kernel
theorem dL_cleanPairs_14 : decode cL_cleanPairs 14 = .ok (.ireturn, 1) := by decide +kernel
theorem dL_cleanPairs_15 : decode cL_cleanPairs 15 = .ok (.iconst 0, 1) := by decide +kernel
theorem dL_cleanPairs_16 : decode cL_cleanPairs 16 = .ok (.ireturn, 1) := by decide +kernel
theorem dL_dirtyPairs_0 : decode cL_dirtyPairs 0 = .ok (.aload_n 2, 1) := by decide +kernel
theorem dL_dirtyPairs_1 : decode cL_dirtyPairs 1 = .ok (.iconst 0, 1) := by decide +kernel
theorem dL_dirtyPairs_2 : decode cL_dirtyPairs 2 = .ok (.aload_n 0, 1) := by decide +kernel
theorem dL_dirtyPairs_3 : decode cL_dirtyPairs 3 = .ok (.iload_n 1, 1) := by decide +kernel
theorem dL_dirtyPairs_4 : decode cL_dirtyPairs 4 = .ok (.invokevirtual 53, 3) := by decide +kernel
theorem dL_dirtyPairs_7 : decode cL_dirtyPairs 7 = .ok (.i2l, 1) := by decide +kernel
theorem dL_dirtyPairs_8 : decode cL_dirtyPairs 8 = .ok (.lastore, 1) := by decide +kernel
theorem dL_dirtyPairs_9 : decode cL_dirtyPairs 9 = .ok (.goto 6, 3) := by decide +kernel
theorem dL_dirtyPairs_12 : decode cL_dirtyPairs 12 = .ok (.astore_n 3, 1) := by decide +kernel
theorem dL_dirtyPairs_13 : decode cL_dirtyPairs 13 = .ok (.iconst 1, 1) := by decide +kernel
theorem dL_dirtyPairs_14 : decode cL_dirtyPairs 14 = .ok (.ireturn, 1) := by decide +kernel
theorem dL_dirtyPairs_15 : decode cL_dirtyPairs 15 = .ok (.iconst 0, 1) := by decide +kernel
theorem dL_dirtyPairs_16 : decode cL_dirtyPairs 16 = .ok (.ireturn, 1) := by decide +kernel
theorem dL_queueLength_0 : decode cL_queueLength 0 = .ok (.aload_n 2, 1) := by decide +kernel
theorem dL_queueLength_1 : decode cL_queueLength 1 = .ok (.iconst 0, 1) := by decide +kernel
theorem dL_queueLength_2 : decode cL_queueLength 2 = .ok (.aload_n 0, 1) := by decide +kernel
theorem dL_queueLength_3 : decode cL_queueLength 3 = .ok (.iload_n 1, 1) := by decide +kernel
theorem dL_queueLength_4 : decode cL_queueLength 4 = .ok (.invokevirtual 56, 3) := by decide +kernel
theorem dL_queueLength_7 : decode cL_queueLength 7 = .ok (.i2l, 1) := by decide +kernel
theorem dL_queueLength_8 : decode cL_queueLength 8 = .ok (.lastore, 1) := by decide +kernel
theorem dL_queueLength_9 : decode cL_queueLength 9 = .ok (.goto 6, 3) := by decide +kernel
theorem dL_queueLength_12 : decode cL_queueLength 12 = .ok (.astore_n 3, 1) := by decide +kernel
theorem dL_queueLength_13 : decode cL_queueLength 13 = .ok (.iconst 1, 1) := by decide +kernel
theorem dL_queueLength_14 : decode cL_queueLength 14 = .ok (.ireturn, 1) := by decide +kernel
theorem dL_queueLength_15 : decode cL_queueLength 15 = .ok (.iconst 0, 1) := by decide +kernel
theorem dL_queueLength_16 : decode cL_queueLength 16 = .ok (.ireturn, 1) := by decide +kernel
theorem dL_queuedOrder_0 : decode cL_queuedOrder 0 = .ok (.aload_n 3, 1) := by decide +kernel
theorem dL_queuedOrder_1 : decode cL_queuedOrder 1 = .ok (.iconst 0, 1) := by decide +kernel
theorem dL_queuedOrder_2 : decode cL_queuedOrder 2 = .ok (.aload_n 0, 1) := by decide +kernel
theorem dL_queuedOrder_3 : decode cL_queuedOrder 3 = .ok (.iload_n 1, 1) := by decide +kernel
theorem dL_queuedOrder_4 : decode cL_queuedOrder 4 = .ok (.iload_n 2, 1) := by decide +kernel
theorem dL_queuedOrder_5 : decode cL_queuedOrder 5 = .ok (.invokevirtual 59, 3) := by decide +kernel
theorem dL_queuedOrder_8 : decode cL_queuedOrder 8 = .ok (.i2l, 1) := by decide +kernel
theorem dL_queuedOrder_9 : decode cL_queuedOrder 9 = .ok (.lastore, 1) := by decide +kernel
theorem dL_queuedOrder_10 : decode cL_queuedOrder 10 = .ok (.goto 7, 3) := by decide +kernel
theorem dL_queuedOrder_13 : decode cL_queuedOrder 13 = .ok (.astore 4, 2) := by decide +kernel
theorem dL_queuedOrder_15 : decode cL_queuedOrder 15 = .ok (.iconst 1, 1) := by decide +kernel
theorem dL_queuedOrder_16 : decode cL_queuedOrder 16 = .ok (.ireturn, 1) := by decide +kernel
theorem dL_queuedOrder_17 : decode cL_queuedOrder 17 = .ok (.iconst 0, 1) := by decide +kernel
theorem dL_queuedOrder_18 : decode cL_queuedOrder 18 = .ok (.ireturn, 1) := by decide +kernel
theorem dL_readyCount_0 : decode cL_readyCount 0 = .ok (.aload_n 2, 1) := by decide +kernel
theorem dL_readyCount_1 : decode cL_readyCount 1 = .ok (.iconst 0, 1) := by decide +kernel
theorem dL_readyCount_2 : decode cL_readyCount 2 = .ok (.aload_n 0, 1) := by decide +kernel
theorem dL_readyCount_3 : decode cL_readyCount 3 = .ok (.iload_n 1, 1) := by decide +kernel
theorem dL_readyCount_4 : decode cL_readyCount 4 = .ok (.invokevirtual 63, 3) := by decide +kernel
theorem dL_readyCount_7 : decode cL_readyCount 7 = .ok (.i2l, 1) := by decide +kernel
theorem dL_readyCount_8 : decode cL_readyCount 8 = .ok (.lastore, 1) := by decide +kernel
theorem dL_readyCount_9 : decode cL_readyCount 9 = .ok (.goto 6, 3) := by decide +kernel
theorem dL_readyCount_12 : decode cL_readyCount 12 = .ok (.astore_n 3, 1) := by decide +kernel
theorem dL_readyCount_13 : decode cL_readyCount 13 = .ok (.iconst 1, 1) := by decide +kernel
theorem dL_readyCount_14 : decode cL_readyCount 14 = .ok (.ireturn, 1) := by decide +kernel
theorem dL_readyCount_15 : decode cL_readyCount 15 = .ok (.iconst 0, 1) := by decide +kernel
theorem dL_readyCount_16 : decode cL_readyCount 16 = .ok (.ireturn, 1) := by decide +kernel
theorem dL_flourNeeded_0 : decode cL_flourNeeded 0 = .ok (.aload_n 2, 1) := by decide +kernel
theorem dL_flourNeeded_1 : decode cL_flourNeeded 1 = .ok (.iconst 0, 1) := by decide +kernel
theorem dL_flourNeeded_2 : decode cL_flourNeeded 2 = .ok (.aload_n 0, 1) := by decide +kernel
theorem dL_flourNeeded_3 : decode cL_flourNeeded 3 = .ok (.iload_n 1, 1) := by decide +kernel
theorem dL_flourNeeded_4 : decode cL_flourNeeded 4 = .ok (.invokevirtual 66, 3) := by decide +kernel
theorem dL_flourNeeded_7 : decode cL_flourNeeded 7 = .ok (.i2l, 1) := by decide +kernel
theorem dL_flourNeeded_8 : decode cL_flourNeeded 8 = .ok (.lastore, 1) := by decide +kernel
theorem dL_flourNeeded_9 : decode cL_flourNeeded 9 = .ok (.goto 6, 3) := by decide +kernel
theorem dL_flourNeeded_12 : decode cL_flourNeeded 12 = .ok (.astore_n 3, 1) := by decide +kernel
theorem dL_flourNeeded_13 : decode cL_flourNeeded 13 = .ok (.iconst 1, 1) := by decide +kernel
theorem dL_flourNeeded_14 : decode cL_flourNeeded 14 = .ok (.ireturn, 1) := by decide +kernel
theorem dL_flourNeeded_15 : decode cL_flourNeeded 15 = .ok (.iconst 0, 1) := by decide +kernel
theorem dL_flourNeeded_16 : decode cL_flourNeeded 16 = .ok (.ireturn, 1) := by decide +kernel
theorem dL_orderPlace_0 : decode cL_orderPlace 0 = .ok (.aload_n 2, 1) := by decide +kernel
theorem dL_orderPlace_1 : decode cL_orderPlace 1 = .ok (.iconst 0, 1) := by decide +kernel
theorem dL_orderPlace_2 : decode cL_orderPlace 2 = .ok (.aload_n 0, 1) := by decide +kernel
theorem dL_orderPlace_3 : decode cL_orderPlace 3 = .ok (.iload_n 1, 1) := by decide +kernel
theorem dL_orderPlace_4 : decode cL_orderPlace 4 = .ok (.invokevirtual 69, 3) := by decide +kernel
theorem dL_orderPlace_7 : decode cL_orderPlace 7 = .ok (.i2l, 1) := by decide +kernel
theorem dL_orderPlace_8 : decode cL_orderPlace 8 = .ok (.lastore, 1) := by decide +kernel
theorem dL_orderPlace_9 : decode cL_orderPlace 9 = .ok (.goto 6, 3) := by decide +kernel
theorem dL_orderPlace_12 : decode cL_orderPlace 12 = .ok (.astore_n 3, 1) := by decide +kernel
theorem dL_orderPlace_13 : decode cL_orderPlace 13 = .ok (.iconst 1, 1) := by decide +kernel
theorem dL_orderPlace_14 : decode cL_orderPlace 14 = .ok (.ireturn, 1) := by decide +kernel
theorem dL_orderPlace_15 : decode cL_orderPlace 15 = .ok (.iconst 0, 1) := by decide +kernel
theorem dL_orderPlace_16 : decode cL_orderPlace 16 = .ok (.ireturn, 1) := by decide +kernel
theorem dL_bowls_0 : decode cL_bowls 0 = .ok (.aload_n 2, 1) := by decide +kernel
theorem dL_bowls_1 : decode cL_bowls 1 = .ok (.iconst 0, 1) := by decide +kernel
theorem dL_bowls_2 : decode cL_bowls 2 = .ok (.aload_n 0, 1) := by decide +kernel
theorem dL_bowls_3 : decode cL_bowls 3 = .ok (.iload_n 1, 1) := by decide +kernel
theorem dL_bowls_4 : decode cL_bowls 4 = .ok (.invokevirtual 72, 3) := by decide +kernel
theorem dL_bowls_7 : decode cL_bowls 7 = .ok (.i2l, 1) := by decide +kernel
theorem dL_bowls_8 : decode cL_bowls 8 = .ok (.lastore, 1) := by decide +kernel
theorem dL_bowls_9 : decode cL_bowls 9 = .ok (.goto 6, 3) := by decide +kernel
theorem dL_bowls_12 : decode cL_bowls 12 = .ok (.astore_n 3, 1) := by decide +kernel
theorem dL_bowls_13 : decode cL_bowls 13 = .ok (.iconst 1, 1) := by decide +kernel
theorem dL_bowls_14 : decode cL_bowls 14 = .ok (.ireturn, 1) := by decide +kernel
theorem dL_bowls_15 : decode cL_bowls 15 = .ok (.iconst 0, 1) := by decide +kernel
theorem dL_bowls_16 : decode cL_bowls 16 = .ok (.ireturn, 1) := by decide +kernel
theorem dL_pullsLeft_0 : decode cL_pullsLeft 0 = .ok (.aload_n 2, 1) := by decide +kernel
theorem dL_pullsLeft_1 : decode cL_pullsLeft 1 = .ok (.iconst 0, 1) := by decide +kernel
theorem dL_pullsLeft_2 : decode cL_pullsLeft 2 = .ok (.aload_n 0, 1) := by decide +kernel
theorem dL_pullsLeft_3 : decode cL_pullsLeft 3 = .ok (.iload_n 1, 1) := by decide +kernel
theorem dL_pullsLeft_4 : decode cL_pullsLeft 4 = .ok (.invokevirtual 75, 3) := by decide +kernel
theorem dL_pullsLeft_7 : decode cL_pullsLeft 7 = .ok (.i2l, 1) := by decide +kernel
theorem dL_pullsLeft_8 : decode cL_pullsLeft 8 = .ok (.lastore, 1) := by decide +kernel
theorem dL_pullsLeft_9 : decode cL_pullsLeft 9 = .ok (.goto 6, 3) := by decide +kernel
theorem dL_pullsLeft_12 : decode cL_pullsLeft 12 = .ok (.astore_n 3, 1) := by decide +kernel
theorem dL_pullsLeft_13 : decode cL_pullsLeft 13 = .ok (.iconst 1, 1) := by decide +kernel
theorem dL_pullsLeft_14 : decode cL_pullsLeft 14 = .ok (.ireturn, 1) := by decide +kernel
theorem dL_pullsLeft_15 : decode cL_pullsLeft 15 = .ok (.iconst 0, 1) := by decide +kernel
theorem dL_pullsLeft_16 : decode cL_pullsLeft 16 = .ok (.ireturn, 1) := by decide +kernel
theorem dL_deadline_0 : decode cL_deadline 0 = .ok (.aload_n 2, 1) := by decide +kernel
theorem dL_deadline_1 : decode cL_deadline 1 = .ok (.iconst 0, 1) := by decide +kernel
theorem dL_deadline_2 : decode cL_deadline 2 = .ok (.aload_n 0, 1) := by decide +kernel
theorem dL_deadline_3 : decode cL_deadline 3 = .ok (.iload_n 1, 1) := by decide +kernel
theorem dL_deadline_4 : decode cL_deadline 4 = .ok (.invokevirtual 78, 3) := by decide +kernel
theorem dL_deadline_7 : decode cL_deadline 7 = .ok (.i2l, 1) := by decide +kernel
theorem dL_deadline_8 : decode cL_deadline 8 = .ok (.lastore, 1) := by decide +kernel
theorem dL_deadline_9 : decode cL_deadline 9 = .ok (.goto 6, 3) := by decide +kernel
theorem dL_deadline_12 : decode cL_deadline 12 = .ok (.astore_n 3, 1) := by decide +kernel
theorem dL_deadline_13 : decode cL_deadline 13 = .ok (.iconst 1, 1) := by decide +kernel
theorem dL_deadline_14 : decode cL_deadline 14 = .ok (.ireturn, 1) := by decide +kernel
theorem dL_deadline_15 : decode cL_deadline 15 = .ok (.iconst 0, 1) := by decide +kernel
theorem dL_deadline_16 : decode cL_deadline 16 = .ok (.ireturn, 1) := by decide +kernel
theorem dL_price_0 : decode cL_price 0 = .ok (.aload_n 2, 1) := by decide +kernel
theorem dL_price_1 : decode cL_price 1 = .ok (.iconst 0, 1) := by decide +kernel
theorem dL_price_2 : decode cL_price 2 = .ok (.aload_n 0, 1) := by decide +kernel
theorem dL_price_3 : decode cL_price 3 = .ok (.iload_n 1, 1) := by decide +kernel
theorem dL_price_4 : decode cL_price 4 = .ok (.invokevirtual 81, 3) := by decide +kernel
theorem dL_price_7 : decode cL_price 7 = .ok (.i2l, 1) := by decide +kernel
theorem dL_price_8 : decode cL_price 8 = .ok (.lastore, 1) := by decide +kernel
theorem dL_price_9 : decode cL_price 9 = .ok (.goto 6, 3) := by decide +kernel
theorem dL_price_12 : decode cL_price 12 = .ok (.astore_n 3, 1) := by decide +kernel
theorem dL_price_13 : decode cL_price 13 = .ok (.iconst 1, 1) := by decide +kernel
theorem dL_price_14 : decode cL_price 14 = .ok (.ireturn, 1) := by decide +kernel
theorem dL_price_15 : decode cL_price 15 = .ok (.iconst 0, 1) := by decide +kernel
theorem dL_price_16 : decode cL_price 16 = .ok (.ireturn, 1) := by decide +kernel
theorem dL_bargeOf_0 : decode cL_bargeOf 0 = .ok (.aload_n 2, 1) := by decide +kernel
theorem dL_bargeOf_1 : decode cL_bargeOf 1 = .ok (.iconst 0, 1) := by decide +kernel
theorem dL_bargeOf_2 : decode cL_bargeOf 2 = .ok (.aload_n 0, 1) := by decide +kernel
theorem dL_bargeOf_3 : decode cL_bargeOf 3 = .ok (.iload_n 1, 1) := by decide +kernel
theorem dL_bargeOf_4 : decode cL_bargeOf 4 = .ok (.invokevirtual 84, 3) := by decide +kernel
theorem dL_bargeOf_7 : decode cL_bargeOf 7 = .ok (.i2l, 1) := by decide +kernel
theorem dL_bargeOf_8 : decode cL_bargeOf 8 = .ok (.lastore, 1) := by decide +kernel
theorem dL_bargeOf_9 : decode cL_bargeOf 9 = .ok (.goto 6, 3) := by decide +kernel
theorem dL_bargeOf_12 : decode cL_bargeOf 12 = .ok (.astore_n 3, 1) := by decide +kernel
theorem dL_bargeOf_13 : decode cL_bargeOf 13 = .ok (.iconst 1, 1) := by decide +kernel
theorem dL_bargeOf_14 : decode cL_bargeOf 14 = .ok (.ireturn, 1) := by decide +kernel
theorem dL_bargeOf_15 : decode cL_bargeOf 15 = .ok (.iconst 0, 1) := by decide +kernel
theorem dL_bargeOf_16 : decode cL_bargeOf 16 = .ok (.ireturn, 1) := by decide +kernel
theorem dL_isOpen_0 : decode cL_isOpen 0 = .ok (.aload_n 2, 1) := by decide +kernel
theorem dL_isOpen_1 : decode cL_isOpen 1 = .ok (.iconst 0, 1) := by decide +kernel
theorem dL_isOpen_2 : decode cL_isOpen 2 = .ok (.aload_n 0, 1) := by decide +kernel
theorem dL_isOpen_3 : decode cL_isOpen 3 = .ok (.iload_n 1, 1) := by decide +kernel
theorem dL_isOpen_4 : decode cL_isOpen 4 = .ok (.invokevirtual 87, 3) := by decide +kernel
theorem dL_isOpen_7 : decode cL_isOpen 7 = .ok (.ifCond .eq 7, 3) := by decide +kernel
theorem dL_isOpen_10 : decode cL_isOpen 10 = .ok (.lconst 1, 1) := by decide +kernel
theorem dL_isOpen_11 : decode cL_isOpen 11 = .ok (.goto 4, 3) := by decide +kernel
theorem dL_isOpen_14 : decode cL_isOpen 14 = .ok (.lconst 0, 1) := by decide +kernel
theorem dL_isOpen_15 : decode cL_isOpen 15 = .ok (.lastore, 1) := by decide +kernel
theorem dL_isOpen_16 : decode cL_isOpen 16 = .ok (.goto 6, 3) := by decide +kernel
theorem dL_isOpen_19 : decode cL_isOpen 19 = .ok (.astore_n 3, 1) := by decide +kernel
theorem dL_isOpen_20 : decode cL_isOpen 20 = .ok (.iconst 1, 1) := by decide +kernel
theorem dL_isOpen_21 : decode cL_isOpen 21 = .ok (.ireturn, 1) := by decide +kernel
theorem dL_isOpen_22 : decode cL_isOpen 22 = .ok (.iconst 0, 1) := by decide +kernel
theorem dL_isOpen_23 : decode cL_isOpen 23 = .ok (.ireturn, 1) := by decide +kernel
theorem dL_isReady_0 : decode cL_isReady 0 = .ok (.aload_n 2, 1) := by decide +kernel
theorem dL_isReady_1 : decode cL_isReady 1 = .ok (.iconst 0, 1) := by decide +kernel
theorem dL_isReady_2 : decode cL_isReady 2 = .ok (.aload_n 0, 1) := by decide +kernel
theorem dL_isReady_3 : decode cL_isReady 3 = .ok (.iload_n 1, 1) := by decide +kernel
theorem dL_isReady_4 : decode cL_isReady 4 = .ok (.invokevirtual 91, 3) := by decide +kernel
theorem dL_isReady_7 : decode cL_isReady 7 = .ok (.ifCond .eq 7, 3) := by decide +kernel
theorem dL_isReady_10 : decode cL_isReady 10 = .ok (.lconst 1, 1) := by decide +kernel
theorem dL_isReady_11 : decode cL_isReady 11 = .ok (.goto 4, 3) := by decide +kernel
theorem dL_isReady_14 : decode cL_isReady 14 = .ok (.lconst 0, 1) := by decide +kernel
theorem dL_isReady_15 : decode cL_isReady 15 = .ok (.lastore, 1) := by decide +kernel
theorem dL_isReady_16 : decode cL_isReady 16 = .ok (.goto 6, 3) := by decide +kernel
theorem dL_isReady_19 : decode cL_isReady 19 = .ok (.astore_n 3, 1) := by decide +kernel
theorem dL_isReady_20 : decode cL_isReady 20 = .ok (.iconst 1, 1) := by decide +kernel
theorem dL_isReady_21 : decode cL_isReady 21 = .ok (.ireturn, 1) := by decide +kernel
theorem dL_isReady_22 : decode cL_isReady 22 = .ok (.iconst 0, 1) := by decide +kernel
theorem dL_isReady_23 : decode cL_isReady 23 = .ok (.ireturn, 1) := by decide +kernel
theorem dL_isEaten_0 : decode cL_isEaten 0 = .ok (.aload_n 2, 1) := by decide +kernel
theorem dL_isEaten_1 : decode cL_isEaten 1 = .ok (.iconst 0, 1) := by decide +kernel
theorem dL_isEaten_2 : decode cL_isEaten 2 = .ok (.aload_n 0, 1) := by decide +kernel
theorem dL_isEaten_3 : decode cL_isEaten 3 = .ok (.iload_n 1, 1) := by decide +kernel
theorem dL_isEaten_4 : decode cL_isEaten 4 = .ok (.invokevirtual 94, 3) := by decide +kernel
theorem dL_isEaten_7 : decode cL_isEaten 7 = .ok (.ifCond .eq 7, 3) := by decide +kernel
theorem dL_isEaten_10 : decode cL_isEaten 10 = .ok (.lconst 1, 1) := by decide +kernel
theorem dL_isEaten_11 : decode cL_isEaten 11 = .ok (.goto 4, 3) := by decide +kernel
theorem dL_isEaten_14 : decode cL_isEaten 14 = .ok (.lconst 0, 1) := by decide +kernel
theorem dL_isEaten_15 : decode cL_isEaten 15 = .ok (.lastore, 1) := by decide +kernel
theorem dL_isEaten_16 : decode cL_isEaten 16 = .ok (.goto 6, 3) := by decide +kernel
theorem dL_isEaten_19 : decode cL_isEaten 19 = .ok (.astore_n 3, 1) := by decide +kernel
theorem dL_isEaten_20 : decode cL_isEaten 20 = .ok (.iconst 1, 1) := by decide +kernel
theorem dL_isEaten_21 : decode cL_isEaten 21 = .ok (.ireturn, 1) := by decide +kernel
theorem dL_isEaten_22 : decode cL_isEaten 22 = .ok (.iconst 0, 1) := by decide +kernel
theorem dL_isEaten_23 : decode cL_isEaten 23 = .ok (.ireturn, 1) := by decide +kernel
theorem dL_sailObstacle_0 : decode cL_sailObstacle 0 = .ok (.aload_n 3, 1) := by decide +kernel
theorem dL_sailObstacle_1 : decode cL_sailObstacle 1 = .ok (.iconst 0, 1) := by decide +kernel
theorem dL_sailObstacle_2 : decode cL_sailObstacle 2 = .ok (.aload_n 0, 1) := by decide +kernel
theorem dL_sailObstacle_3 : decode cL_sailObstacle 3 = .ok (.iload_n 1, 1) := by decide +kernel
theorem dL_sailObstacle_4 : decode cL_sailObstacle 4 = .ok (.iload_n 2, 1) := by decide +kernel
theorem dL_sailObstacle_5 : decode cL_sailObstacle 5 = .ok (.invokevirtual 97, 3) := by decide +kernel
theorem dL_sailObstacle_8 : decode cL_sailObstacle 8 = .ok (.i2l, 1) := by decide +kernel
theorem dL_sailObstacle_9 : decode cL_sailObstacle 9 = .ok (.lastore, 1) := by decide +kernel
theorem dL_sailObstacle_10 : decode cL_sailObstacle 10 = .ok (.goto 7, 3) := by decide +kernel
theorem dL_sailObstacle_13 : decode cL_sailObstacle 13 = .ok (.astore 4, 2) := by decide +kernel
theorem dL_sailObstacle_15 : decode cL_sailObstacle 15 = .ok (.iconst 1, 1) := by decide +kernel
theorem dL_sailObstacle_16 : decode cL_sailObstacle 16 = .ok (.ireturn, 1) := by decide +kernel
theorem dL_sailObstacle_17 : decode cL_sailObstacle 17 = .ok (.iconst 0, 1) := by decide +kernel
theorem dL_sailObstacle_18 : decode cL_sailObstacle 18 = .ok (.ireturn, 1) := by decide +kernel
theorem dL_journeyTime_0 : decode cL_journeyTime 0 = .ok (.aload_n 3, 1) := by decide +kernel
theorem dL_journeyTime_1 : decode cL_journeyTime 1 = .ok (.iconst 0, 1) := by decide +kernel
theorem dL_journeyTime_2 : decode cL_journeyTime 2 = .ok (.aload_n 0, 1) := by decide +kernel
theorem dL_journeyTime_3 : decode cL_journeyTime 3 = .ok (.iload_n 1, 1) := by decide +kernel
theorem dL_journeyTime_4 : decode cL_journeyTime 4 = .ok (.iload_n 2, 1) := by decide +kernel
theorem dL_journeyTime_5 : decode cL_journeyTime 5 = .ok (.invokevirtual 100, 3) := by decide +kernel
theorem dL_journeyTime_8 : decode cL_journeyTime 8 = .ok (.i2l, 1) := by decide +kernel
theorem dL_journeyTime_9 : decode cL_journeyTime 9 = .ok (.lastore, 1) := by decide +kernel
theorem dL_journeyTime_10 : decode cL_journeyTime 10 = .ok (.goto 7, 3) := by decide +kernel
theorem dL_journeyTime_13 : decode cL_journeyTime 13 = .ok (.astore 4, 2) := by decide +kernel
theorem dL_journeyTime_15 : decode cL_journeyTime 15 = .ok (.iconst 1, 1) := by decide +kernel
theorem dL_journeyTime_16 : decode cL_journeyTime 16 = .ok (.ireturn, 1) := by decide +kernel
theorem dL_journeyTime_17 : decode cL_journeyTime 17 = .ok (.iconst 0, 1) := by decide +kernel
theorem dL_journeyTime_18 : decode cL_journeyTime 18 = .ok (.ireturn, 1) := by decide +kernel
theorem dL_minutesToTarget_0 : decode cL_minutesToTarget 0 = .ok (.aload_n 2, 1) := by decide +kernel
theorem dL_minutesToTarget_1 : decode cL_minutesToTarget 1 = .ok (.iconst 0, 1) := by decide +kernel
theorem dL_minutesToTarget_2 : decode cL_minutesToTarget 2 = .ok (.aload_n 0, 1) := by decide +kernel
theorem dL_minutesToTarget_3 : decode cL_minutesToTarget 3 = .ok (.iload_n 1, 1) := by decide +kernel
theorem dL_minutesToTarget_4 : decode cL_minutesToTarget 4 = .ok (.invokevirtual 103, 3) := by decide +kernel
theorem dL_minutesToTarget_7 : decode cL_minutesToTarget 7 = .ok (.i2l, 1) := by decide +kernel
theorem dL_minutesToTarget_8 : decode cL_minutesToTarget 8 = .ok (.lastore, 1) := by decide +kernel
theorem dL_minutesToTarget_9 : decode cL_minutesToTarget 9 = .ok (.goto 6, 3) := by decide +kernel
theorem dL_minutesToTarget_12 : decode cL_minutesToTarget 12 = .ok (.astore_n 3, 1) := by decide +kernel
theorem dL_minutesToTarget_13 : decode cL_minutesToTarget 13 = .ok (.iconst 1, 1) := by decide +kernel
theorem dL_minutesToTarget_14 : decode cL_minutesToTarget 14 = .ok (.ireturn, 1) := by decide +kernel
theorem dL_minutesToTarget_15 : decode cL_minutesToTarget 15 = .ok (.iconst 0, 1) := by decide +kernel
theorem dL_minutesToTarget_16 : decode cL_minutesToTarget 16 = .ok (.ireturn, 1) := by decide +kernel
theorem dL_willBeEaten_0 : decode cL_willBeEaten 0 = .ok (.aload_n 2, 1) := by decide +kernel
theorem dL_willBeEaten_1 : decode cL_willBeEaten 1 = .ok (.iconst 0, 1) := by decide +kernel
theorem dL_willBeEaten_2 : decode cL_willBeEaten 2 = .ok (.aload_n 0, 1) := by decide +kernel
theorem dL_willBeEaten_3 : decode cL_willBeEaten 3 = .ok (.iload_n 1, 1) := by decide +kernel
theorem dL_willBeEaten_4 : decode cL_willBeEaten 4 = .ok (.invokevirtual 106, 3) := by decide +kernel
theorem dL_willBeEaten_7 : decode cL_willBeEaten 7 = .ok (.ifCond .eq 7, 3) := by decide +kernel
theorem dL_willBeEaten_10 : decode cL_willBeEaten 10 = .ok (.lconst 1, 1) := by decide +kernel
theorem dL_willBeEaten_11 : decode cL_willBeEaten 11 = .ok (.goto 4, 3) := by decide +kernel
theorem dL_willBeEaten_14 : decode cL_willBeEaten 14 = .ok (.lconst 0, 1) := by decide +kernel
theorem dL_willBeEaten_15 : decode cL_willBeEaten 15 = .ok (.lastore, 1) := by decide +kernel
theorem dL_willBeEaten_16 : decode cL_willBeEaten 16 = .ok (.goto 6, 3) := by decide +kernel
theorem dL_willBeEaten_19 : decode cL_willBeEaten 19 = .ok (.astore_n 3, 1) := by decide +kernel
theorem dL_willBeEaten_20 : decode cL_willBeEaten 20 = .ok (.iconst 1, 1) := by decide +kernel
theorem dL_willBeEaten_21 : decode cL_willBeEaten 21 = .ok (.ireturn, 1) := by decide +kernel
theorem dL_willBeEaten_22 : decode cL_willBeEaten 22 = .ok (.iconst 0, 1) := by decide +kernel
theorem dL_willBeEaten_23 : decode cL_willBeEaten 23 = .ok (.ireturn, 1) := by decide +kernel
theorem dL_coinsAfter_0 : decode cL_coinsAfter 0 = .ok (.aload_n 2, 1) := by decide +kernel
theorem dL_coinsAfter_1 : decode cL_coinsAfter 1 = .ok (.iconst 0, 1) := by decide +kernel
theorem dL_coinsAfter_2 : decode cL_coinsAfter 2 = .ok (.aload_n 0, 1) := by decide +kernel
theorem dL_coinsAfter_3 : decode cL_coinsAfter 3 = .ok (.iload_n 1, 1) := by decide +kernel
theorem dL_coinsAfter_4 : decode cL_coinsAfter 4 = .ok (.invokevirtual 109, 3) := by decide +kernel
theorem dL_coinsAfter_7 : decode cL_coinsAfter 7 = .ok (.i2l, 1) := by decide +kernel
theorem dL_coinsAfter_8 : decode cL_coinsAfter 8 = .ok (.lastore, 1) := by decide +kernel
theorem dL_coinsAfter_9 : decode cL_coinsAfter 9 = .ok (.goto 6, 3) := by decide +kernel
theorem dL_coinsAfter_12 : decode cL_coinsAfter 12 = .ok (.astore_n 3, 1) := by decide +kernel
theorem dL_coinsAfter_13 : decode cL_coinsAfter 13 = .ok (.iconst 1, 1) := by decide +kernel
theorem dL_coinsAfter_14 : decode cL_coinsAfter 14 = .ok (.ireturn, 1) := by decide +kernel
theorem dL_coinsAfter_15 : decode cL_coinsAfter 15 = .ok (.iconst 0, 1) := by decide +kernel
theorem dL_coinsAfter_16 : decode cL_coinsAfter 16 = .ok (.ireturn, 1) := by decide +kernel
theorem dL_nearestBarge_0 : decode cL_nearestBarge 0 = .ok (.aload_n 2, 1) := by decide +kernel
theorem dL_nearestBarge_1 : decode cL_nearestBarge 1 = .ok (.iconst 0, 1) := by decide +kernel
theorem dL_nearestBarge_2 : decode cL_nearestBarge 2 = .ok (.aload_n 0, 1) := by decide +kernel
theorem dL_nearestBarge_3 : decode cL_nearestBarge 3 = .ok (.iload_n 1, 1) := by decide +kernel
theorem dL_nearestBarge_4 : decode cL_nearestBarge 4 = .ok (.invokevirtual 112, 3) := by decide +kernel
theorem dL_nearestBarge_7 : decode cL_nearestBarge 7 = .ok (.i2l, 1) := by decide +kernel
theorem dL_nearestBarge_8 : decode cL_nearestBarge 8 = .ok (.lastore, 1) := by decide +kernel
theorem dL_nearestBarge_9 : decode cL_nearestBarge 9 = .ok (.goto 6, 3) := by decide +kernel
theorem dL_nearestBarge_12 : decode cL_nearestBarge 12 = .ok (.astore_n 3, 1) := by decide +kernel
theorem dL_nearestBarge_13 : decode cL_nearestBarge 13 = .ok (.iconst 1, 1) := by decide +kernel
theorem dL_nearestBarge_14 : decode cL_nearestBarge 14 = .ok (.ireturn, 1) := by decide +kernel
theorem dL_nearestBarge_15 : decode cL_nearestBarge 15 = .ok (.iconst 0, 1) := by decide +kernel
theorem dL_nearestBarge_16 : decode cL_nearestBarge 16 = .ok (.ireturn, 1) := by decide +kernel
theorem dL_sail_0 : decode cL_sail 0 = .ok (.aload_n 3, 1) := by decide +kernel
theorem dL_sail_1 : decode cL_sail 1 = .ok (.iconst 0, 1) := by decide +kernel
theorem dL_sail_2 : decode cL_sail 2 = .ok (.aload_n 0, 1) := by decide +kernel
theorem dL_sail_3 : decode cL_sail 3 = .ok (.iload_n 1, 1) := by decide +kernel
theorem dL_sail_4 : decode cL_sail 4 = .ok (.iload_n 2, 1) := by decide +kernel
theorem dL_sail_5 : decode cL_sail 5 = .ok (.invokevirtual 115, 3) := by decide +kernel
theorem dL_sail_8 : decode cL_sail 8 = .ok (.i2l, 1) := by decide +kernel
theorem dL_sail_9 : decode cL_sail 9 = .ok (.lastore, 1) := by decide +kernel
theorem dL_sail_10 : decode cL_sail 10 = .ok (.goto 11, 3) := by decide +kernel
theorem dL_sail_13 : decode cL_sail 13 = .ok (.astore 4, 2) := by decide +kernel
theorem dL_sail_15 : decode cL_sail 15 = .ok (.iconst 1, 1) := by decide +kernel
theorem dL_sail_16 : decode cL_sail 16 = .ok (.ireturn, 1) := by decide +kernel
theorem dL_sail_17 : decode cL_sail 17 = .ok (.astore 4, 2) := by decide +kernel
theorem dL_sail_19 : decode cL_sail 19 = .ok (.iconst 2, 1) := by decide +kernel
theorem dL_sail_20 : decode cL_sail 20 = .ok (.ireturn, 1) := by decide +kernel
theorem dL_sail_21 : decode cL_sail 21 = .ok (.iconst 0, 1) := by decide +kernel
theorem dL_sail_22 : decode cL_sail 22 = .ok (.ireturn, 1) := by decide +kernel
theorem dL_makeOrder_0 : decode cL_makeOrder 0 = .ok (.aload 5, 2) := by decide +kernel
theorem dL_makeOrder_2 : decode cL_makeOrder 2 = .ok (.iconst 0, 1) := by decide +kernel
theorem dL_makeOrder_3 : decode cL_makeOrder 3 = .ok (.aload_n 0, 1) := by decide +kernel
theorem dL_makeOrder_4 : decode cL_makeOrder 4 = .ok (.iload_n 1, 1) := by decide +kernel
theorem dL_makeOrder_5 : decode cL_makeOrder 5 = .ok (.iload_n 2, 1) := by decide +kernel
theorem dL_makeOrder_6 : decode cL_makeOrder 6 = .ok (.iload_n 3, 1) := by decide +kernel
theorem dL_makeOrder_7 : decode cL_makeOrder 7 = .ok (.iload 4, 2) := by decide +kernel
theorem dL_makeOrder_9 : decode cL_makeOrder 9 = .ok (.invokevirtual 120, 3) := by decide +kernel
theorem dL_makeOrder_12 : decode cL_makeOrder 12 = .ok (.i2l, 1) := by decide +kernel
theorem dL_makeOrder_13 : decode cL_makeOrder 13 = .ok (.lastore, 1) := by decide +kernel
theorem dL_makeOrder_14 : decode cL_makeOrder 14 = .ok (.goto 15, 3) := by decide +kernel
theorem dL_makeOrder_17 : decode cL_makeOrder 17 = .ok (.astore 6, 2) := by decide +kernel
theorem dL_makeOrder_19 : decode cL_makeOrder 19 = .ok (.iconst 1, 1) := by decide +kernel
theorem dL_makeOrder_20 : decode cL_makeOrder 20 = .ok (.ireturn, 1) := by decide +kernel
theorem dL_makeOrder_21 : decode cL_makeOrder 21 = .ok (.astore 6, 2) := by decide +kernel
theorem dL_makeOrder_23 : decode cL_makeOrder 23 = .ok (.iconst 2, 1) := by decide +kernel
theorem dL_makeOrder_24 : decode cL_makeOrder 24 = .ok (.ireturn, 1) := by decide +kernel
theorem dL_makeOrder_25 : decode cL_makeOrder 25 = .ok (.astore 6, 2) := by decide +kernel
theorem dL_makeOrder_27 : decode cL_makeOrder 27 = .ok (.iconst 3, 1) := by decide +kernel
theorem dL_makeOrder_28 : decode cL_makeOrder 28 = .ok (.ireturn, 1) := by decide +kernel
theorem dL_makeOrder_29 : decode cL_makeOrder 29 = .ok (.iconst 0, 1) := by decide +kernel
theorem dL_makeOrder_30 : decode cL_makeOrder 30 = .ok (.ireturn, 1) := by decide +kernel
theorem dL_take_0 : decode cL_take 0 = .ok (.aload_n 3, 1) := by decide +kernel
theorem dL_take_1 : decode cL_take 1 = .ok (.iconst 0, 1) := by decide +kernel
theorem dL_take_2 : decode cL_take 2 = .ok (.aload_n 0, 1) := by decide +kernel
theorem dL_take_3 : decode cL_take 3 = .ok (.iload_n 1, 1) := by decide +kernel
theorem dL_take_4 : decode cL_take 4 = .ok (.iload_n 2, 1) := by decide +kernel
theorem dL_take_5 : decode cL_take 5 = .ok (.invokevirtual 124, 3) := by decide +kernel
theorem dL_take_8 : decode cL_take 8 = .ok (.i2l, 1) := by decide +kernel
theorem dL_take_9 : decode cL_take 9 = .ok (.lastore, 1) := by decide +kernel
theorem dL_take_10 : decode cL_take 10 = .ok (.goto 11, 3) := by decide +kernel
theorem dL_take_13 : decode cL_take 13 = .ok (.astore 4, 2) := by decide +kernel
theorem dL_take_15 : decode cL_take 15 = .ok (.iconst 1, 1) := by decide +kernel
theorem dL_take_16 : decode cL_take 16 = .ok (.ireturn, 1) := by decide +kernel
theorem dL_take_17 : decode cL_take 17 = .ok (.astore 4, 2) := by decide +kernel
theorem dL_take_19 : decode cL_take 19 = .ok (.iconst 2, 1) := by decide +kernel
theorem dL_take_20 : decode cL_take 20 = .ok (.ireturn, 1) := by decide +kernel
theorem dL_take_21 : decode cL_take 21 = .ok (.iconst 0, 1) := by decide +kernel
theorem dL_take_22 : decode cL_take 22 = .ok (.ireturn, 1) := by decide +kernel
theorem dL_drop_0 : decode cL_drop 0 = .ok (.aload_n 2, 1) := by decide +kernel
theorem dL_drop_1 : decode cL_drop 1 = .ok (.iconst 0, 1) := by decide +kernel
theorem dL_drop_2 : decode cL_drop 2 = .ok (.aload_n 0, 1) := by decide +kernel
theorem dL_drop_3 : decode cL_drop 3 = .ok (.iload_n 1, 1) := by decide +kernel
theorem dL_drop_4 : decode cL_drop 4 = .ok (.invokevirtual 127, 3) := by decide +kernel
theorem dL_drop_7 : decode cL_drop 7 = .ok (.i2l, 1) := by decide +kernel
theorem dL_drop_8 : decode cL_drop 8 = .ok (.lastore, 1) := by decide +kernel
theorem dL_drop_9 : decode cL_drop 9 = .ok (.goto 9, 3) := by decide +kernel
theorem dL_drop_12 : decode cL_drop 12 = .ok (.astore_n 3, 1) := by decide +kernel
theorem dL_drop_13 : decode cL_drop 13 = .ok (.iconst 1, 1) := by decide +kernel
theorem dL_drop_14 : decode cL_drop 14 = .ok (.ireturn, 1) := by decide +kernel
theorem dL_drop_15 : decode cL_drop 15 = .ok (.astore_n 3, 1) := by decide +kernel
theorem dL_drop_16 : decode cL_drop 16 = .ok (.iconst 2, 1) := by decide +kernel
theorem dL_drop_17 : decode cL_drop 17 = .ok (.ireturn, 1) := by decide +kernel
theorem dL_drop_18 : decode cL_drop 18 = .ok (.iconst 0, 1) := by decide +kernel
theorem dL_drop_19 : decode cL_drop 19 = .ok (.ireturn, 1) := by decide +kernel
theorem dL_buyFlour_0 : decode cL_buyFlour 0 = .ok (.aload_n 3, 1) := by decide +kernel
theorem dL_buyFlour_1 : decode cL_buyFlour 1 = .ok (.iconst 0, 1) := by decide +kernel
theorem dL_buyFlour_2 : decode cL_buyFlour 2 = .ok (.aload_n 0, 1) := by decide +kernel
theorem dL_buyFlour_3 : decode cL_buyFlour 3 = .ok (.iload_n 1, 1) := by decide +kernel
theorem dL_buyFlour_4 : decode cL_buyFlour 4 = .ok (.iload_n 2, 1) := by decide +kernel
theorem dL_buyFlour_5 : decode cL_buyFlour 5 = .ok (.invokevirtual 130, 3) := by decide +kernel
theorem dL_buyFlour_8 : decode cL_buyFlour 8 = .ok (.i2l, 1) := by decide +kernel
theorem dL_buyFlour_9 : decode cL_buyFlour 9 = .ok (.lastore, 1) := by decide +kernel
theorem dL_buyFlour_10 : decode cL_buyFlour 10 = .ok (.goto 15, 3) := by decide +kernel
theorem dL_buyFlour_13 : decode cL_buyFlour 13 = .ok (.astore 4, 2) := by decide +kernel
theorem dL_buyFlour_15 : decode cL_buyFlour 15 = .ok (.iconst 1, 1) := by decide +kernel
theorem dL_buyFlour_16 : decode cL_buyFlour 16 = .ok (.ireturn, 1) := by decide +kernel
theorem dL_buyFlour_17 : decode cL_buyFlour 17 = .ok (.astore 4, 2) := by decide +kernel
theorem dL_buyFlour_19 : decode cL_buyFlour 19 = .ok (.iconst 2, 1) := by decide +kernel
theorem dL_buyFlour_20 : decode cL_buyFlour 20 = .ok (.ireturn, 1) := by decide +kernel
theorem dL_buyFlour_21 : decode cL_buyFlour 21 = .ok (.astore 4, 2) := by decide +kernel
theorem dL_buyFlour_23 : decode cL_buyFlour 23 = .ok (.iconst 3, 1) := by decide +kernel
theorem dL_buyFlour_24 : decode cL_buyFlour 24 = .ok (.ireturn, 1) := by decide +kernel
theorem dL_buyFlour_25 : decode cL_buyFlour 25 = .ok (.iconst 0, 1) := by decide +kernel
theorem dL_buyFlour_26 : decode cL_buyFlour 26 = .ok (.ireturn, 1) := by decide +kernel
theorem dL_collect_0 : decode cL_collect 0 = .ok (.aload_n 2, 1) := by decide +kernel
theorem dL_collect_1 : decode cL_collect 1 = .ok (.iconst 0, 1) := by decide +kernel
theorem dL_collect_2 : decode cL_collect 2 = .ok (.aload_n 0, 1) := by decide +kernel
theorem dL_collect_3 : decode cL_collect 3 = .ok (.iload_n 1, 1) := by decide +kernel
theorem dL_collect_4 : decode cL_collect 4 = .ok (.invokevirtual 133, 3) := by decide +kernel
theorem dL_collect_7 : decode cL_collect 7 = .ok (.i2l, 1) := by decide +kernel
theorem dL_collect_8 : decode cL_collect 8 = .ok (.lastore, 1) := by decide +kernel
theorem dL_collect_9 : decode cL_collect 9 = .ok (.goto 9, 3) := by decide +kernel
theorem dL_collect_12 : decode cL_collect 12 = .ok (.astore_n 3, 1) := by decide +kernel
theorem dL_collect_13 : decode cL_collect 13 = .ok (.iconst 1, 1) := by decide +kernel
theorem dL_collect_14 : decode cL_collect 14 = .ok (.ireturn, 1) := by decide +kernel
theorem dL_collect_15 : decode cL_collect 15 = .ok (.astore_n 3, 1) := by decide +kernel
theorem dL_collect_16 : decode cL_collect 16 = .ok (.iconst 2, 1) := by decide +kernel
theorem dL_collect_17 : decode cL_collect 17 = .ok (.ireturn, 1) := by decide +kernel
theorem dL_collect_18 : decode cL_collect 18 = .ok (.iconst 0, 1) := by decide +kernel
theorem dL_collect_19 : decode cL_collect 19 = .ok (.ireturn, 1) := by decide +kernel
theorem dL_wash_0 : decode cL_wash 0 = .ok (.aload_n 2, 1) := by decide +kernel
theorem dL_wash_1 : decode cL_wash 1 = .ok (.iconst 0, 1) := by decide +kernel
theorem dL_wash_2 : decode cL_wash 2 = .ok (.aload_n 0, 1) := by decide +kernel
theorem dL_wash_3 : decode cL_wash 3 = .ok (.iload_n 1, 1) := by decide +kernel
theorem dL_wash_4 : decode cL_wash 4 = .ok (.invokevirtual 136, 3) := by decide +kernel
theorem dL_wash_7 : decode cL_wash 7 = .ok (.i2l, 1) := by decide +kernel
theorem dL_wash_8 : decode cL_wash 8 = .ok (.lastore, 1) := by decide +kernel
theorem dL_wash_9 : decode cL_wash 9 = .ok (.goto 9, 3) := by decide +kernel
theorem dL_wash_12 : decode cL_wash 12 = .ok (.astore_n 3, 1) := by decide +kernel
theorem dL_wash_13 : decode cL_wash 13 = .ok (.iconst 1, 1) := by decide +kernel
theorem dL_wash_14 : decode cL_wash 14 = .ok (.ireturn, 1) := by decide +kernel
theorem dL_wash_15 : decode cL_wash 15 = .ok (.astore_n 3, 1) := by decide +kernel
theorem dL_wash_16 : decode cL_wash 16 = .ok (.iconst 2, 1) := by decide +kernel
theorem dL_wash_17 : decode cL_wash 17 = .ok (.ireturn, 1) := by decide +kernel
theorem dL_wash_18 : decode cL_wash 18 = .ok (.iconst 0, 1) := by decide +kernel
theorem dL_wash_19 : decode cL_wash 19 = .ok (.ireturn, 1) := by decide +kernel
theorem dL_passMinutes_0 : decode cL_passMinutes 0 = .ok (.aload_n 2, 1) := by decide +kernel
theorem dL_passMinutes_1 : decode cL_passMinutes 1 = .ok (.iconst 0, 1) := by decide +kernel
theorem dL_passMinutes_2 : decode cL_passMinutes 2 = .ok (.aload_n 0, 1) := by decide +kernel
theorem dL_passMinutes_3 : decode cL_passMinutes 3 = .ok (.iload_n 1, 1) := by decide +kernel
theorem dL_passMinutes_4 : decode cL_passMinutes 4 = .ok (.invokevirtual 139, 3) := by decide +kernel
theorem dL_passMinutes_7 : decode cL_passMinutes 7 = .ok (.i2l, 1) := by decide +kernel
theorem dL_passMinutes_8 : decode cL_passMinutes 8 = .ok (.lastore, 1) := by decide +kernel
theorem dL_passMinutes_9 : decode cL_passMinutes 9 = .ok (.goto 9, 3) := by decide +kernel
theorem dL_passMinutes_12 : decode cL_passMinutes 12 = .ok (.astore_n 3, 1) := by decide +kernel
theorem dL_passMinutes_13 : decode cL_passMinutes 13 = .ok (.iconst 1, 1) := by decide +kernel
theorem dL_passMinutes_14 : decode cL_passMinutes 14 = .ok (.ireturn, 1) := by decide +kernel
theorem dL_passMinutes_15 : decode cL_passMinutes 15 = .ok (.astore_n 3, 1) := by decide +kernel
theorem dL_passMinutes_16 : decode cL_passMinutes 16 = .ok (.iconst 2, 1) := by decide +kernel
theorem dL_passMinutes_17 : decode cL_passMinutes 17 = .ok (.ireturn, 1) := by decide +kernel
theorem dL_passMinutes_18 : decode cL_passMinutes 18 = .ok (.iconst 0, 1) := by decide +kernel
theorem dL_passMinutes_19 : decode cL_passMinutes 19 = .ok (.ireturn, 1) := by decide +kernel
theorem dL_runScript_0 : decode cL_runScript 0 = .ok (.aload_n 2, 1) := by decide +kernel
theorem dL_runScript_1 : decode cL_runScript 1 = .ok (.iconst 0, 1) := by decide +kernel
theorem dL_runScript_2 : decode cL_runScript 2 = .ok (.aload_n 0, 1) := by decide +kernel
theorem dL_runScript_3 : decode cL_runScript 3 = .ok (.iload_n 1, 1) := by decide +kernel
theorem dL_runScript_4 : decode cL_runScript 4 = .ok (.invokevirtual 142, 3) := by decide +kernel
theorem dL_runScript_7 : decode cL_runScript 7 = .ok (.i2l, 1) := by decide +kernel
theorem dL_runScript_8 : decode cL_runScript 8 = .ok (.lastore, 1) := by decide +kernel
theorem dL_runScript_9 : decode cL_runScript 9 = .ok (.goto 6, 3) := by decide +kernel
theorem dL_runScript_12 : decode cL_runScript 12 = .ok (.astore_n 3, 1) := by decide +kernel
theorem dL_runScript_13 : decode cL_runScript 13 = .ok (.iconst 1, 1) := by decide +kernel
theorem dL_runScript_14 : decode cL_runScript 14 = .ok (.ireturn, 1) := by decide +kernel
theorem dL_runScript_15 : decode cL_runScript 15 = .ok (.iconst 0, 1) := by decide +kernel
theorem dL_runScript_16 : decode cL_runScript 16 = .ok (.ireturn, 1) := by decide +kernel
theorem dL_outputByte_0 : decode cL_outputByte 0 = .ok (.aload_n 2, 1) := by decide +kernel
theorem dL_outputByte_1 : decode cL_outputByte 1 = .ok (.iconst 0, 1) := by decide +kernel
theorem dL_outputByte_2 : decode cL_outputByte 2 = .ok (.aload_n 0, 1) := by decide +kernel
theorem dL_outputByte_3 : decode cL_outputByte 3 = .ok (.iload_n 1, 1) := by decide +kernel
theorem dL_outputByte_4 : decode cL_outputByte 4 = .ok (.invokevirtual 145, 3) := by decide +kernel
theorem dL_outputByte_7 : decode cL_outputByte 7 = .ok (.i2l, 1) := by decide +kernel
theorem dL_outputByte_8 : decode cL_outputByte 8 = .ok (.lastore, 1) := by decide +kernel
theorem dL_outputByte_9 : decode cL_outputByte 9 = .ok (.goto 6, 3) := by decide +kernel
theorem dL_outputByte_12 : decode cL_outputByte 12 = .ok (.astore_n 3, 1) := by decide +kernel
theorem dL_outputByte_13 : decode cL_outputByte 13 = .ok (.iconst 1, 1) := by decide +kernel
theorem dL_outputByte_14 : decode cL_outputByte 14 = .ok (.ireturn, 1) := by decide +kernel
theorem dL_outputByte_15 : decode cL_outputByte 15 = .ok (.iconst 0, 1) := by decide +kernel
theorem dL_outputByte_16 : decode cL_outputByte 16 = .ok (.ireturn, 1) := by decide +kernel
theorem dL_undo_0 : decode cL_undo 0 = .ok (.aload_n 1, 1) := by decide +kernel
theorem dL_undo_1 : decode cL_undo 1 = .ok (.iconst 0, 1) := by decide +kernel
theorem dL_undo_2 : decode cL_undo 2 = .ok (.aload_n 0, 1) := by decide +kernel
theorem dL_undo_3 : decode cL_undo 3 = .ok (.invokevirtual 148, 3) := by decide +kernel
theorem dL_undo_6 : decode cL_undo 6 = .ok (.i2l, 1) := by decide +kernel
theorem dL_undo_7 : decode cL_undo 7 = .ok (.lastore, 1) := by decide +kernel
theorem dL_undo_8 : decode cL_undo 8 = .ok (.goto 6, 3) := by decide +kernel
theorem dL_undo_11 : decode cL_undo 11 = .ok (.astore_n 2, 1) := by decide +kernel
theorem dL_undo_12 : decode cL_undo 12 = .ok (.iconst 1, 1) := by decide +kernel
theorem dL_undo_13 : decode cL_undo 13 = .ok (.ireturn, 1) := by decide +kernel
theorem dL_undo_14 : decode cL_undo 14 = .ok (.iconst 0, 1) := by decide +kernel
theorem dL_undo_15 : decode cL_undo 15 = .ok (.ireturn, 1) := by decide +kernel
theorem dL_restoreSnapshot_0 : decode cL_restoreSnapshot 0 = .ok (.aload_n 1, 1) := by decide +kernel
theorem dL_restoreSnapshot_1 : decode cL_restoreSnapshot 1 = .ok (.iconst 0, 1) := by decide +kernel
theorem dL_restoreSnapshot_2 : decode cL_restoreSnapshot 2 = .ok (.aload_n 0, 1) := by decide +kernel
theorem dL_restoreSnapshot_3 : decode cL_restoreSnapshot 3 = .ok (.invokevirtual 152, 3) := by decide +kernel
theorem dL_restoreSnapshot_6 : decode cL_restoreSnapshot 6 = .ok (.i2l, 1) := by decide +kernel
theorem dL_restoreSnapshot_7 : decode cL_restoreSnapshot 7 = .ok (.lastore, 1) := by decide +kernel
theorem dL_restoreSnapshot_8 : decode cL_restoreSnapshot 8 = .ok (.goto 6, 3) := by decide +kernel
theorem dL_restoreSnapshot_11 : decode cL_restoreSnapshot 11 = .ok (.astore_n 2, 1) := by decide +kernel
theorem dL_restoreSnapshot_12 : decode cL_restoreSnapshot 12 = .ok (.iconst 1, 1) := by decide +kernel
theorem dL_restoreSnapshot_13 : decode cL_restoreSnapshot 13 = .ok (.ireturn, 1) := by decide +kernel
theorem dL_restoreSnapshot_14 : decode cL_restoreSnapshot 14 = .ok (.iconst 0, 1) := by decide +kernel
theorem dL_restoreSnapshot_15 : decode cL_restoreSnapshot 15 = .ok (.ireturn, 1) := by decide +kernel
