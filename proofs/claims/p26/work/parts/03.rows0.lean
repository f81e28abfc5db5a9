theorem dX0_init_0 : decode cX0_init 0 = .ok (.aload_n 0, 1) := by decide +kernel
theorem dX0_init_1 : decode cX0_init 1 = .ok (.invokespecial 3, 3) := by decide +kernel
theorem dX0_init_4 : decode cX0_init 4 = .ok (.aload_n 0, 1) := by decide +kernel
theorem dX0_init_5 : decode cX0_init 5 = .ok (.bipush 6, 2) := by decide +kernel
theorem dX0_init_7 : decode cX0_init 7 = .ok (.anewarray 11, 3) := by decide +kernel
theorem dX0_init_10 : decode cX0_init 10 = .ok (.putfield 13, 3) := by decide +kernel
theorem dX0_init_13 : decode cX0_init 13 = .ok (.iconst 0, 1) := by decide +kernel
theorem dX0_init_14 : decode cX0_init 14 = .ok (.istore_n 1, 1) := by decide +kernel
theorem dX0_init_15 : decode cX0_init 15 = .ok (.iload_n 1, 1) := by decide +kernel
theorem dX0_init_16 : decode cX0_init 16 = .ok (.bipush 6, 2) := by decide +kernel
theorem dX0_init_18 : decode cX0_init 18 = .ok (.if_icmp .ge 22, 3) := by decide +kernel
theorem dX0_init_21 : decode cX0_init 21 = .ok (.aload_n 0, 1) := by decide +kernel
theorem dX0_init_22 : decode cX0_init 22 = .ok (.getfield 13, 3) := by decide +kernel
theorem dX0_init_25 : decode cX0_init 25 = .ok (.iload_n 1, 1) := by decide +kernel
theorem dX0_init_26 : decode cX0_init 26 = .ok (.new 11, 3) := by decide +kernel
theorem dX0_init_29 : decode cX0_init 29 = .ok (.dup, 1) := by decide +kernel
theorem dX0_init_30 : decode cX0_init 30 = .ok (.invokespecial 17, 3) := by decide +kernel
theorem dX0_init_33 : decode cX0_init 33 = .ok (.aastore, 1) := by decide +kernel
theorem dX0_init_34 : decode cX0_init 34 = .ok (.iinc 1 1, 3) := by decide +kernel
theorem dX0_init_37 : decode cX0_init 37 = .ok (.goto (-22), 3) := by decide +kernel
theorem dX0_init_40 : decode cX0_init 40 = .ok (.return_, 1) := by decide +kernel
theorem dX0_keep_0 : decode cX0_keep 0 = .ok (.aload_n 0, 1) := by decide +kernel
theorem dX0_keep_1 : decode cX0_keep 1 = .ok (.getfield 13, 3) := by decide +kernel
theorem dX0_keep_4 : decode cX0_keep 4 = .ok (.aload_n 0, 1) := by decide +kernel
theorem dX0_keep_5 : decode cX0_keep 5 = .ok (.getfield 18, 3) := by decide +kernel
theorem dX0_keep_8 : decode cX0_keep 8 = .ok (.aload_n 0, 1) := by decide +kernel
theorem dX0_keep_9 : decode cX0_keep 9 = .ok (.getfield 22, 3) := by decide +kernel
theorem dX0_keep_12 : decode cX0_keep 12 = .ok (.iadd, 1) := by decide +kernel
theorem dX0_keep_13 : decode cX0_keep 13 = .ok (.bipush 6, 2) := by decide +kernel
theorem dX0_keep_15 : decode cX0_keep 15 = .ok (.irem, 1) := by decide +kernel
theorem dX0_keep_16 : decode cX0_keep 16 = .ok (.aaload, 1) := by decide +kernel
theorem dX0_keep_17 : decode cX0_keep 17 = .ok (.aload_n 1, 1) := by decide +kernel
theorem dX0_keep_18 : decode cX0_keep 18 = .ok (.invokevirtual 25, 3) := by decide +kernel
theorem dX0_keep_21 : decode cX0_keep 21 = .ok (.return_, 1) := by decide +kernel
theorem dX0_recordUnlessError_0 : decode cX0_recordUnlessError 0 = .ok (.iload_n 1, 1) := by decide +kernel
theorem dX0_recordUnlessError_1 : decode cX0_recordUnlessError 1 = .ok (.ifCond .lt 37, 3) := by decide +kernel
theorem dX0_recordUnlessError_4 : decode cX0_recordUnlessError 4 = .ok (.aload_n 0, 1) := by decide +kernel
theorem dX0_recordUnlessError_5 : decode cX0_recordUnlessError 5 = .ok (.getfield 22, 3) := by decide +kernel
theorem dX0_recordUnlessError_8 : decode cX0_recordUnlessError 8 = .ok (.iconst 5, 1) := by decide +kernel
theorem dX0_recordUnlessError_9 : decode cX0_recordUnlessError 9 = .ok (.if_icmp .ge 16, 3) := by decide +kernel
theorem dX0_recordUnlessError_12 : decode cX0_recordUnlessError 12 = .ok (.aload_n 0, 1) := by decide +kernel
theorem dX0_recordUnlessError_13 : decode cX0_recordUnlessError 13 = .ok (.dup, 1) := by decide +kernel
theorem dX0_recordUnlessError_14 : decode cX0_recordUnlessError 14 = .ok (.getfield 22, 3) := by decide +kernel
theorem dX0_recordUnlessError_17 : decode cX0_recordUnlessError 17 = .ok (.iconst 1, 1) := by decide +kernel
theorem dX0_recordUnlessError_18 : decode cX0_recordUnlessError 18 = .ok (.iadd, 1) := by decide +kernel
theorem dX0_recordUnlessError_19 : decode cX0_recordUnlessError 19 = .ok (.putfield 22, 3) := by decide +kernel
theorem dX0_recordUnlessError_22 : decode cX0_recordUnlessError 22 = .ok (.goto 16, 3) := by decide +kernel
theorem dX0_recordUnlessError_25 : decode cX0_recordUnlessError 25 = .ok (.aload_n 0, 1) := by decide +kernel
theorem dX0_recordUnlessError_26 : decode cX0_recordUnlessError 26 = .ok (.aload_n 0, 1) := by decide +kernel
theorem dX0_recordUnlessError_27 : decode cX0_recordUnlessError 27 = .ok (.getfield 18, 3) := by decide +kernel
theorem dX0_recordUnlessError_30 : decode cX0_recordUnlessError 30 = .ok (.iconst 1, 1) := by decide +kernel
theorem dX0_recordUnlessError_31 : decode cX0_recordUnlessError 31 = .ok (.iadd, 1) := by decide +kernel
theorem dX0_recordUnlessError_32 : decode cX0_recordUnlessError 32 = .ok (.bipush 6, 2) := by decide +kernel
theorem dX0_recordUnlessError_34 : decode cX0_recordUnlessError 34 = .ok (.irem, 1) := by decide +kernel
theorem dX0_recordUnlessError_35 : decode cX0_recordUnlessError 35 = .ok (.putfield 18, 3) := by decide +kernel
theorem dX0_recordUnlessError_38 : decode cX0_recordUnlessError 38 = .ok (.iload_n 1, 1) := by decide +kernel
theorem dX0_recordUnlessError_39 : decode cX0_recordUnlessError 39 = .ok (.ireturn, 1) := by decide +kernel
theorem dX0_goBack_0 : decode cX0_goBack 0 = .ok (.aload_n 0, 1) := by decide +kernel
theorem dX0_goBack_1 : decode cX0_goBack 1 = .ok (.getfield 22, 3) := by decide +kernel
theorem dX0_goBack_4 : decode cX0_goBack 4 = .ok (.ifCond .ne 7, 3) := by decide +kernel
theorem dX0_goBack_7 : decode cX0_goBack 7 = .ok (.sipush (-1002), 3) := by decide +kernel
theorem dX0_goBack_10 : decode cX0_goBack 10 = .ok (.ireturn, 1) := by decide +kernel
theorem dX0_goBack_11 : decode cX0_goBack 11 = .ok (.aload_n 0, 1) := by decide +kernel
theorem dX0_goBack_12 : decode cX0_goBack 12 = .ok (.dup, 1) := by decide +kernel
theorem dX0_goBack_13 : decode cX0_goBack 13 = .ok (.getfield 22, 3) := by decide +kernel
theorem dX0_goBack_16 : decode cX0_goBack 16 = .ok (.iconst 1, 1) := by decide +kernel
theorem dX0_goBack_17 : decode cX0_goBack 17 = .ok (.isub, 1) := by decide +kernel
theorem dX0_goBack_18 : decode cX0_goBack 18 = .ok (.putfield 22, 3) := by decide +kernel
theorem dX0_goBack_21 : decode cX0_goBack 21 = .ok (.aload_n 1, 1) := by decide +kernel
theorem dX0_goBack_22 : decode cX0_goBack 22 = .ok (.aload_n 0, 1) := by decide +kernel
theorem dX0_goBack_23 : decode cX0_goBack 23 = .ok (.getfield 13, 3) := by decide +kernel
theorem dX0_goBack_26 : decode cX0_goBack 26 = .ok (.aload_n 0, 1) := by decide +kernel
theorem dX0_goBack_27 : decode cX0_goBack 27 = .ok (.getfield 18, 3) := by decide +kernel
theorem dX0_goBack_30 : decode cX0_goBack 30 = .ok (.aload_n 0, 1) := by decide +kernel
theorem dX0_goBack_31 : decode cX0_goBack 31 = .ok (.getfield 22, 3) := by decide +kernel
theorem dX0_goBack_34 : decode cX0_goBack 34 = .ok (.iadd, 1) := by decide +kernel
theorem dX0_goBack_35 : decode cX0_goBack 35 = .ok (.bipush 6, 2) := by decide +kernel
theorem dX0_goBack_37 : decode cX0_goBack 37 = .ok (.irem, 1) := by decide +kernel
theorem dX0_goBack_38 : decode cX0_goBack 38 = .ok (.aaload, 1) := by decide +kernel
theorem dX0_goBack_39 : decode cX0_goBack 39 = .ok (.invokevirtual 25, 3) := by decide +kernel
theorem dX0_goBack_42 : decode cX0_goBack 42 = .ok (.aload_n 0, 1) := by decide +kernel
theorem dX0_goBack_43 : decode cX0_goBack 43 = .ok (.getfield 22, 3) := by decide +kernel
theorem dX0_goBack_46 : decode cX0_goBack 46 = .ok (.ireturn, 1) := by decide +kernel
theorem dX1_init_0 : decode cX1_init 0 = .ok (.aload_n 0, 1) := by decide +kernel
theorem dX1_init_1 : decode cX1_init 1 = .ok (.invokespecial 3, 3) := by decide +kernel
theorem dX1_init_4 : decode cX1_init 4 = .ok (.aload_n 0, 1) := by decide +kernel
theorem dX1_init_5 : decode cX1_init 5 = .ok (.new 9, 3) := by decide +kernel
theorem dX1_init_8 : decode cX1_init 8 = .ok (.dup, 1) := by decide +kernel
theorem dX1_init_9 : decode cX1_init 9 = .ok (.invokespecial 11, 3) := by decide +kernel
theorem dX1_init_12 : decode cX1_init 12 = .ok (.putfield 12, 3) := by decide +kernel
theorem dX1_init_15 : decode cX1_init 15 = .ok (.aload_n 0, 1) := by decide +kernel
theorem dX1_init_16 : decode cX1_init 16 = .ok (.iconst 2, 1) := by decide +kernel
theorem dX1_init_17 : decode cX1_init 17 = .ok (.anewarray 9, 3) := by decide +kernel
theorem dX1_init_20 : decode cX1_init 20 = .ok (.putfield 18, 3) := by decide +kernel
theorem dX1_init_23 : decode cX1_init 23 = .ok (.aload_n 0, 1) := by decide +kernel
theorem dX1_init_24 : decode cX1_init 24 = .ok (.iconst 2, 1) := by decide +kernel
theorem dX1_init_25 : decode cX1_init 25 = .ok (.newarray .boolean, 2) := by decide +kernel
theorem dX1_init_27 : decode cX1_init 27 = .ok (.putfield 22, 3) := by decide +kernel
theorem dX1_init_30 : decode cX1_init 30 = .ok (.iconst 0, 1) := by decide +kernel
theorem dX1_init_31 : decode cX1_init 31 = .ok (.istore_n 1, 1) := by decide +kernel
theorem dX1_init_32 : decode cX1_init 32 = .ok (.iload_n 1, 1) := by decide +kernel
theorem dX1_init_33 : decode cX1_init 33 = .ok (.iconst 2, 1) := by decide +kernel
theorem dX1_init_34 : decode cX1_init 34 = .ok (.if_icmp .ge 22, 3) := by decide +kernel
theorem dX1_init_37 : decode cX1_init 37 = .ok (.aload_n 0, 1) := by decide +kernel
theorem dX1_init_38 : decode cX1_init 38 = .ok (.getfield 18, 3) := by decide +kernel
theorem dX1_init_41 : decode cX1_init 41 = .ok (.iload_n 1, 1) := by decide +kernel
theorem dX1_init_42 : decode cX1_init 42 = .ok (.new 9, 3) := by decide +kernel
theorem dX1_init_45 : decode cX1_init 45 = .ok (.dup, 1) := by decide +kernel
theorem dX1_init_46 : decode cX1_init 46 = .ok (.invokespecial 11, 3) := by decide +kernel
theorem dX1_init_49 : decode cX1_init 49 = .ok (.aastore, 1) := by decide +kernel
theorem dX1_init_50 : decode cX1_init 50 = .ok (.iinc 1 1, 3) := by decide +kernel
theorem dX1_init_53 : decode cX1_init 53 = .ok (.goto (-21), 3) := by decide +kernel
theorem dX1_init_56 : decode cX1_init 56 = .ok (.return_, 1) := by decide +kernel
theorem dX1_become_0 : decode cX1_become 0 = .ok (.aload_n 0, 1) := by decide +kernel
theorem dX1_become_1 : decode cX1_become 1 = .ok (.getfield 12, 3) := by decide +kernel
theorem dX1_become_4 : decode cX1_become 4 = .ok (.aload_n 1, 1) := by decide +kernel
theorem dX1_become_5 : decode cX1_become 5 = .ok (.getfield 12, 3) := by decide +kernel
theorem dX1_become_8 : decode cX1_become 8 = .ok (.invokevirtual 26, 3) := by decide +kernel
theorem dX1_become_11 : decode cX1_become 11 = .ok (.iconst 0, 1) := by decide +kernel
theorem dX1_become_12 : decode cX1_become 12 = .ok (.istore_n 2, 1) := by decide +kernel
theorem dX1_become_13 : decode cX1_become 13 = .ok (.iload_n 2, 1) := by decide +kernel
theorem dX1_become_14 : decode cX1_become 14 = .ok (.iconst 2, 1) := by decide +kernel
theorem dX1_become_15 : decode cX1_become 15 = .ok (.if_icmp .ge 45, 3) := by decide +kernel
theorem dX1_become_18 : decode cX1_become 18 = .ok (.aload_n 0, 1) := by decide +kernel
theorem dX1_become_19 : decode cX1_become 19 = .ok (.getfield 22, 3) := by decide +kernel
theorem dX1_become_22 : decode cX1_become 22 = .ok (.iload_n 2, 1) := by decide +kernel
theorem dX1_become_23 : decode cX1_become 23 = .ok (.aload_n 1, 1) := by decide +kernel
theorem dX1_become_24 : decode cX1_become 24 = .ok (.getfield 22, 3) := by decide +kernel
theorem dX1_become_27 : decode cX1_become 27 = .ok (.iload_n 2, 1) := by decide +kernel
theorem dX1_become_28 : decode cX1_become 28 = .ok (.baload, 1) := by decide +kernel
theorem dX1_become_29 : decode cX1_become 29 = .ok (.bastore, 1) := by decide +kernel
theorem dX1_become_30 : decode cX1_become 30 = .ok (.aload_n 0, 1) := by decide +kernel
theorem dX1_become_31 : decode cX1_become 31 = .ok (.getfield 22, 3) := by decide +kernel
theorem dX1_become_34 : decode cX1_become 34 = .ok (.iload_n 2, 1) := by decide +kernel
theorem dX1_become_35 : decode cX1_become 35 = .ok (.baload, 1) := by decide +kernel
theorem dX1_become_36 : decode cX1_become 36 = .ok (.ifCond .eq 18, 3) := by decide +kernel
theorem dX1_become_39 : decode cX1_become 39 = .ok (.aload_n 0, 1) := by decide +kernel
theorem dX1_become_40 : decode cX1_become 40 = .ok (.getfield 18, 3) := by decide +kernel
theorem dX1_become_43 : decode cX1_become 43 = .ok (.iload_n 2, 1) := by decide +kernel
theorem dX1_become_44 : decode cX1_become 44 = .ok (.aaload, 1) := by decide +kernel
theorem dX1_become_45 : decode cX1_become 45 = .ok (.aload_n 1, 1) := by decide +kernel
theorem dX1_become_46 : decode cX1_become 46 = .ok (.getfield 18, 3) := by decide +kernel
theorem dX1_become_49 : decode cX1_become 49 = .ok (.iload_n 2, 1) := by decide +kernel
theorem dX1_become_50 : decode cX1_become 50 = .ok (.aaload, 1) := by decide +kernel
theorem dX1_become_51 : decode cX1_become 51 = .ok (.invokevirtual 26, 3) := by decide +kernel
theorem dX1_become_54 : decode cX1_become 54 = .ok (.iinc 2 1, 3) := by decide +kernel
theorem dX1_become_57 : decode cX1_become 57 = .ok (.goto (-44), 3) := by decide +kernel
theorem dX1_become_60 : decode cX1_become 60 = .ok (.return_, 1) := by decide +kernel
theorem dX1_takeSnapshot_0 : decode cX1_takeSnapshot 0 = .ok (.iload_n 1, 1) := by decide +kernel
theorem dX1_takeSnapshot_1 : decode cX1_takeSnapshot 1 = .ok (.iconst 0, 1) := by decide +kernel
theorem dX1_takeSnapshot_2 : decode cX1_takeSnapshot 2 = .ok (.iconst 1, 1) := by decide +kernel
theorem dX1_takeSnapshot_3 : decode cX1_takeSnapshot 3 = .ok (.invokestatic 30, 3) := by decide +kernel
theorem dX1_takeSnapshot_6 : decode cX1_takeSnapshot 6 = .ok (.ifCond .ne 7, 3) := by decide +kernel
theorem dX1_takeSnapshot_9 : decode cX1_takeSnapshot 9 = .ok (.sipush (-1001), 3) := by decide +kernel
theorem dX1_takeSnapshot_12 : decode cX1_takeSnapshot 12 = .ok (.ireturn, 1) := by decide +kernel
theorem dX1_takeSnapshot_13 : decode cX1_takeSnapshot 13 = .ok (.aload_n 0, 1) := by decide +kernel
theorem dX1_takeSnapshot_14 : decode cX1_takeSnapshot 14 = .ok (.getfield 18, 3) := by decide +kernel
theorem dX1_takeSnapshot_17 : decode cX1_takeSnapshot 17 = .ok (.iload_n 1, 1) := by decide +kernel
theorem dX1_takeSnapshot_18 : decode cX1_takeSnapshot 18 = .ok (.aaload, 1) := by decide +kernel
theorem dX1_takeSnapshot_19 : decode cX1_takeSnapshot 19 = .ok (.aload_n 0, 1) := by decide +kernel
theorem dX1_takeSnapshot_20 : decode cX1_takeSnapshot 20 = .ok (.getfield 12, 3) := by decide +kernel
theorem dX1_takeSnapshot_23 : decode cX1_takeSnapshot 23 = .ok (.invokevirtual 26, 3) := by decide +kernel
theorem dX1_takeSnapshot_26 : decode cX1_takeSnapshot 26 = .ok (.aload_n 0, 1) := by decide +kernel
theorem dX1_takeSnapshot_27 : decode cX1_takeSnapshot 27 = .ok (.getfield 22, 3) := by decide +kernel
theorem dX1_takeSnapshot_30 : decode cX1_takeSnapshot 30 = .ok (.iload_n 1, 1) := by decide +kernel
theorem dX1_takeSnapshot_31 : decode cX1_takeSnapshot 31 = .ok (.iconst 1, 1) := by decide +kernel
theorem dX1_takeSnapshot_32 : decode cX1_takeSnapshot 32 = .ok (.bastore, 1) := by decide +kernel
theorem dX1_takeSnapshot_33 : decode cX1_takeSnapshot 33 = .ok (.aload_n 0, 1) := by decide +kernel
theorem dX1_takeSnapshot_34 : decode cX1_takeSnapshot 34 = .ok (.getfield 12, 3) := by decide +kernel
theorem dX1_takeSnapshot_37 : decode cX1_takeSnapshot 37 = .ok (.getfield 34, 3) := by decide +kernel
theorem dX1_takeSnapshot_40 : decode cX1_takeSnapshot 40 = .ok (.ireturn, 1) := by decide +kernel
theorem dX1_restoreSnapshot_0 : decode cX1_restoreSnapshot 0 = .ok (.iload_n 1, 1) := by decide +kernel
theorem dX1_restoreSnapshot_1 : decode cX1_restoreSnapshot 1 = .ok (.iconst 0, 1) := by decide +kernel
theorem dX1_restoreSnapshot_2 : decode cX1_restoreSnapshot 2 = .ok (.iconst 1, 1) := by decide +kernel
theorem dX1_restoreSnapshot_3 : decode cX1_restoreSnapshot 3 = .ok (.invokestatic 30, 3) := by decide +kernel
theorem dX1_restoreSnapshot_6 : decode cX1_restoreSnapshot 6 = .ok (.ifCond .ne 7, 3) := by decide +kernel
theorem dX1_restoreSnapshot_9 : decode cX1_restoreSnapshot 9 = .ok (.sipush (-1001), 3) := by decide +kernel
theorem dX1_restoreSnapshot_12 : decode cX1_restoreSnapshot 12 = .ok (.ireturn, 1) := by decide +kernel
theorem dX1_restoreSnapshot_13 : decode cX1_restoreSnapshot 13 = .ok (.aload_n 0, 1) := by decide +kernel
theorem dX1_restoreSnapshot_14 : decode cX1_restoreSnapshot 14 = .ok (.getfield 22, 3) := by decide +kernel
theorem dX1_restoreSnapshot_17 : decode cX1_restoreSnapshot 17 = .ok (.iload_n 1, 1) := by decide +kernel
theorem dX1_restoreSnapshot_18 : decode cX1_restoreSnapshot 18 = .ok (.baload, 1) := by decide +kernel
theorem dX1_restoreSnapshot_19 : decode cX1_restoreSnapshot 19 = .ok (.ifCond .ne 7, 3) := by decide +kernel
theorem dX1_restoreSnapshot_22 : decode cX1_restoreSnapshot 22 = .ok (.sipush (-1002), 3) := by decide +kernel
theorem dX1_restoreSnapshot_25 : decode cX1_restoreSnapshot 25 = .ok (.ireturn, 1) := by decide +kernel
theorem dX1_restoreSnapshot_26 : decode cX1_restoreSnapshot 26 = .ok (.aload_n 0, 1) := by decide +kernel
theorem dX1_restoreSnapshot_27 : decode cX1_restoreSnapshot 27 = .ok (.getfield 12, 3) := by decide +kernel
theorem dX1_restoreSnapshot_30 : decode cX1_restoreSnapshot 30 = .ok (.aload_n 0, 1) := by decide +kernel
theorem dX1_restoreSnapshot_31 : decode cX1_restoreSnapshot 31 = .ok (.getfield 18, 3) := by decide +kernel
theorem dX1_restoreSnapshot_34 : decode cX1_restoreSnapshot 34 = .ok (.iload_n 1, 1) := by decide +kernel
theorem dX1_restoreSnapshot_35 : decode cX1_restoreSnapshot 35 = .ok (.aaload, 1) := by decide +kernel
theorem dX1_restoreSnapshot_36 : decode cX1_restoreSnapshot 36 = .ok (.invokevirtual 26, 3) := by decide +kernel
theorem dX1_restoreSnapshot_39 : decode cX1_restoreSnapshot 39 = .ok (.aload_n 0, 1) := by decide +kernel
theorem dX1_restoreSnapshot_40 : decode cX1_restoreSnapshot 40 = .ok (.getfield 12, 3) := by decide +kernel
theorem dX1_restoreSnapshot_43 : decode cX1_restoreSnapshot 43 = .ok (.getfield 34, 3) := by decide +kernel
theorem dX1_restoreSnapshot_46 : decode cX1_restoreSnapshot 46 = .ok (.ireturn, 1) := by decide +kernel
theorem dX1_snapshots_0 : decode cX1_snapshots 0 = .ok (.iconst 0, 1) := by decide +kernel
theorem dX1_snapshots_1 : decode cX1_snapshots 1 = .ok (.istore_n 1, 1) := by decide +kernel
theorem dX1_snapshots_2 : decode cX1_snapshots 2 = .ok (.iconst 0, 1) := by decide +kernel
theorem dX1_snapshots_3 : decode cX1_snapshots 3 = .ok (.istore_n 2, 1) := by decide +kernel
theorem dX1_snapshots_4 : decode cX1_snapshots 4 = .ok (.iload_n 2, 1) := by decide +kernel
theorem dX1_snapshots_5 : decode cX1_snapshots 5 = .ok (.iconst 2, 1) := by decide +kernel
theorem dX1_snapshots_6 : decode cX1_snapshots 6 = .ok (.if_icmp .ge 21, 3) := by decide +kernel
theorem dX1_snapshots_9 : decode cX1_snapshots 9 = .ok (.aload_n 0, 1) := by decide +kernel
theorem dX1_snapshots_10 : decode cX1_snapshots 10 = .ok (.getfield 22, 3) := by decide +kernel
theorem dX1_snapshots_13 : decode cX1_snapshots 13 = .ok (.iload_n 2, 1) := by decide +kernel
theorem dX1_snapshots_14 : decode cX1_snapshots 14 = .ok (.baload, 1) := by decide +kernel
theorem dX1_snapshots_15 : decode cX1_snapshots 15 = .ok (.ifCond .eq 6, 3) := by decide +kernel
theorem dX1_snapshots_18 : decode cX1_snapshots 18 = .ok (.iinc 1 1, 3) := by decide +kernel
theorem dX1_snapshots_21 : decode cX1_snapshots 21 = .ok (.iinc 2 1, 3) := by decide +kernel
theorem dX1_snapshots_24 : decode cX1_snapshots 24 = .ok (.goto (-20), 3) := by decide +kernel
theorem dX1_snapshots_27 : decode cX1_snapshots 27 = .ok (.iload_n 1, 1) := by decide +kernel
theorem dX1_snapshots_28 : decode cX1_snapshots 28 = .ok (.ireturn, 1) := by decide +kernel
theorem dX3_init_0 : decode cX3_init 0 = .ok (.aload_n 0, 1) := by decide +kernel
theorem dX3_init_1 : decode cX3_init 1 = .ok (.invokespecial 3, 3) := by decide +kernel
theorem dX3_init_4 : decode cX3_init 4 = .ok (.aload_n 0, 1) := by decide +kernel
theorem dX3_init_5 : decode cX3_init 5 = .ok (.bipush 100, 2) := by decide +kernel
theorem dX3_init_7 : decode cX3_init 7 = .ok (.newarray .int, 2) := by decide +kernel
theorem dX3_init_9 : decode cX3_init 9 = .ok (.putfield 9, 3) := by decide +kernel
theorem dX3_init_12 : decode cX3_init 12 = .ok (.return_, 1) := by decide +kernel
theorem dX3_add_0 : decode cX3_add 0 = .ok (.iload_n 1, 1) := by decide +kernel
theorem dX3_add_1 : decode cX3_add 1 = .ok (.iconst 1, 1) := by decide +kernel
theorem dX3_add_2 : decode cX3_add 2 = .ok (.sipush 255, 3) := by decide +kernel
theorem dX3_add_5 : decode cX3_add 5 = .ok (.invokestatic 15, 3) := by decide +kernel
theorem dX3_add_8 : decode cX3_add 8 = .ok (.ifCond .ne 7, 3) := by decide +kernel
theorem dX3_add_11 : decode cX3_add 11 = .ok (.sipush (-1001), 3) := by decide +kernel
theorem dX3_add_14 : decode cX3_add 14 = .ok (.ireturn, 1) := by decide +kernel
theorem dX3_add_15 : decode cX3_add 15 = .ok (.aload_n 0, 1) := by decide +kernel
theorem dX3_add_16 : decode cX3_add 16 = .ok (.getfield 19, 3) := by decide +kernel
theorem dX3_add_19 : decode cX3_add 19 = .ok (.bipush 100, 2) := by decide +kernel
theorem dX3_add_21 : decode cX3_add 21 = .ok (.if_icmp .lt 7, 3) := by decide +kernel
theorem dX3_add_24 : decode cX3_add 24 = .ok (.sipush (-1003), 3) := by decide +kernel
theorem dX3_add_27 : decode cX3_add 27 = .ok (.ireturn, 1) := by decide +kernel
theorem dX3_add_28 : decode cX3_add 28 = .ok (.aload_n 0, 1) := by decide +kernel
theorem dX3_add_29 : decode cX3_add 29 = .ok (.getfield 9, 3) := by decide +kernel
theorem dX3_add_32 : decode cX3_add 32 = .ok (.aload_n 0, 1) := by decide +kernel
theorem dX3_add_33 : decode cX3_add 33 = .ok (.getfield 19, 3) := by decide +kernel
theorem dX3_add_36 : decode cX3_add 36 = .ok (.iload_n 1, 1) := by decide +kernel
theorem dX3_add_37 : decode cX3_add 37 = .ok (.iastore, 1) := by decide +kernel
theorem dX3_add_38 : decode cX3_add 38 = .ok (.aload_n 0, 1) := by decide +kernel
theorem dX3_add_39 : decode cX3_add 39 = .ok (.dup, 1) := by decide +kernel
theorem dX3_add_40 : decode cX3_add 40 = .ok (.getfield 19, 3) := by decide +kernel
theorem dX3_add_43 : decode cX3_add 43 = .ok (.iconst 1, 1) := by decide +kernel
theorem dX3_add_44 : decode cX3_add 44 = .ok (.iadd, 1) := by decide +kernel
theorem dX3_add_45 : decode cX3_add 45 = .ok (.putfield 19, 3) := by decide +kernel
theorem dX3_add_48 : decode cX3_add 48 = .ok (.aload_n 0, 1) := by decide +kernel
theorem dX3_add_49 : decode cX3_add 49 = .ok (.getfield 19, 3) := by decide +kernel
theorem dX3_add_52 : decode cX3_add 52 = .ok (.ireturn, 1) := by decide +kernel
theorem dX3_wipe_0 : decode cX3_wipe 0 = .ok (.aload_n 0, 1) := by decide +kernel
theorem dX3_wipe_1 : decode cX3_wipe 1 = .ok (.getfield 19, 3) := by decide +kernel
theorem dX3_wipe_4 : decode cX3_wipe 4 = .ok (.istore_n 1, 1) := by decide +kernel
theorem dX3_wipe_5 : decode cX3_wipe 5 = .ok (.aload_n 0, 1) := by decide +kernel
theorem dX3_wipe_6 : decode cX3_wipe 6 = .ok (.iconst 0, 1) := by decide +kernel
theorem dX3_wipe_7 : decode cX3_wipe 7 = .ok (.putfield 19, 3) := by decide +kernel
theorem dX3_wipe_10 : decode cX3_wipe 10 = .ok (.aload_n 0, 1) := by decide +kernel
theorem dX3_wipe_11 : decode cX3_wipe 11 = .ok (.iconst 0, 1) := by decide +kernel
theorem dX3_wipe_12 : decode cX3_wipe 12 = .ok (.putfield 23, 3) := by decide +kernel
theorem dX3_wipe_15 : decode cX3_wipe 15 = .ok (.iload_n 1, 1) := by decide +kernel
theorem dX3_wipe_16 : decode cX3_wipe 16 = .ok (.ireturn, 1) := by decide +kernel
theorem dX3_firstFault_0 : decode cX3_firstFault 0 = .ok (.iconst 0, 1) := by decide +kernel
theorem dX3_firstFault_1 : decode cX3_firstFault 1 = .ok (.istore_n 1, 1) := by decide +kernel
theorem dX3_firstFault_2 : decode cX3_firstFault 2 = .ok (.iconst 0, 1) := by decide +kernel
theorem dX3_firstFault_3 : decode cX3_firstFault 3 = .ok (.istore_n 2, 1) := by decide +kernel
theorem dX3_firstFault_4 : decode cX3_firstFault 4 = .ok (.iload_n 2, 1) := by decide +kernel
theorem dX3_firstFault_5 : decode cX3_firstFault 5 = .ok (.aload_n 0, 1) := by decide +kernel
theorem dX3_firstFault_6 : decode cX3_firstFault 6 = .ok (.getfield 19, 3) := by decide +kernel
theorem dX3_firstFault_9 : decode cX3_firstFault 9 = .ok (.if_icmp .ge 27, 3) := by decide +kernel
theorem dX3_firstFault_12 : decode cX3_firstFault 12 = .ok (.iload_n 1, 1) := by decide +kernel
theorem dX3_firstFault_13 : decode cX3_firstFault 13 = .ok (.aload_n 0, 1) := by decide +kernel
theorem dX3_firstFault_14 : decode cX3_firstFault 14 = .ok (.getfield 9, 3) := by decide +kernel
theorem dX3_firstFault_17 : decode cX3_firstFault 17 = .ok (.iload_n 2, 1) := by decide +kernel
theorem dX3_firstFault_18 : decode cX3_firstFault 18 = .ok (.iaload, 1) := by decide +kernel
theorem dX3_firstFault_19 : decode cX3_firstFault 19 = .ok (.invokestatic 26, 3) := by decide +kernel
theorem dX3_firstFault_22 : decode cX3_firstFault 22 = .ok (.istore_n 1, 1) := by decide +kernel
theorem dX3_firstFault_23 : decode cX3_firstFault 23 = .ok (.iload_n 1, 1) := by decide +kernel
theorem dX3_firstFault_24 : decode cX3_firstFault 24 = .ok (.iconst (-1), 1) := by decide +kernel
theorem dX3_firstFault_25 : decode cX3_firstFault 25 = .ok (.if_icmp .ne 5, 3) := by decide +kernel
theorem dX3_firstFault_28 : decode cX3_firstFault 28 = .ok (.iload_n 2, 1) := by decide +kernel
theorem dX3_firstFault_29 : decode cX3_firstFault 29 = .ok (.ireturn, 1) := by decide +kernel
theorem dX3_firstFault_30 : decode cX3_firstFault 30 = .ok (.iinc 2 1, 3) := by decide +kernel
theorem dX3_firstFault_33 : decode cX3_firstFault 33 = .ok (.goto (-29), 3) := by decide +kernel
theorem dX3_firstFault_36 : decode cX3_firstFault 36 = .ok (.iload_n 1, 1) := by decide +kernel
theorem dX3_firstFault_37 : decode cX3_firstFault 37 = .ok (.iconst 5, 1) := by decide +kernel
theorem dX3_firstFault_38 : decode cX3_firstFault 38 = .ok (.if_icmp .eq 9, 3) := by decide +kernel
theorem dX3_firstFault_41 : decode cX3_firstFault 41 = .ok (.iload_n 1, 1) := by decide +kernel
theorem dX3_firstFault_42 : decode cX3_firstFault 42 = .ok (.bipush 6, 2) := by decide +kernel
theorem dX3_firstFault_44 : decode cX3_firstFault 44 = .ok (.if_icmp .ne 9, 3) := by decide +kernel
theorem dX3_firstFault_47 : decode cX3_firstFault 47 = .ok (.sipush (-1009), 3) := by decide +kernel
theorem dX3_firstFault_50 : decode cX3_firstFault 50 = .ok (.goto 7, 3) := by decide +kernel
theorem dX3_firstFault_53 : decode cX3_firstFault 53 = .ok (.aload_n 0, 1) := by decide +kernel
theorem dX3_firstFault_54 : decode cX3_firstFault 54 = .ok (.getfield 19, 3) := by decide +kernel
theorem dX3_firstFault_57 : decode cX3_firstFault 57 = .ok (.ireturn, 1) := by decide +kernel
theorem dX3_placeAfter_0 : decode cX3_placeAfter 0 = .ok (.iload_n 0, 1) := by decide +kernel
theorem dX3_placeAfter_1 : decode cX3_placeAfter 1 = .ok (.tableswitch 134 0 6 #[43, 48, 55, 78, 90, 98, 122], 43) := by decide +kernel
theorem dX3_placeAfter_44 : decode cX3_placeAfter 44 = .ok (.iload_n 1, 1) := by decide +kernel
theorem dX3_placeAfter_45 : decode cX3_placeAfter 45 = .ok (.invokestatic 30, 3) := by decide +kernel
theorem dX3_placeAfter_48 : decode cX3_placeAfter 48 = .ok (.ireturn, 1) := by decide +kernel
theorem dX3_placeAfter_49 : decode cX3_placeAfter 49 = .ok (.iload_n 1, 1) := by decide +kernel
theorem dX3_placeAfter_50 : decode cX3_placeAfter 50 = .ok (.iconst 2, 1) := by decide +kernel
theorem dX3_placeAfter_51 : decode cX3_placeAfter 51 = .ok (.iconst 3, 1) := by decide +kernel
theorem dX3_placeAfter_52 : decode cX3_placeAfter 52 = .ok (.invokestatic 34, 3) := by decide +kernel
theorem dX3_placeAfter_55 : decode cX3_placeAfter 55 = .ok (.ireturn, 1) := by decide +kernel
theorem dX3_placeAfter_56 : decode cX3_placeAfter 56 = .ok (.iload_n 1, 1) := by decide +kernel
theorem dX3_placeAfter_57 : decode cX3_placeAfter 57 = .ok (.invokestatic 38, 3) := by decide +kernel
theorem dX3_placeAfter_60 : decode cX3_placeAfter 60 = .ok (.ifCond .eq 7, 3) := by decide +kernel
theorem dX3_placeAfter_63 : decode cX3_placeAfter 63 = .ok (.iconst 3, 1) := by decide +kernel
theorem dX3_placeAfter_64 : decode cX3_placeAfter 64 = .ok (.goto 14, 3) := by decide +kernel
theorem dX3_placeAfter_67 : decode cX3_placeAfter 67 = .ok (.iload_n 1, 1) := by decide +kernel
theorem dX3_placeAfter_68 : decode cX3_placeAfter 68 = .ok (.bipush 44, 2) := by decide +kernel
theorem dX3_placeAfter_70 : decode cX3_placeAfter 70 = .ok (.if_icmp .ne 7, 3) := by decide +kernel
theorem dX3_placeAfter_73 : decode cX3_placeAfter 73 = .ok (.iconst 4, 1) := by decide +kernel
theorem dX3_placeAfter_74 : decode cX3_placeAfter 74 = .ok (.goto 4, 3) := by decide +kernel
theorem dX3_placeAfter_77 : decode cX3_placeAfter 77 = .ok (.iconst (-1), 1) := by decide +kernel
theorem dX3_placeAfter_78 : decode cX3_placeAfter 78 = .ok (.ireturn, 1) := by decide +kernel
theorem dX3_placeAfter_79 : decode cX3_placeAfter 79 = .ok (.iload_n 1, 1) := by decide +kernel
theorem dX3_placeAfter_80 : decode cX3_placeAfter 80 = .ok (.bipush 44, 2) := by decide +kernel
theorem dX3_placeAfter_82 : decode cX3_placeAfter 82 = .ok (.if_icmp .ne 7, 3) := by decide +kernel
theorem dX3_placeAfter_85 : decode cX3_placeAfter 85 = .ok (.iconst 4, 1) := by decide +kernel
theorem dX3_placeAfter_86 : decode cX3_placeAfter 86 = .ok (.goto 4, 3) := by decide +kernel
theorem dX3_placeAfter_89 : decode cX3_placeAfter 89 = .ok (.iconst (-1), 1) := by decide +kernel
theorem dX3_placeAfter_90 : decode cX3_placeAfter 90 = .ok (.ireturn, 1) := by decide +kernel
theorem dX3_placeAfter_91 : decode cX3_placeAfter 91 = .ok (.iload_n 1, 1) := by decide +kernel
theorem dX3_placeAfter_92 : decode cX3_placeAfter 92 = .ok (.iconst 5, 1) := by decide +kernel
theorem dX3_placeAfter_93 : decode cX3_placeAfter 93 = .ok (.bipush 6, 2) := by decide +kernel
theorem dX3_placeAfter_95 : decode cX3_placeAfter 95 = .ok (.invokestatic 34, 3) := by decide +kernel
theorem dX3_placeAfter_98 : decode cX3_placeAfter 98 = .ok (.ireturn, 1) := by decide +kernel
theorem dX3_placeAfter_99 : decode cX3_placeAfter 99 = .ok (.iload_n 1, 1) := by decide +kernel
theorem dX3_placeAfter_100 : decode cX3_placeAfter 100 = .ok (.invokestatic 38, 3) := by decide +kernel
theorem dX3_placeAfter_103 : decode cX3_placeAfter 103 = .ok (.ifCond .eq 8, 3) := by decide +kernel
theorem dX3_placeAfter_106 : decode cX3_placeAfter 106 = .ok (.bipush 6, 2) := by decide +kernel
theorem dX3_placeAfter_108 : decode cX3_placeAfter 108 = .ok (.goto 14, 3) := by decide +kernel
theorem dX3_placeAfter_111 : decode cX3_placeAfter 111 = .ok (.iload_n 1, 1) := by decide +kernel
theorem dX3_placeAfter_112 : decode cX3_placeAfter 112 = .ok (.bipush 59, 2) := by decide +kernel
theorem dX3_placeAfter_114 : decode cX3_placeAfter 114 = .ok (.if_icmp .ne 7, 3) := by decide +kernel
theorem dX3_placeAfter_117 : decode cX3_placeAfter 117 = .ok (.iconst 0, 1) := by decide +kernel
theorem dX3_placeAfter_118 : decode cX3_placeAfter 118 = .ok (.goto 4, 3) := by decide +kernel
theorem dX3_placeAfter_121 : decode cX3_placeAfter 121 = .ok (.iconst (-1), 1) := by decide +kernel
theorem dX3_placeAfter_122 : decode cX3_placeAfter 122 = .ok (.ireturn, 1) := by decide +kernel
theorem dX3_placeAfter_123 : decode cX3_placeAfter 123 = .ok (.iload_n 1, 1) := by decide +kernel
theorem dX3_placeAfter_124 : decode cX3_placeAfter 124 = .ok (.bipush 59, 2) := by decide +kernel
theorem dX3_placeAfter_126 : decode cX3_placeAfter 126 = .ok (.if_icmp .ne 7, 3) := by decide +kernel
theorem dX3_placeAfter_129 : decode cX3_placeAfter 129 = .ok (.iconst 0, 1) := by decide +kernel
theorem dX3_placeAfter_130 : decode cX3_placeAfter 130 = .ok (.goto 4, 3) := by decide +kernel
theorem dX3_placeAfter_133 : decode cX3_placeAfter 133 = .ok (.iconst (-1), 1) := by decide +kernel
theorem dX3_placeAfter_134 : decode cX3_placeAfter 134 = .ok (.ireturn, 1) := by decide +kernel
theorem dX3_placeAfter_135 : decode cX3_placeAfter 135 = .ok (.iconst (-1), 1) := by decide +kernel
theorem dX3_placeAfter_136 : decode cX3_placeAfter 136 = .ok (.ireturn, 1) := by decide +kernel
theorem dX3_placeAfterLetter_0 : decode cX3_placeAfterLetter 0 = .ok (.iload_n 0, 1) := by decide +kernel
theorem dX3_placeAfterLetter_1 : decode cX3_placeAfterLetter 1 = .ok (.tableswitch 55 108 116 #[51, 55, 55, 55, 53, 55, 55, 53, 53], 51) := by decide +kernel
theorem dX3_placeAfterLetter_52 : decode cX3_placeAfterLetter 52 = .ok (.iconst 1, 1) := by decide +kernel
theorem dX3_placeAfterLetter_53 : decode cX3_placeAfterLetter 53 = .ok (.ireturn, 1) := by decide +kernel
theorem dX3_placeAfterLetter_54 : decode cX3_placeAfterLetter 54 = .ok (.iconst 4, 1) := by decide +kernel
theorem dX3_placeAfterLetter_55 : decode cX3_placeAfterLetter 55 = .ok (.ireturn, 1) := by decide +kernel
theorem dX3_placeAfterLetter_56 : decode cX3_placeAfterLetter 56 = .ok (.iconst (-1), 1) := by decide +kernel
theorem dX3_placeAfterLetter_57 : decode cX3_placeAfterLetter 57 = .ok (.ireturn, 1) := by decide +kernel
theorem dX3_placeAfterFirstDigit_0 : decode cX3_placeAfterFirstDigit 0 = .ok (.iload_n 0, 1) := by decide +kernel
theorem dX3_placeAfterFirstDigit_1 : decode cX3_placeAfterFirstDigit 1 = .ok (.invokestatic 38, 3) := by decide +kernel
theorem dX3_placeAfterFirstDigit_4 : decode cX3_placeAfterFirstDigit 4 = .ok (.ifCond .ne 5, 3) := by decide +kernel
theorem dX3_placeAfterFirstDigit_7 : decode cX3_placeAfterFirstDigit 7 = .ok (.iconst (-1), 1) := by decide +kernel
theorem dX3_placeAfterFirstDigit_8 : decode cX3_placeAfterFirstDigit 8 = .ok (.ireturn, 1) := by decide +kernel
theorem dX3_placeAfterFirstDigit_9 : decode cX3_placeAfterFirstDigit 9 = .ok (.iload_n 0, 1) := by decide +kernel
theorem dX3_placeAfterFirstDigit_10 : decode cX3_placeAfterFirstDigit 10 = .ok (.bipush 48, 2) := by decide +kernel
theorem dX3_placeAfterFirstDigit_12 : decode cX3_placeAfterFirstDigit 12 = .ok (.if_icmp .ne 7, 3) := by decide +kernel
theorem dX3_placeAfterFirstDigit_15 : decode cX3_placeAfterFirstDigit 15 = .ok (.iload_n 2, 1) := by decide +kernel
theorem dX3_placeAfterFirstDigit_16 : decode cX3_placeAfterFirstDigit 16 = .ok (.goto 4, 3) := by decide +kernel
theorem dX3_placeAfterFirstDigit_19 : decode cX3_placeAfterFirstDigit 19 = .ok (.iload_n 1, 1) := by decide +kernel
theorem dX3_placeAfterFirstDigit_20 : decode cX3_placeAfterFirstDigit 20 = .ok (.ireturn, 1) := by decide +kernel
theorem dX3_isDigit_0 : decode cX3_isDigit 0 = .ok (.iload_n 0, 1) := by decide +kernel
theorem dX3_isDigit_1 : decode cX3_isDigit 1 = .ok (.bipush 48, 2) := by decide +kernel
theorem dX3_isDigit_3 : decode cX3_isDigit 3 = .ok (.bipush 57, 2) := by decide +kernel
theorem dX3_isDigit_5 : decode cX3_isDigit 5 = .ok (.invokestatic 15, 3) := by decide +kernel
theorem dX3_isDigit_8 : decode cX3_isDigit 8 = .ok (.ireturn, 1) := by decide +kernel
theorem dX3_readOrder_0 : decode cX3_readOrder 0 = .ok (.aload_n 0, 1) := by decide +kernel
theorem dX3_readOrder_1 : decode cX3_readOrder 1 = .ok (.getfield 23, 3) := by decide +kernel
theorem dX3_readOrder_4 : decode cX3_readOrder 4 = .ok (.aload_n 0, 1) := by decide +kernel
theorem dX3_readOrder_5 : decode cX3_readOrder 5 = .ok (.getfield 19, 3) := by decide +kernel
theorem dX3_readOrder_8 : decode cX3_readOrder 8 = .ok (.if_icmp .lt 5, 3) := by decide +kernel
theorem dX3_readOrder_11 : decode cX3_readOrder 11 = .ok (.iconst 0, 1) := by decide +kernel
theorem dX3_readOrder_12 : decode cX3_readOrder 12 = .ok (.ireturn, 1) := by decide +kernel
theorem dX3_readOrder_13 : decode cX3_readOrder 13 = .ok (.aload_n 0, 1) := by decide +kernel
theorem dX3_readOrder_14 : decode cX3_readOrder 14 = .ok (.aload_n 0, 1) := by decide +kernel
theorem dX3_readOrder_15 : decode cX3_readOrder 15 = .ok (.getfield 9, 3) := by decide +kernel
theorem dX3_readOrder_18 : decode cX3_readOrder 18 = .ok (.aload_n 0, 1) := by decide +kernel
theorem dX3_readOrder_19 : decode cX3_readOrder 19 = .ok (.getfield 23, 3) := by decide +kernel
theorem dX3_readOrder_22 : decode cX3_readOrder 22 = .ok (.iaload, 1) := by decide +kernel
theorem dX3_readOrder_23 : decode cX3_readOrder 23 = .ok (.putfield 42, 3) := by decide +kernel
theorem dX3_readOrder_26 : decode cX3_readOrder 26 = .ok (.aload_n 0, 1) := by decide +kernel
theorem dX3_readOrder_27 : decode cX3_readOrder 27 = .ok (.iconst 0, 1) := by decide +kernel
theorem dX3_readOrder_28 : decode cX3_readOrder 28 = .ok (.putfield 45, 3) := by decide +kernel
theorem dX3_readOrder_31 : decode cX3_readOrder 31 = .ok (.aload_n 0, 1) := by decide +kernel
theorem dX3_readOrder_32 : decode cX3_readOrder 32 = .ok (.dup, 1) := by decide +kernel
theorem dX3_readOrder_33 : decode cX3_readOrder 33 = .ok (.getfield 23, 3) := by decide +kernel
theorem dX3_readOrder_36 : decode cX3_readOrder 36 = .ok (.iconst 1, 1) := by decide +kernel
theorem dX3_readOrder_37 : decode cX3_readOrder 37 = .ok (.iadd, 1) := by decide +kernel
theorem dX3_readOrder_38 : decode cX3_readOrder 38 = .ok (.putfield 23, 3) := by decide +kernel
theorem dX3_readOrder_41 : decode cX3_readOrder 41 = .ok (.aload_n 0, 1) := by decide +kernel
theorem dX3_readOrder_42 : decode cX3_readOrder 42 = .ok (.getfield 23, 3) := by decide +kernel
theorem dX3_readOrder_45 : decode cX3_readOrder 45 = .ok (.aload_n 0, 1) := by decide +kernel
theorem dX3_readOrder_46 : decode cX3_readOrder 46 = .ok (.getfield 19, 3) := by decide +kernel
theorem dX3_readOrder_49 : decode cX3_readOrder 49 = .ok (.if_icmp .ge 84, 3) := by decide +kernel
theorem dX3_readOrder_52 : decode cX3_readOrder 52 = .ok (.aload_n 0, 1) := by decide +kernel
theorem dX3_readOrder_53 : decode cX3_readOrder 53 = .ok (.getfield 9, 3) := by decide +kernel
theorem dX3_readOrder_56 : decode cX3_readOrder 56 = .ok (.aload_n 0, 1) := by decide +kernel
theorem dX3_readOrder_57 : decode cX3_readOrder 57 = .ok (.getfield 23, 3) := by decide +kernel
theorem dX3_readOrder_60 : decode cX3_readOrder 60 = .ok (.iaload, 1) := by decide +kernel
theorem dX3_readOrder_61 : decode cX3_readOrder 61 = .ok (.bipush 59, 2) := by decide +kernel
theorem dX3_readOrder_63 : decode cX3_readOrder 63 = .ok (.if_icmp .eq 70, 3) := by decide +kernel
theorem dX3_readOrder_66 : decode cX3_readOrder 66 = .ok (.aload_n 0, 1) := by decide +kernel
theorem dX3_readOrder_67 : decode cX3_readOrder 67 = .ok (.getfield 9, 3) := by decide +kernel
theorem dX3_readOrder_70 : decode cX3_readOrder 70 = .ok (.aload_n 0, 1) := by decide +kernel
theorem dX3_readOrder_71 : decode cX3_readOrder 71 = .ok (.getfield 23, 3) := by decide +kernel
theorem dX3_readOrder_74 : decode cX3_readOrder 74 = .ok (.iaload, 1) := by decide +kernel
theorem dX3_readOrder_75 : decode cX3_readOrder 75 = .ok (.bipush 44, 2) := by decide +kernel
theorem dX3_readOrder_77 : decode cX3_readOrder 77 = .ok (.if_icmp .ne 19, 3) := by decide +kernel
theorem dX3_readOrder_80 : decode cX3_readOrder 80 = .ok (.aload_n 0, 1) := by decide +kernel
theorem dX3_readOrder_81 : decode cX3_readOrder 81 = .ok (.aload_n 0, 1) := by decide +kernel
theorem dX3_readOrder_82 : decode cX3_readOrder 82 = .ok (.getfield 45, 3) := by decide +kernel
theorem dX3_readOrder_85 : decode cX3_readOrder 85 = .ok (.putfield 48, 3) := by decide +kernel
theorem dX3_readOrder_88 : decode cX3_readOrder 88 = .ok (.aload_n 0, 1) := by decide +kernel
theorem dX3_readOrder_89 : decode cX3_readOrder 89 = .ok (.iconst 0, 1) := by decide +kernel
theorem dX3_readOrder_90 : decode cX3_readOrder 90 = .ok (.putfield 45, 3) := by decide +kernel
theorem dX3_readOrder_93 : decode cX3_readOrder 93 = .ok (.goto 27, 3) := by decide +kernel
theorem dX3_readOrder_96 : decode cX3_readOrder 96 = .ok (.aload_n 0, 1) := by decide +kernel
theorem dX3_readOrder_97 : decode cX3_readOrder 97 = .ok (.aload_n 0, 1) := by decide +kernel
theorem dX3_readOrder_98 : decode cX3_readOrder 98 = .ok (.getfield 45, 3) := by decide +kernel
theorem dX3_readOrder_101 : decode cX3_readOrder 101 = .ok (.bipush 10, 2) := by decide +kernel
theorem dX3_readOrder_103 : decode cX3_readOrder 103 = .ok (.imul, 1) := by decide +kernel
theorem dX3_readOrder_104 : decode cX3_readOrder 104 = .ok (.aload_n 0, 1) := by decide +kernel
theorem dX3_readOrder_105 : decode cX3_readOrder 105 = .ok (.getfield 9, 3) := by decide +kernel
theorem dX3_readOrder_108 : decode cX3_readOrder 108 = .ok (.aload_n 0, 1) := by decide +kernel
theorem dX3_readOrder_109 : decode cX3_readOrder 109 = .ok (.getfield 23, 3) := by decide +kernel
theorem dX3_readOrder_112 : decode cX3_readOrder 112 = .ok (.iaload, 1) := by decide +kernel
theorem dX3_readOrder_113 : decode cX3_readOrder 113 = .ok (.iadd, 1) := by decide +kernel
theorem dX3_readOrder_114 : decode cX3_readOrder 114 = .ok (.bipush 48, 2) := by decide +kernel
theorem dX3_readOrder_116 : decode cX3_readOrder 116 = .ok (.isub, 1) := by decide +kernel
theorem dX3_readOrder_117 : decode cX3_readOrder 117 = .ok (.putfield 45, 3) := by decide +kernel
theorem dX3_readOrder_120 : decode cX3_readOrder 120 = .ok (.aload_n 0, 1) := by decide +kernel
theorem dX3_readOrder_121 : decode cX3_readOrder 121 = .ok (.dup, 1) := by decide +kernel
theorem dX3_readOrder_122 : decode cX3_readOrder 122 = .ok (.getfield 23, 3) := by decide +kernel
theorem dX3_readOrder_125 : decode cX3_readOrder 125 = .ok (.iconst 1, 1) := by decide +kernel
theorem dX3_readOrder_126 : decode cX3_readOrder 126 = .ok (.iadd, 1) := by decide +kernel
theorem dX3_readOrder_127 : decode cX3_readOrder 127 = .ok (.putfield 23, 3) := by decide +kernel
theorem dX3_readOrder_130 : decode cX3_readOrder 130 = .ok (.goto (-89), 3) := by decide +kernel
theorem dX3_readOrder_133 : decode cX3_readOrder 133 = .ok (.aload_n 0, 1) := by decide +kernel
theorem dX3_readOrder_134 : decode cX3_readOrder 134 = .ok (.dup, 1) := by decide +kernel
theorem dX3_readOrder_135 : decode cX3_readOrder 135 = .ok (.getfield 23, 3) := by decide +kernel
theorem dX3_readOrder_138 : decode cX3_readOrder 138 = .ok (.iconst 1, 1) := by decide +kernel
theorem dX3_readOrder_139 : decode cX3_readOrder 139 = .ok (.iadd, 1) := by decide +kernel
theorem dX3_readOrder_140 : decode cX3_readOrder 140 = .ok (.putfield 23, 3) := by decide +kernel
theorem dX3_readOrder_143 : decode cX3_readOrder 143 = .ok (.iconst 1, 1) := by decide +kernel
theorem dX3_readOrder_144 : decode cX3_readOrder 144 = .ok (.ireturn, 1) := by decide +kernel
theorem dX4_init_0 : decode cX4_init 0 = .ok (.aload_n 0, 1) := by decide +kernel
theorem dX4_init_1 : decode cX4_init 1 = .ok (.invokespecial 3, 3) := by decide +kernel
theorem dX4_init_4 : decode cX4_init 4 = .ok (.aload_n 0, 1) := by decide +kernel
theorem dX4_init_5 : decode cX4_init 5 = .ok (.new 9, 3) := by decide +kernel
theorem dX4_init_8 : decode cX4_init 8 = .ok (.dup, 1) := by decide +kernel
theorem dX4_init_9 : decode cX4_init 9 = .ok (.invokespecial 11, 3) := by decide +kernel
theorem dX4_init_12 : decode cX4_init 12 = .ok (.putfield 12, 3) := by decide +kernel
theorem dX4_init_15 : decode cX4_init 15 = .ok (.aload_n 0, 1) := by decide +kernel
theorem dX4_init_16 : decode cX4_init 16 = .ok (.new 16, 3) := by decide +kernel
theorem dX4_init_19 : decode cX4_init 19 = .ok (.dup, 1) := by decide +kernel
theorem dX4_init_20 : decode cX4_init 20 = .ok (.invokespecial 18, 3) := by decide +kernel
theorem dX4_init_23 : decode cX4_init 23 = .ok (.putfield 19, 3) := by decide +kernel
theorem dX4_init_26 : decode cX4_init 26 = .ok (.aload_n 0, 1) := by decide +kernel
theorem dX4_init_27 : decode cX4_init 27 = .ok (.new 23, 3) := by decide +kernel
theorem dX4_init_30 : decode cX4_init 30 = .ok (.dup, 1) := by decide +kernel
theorem dX4_init_31 : decode cX4_init 31 = .ok (.invokespecial 25, 3) := by decide +kernel
theorem dX4_init_34 : decode cX4_init 34 = .ok (.putfield 26, 3) := by decide +kernel
theorem dX4_init_37 : decode cX4_init 37 = .ok (.aload_n 0, 1) := by decide +kernel
theorem dX4_init_38 : decode cX4_init 38 = .ok (.new 30, 3) := by decide +kernel
theorem dX4_init_41 : decode cX4_init 41 = .ok (.dup, 1) := by decide +kernel
theorem dX4_init_42 : decode cX4_init 42 = .ok (.invokespecial 32, 3) := by decide +kernel
theorem dX4_init_45 : decode cX4_init 45 = .ok (.putfield 33, 3) := by decide +kernel
theorem dX4_init_48 : decode cX4_init 48 = .ok (.return_, 1) := by decide +kernel
theorem dX4_setZone_0 : decode cX4_setZone 0 = .ok (.aload_n 0, 1) := by decide +kernel
theorem dX4_setZone_1 : decode cX4_setZone 1 = .ok (.getfield 19, 3) := by decide +kernel
theorem dX4_setZone_4 : decode cX4_setZone 4 = .ok (.aload_n 0, 1) := by decide +kernel
theorem dX4_setZone_5 : decode cX4_setZone 5 = .ok (.getfield 12, 3) := by decide +kernel
theorem dX4_setZone_8 : decode cX4_setZone 8 = .ok (.invokevirtual 37, 3) := by decide +kernel
theorem dX4_setZone_11 : decode cX4_setZone 11 = .ok (.aload_n 0, 1) := by decide +kernel
theorem dX4_setZone_12 : decode cX4_setZone 12 = .ok (.getfield 19, 3) := by decide +kernel
theorem dX4_setZone_15 : decode cX4_setZone 15 = .ok (.aload_n 0, 1) := by decide +kernel
theorem dX4_setZone_16 : decode cX4_setZone 16 = .ok (.getfield 12, 3) := by decide +kernel
theorem dX4_setZone_19 : decode cX4_setZone 19 = .ok (.getfield 41, 3) := by decide +kernel
theorem dX4_setZone_22 : decode cX4_setZone 22 = .ok (.iload_n 1, 1) := by decide +kernel
theorem dX4_setZone_23 : decode cX4_setZone 23 = .ok (.iload_n 2, 1) := by decide +kernel
theorem dX4_setZone_24 : decode cX4_setZone 24 = .ok (.iload_n 3, 1) := by decide +kernel
theorem dX4_setZone_25 : decode cX4_setZone 25 = .ok (.iload 4, 2) := by decide +kernel
theorem dX4_setZone_27 : decode cX4_setZone 27 = .ok (.invokevirtual 44, 3) := by decide +kernel
theorem dX4_setZone_30 : decode cX4_setZone 30 = .ok (.invokevirtual 48, 3) := by decide +kernel
theorem dX4_setZone_33 : decode cX4_setZone 33 = .ok (.ireturn, 1) := by decide +kernel
theorem dX4_setCurve_0 : decode cX4_setCurve 0 = .ok (.aload_n 0, 1) := by decide +kernel
theorem dX4_setCurve_1 : decode cX4_setCurve 1 = .ok (.getfield 19, 3) := by decide +kernel
theorem dX4_setCurve_4 : decode cX4_setCurve 4 = .ok (.aload_n 0, 1) := by decide +kernel
theorem dX4_setCurve_5 : decode cX4_setCurve 5 = .ok (.getfield 12, 3) := by decide +kernel
theorem dX4_setCurve_8 : decode cX4_setCurve 8 = .ok (.invokevirtual 37, 3) := by decide +kernel
theorem dX4_setCurve_11 : decode cX4_setCurve 11 = .ok (.aload_n 0, 1) := by decide +kernel
theorem dX4_setCurve_12 : decode cX4_setCurve 12 = .ok (.getfield 19, 3) := by decide +kernel
theorem dX4_setCurve_15 : decode cX4_setCurve 15 = .ok (.aload_n 0, 1) := by decide +kernel
theorem dX4_setCurve_16 : decode cX4_setCurve 16 = .ok (.getfield 12, 3) := by decide +kernel
theorem dX4_setCurve_19 : decode cX4_setCurve 19 = .ok (.getfield 41, 3) := by decide +kernel
theorem dX4_setCurve_22 : decode cX4_setCurve 22 = .ok (.iload_n 1, 1) := by decide +kernel
theorem dX4_setCurve_23 : decode cX4_setCurve 23 = .ok (.iload_n 2, 1) := by decide +kernel
theorem dX4_setCurve_24 : decode cX4_setCurve 24 = .ok (.iload_n 3, 1) := by decide +kernel
theorem dX4_setCurve_25 : decode cX4_setCurve 25 = .ok (.invokevirtual 52, 3) := by decide +kernel
theorem dX4_setCurve_28 : decode cX4_setCurve 28 = .ok (.invokevirtual 48, 3) := by decide +kernel
theorem dX4_setCurve_31 : decode cX4_setCurve 31 = .ok (.ireturn, 1) := by decide +kernel
theorem dX4_set_0 : decode cX4_set 0 = .ok (.aload_n 0, 1) := by decide +kernel
theorem dX4_set_1 : decode cX4_set 1 = .ok (.getfield 19, 3) := by decide +kernel
theorem dX4_set_4 : decode cX4_set 4 = .ok (.aload_n 0, 1) := by decide +kernel
theorem dX4_set_5 : decode cX4_set 5 = .ok (.getfield 12, 3) := by decide +kernel
theorem dX4_set_8 : decode cX4_set 8 = .ok (.invokevirtual 37, 3) := by decide +kernel
theorem dX4_set_11 : decode cX4_set 11 = .ok (.aload_n 0, 1) := by decide +kernel
theorem dX4_set_12 : decode cX4_set 12 = .ok (.getfield 19, 3) := by decide +kernel
theorem dX4_set_15 : decode cX4_set 15 = .ok (.aload_n 0, 1) := by decide +kernel
theorem dX4_set_16 : decode cX4_set 16 = .ok (.getfield 12, 3) := by decide +kernel
theorem dX4_set_19 : decode cX4_set 19 = .ok (.getfield 41, 3) := by decide +kernel
theorem dX4_set_22 : decode cX4_set 22 = .ok (.iload_n 1, 1) := by decide +kernel
theorem dX4_set_23 : decode cX4_set 23 = .ok (.iload_n 2, 1) := by decide +kernel
theorem dX4_set_24 : decode cX4_set 24 = .ok (.invokevirtual 56, 3) := by decide +kernel
theorem dX4_set_27 : decode cX4_set 27 = .ok (.invokevirtual 48, 3) := by decide +kernel
theorem dX4_set_30 : decode cX4_set 30 = .ok (.ireturn, 1) := by decide +kernel
theorem dX4_load_0 : decode cX4_load 0 = .ok (.aload_n 0, 1) := by decide +kernel
theorem dX4_load_1 : decode cX4_load 1 = .ok (.getfield 19, 3) := by decide +kernel
theorem dX4_load_4 : decode cX4_load 4 = .ok (.aload_n 0, 1) := by decide +kernel
theorem dX4_load_5 : decode cX4_load 5 = .ok (.getfield 12, 3) := by decide +kernel
theorem dX4_load_8 : decode cX4_load 8 = .ok (.invokevirtual 37, 3) := by decide +kernel
theorem dX4_load_11 : decode cX4_load 11 = .ok (.aload_n 0, 1) := by decide +kernel
theorem dX4_load_12 : decode cX4_load 12 = .ok (.getfield 19, 3) := by decide +kernel
theorem dX4_load_15 : decode cX4_load 15 = .ok (.aload_n 0, 1) := by decide +kernel
theorem dX4_load_16 : decode cX4_load 16 = .ok (.getfield 12, 3) := by decide +kernel
theorem dX4_load_19 : decode cX4_load 19 = .ok (.getfield 41, 3) := by decide +kernel
theorem dX4_load_22 : decode cX4_load 22 = .ok (.iload_n 1, 1) := by decide +kernel
theorem dX4_load_23 : decode cX4_load 23 = .ok (.iload_n 2, 1) := by decide +kernel
theorem dX4_load_24 : decode cX4_load 24 = .ok (.invokevirtual 60, 3) := by decide +kernel
theorem dX4_load_27 : decode cX4_load 27 = .ok (.invokevirtual 48, 3) := by decide +kernel
theorem dX4_load_30 : decode cX4_load 30 = .ok (.ireturn, 1) := by decide +kernel
theorem dX4_takeOff_0 : decode cX4_takeOff 0 = .ok (.aload_n 0, 1) := by decide +kernel
theorem dX4_takeOff_1 : decode cX4_takeOff 1 = .ok (.getfield 19, 3) := by decide +kernel
theorem dX4_takeOff_4 : decode cX4_takeOff 4 = .ok (.aload_n 0, 1) := by decide +kernel
theorem dX4_takeOff_5 : decode cX4_takeOff 5 = .ok (.getfield 12, 3) := by decide +kernel
theorem dX4_takeOff_8 : decode cX4_takeOff 8 = .ok (.invokevirtual 37, 3) := by decide +kernel
theorem dX4_takeOff_11 : decode cX4_takeOff 11 = .ok (.aload_n 0, 1) := by decide +kernel
theorem dX4_takeOff_12 : decode cX4_takeOff 12 = .ok (.getfield 19, 3) := by decide +kernel
theorem dX4_takeOff_15 : decode cX4_takeOff 15 = .ok (.aload_n 0, 1) := by decide +kernel
theorem dX4_takeOff_16 : decode cX4_takeOff 16 = .ok (.getfield 12, 3) := by decide +kernel
theorem dX4_takeOff_19 : decode cX4_takeOff 19 = .ok (.getfield 41, 3) := by decide +kernel
theorem dX4_takeOff_22 : decode cX4_takeOff 22 = .ok (.iload_n 1, 1) := by decide +kernel
theorem dX4_takeOff_23 : decode cX4_takeOff 23 = .ok (.invokevirtual 63, 3) := by decide +kernel
theorem dX4_takeOff_26 : decode cX4_takeOff 26 = .ok (.invokevirtual 48, 3) := by decide +kernel
theorem dX4_takeOff_29 : decode cX4_takeOff 29 = .ok (.ireturn, 1) := by decide +kernel
theorem dX4_pass_0 : decode cX4_pass 0 = .ok (.aload_n 0, 1) := by decide +kernel
theorem dX4_pass_1 : decode cX4_pass 1 = .ok (.getfield 19, 3) := by decide +kernel
theorem dX4_pass_4 : decode cX4_pass 4 = .ok (.aload_n 0, 1) := by decide +kernel
theorem dX4_pass_5 : decode cX4_pass 5 = .ok (.getfield 12, 3) := by decide +kernel
theorem dX4_pass_8 : decode cX4_pass 8 = .ok (.invokevirtual 37, 3) := by decide +kernel
theorem dX4_pass_11 : decode cX4_pass 11 = .ok (.aload_n 0, 1) := by decide +kernel
theorem dX4_pass_12 : decode cX4_pass 12 = .ok (.getfield 19, 3) := by decide +kernel
theorem dX4_pass_15 : decode cX4_pass 15 = .ok (.aload_n 0, 1) := by decide +kernel
theorem dX4_pass_16 : decode cX4_pass 16 = .ok (.getfield 12, 3) := by decide +kernel
theorem dX4_pass_19 : decode cX4_pass 19 = .ok (.getfield 41, 3) := by decide +kernel
theorem dX4_pass_22 : decode cX4_pass 22 = .ok (.iload_n 1, 1) := by decide +kernel
theorem dX4_pass_23 : decode cX4_pass 23 = .ok (.invokevirtual 66, 3) := by decide +kernel
theorem dX4_pass_26 : decode cX4_pass 26 = .ok (.invokevirtual 48, 3) := by decide +kernel
theorem dX4_pass_29 : decode cX4_pass 29 = .ok (.ireturn, 1) := by decide +kernel
theorem dX4_take_0 : decode cX4_take 0 = .ok (.aload_n 0, 1) := by decide +kernel
theorem dX4_take_1 : decode cX4_take 1 = .ok (.getfield 19, 3) := by decide +kernel
theorem dX4_take_4 : decode cX4_take 4 = .ok (.aload_n 0, 1) := by decide +kernel
theorem dX4_take_5 : decode cX4_take 5 = .ok (.getfield 12, 3) := by decide +kernel
theorem dX4_take_8 : decode cX4_take 8 = .ok (.invokevirtual 37, 3) := by decide +kernel
theorem dX4_take_11 : decode cX4_take 11 = .ok (.aload_n 0, 1) := by decide +kernel
theorem dX4_take_12 : decode cX4_take 12 = .ok (.getfield 19, 3) := by decide +kernel
theorem dX4_take_15 : decode cX4_take 15 = .ok (.aload_n 0, 1) := by decide +kernel
theorem dX4_take_16 : decode cX4_take 16 = .ok (.getfield 12, 3) := by decide +kernel
theorem dX4_take_19 : decode cX4_take 19 = .ok (.iload_n 1, 1) := by decide +kernel
theorem dX4_take_20 : decode cX4_take 20 = .ok (.invokevirtual 69, 3) := by decide +kernel
theorem dX4_take_23 : decode cX4_take 23 = .ok (.invokevirtual 48, 3) := by decide +kernel
theorem dX4_take_26 : decode cX4_take 26 = .ok (.ireturn, 1) := by decide +kernel
theorem dX4_restore_0 : decode cX4_restore 0 = .ok (.aload_n 0, 1) := by decide +kernel
theorem dX4_restore_1 : decode cX4_restore 1 = .ok (.getfield 19, 3) := by decide +kernel
theorem dX4_restore_4 : decode cX4_restore 4 = .ok (.aload_n 0, 1) := by decide +kernel
theorem dX4_restore_5 : decode cX4_restore 5 = .ok (.getfield 12, 3) := by decide +kernel
theorem dX4_restore_8 : decode cX4_restore 8 = .ok (.invokevirtual 37, 3) := by decide +kernel
theorem dX4_restore_11 : decode cX4_restore 11 = .ok (.aload_n 0, 1) := by decide +kernel
theorem dX4_restore_12 : decode cX4_restore 12 = .ok (.getfield 19, 3) := by decide +kernel
theorem dX4_restore_15 : decode cX4_restore 15 = .ok (.aload_n 0, 1) := by decide +kernel
theorem dX4_restore_16 : decode cX4_restore 16 = .ok (.getfield 12, 3) := by decide +kernel
theorem dX4_restore_19 : decode cX4_restore 19 = .ok (.iload_n 1, 1) := by decide +kernel
theorem dX4_restore_20 : decode cX4_restore 20 = .ok (.invokevirtual 72, 3) := by decide +kernel
theorem dX4_restore_23 : decode cX4_restore 23 = .ok (.invokevirtual 48, 3) := by decide +kernel
theorem dX4_restore_26 : decode cX4_restore 26 = .ok (.ireturn, 1) := by decide +kernel
theorem dX4_undo_0 : decode cX4_undo 0 = .ok (.aload_n 0, 1) := by decide +kernel
theorem dX4_undo_1 : decode cX4_undo 1 = .ok (.getfield 19, 3) := by decide +kernel
theorem dX4_undo_4 : decode cX4_undo 4 = .ok (.aload_n 0, 1) := by decide +kernel
theorem dX4_undo_5 : decode cX4_undo 5 = .ok (.getfield 12, 3) := by decide +kernel
theorem dX4_undo_8 : decode cX4_undo 8 = .ok (.invokevirtual 75, 3) := by decide +kernel
theorem dX4_undo_11 : decode cX4_undo 11 = .ok (.ireturn, 1) := by decide +kernel
theorem dX4_append_0 : decode cX4_append 0 = .ok (.aload_n 0, 1) := by decide +kernel
theorem dX4_append_1 : decode cX4_append 1 = .ok (.getfield 26, 3) := by decide +kernel
theorem dX4_append_4 : decode cX4_append 4 = .ok (.iload_n 1, 1) := by decide +kernel
theorem dX4_append_5 : decode cX4_append 5 = .ok (.invokevirtual 79, 3) := by decide +kernel
theorem dX4_append_8 : decode cX4_append 8 = .ok (.ireturn, 1) := by decide +kernel
theorem dX4_carryOut_0 : decode cX4_carryOut 0 = .ok (.aload_n 0, 1) := by decide +kernel
theorem dX4_carryOut_1 : decode cX4_carryOut 1 = .ok (.getfield 26, 3) := by decide +kernel
theorem dX4_carryOut_4 : decode cX4_carryOut 4 = .ok (.invokevirtual 86, 3) := by decide +kernel
theorem dX4_carryOut_7 : decode cX4_carryOut 7 = .ok (.istore_n 1, 1) := by decide +kernel
theorem dX4_carryOut_8 : decode cX4_carryOut 8 = .ok (.iload_n 1, 1) := by decide +kernel
theorem dX4_carryOut_9 : decode cX4_carryOut 9 = .ok (.sipush (-1009), 3) := by decide +kernel
theorem dX4_carryOut_12 : decode cX4_carryOut 12 = .ok (.if_icmp .eq 9, 3) := by decide +kernel
theorem dX4_carryOut_15 : decode cX4_carryOut 15 = .ok (.sipush (-2000), 3) := by decide +kernel
theorem dX4_carryOut_18 : decode cX4_carryOut 18 = .ok (.iload_n 1, 1) := by decide +kernel
theorem dX4_carryOut_19 : decode cX4_carryOut 19 = .ok (.isub, 1) := by decide +kernel
theorem dX4_carryOut_20 : decode cX4_carryOut 20 = .ok (.ireturn, 1) := by decide +kernel
theorem dX4_carryOut_21 : decode cX4_carryOut 21 = .ok (.aload_n 0, 1) := by decide +kernel
theorem dX4_carryOut_22 : decode cX4_carryOut 22 = .ok (.getfield 19, 3) := by decide +kernel
theorem dX4_carryOut_25 : decode cX4_carryOut 25 = .ok (.aload_n 0, 1) := by decide +kernel
theorem dX4_carryOut_26 : decode cX4_carryOut 26 = .ok (.getfield 12, 3) := by decide +kernel
theorem dX4_carryOut_29 : decode cX4_carryOut 29 = .ok (.invokevirtual 37, 3) := by decide +kernel
theorem dX4_carryOut_32 : decode cX4_carryOut 32 = .ok (.iconst 0, 1) := by decide +kernel
theorem dX4_carryOut_33 : decode cX4_carryOut 33 = .ok (.istore_n 2, 1) := by decide +kernel
theorem dX4_carryOut_34 : decode cX4_carryOut 34 = .ok (.iload_n 2, 1) := by decide +kernel
theorem dX4_carryOut_35 : decode cX4_carryOut 35 = .ok (.bipush 100, 2) := by decide +kernel
theorem dX4_carryOut_37 : decode cX4_carryOut 37 = .ok (.if_icmp .ge 53, 3) := by decide +kernel
theorem dX4_carryOut_40 : decode cX4_carryOut 40 = .ok (.aload_n 0, 1) := by decide +kernel
theorem dX4_carryOut_41 : decode cX4_carryOut 41 = .ok (.getfield 26, 3) := by decide +kernel
theorem dX4_carryOut_44 : decode cX4_carryOut 44 = .ok (.invokevirtual 89, 3) := by decide +kernel
theorem dX4_carryOut_47 : decode cX4_carryOut 47 = .ok (.ifCond .eq 43, 3) := by decide +kernel
theorem dX4_carryOut_50 : decode cX4_carryOut 50 = .ok (.aload_n 0, 1) := by decide +kernel
theorem dX4_carryOut_51 : decode cX4_carryOut 51 = .ok (.getfield 12, 3) := by decide +kernel
theorem dX4_carryOut_54 : decode cX4_carryOut 54 = .ok (.getfield 41, 3) := by decide +kernel
theorem dX4_carryOut_57 : decode cX4_carryOut 57 = .ok (.aload_n 0, 1) := by decide +kernel
theorem dX4_carryOut_58 : decode cX4_carryOut 58 = .ok (.getfield 26, 3) := by decide +kernel
theorem dX4_carryOut_61 : decode cX4_carryOut 61 = .ok (.getfield 93, 3) := by decide +kernel
theorem dX4_carryOut_64 : decode cX4_carryOut 64 = .ok (.aload_n 0, 1) := by decide +kernel
theorem dX4_carryOut_65 : decode cX4_carryOut 65 = .ok (.getfield 26, 3) := by decide +kernel
theorem dX4_carryOut_68 : decode cX4_carryOut 68 = .ok (.getfield 97, 3) := by decide +kernel
theorem dX4_carryOut_71 : decode cX4_carryOut 71 = .ok (.aload_n 0, 1) := by decide +kernel
theorem dX4_carryOut_72 : decode cX4_carryOut 72 = .ok (.getfield 26, 3) := by decide +kernel
theorem dX4_carryOut_75 : decode cX4_carryOut 75 = .ok (.getfield 100, 3) := by decide +kernel
theorem dX4_carryOut_78 : decode cX4_carryOut 78 = .ok (.invokevirtual 103, 3) := by decide +kernel
theorem dX4_carryOut_81 : decode cX4_carryOut 81 = .ok (.ifCond .lt 9, 3) := by decide +kernel
theorem dX4_carryOut_84 : decode cX4_carryOut 84 = .ok (.iinc 2 1, 3) := by decide +kernel
theorem dX4_carryOut_87 : decode cX4_carryOut 87 = .ok (.goto (-53), 3) := by decide +kernel
theorem dX4_carryOut_90 : decode cX4_carryOut 90 = .ok (.aload_n 0, 1) := by decide +kernel
theorem dX4_carryOut_91 : decode cX4_carryOut 91 = .ok (.getfield 26, 3) := by decide +kernel
theorem dX4_carryOut_94 : decode cX4_carryOut 94 = .ok (.invokevirtual 82, 3) := by decide +kernel
theorem dX4_carryOut_97 : decode cX4_carryOut 97 = .ok (.pop, 1) := by decide +kernel
theorem dX4_carryOut_98 : decode cX4_carryOut 98 = .ok (.aload_n 0, 1) := by decide +kernel
theorem dX4_carryOut_99 : decode cX4_carryOut 99 = .ok (.getfield 19, 3) := by decide +kernel
theorem dX4_carryOut_102 : decode cX4_carryOut 102 = .ok (.iload_n 2, 1) := by decide +kernel
theorem dX4_carryOut_103 : decode cX4_carryOut 103 = .ok (.invokevirtual 48, 3) := by decide +kernel
theorem dX4_carryOut_106 : decode cX4_carryOut 106 = .ok (.ireturn, 1) := by decide +kernel
theorem dX4_count_0 : decode cX4_count 0 = .ok (.aload_n 0, 1) := by decide +kernel
theorem dX4_count_1 : decode cX4_count 1 = .ok (.getfield 12, 3) := by decide +kernel
theorem dX4_count_4 : decode cX4_count 4 = .ok (.getfield 41, 3) := by decide +kernel
theorem dX4_count_7 : decode cX4_count 7 = .ok (.astore_n 2, 1) := by decide +kernel
theorem dX4_count_8 : decode cX4_count 8 = .ok (.iload_n 1, 1) := by decide +kernel
theorem dX4_count_9 : decode cX4_count 9 = .ok (.tableswitch 179 0 15 #[79, 84, 89, 95, 101, 106, 112, 117, 124, 131, 138, 145, 150, 155, 163, 171], 79) := by decide +kernel
theorem dX4_count_88 : decode cX4_count 88 = .ok (.aload_n 2, 1) := by decide +kernel
theorem dX4_count_89 : decode cX4_count 89 = .ok (.getfield 106, 3) := by decide +kernel
theorem dX4_count_92 : decode cX4_count 92 = .ok (.ireturn, 1) := by decide +kernel
theorem dX4_count_93 : decode cX4_count 93 = .ok (.aload_n 2, 1) := by decide +kernel
theorem dX4_count_94 : decode cX4_count 94 = .ok (.getfield 109, 3) := by decide +kernel
theorem dX4_count_97 : decode cX4_count 97 = .ok (.ireturn, 1) := by decide +kernel
theorem dX4_count_98 : decode cX4_count 98 = .ok (.aload_n 2, 1) := by decide +kernel
theorem dX4_count_99 : decode cX4_count 99 = .ok (.iconst 0, 1) := by decide +kernel
theorem dX4_count_100 : decode cX4_count 100 = .ok (.invokevirtual 112, 3) := by decide +kernel
theorem dX4_count_103 : decode cX4_count 103 = .ok (.ireturn, 1) := by decide +kernel
theorem dX4_count_104 : decode cX4_count 104 = .ok (.aload_n 2, 1) := by decide +kernel
theorem dX4_count_105 : decode cX4_count 105 = .ok (.iconst 1, 1) := by decide +kernel
theorem dX4_count_106 : decode cX4_count 106 = .ok (.invokevirtual 112, 3) := by decide +kernel
theorem dX4_count_109 : decode cX4_count 109 = .ok (.ireturn, 1) := by decide +kernel
theorem dX4_count_110 : decode cX4_count 110 = .ok (.aload_n 2, 1) := by decide +kernel
theorem dX4_count_111 : decode cX4_count 111 = .ok (.invokevirtual 115, 3) := by decide +kernel
theorem dX4_count_114 : decode cX4_count 114 = .ok (.ireturn, 1) := by decide +kernel
theorem dX4_count_115 : decode cX4_count 115 = .ok (.aload_n 2, 1) := by decide +kernel
theorem dX4_count_116 : decode cX4_count 116 = .ok (.iconst 2, 1) := by decide +kernel
theorem dX4_count_117 : decode cX4_count 117 = .ok (.invokevirtual 112, 3) := by decide +kernel
theorem dX4_count_120 : decode cX4_count 120 = .ok (.ireturn, 1) := by decide +kernel
theorem dX4_count_121 : decode cX4_count 121 = .ok (.aload_n 2, 1) := by decide +kernel
theorem dX4_count_122 : decode cX4_count 122 = .ok (.invokevirtual 118, 3) := by decide +kernel
theorem dX4_count_125 : decode cX4_count 125 = .ok (.ireturn, 1) := by decide +kernel
theorem dX4_count_126 : decode cX4_count 126 = .ok (.aload_n 2, 1) := by decide +kernel
theorem dX4_count_127 : decode cX4_count 127 = .ok (.getfield 121, 3) := by decide +kernel
theorem dX4_count_130 : decode cX4_count 130 = .ok (.iconst 0, 1) := by decide +kernel
theorem dX4_count_131 : decode cX4_count 131 = .ok (.iaload, 1) := by decide +kernel
theorem dX4_count_132 : decode cX4_count 132 = .ok (.ireturn, 1) := by decide +kernel
theorem dX4_count_133 : decode cX4_count 133 = .ok (.aload_n 2, 1) := by decide +kernel
theorem dX4_count_134 : decode cX4_count 134 = .ok (.getfield 121, 3) := by decide +kernel
theorem dX4_count_137 : decode cX4_count 137 = .ok (.iconst 1, 1) := by decide +kernel
theorem dX4_count_138 : decode cX4_count 138 = .ok (.iaload, 1) := by decide +kernel
theorem dX4_count_139 : decode cX4_count 139 = .ok (.ireturn, 1) := by decide +kernel
theorem dX4_count_140 : decode cX4_count 140 = .ok (.aload_n 2, 1) := by decide +kernel
theorem dX4_count_141 : decode cX4_count 141 = .ok (.getfield 121, 3) := by decide +kernel
theorem dX4_count_144 : decode cX4_count 144 = .ok (.iconst 2, 1) := by decide +kernel
theorem dX4_count_145 : decode cX4_count 145 = .ok (.iaload, 1) := by decide +kernel
theorem dX4_count_146 : decode cX4_count 146 = .ok (.ireturn, 1) := by decide +kernel
theorem dX4_count_147 : decode cX4_count 147 = .ok (.aload_n 2, 1) := by decide +kernel
theorem dX4_count_148 : decode cX4_count 148 = .ok (.getfield 121, 3) := by decide +kernel
theorem dX4_count_151 : decode cX4_count 151 = .ok (.iconst 3, 1) := by decide +kernel
theorem dX4_count_152 : decode cX4_count 152 = .ok (.iaload, 1) := by decide +kernel
theorem dX4_count_153 : decode cX4_count 153 = .ok (.ireturn, 1) := by decide +kernel
theorem dX4_count_154 : decode cX4_count 154 = .ok (.aload_n 2, 1) := by decide +kernel
theorem dX4_count_155 : decode cX4_count 155 = .ok (.getfield 125, 3) := by decide +kernel
theorem dX4_count_158 : decode cX4_count 158 = .ok (.ireturn, 1) := by decide +kernel
theorem dX4_count_159 : decode cX4_count 159 = .ok (.aload_n 2, 1) := by decide +kernel
theorem dX4_count_160 : decode cX4_count 160 = .ok (.getfield 128, 3) := by decide +kernel
theorem dX4_count_163 : decode cX4_count 163 = .ok (.ireturn, 1) := by decide +kernel
theorem dX4_count_164 : decode cX4_count 164 = .ok (.aload_n 0, 1) := by decide +kernel
theorem dX4_count_165 : decode cX4_count 165 = .ok (.getfield 12, 3) := by decide +kernel
theorem dX4_count_168 : decode cX4_count 168 = .ok (.invokevirtual 131, 3) := by decide +kernel
theorem dX4_count_171 : decode cX4_count 171 = .ok (.ireturn, 1) := by decide +kernel
theorem dX4_count_172 : decode cX4_count 172 = .ok (.aload_n 0, 1) := by decide +kernel
theorem dX4_count_173 : decode cX4_count 173 = .ok (.getfield 19, 3) := by decide +kernel
theorem dX4_count_176 : decode cX4_count 176 = .ok (.getfield 134, 3) := by decide +kernel
theorem dX4_count_179 : decode cX4_count 179 = .ok (.ireturn, 1) := by decide +kernel
theorem dX4_count_180 : decode cX4_count 180 = .ok (.aload_n 0, 1) := by decide +kernel
theorem dX4_count_181 : decode cX4_count 181 = .ok (.getfield 26, 3) := by decide +kernel
theorem dX4_count_184 : decode cX4_count 184 = .ok (.getfield 137, 3) := by decide +kernel
theorem dX4_count_187 : decode cX4_count 187 = .ok (.ireturn, 1) := by decide +kernel
theorem dX4_count_188 : decode cX4_count 188 = .ok (.sipush (-1001), 3) := by decide +kernel
theorem dX4_count_191 : decode cX4_count 191 = .ok (.ireturn, 1) := by decide +kernel
theorem dX4_zone_0 : decode cX4_zone 0 = .ok (.iload_n 1, 1) := by decide +kernel
theorem dX4_zone_1 : decode cX4_zone 1 = .ok (.iconst 0, 1) := by decide +kernel
theorem dX4_zone_2 : decode cX4_zone 2 = .ok (.iconst 5, 1) := by decide +kernel
theorem dX4_zone_3 : decode cX4_zone 3 = .ok (.invokestatic 140, 3) := by decide +kernel
theorem dX4_zone_6 : decode cX4_zone 6 = .ok (.ifCond .ne 7, 3) := by decide +kernel
theorem dX4_zone_9 : decode cX4_zone 9 = .ok (.sipush (-1001), 3) := by decide +kernel
theorem dX4_zone_12 : decode cX4_zone 12 = .ok (.ireturn, 1) := by decide +kernel
theorem dX4_zone_13 : decode cX4_zone 13 = .ok (.iload_n 2, 1) := by decide +kernel
theorem dX4_zone_14 : decode cX4_zone 14 = .ok (.tableswitch 95 0 6 #[42, 42, 42, 42, 59, 71, 83], 42) := by decide +kernel
theorem dX4_zone_56 : decode cX4_zone 56 = .ok (.aload_n 0, 1) := by decide +kernel
theorem dX4_zone_57 : decode cX4_zone 57 = .ok (.getfield 12, 3) := by decide +kernel
theorem dX4_zone_60 : decode cX4_zone 60 = .ok (.getfield 41, 3) := by decide +kernel
theorem dX4_zone_63 : decode cX4_zone 63 = .ok (.getfield 144, 3) := by decide +kernel
theorem dX4_zone_66 : decode cX4_zone 66 = .ok (.iload_n 1, 1) := by decide +kernel
theorem dX4_zone_67 : decode cX4_zone 67 = .ok (.iconst 4, 1) := by decide +kernel
theorem dX4_zone_68 : decode cX4_zone 68 = .ok (.imul, 1) := by decide +kernel
theorem dX4_zone_69 : decode cX4_zone 69 = .ok (.iload_n 2, 1) := by decide +kernel
theorem dX4_zone_70 : decode cX4_zone 70 = .ok (.iadd, 1) := by decide +kernel
theorem dX4_zone_71 : decode cX4_zone 71 = .ok (.iaload, 1) := by decide +kernel
theorem dX4_zone_72 : decode cX4_zone 72 = .ok (.ireturn, 1) := by decide +kernel
theorem dX4_zone_73 : decode cX4_zone 73 = .ok (.aload_n 0, 1) := by decide +kernel
theorem dX4_zone_74 : decode cX4_zone 74 = .ok (.getfield 12, 3) := by decide +kernel
theorem dX4_zone_77 : decode cX4_zone 77 = .ok (.getfield 41, 3) := by decide +kernel
theorem dX4_zone_80 : decode cX4_zone 80 = .ok (.iload_n 1, 1) := by decide +kernel
theorem dX4_zone_81 : decode cX4_zone 81 = .ok (.invokevirtual 147, 3) := by decide +kernel
theorem dX4_zone_84 : decode cX4_zone 84 = .ok (.ireturn, 1) := by decide +kernel
theorem dX4_zone_85 : decode cX4_zone 85 = .ok (.aload_n 0, 1) := by decide +kernel
theorem dX4_zone_86 : decode cX4_zone 86 = .ok (.getfield 12, 3) := by decide +kernel
theorem dX4_zone_89 : decode cX4_zone 89 = .ok (.getfield 41, 3) := by decide +kernel
theorem dX4_zone_92 : decode cX4_zone 92 = .ok (.iload_n 1, 1) := by decide +kernel
theorem dX4_zone_93 : decode cX4_zone 93 = .ok (.invokevirtual 150, 3) := by decide +kernel
theorem dX4_zone_96 : decode cX4_zone 96 = .ok (.ireturn, 1) := by decide +kernel
theorem dX4_zone_97 : decode cX4_zone 97 = .ok (.aload_n 0, 1) := by decide +kernel
theorem dX4_zone_98 : decode cX4_zone 98 = .ok (.getfield 12, 3) := by decide +kernel
theorem dX4_zone_101 : decode cX4_zone 101 = .ok (.getfield 41, 3) := by decide +kernel
theorem dX4_zone_104 : decode cX4_zone 104 = .ok (.iload_n 1, 1) := by decide +kernel
theorem dX4_zone_105 : decode cX4_zone 105 = .ok (.invokevirtual 153, 3) := by decide +kernel
theorem dX4_zone_108 : decode cX4_zone 108 = .ok (.ireturn, 1) := by decide +kernel
theorem dX4_zone_109 : decode cX4_zone 109 = .ok (.sipush (-1001), 3) := by decide +kernel
theorem dX4_zone_112 : decode cX4_zone 112 = .ok (.ireturn, 1) := by decide +kernel
theorem dX4_curve_0 : decode cX4_curve 0 = .ok (.iload_n 1, 1) := by decide +kernel
theorem dX4_curve_1 : decode cX4_curve 1 = .ok (.iconst 0, 1) := by decide +kernel
theorem dX4_curve_2 : decode cX4_curve 2 = .ok (.iconst 3, 1) := by decide +kernel
theorem dX4_curve_3 : decode cX4_curve 3 = .ok (.invokestatic 140, 3) := by decide +kernel
theorem dX4_curve_6 : decode cX4_curve 6 = .ok (.ifCond .eq 12, 3) := by decide +kernel
theorem dX4_curve_9 : decode cX4_curve 9 = .ok (.iload_n 2, 1) := by decide +kernel
theorem dX4_curve_10 : decode cX4_curve 10 = .ok (.iconst 0, 1) := by decide +kernel
theorem dX4_curve_11 : decode cX4_curve 11 = .ok (.iconst 5, 1) := by decide +kernel
theorem dX4_curve_12 : decode cX4_curve 12 = .ok (.invokestatic 140, 3) := by decide +kernel
theorem dX4_curve_15 : decode cX4_curve 15 = .ok (.ifCond .ne 7, 3) := by decide +kernel
theorem dX4_curve_18 : decode cX4_curve 18 = .ok (.sipush (-1001), 3) := by decide +kernel
theorem dX4_curve_21 : decode cX4_curve 21 = .ok (.ireturn, 1) := by decide +kernel
theorem dX4_curve_22 : decode cX4_curve 22 = .ok (.aload_n 0, 1) := by decide +kernel
theorem dX4_curve_23 : decode cX4_curve 23 = .ok (.getfield 12, 3) := by decide +kernel
theorem dX4_curve_26 : decode cX4_curve 26 = .ok (.getfield 41, 3) := by decide +kernel
theorem dX4_curve_29 : decode cX4_curve 29 = .ok (.getfield 156, 3) := by decide +kernel
theorem dX4_curve_32 : decode cX4_curve 32 = .ok (.iload_n 1, 1) := by decide +kernel
theorem dX4_curve_33 : decode cX4_curve 33 = .ok (.bipush 6, 2) := by decide +kernel
theorem dX4_curve_35 : decode cX4_curve 35 = .ok (.imul, 1) := by decide +kernel
theorem dX4_curve_36 : decode cX4_curve 36 = .ok (.iload_n 2, 1) := by decide +kernel
theorem dX4_curve_37 : decode cX4_curve 37 = .ok (.iadd, 1) := by decide +kernel
theorem dX4_curve_38 : decode cX4_curve 38 = .ok (.iaload, 1) := by decide +kernel
theorem dX4_curve_39 : decode cX4_curve 39 = .ok (.ireturn, 1) := by decide +kernel
theorem dX4_board_0 : decode cX4_board 0 = .ok (.aload_n 0, 1) := by decide +kernel
theorem dX4_board_1 : decode cX4_board 1 = .ok (.getfield 12, 3) := by decide +kernel
theorem dX4_board_4 : decode cX4_board 4 = .ok (.getfield 41, 3) := by decide +kernel
theorem dX4_board_7 : decode cX4_board 7 = .ok (.iload_n 1, 1) := by decide +kernel
theorem dX4_board_8 : decode cX4_board 8 = .ok (.invokevirtual 159, 3) := by decide +kernel
theorem dX4_board_11 : decode cX4_board 11 = .ok (.ifCond .eq 13, 3) := by decide +kernel
theorem dX4_board_14 : decode cX4_board 14 = .ok (.iload_n 2, 1) := by decide +kernel
theorem dX4_board_15 : decode cX4_board 15 = .ok (.iconst 0, 1) := by decide +kernel
theorem dX4_board_16 : decode cX4_board 16 = .ok (.bipush 10, 2) := by decide +kernel
theorem dX4_board_18 : decode cX4_board 18 = .ok (.invokestatic 140, 3) := by decide +kernel
theorem dX4_board_21 : decode cX4_board 21 = .ok (.ifCond .ne 7, 3) := by decide +kernel
theorem dX4_board_24 : decode cX4_board 24 = .ok (.sipush (-1001), 3) := by decide +kernel
theorem dX4_board_27 : decode cX4_board 27 = .ok (.ireturn, 1) := by decide +kernel
theorem dX4_board_28 : decode cX4_board 28 = .ok (.aload_n 0, 1) := by decide +kernel
theorem dX4_board_29 : decode cX4_board 29 = .ok (.getfield 12, 3) := by decide +kernel
theorem dX4_board_32 : decode cX4_board 32 = .ok (.getfield 41, 3) := by decide +kernel
theorem dX4_board_35 : decode cX4_board 35 = .ok (.getfield 163, 3) := by decide +kernel
theorem dX4_board_38 : decode cX4_board 38 = .ok (.iload_n 1, 1) := by decide +kernel
theorem dX4_board_39 : decode cX4_board 39 = .ok (.bipush 22, 2) := by decide +kernel
theorem dX4_board_41 : decode cX4_board 41 = .ok (.imul, 1) := by decide +kernel
theorem dX4_board_42 : decode cX4_board 42 = .ok (.iload_n 2, 1) := by decide +kernel
theorem dX4_board_43 : decode cX4_board 43 = .ok (.iadd, 1) := by decide +kernel
theorem dX4_board_44 : decode cX4_board 44 = .ok (.iaload, 1) := by decide +kernel
theorem dX4_board_45 : decode cX4_board 45 = .ok (.ireturn, 1) := by decide +kernel
theorem dX4_fault_0 : decode cX4_fault 0 = .ok (.aload_n 0, 1) := by decide +kernel
theorem dX4_fault_1 : decode cX4_fault 1 = .ok (.getfield 12, 3) := by decide +kernel
theorem dX4_fault_4 : decode cX4_fault 4 = .ok (.getfield 41, 3) := by decide +kernel
theorem dX4_fault_7 : decode cX4_fault 7 = .ok (.iload_n 1, 1) := by decide +kernel
theorem dX4_fault_8 : decode cX4_fault 8 = .ok (.invokevirtual 159, 3) := by decide +kernel
theorem dX4_fault_11 : decode cX4_fault 11 = .ok (.ifCond .eq 21, 3) := by decide +kernel
theorem dX4_fault_14 : decode cX4_fault 14 = .ok (.iload_n 2, 1) := by decide +kernel
theorem dX4_fault_15 : decode cX4_fault 15 = .ok (.iconst 0, 1) := by decide +kernel
theorem dX4_fault_16 : decode cX4_fault 16 = .ok (.iconst 4, 1) := by decide +kernel
theorem dX4_fault_17 : decode cX4_fault 17 = .ok (.invokestatic 140, 3) := by decide +kernel
theorem dX4_fault_20 : decode cX4_fault 20 = .ok (.ifCond .eq 12, 3) := by decide +kernel
theorem dX4_fault_23 : decode cX4_fault 23 = .ok (.iload_n 3, 1) := by decide +kernel
theorem dX4_fault_24 : decode cX4_fault 24 = .ok (.iconst 0, 1) := by decide +kernel
theorem dX4_fault_25 : decode cX4_fault 25 = .ok (.iconst 1, 1) := by decide +kernel
theorem dX4_fault_26 : decode cX4_fault 26 = .ok (.invokestatic 140, 3) := by decide +kernel
theorem dX4_fault_29 : decode cX4_fault 29 = .ok (.ifCond .ne 7, 3) := by decide +kernel
theorem dX4_fault_32 : decode cX4_fault 32 = .ok (.sipush (-1001), 3) := by decide +kernel
theorem dX4_fault_35 : decode cX4_fault 35 = .ok (.ireturn, 1) := by decide +kernel
theorem dX4_fault_36 : decode cX4_fault 36 = .ok (.iload_n 3, 1) := by decide +kernel
theorem dX4_fault_37 : decode cX4_fault 37 = .ok (.ifCond .ne 8, 3) := by decide +kernel
theorem dX4_fault_40 : decode cX4_fault 40 = .ok (.bipush 12, 2) := by decide +kernel
theorem dX4_fault_42 : decode cX4_fault 42 = .ok (.goto 5, 3) := by decide +kernel
theorem dX4_fault_45 : decode cX4_fault 45 = .ok (.bipush 17, 2) := by decide +kernel
theorem dX4_fault_47 : decode cX4_fault 47 = .ok (.istore 4, 2) := by decide +kernel
theorem dX4_fault_49 : decode cX4_fault 49 = .ok (.aload_n 0, 1) := by decide +kernel
theorem dX4_fault_50 : decode cX4_fault 50 = .ok (.getfield 12, 3) := by decide +kernel
theorem dX4_fault_53 : decode cX4_fault 53 = .ok (.getfield 41, 3) := by decide +kernel
theorem dX4_fault_56 : decode cX4_fault 56 = .ok (.getfield 163, 3) := by decide +kernel
theorem dX4_fault_59 : decode cX4_fault 59 = .ok (.iload_n 1, 1) := by decide +kernel
theorem dX4_fault_60 : decode cX4_fault 60 = .ok (.bipush 22, 2) := by decide +kernel
theorem dX4_fault_62 : decode cX4_fault 62 = .ok (.imul, 1) := by decide +kernel
theorem dX4_fault_63 : decode cX4_fault 63 = .ok (.iload 4, 2) := by decide +kernel
theorem dX4_fault_65 : decode cX4_fault 65 = .ok (.iadd, 1) := by decide +kernel
theorem dX4_fault_66 : decode cX4_fault 66 = .ok (.iload_n 2, 1) := by decide +kernel
theorem dX4_fault_67 : decode cX4_fault 67 = .ok (.iadd, 1) := by decide +kernel
theorem dX4_fault_68 : decode cX4_fault 68 = .ok (.iaload, 1) := by decide +kernel
theorem dX4_fault_69 : decode cX4_fault 69 = .ok (.ireturn, 1) := by decide +kernel
theorem dX4_worstCell_0 : decode cX4_worstCell 0 = .ok (.iload_n 1, 1) := by decide +kernel
theorem dX4_worstCell_1 : decode cX4_worstCell 1 = .ok (.iconst 0, 1) := by decide +kernel
theorem dX4_worstCell_2 : decode cX4_worstCell 2 = .ok (.iconst 4, 1) := by decide +kernel
theorem dX4_worstCell_3 : decode cX4_worstCell 3 = .ok (.invokestatic 140, 3) := by decide +kernel
theorem dX4_worstCell_6 : decode cX4_worstCell 6 = .ok (.ifCond .eq 12, 3) := by decide +kernel
theorem dX4_worstCell_9 : decode cX4_worstCell 9 = .ok (.iload_n 2, 1) := by decide +kernel
theorem dX4_worstCell_10 : decode cX4_worstCell 10 = .ok (.iconst 0, 1) := by decide +kernel
theorem dX4_worstCell_11 : decode cX4_worstCell 11 = .ok (.iconst 1, 1) := by decide +kernel
theorem dX4_worstCell_12 : decode cX4_worstCell 12 = .ok (.invokestatic 140, 3) := by decide +kernel
theorem dX4_worstCell_15 : decode cX4_worstCell 15 = .ok (.ifCond .ne 7, 3) := by decide +kernel
theorem dX4_worstCell_18 : decode cX4_worstCell 18 = .ok (.sipush (-1001), 3) := by decide +kernel
theorem dX4_worstCell_21 : decode cX4_worstCell 21 = .ok (.ireturn, 1) := by decide +kernel
theorem dX4_worstCell_22 : decode cX4_worstCell 22 = .ok (.sipush (-1009), 3) := by decide +kernel
theorem dX4_worstCell_25 : decode cX4_worstCell 25 = .ok (.istore_n 3, 1) := by decide +kernel
theorem dX4_worstCell_26 : decode cX4_worstCell 26 = .ok (.iconst 0, 1) := by decide +kernel
theorem dX4_worstCell_27 : decode cX4_worstCell 27 = .ok (.istore 4, 2) := by decide +kernel
theorem dX4_worstCell_29 : decode cX4_worstCell 29 = .ok (.iconst 0, 1) := by decide +kernel
theorem dX4_worstCell_30 : decode cX4_worstCell 30 = .ok (.istore 5, 2) := by decide +kernel
theorem dX4_worstCell_32 : decode cX4_worstCell 32 = .ok (.iload 5, 2) := by decide +kernel
theorem dX4_worstCell_34 : decode cX4_worstCell 34 = .ok (.bipush 48, 2) := by decide +kernel
theorem dX4_worstCell_36 : decode cX4_worstCell 36 = .ok (.if_icmp .gt 38, 3) := by decide +kernel
theorem dX4_worstCell_39 : decode cX4_worstCell 39 = .ok (.aload_n 0, 1) := by decide +kernel
theorem dX4_worstCell_40 : decode cX4_worstCell 40 = .ok (.getfield 12, 3) := by decide +kernel
theorem dX4_worstCell_43 : decode cX4_worstCell 43 = .ok (.getfield 41, 3) := by decide +kernel
theorem dX4_worstCell_46 : decode cX4_worstCell 46 = .ok (.iload_n 1, 1) := by decide +kernel
theorem dX4_worstCell_47 : decode cX4_worstCell 47 = .ok (.iload 5, 2) := by decide +kernel
theorem dX4_worstCell_49 : decode cX4_worstCell 49 = .ok (.invokevirtual 166, 3) := by decide +kernel
theorem dX4_worstCell_52 : decode cX4_worstCell 52 = .ok (.istore 6, 2) := by decide +kernel
theorem dX4_worstCell_54 : decode cX4_worstCell 54 = .ok (.iload 6, 2) := by decide +kernel
theorem dX4_worstCell_56 : decode cX4_worstCell 56 = .ok (.iload 4, 2) := by decide +kernel
theorem dX4_worstCell_58 : decode cX4_worstCell 58 = .ok (.if_icmp .le 10, 3) := by decide +kernel
theorem dX4_worstCell_61 : decode cX4_worstCell 61 = .ok (.iload 5, 2) := by decide +kernel
theorem dX4_worstCell_63 : decode cX4_worstCell 63 = .ok (.istore_n 3, 1) := by decide +kernel
theorem dX4_worstCell_64 : decode cX4_worstCell 64 = .ok (.iload 6, 2) := by decide +kernel
theorem dX4_worstCell_66 : decode cX4_worstCell 66 = .ok (.istore 4, 2) := by decide +kernel
theorem dX4_worstCell_68 : decode cX4_worstCell 68 = .ok (.iinc 5 1, 3) := by decide +kernel
theorem dX4_worstCell_71 : decode cX4_worstCell 71 = .ok (.goto (-39), 3) := by decide +kernel
theorem dX4_worstCell_74 : decode cX4_worstCell 74 = .ok (.iload_n 2, 1) := by decide +kernel
theorem dX4_worstCell_75 : decode cX4_worstCell 75 = .ok (.ifCond .ne 7, 3) := by decide +kernel
theorem dX4_worstCell_78 : decode cX4_worstCell 78 = .ok (.iload_n 3, 1) := by decide +kernel
theorem dX4_worstCell_79 : decode cX4_worstCell 79 = .ok (.goto 5, 3) := by decide +kernel
theorem dX4_worstCell_82 : decode cX4_worstCell 82 = .ok (.iload 4, 2) := by decide +kernel
theorem dX4_worstCell_84 : decode cX4_worstCell 84 = .ok (.ireturn, 1) := by decide +kernel
theorem dX4_faultCells_0 : decode cX4_faultCells 0 = .ok (.aload_n 0, 1) := by decide +kernel
theorem dX4_faultCells_1 : decode cX4_faultCells 1 = .ok (.getfield 12, 3) := by decide +kernel
theorem dX4_faultCells_4 : decode cX4_faultCells 4 = .ok (.getfield 41, 3) := by decide +kernel
theorem dX4_faultCells_7 : decode cX4_faultCells 7 = .ok (.invokevirtual 169, 3) := by decide +kernel
theorem dX4_faultCells_10 : decode cX4_faultCells 10 = .ok (.invokestatic 173, 3) := by decide +kernel
theorem dX4_faultCells_13 : decode cX4_faultCells 13 = .ok (.ireturn, 1) := by decide +kernel
theorem dX4_foretell_0 : decode cX4_foretell 0 = .ok (.aload_n 0, 1) := by decide +kernel
theorem dX4_foretell_1 : decode cX4_foretell 1 = .ok (.getfield 12, 3) := by decide +kernel
theorem dX4_foretell_4 : decode cX4_foretell 4 = .ok (.getfield 41, 3) := by decide +kernel
theorem dX4_foretell_7 : decode cX4_foretell 7 = .ok (.iload_n 1, 1) := by decide +kernel
theorem dX4_foretell_8 : decode cX4_foretell 8 = .ok (.invokevirtual 159, 3) := by decide +kernel
theorem dX4_foretell_11 : decode cX4_foretell 11 = .ok (.ifCond .eq 12, 3) := by decide +kernel
theorem dX4_foretell_14 : decode cX4_foretell 14 = .ok (.iload_n 2, 1) := by decide +kernel
theorem dX4_foretell_15 : decode cX4_foretell 15 = .ok (.iconst 0, 1) := by decide +kernel
theorem dX4_foretell_16 : decode cX4_foretell 16 = .ok (.iconst 3, 1) := by decide +kernel
theorem dX4_foretell_17 : decode cX4_foretell 17 = .ok (.invokestatic 140, 3) := by decide +kernel
theorem dX4_foretell_20 : decode cX4_foretell 20 = .ok (.ifCond .ne 7, 3) := by decide +kernel
theorem dX4_foretell_23 : decode cX4_foretell 23 = .ok (.sipush (-1001), 3) := by decide +kernel
theorem dX4_foretell_26 : decode cX4_foretell 26 = .ok (.ireturn, 1) := by decide +kernel
theorem dX4_foretell_27 : decode cX4_foretell 27 = .ok (.aload_n 0, 1) := by decide +kernel
theorem dX4_foretell_28 : decode cX4_foretell 28 = .ok (.getfield 12, 3) := by decide +kernel
theorem dX4_foretell_31 : decode cX4_foretell 31 = .ok (.getfield 41, 3) := by decide +kernel
theorem dX4_foretell_34 : decode cX4_foretell 34 = .ok (.iload_n 1, 1) := by decide +kernel
theorem dX4_foretell_35 : decode cX4_foretell 35 = .ok (.invokevirtual 179, 3) := by decide +kernel
theorem dX4_foretell_38 : decode cX4_foretell 38 = .ok (.ifCond .ne 7, 3) := by decide +kernel
theorem dX4_foretell_41 : decode cX4_foretell 41 = .ok (.sipush (-1002), 3) := by decide +kernel
theorem dX4_foretell_44 : decode cX4_foretell 44 = .ok (.ireturn, 1) := by decide +kernel
theorem dX4_foretell_45 : decode cX4_foretell 45 = .ok (.aload_n 0, 1) := by decide +kernel
theorem dX4_foretell_46 : decode cX4_foretell 46 = .ok (.getfield 33, 3) := by decide +kernel
theorem dX4_foretell_49 : decode cX4_foretell 49 = .ok (.aload_n 0, 1) := by decide +kernel
theorem dX4_foretell_50 : decode cX4_foretell 50 = .ok (.getfield 12, 3) := by decide +kernel
theorem dX4_foretell_53 : decode cX4_foretell 53 = .ok (.getfield 41, 3) := by decide +kernel
theorem dX4_foretell_56 : decode cX4_foretell 56 = .ok (.invokevirtual 182, 3) := by decide +kernel
theorem dX4_foretell_59 : decode cX4_foretell 59 = .ok (.aload_n 0, 1) := by decide +kernel
theorem dX4_foretell_60 : decode cX4_foretell 60 = .ok (.getfield 33, 3) := by decide +kernel
theorem dX4_foretell_63 : decode cX4_foretell 63 = .ok (.iload_n 1, 1) := by decide +kernel
theorem dX4_foretell_64 : decode cX4_foretell 64 = .ok (.invokevirtual 186, 3) := by decide +kernel
theorem dX4_foretell_67 : decode cX4_foretell 67 = .ok (.istore_n 3, 1) := by decide +kernel
theorem dX4_foretell_68 : decode cX4_foretell 68 = .ok (.iload_n 1, 1) := by decide +kernel
theorem dX4_foretell_69 : decode cX4_foretell 69 = .ok (.bipush 22, 2) := by decide +kernel
theorem dX4_foretell_71 : decode cX4_foretell 71 = .ok (.imul, 1) := by decide +kernel
theorem dX4_foretell_72 : decode cX4_foretell 72 = .ok (.istore 4, 2) := by decide +kernel
theorem dX4_foretell_74 : decode cX4_foretell 74 = .ok (.iload_n 2, 1) := by decide +kernel
theorem dX4_foretell_75 : decode cX4_foretell 75 = .ok (.tableswitch 55 0 2 #[25, 39, 53], 25) := by decide +kernel
theorem dX4_foretell_100 : decode cX4_foretell 100 = .ok (.aload_n 0, 1) := by decide +kernel
theorem dX4_foretell_101 : decode cX4_foretell 101 = .ok (.getfield 33, 3) := by decide +kernel
theorem dX4_foretell_104 : decode cX4_foretell 104 = .ok (.getfield 163, 3) := by decide +kernel
theorem dX4_foretell_107 : decode cX4_foretell 107 = .ok (.iload 4, 2) := by decide +kernel
theorem dX4_foretell_109 : decode cX4_foretell 109 = .ok (.bipush 8, 2) := by decide +kernel
theorem dX4_foretell_111 : decode cX4_foretell 111 = .ok (.iadd, 1) := by decide +kernel
theorem dX4_foretell_112 : decode cX4_foretell 112 = .ok (.iaload, 1) := by decide +kernel
theorem dX4_foretell_113 : decode cX4_foretell 113 = .ok (.ireturn, 1) := by decide +kernel
theorem dX4_foretell_114 : decode cX4_foretell 114 = .ok (.aload_n 0, 1) := by decide +kernel
theorem dX4_foretell_115 : decode cX4_foretell 115 = .ok (.getfield 33, 3) := by decide +kernel
theorem dX4_foretell_118 : decode cX4_foretell 118 = .ok (.getfield 163, 3) := by decide +kernel
theorem dX4_foretell_121 : decode cX4_foretell 121 = .ok (.iload 4, 2) := by decide +kernel
theorem dX4_foretell_123 : decode cX4_foretell 123 = .ok (.bipush 6, 2) := by decide +kernel
theorem dX4_foretell_125 : decode cX4_foretell 125 = .ok (.iadd, 1) := by decide +kernel
theorem dX4_foretell_126 : decode cX4_foretell 126 = .ok (.iaload, 1) := by decide +kernel
theorem dX4_foretell_127 : decode cX4_foretell 127 = .ok (.ireturn, 1) := by decide +kernel
theorem dX4_foretell_128 : decode cX4_foretell 128 = .ok (.iload_n 3, 1) := by decide +kernel
theorem dX4_foretell_129 : decode cX4_foretell 129 = .ok (.ireturn, 1) := by decide +kernel
theorem dX4_foretell_130 : decode cX4_foretell 130 = .ok (.aload_n 0, 1) := by decide +kernel
theorem dX4_foretell_131 : decode cX4_foretell 131 = .ok (.getfield 33, 3) := by decide +kernel
theorem dX4_foretell_134 : decode cX4_foretell 134 = .ok (.getfield 163, 3) := by decide +kernel
theorem dX4_foretell_137 : decode cX4_foretell 137 = .ok (.iload 4, 2) := by decide +kernel
theorem dX4_foretell_139 : decode cX4_foretell 139 = .ok (.iconst 4, 1) := by decide +kernel
theorem dX4_foretell_140 : decode cX4_foretell 140 = .ok (.iadd, 1) := by decide +kernel
theorem dX4_foretell_141 : decode cX4_foretell 141 = .ok (.iaload, 1) := by decide +kernel
theorem dX4_foretell_142 : decode cX4_foretell 142 = .ok (.ireturn, 1) := by decide +kernel
theorem dX4_wouldFail_0 : decode cX4_wouldFail 0 = .ok (.iload_n 1, 1) := by decide +kernel
theorem dX4_wouldFail_1 : decode cX4_wouldFail 1 = .ok (.iconst 0, 1) := by decide +kernel
theorem dX4_wouldFail_2 : decode cX4_wouldFail 2 = .ok (.iconst 3, 1) := by decide +kernel
theorem dX4_wouldFail_3 : decode cX4_wouldFail 3 = .ok (.invokestatic 140, 3) := by decide +kernel
theorem dX4_wouldFail_6 : decode cX4_wouldFail 6 = .ok (.ifCond .eq 22, 3) := by decide +kernel
theorem dX4_wouldFail_9 : decode cX4_wouldFail 9 = .ok (.iload_n 2, 1) := by decide +kernel
theorem dX4_wouldFail_10 : decode cX4_wouldFail 10 = .ok (.iconst 1, 1) := by decide +kernel
theorem dX4_wouldFail_11 : decode cX4_wouldFail 11 = .ok (.bipush 9, 2) := by decide +kernel
theorem dX4_wouldFail_13 : decode cX4_wouldFail 13 = .ok (.invokestatic 140, 3) := by decide +kernel
theorem dX4_wouldFail_16 : decode cX4_wouldFail 16 = .ok (.ifCond .eq 12, 3) := by decide +kernel
theorem dX4_wouldFail_19 : decode cX4_wouldFail 19 = .ok (.iload_n 3, 1) := by decide +kernel
theorem dX4_wouldFail_20 : decode cX4_wouldFail 20 = .ok (.iconst 0, 1) := by decide +kernel
theorem dX4_wouldFail_21 : decode cX4_wouldFail 21 = .ok (.iconst 3, 1) := by decide +kernel
theorem dX4_wouldFail_22 : decode cX4_wouldFail 22 = .ok (.invokestatic 140, 3) := by decide +kernel
theorem dX4_wouldFail_25 : decode cX4_wouldFail 25 = .ok (.ifCond .ne 7, 3) := by decide +kernel
theorem dX4_wouldFail_28 : decode cX4_wouldFail 28 = .ok (.sipush (-1001), 3) := by decide +kernel
theorem dX4_wouldFail_31 : decode cX4_wouldFail 31 = .ok (.ireturn, 1) := by decide +kernel
theorem dX4_wouldFail_32 : decode cX4_wouldFail 32 = .ok (.aload_n 0, 1) := by decide +kernel
theorem dX4_wouldFail_33 : decode cX4_wouldFail 33 = .ok (.iload_n 1, 1) := by decide +kernel
theorem dX4_wouldFail_34 : decode cX4_wouldFail 34 = .ok (.iload_n 2, 1) := by decide +kernel
theorem dX4_wouldFail_35 : decode cX4_wouldFail 35 = .ok (.iload_n 3, 1) := by decide +kernel
theorem dX4_wouldFail_36 : decode cX4_wouldFail 36 = .ok (.invokevirtual 189, 3) := by decide +kernel
theorem dX4_wouldFail_39 : decode cX4_wouldFail 39 = .ok (.ireturn, 1) := by decide +kernel
theorem dX4_heaviest_0 : decode cX4_heaviest 0 = .ok (.iload_n 1, 1) := by decide +kernel
theorem dX4_heaviest_1 : decode cX4_heaviest 1 = .ok (.iconst 0, 1) := by decide +kernel
theorem dX4_heaviest_2 : decode cX4_heaviest 2 = .ok (.iconst 3, 1) := by decide +kernel
theorem dX4_heaviest_3 : decode cX4_heaviest 3 = .ok (.invokestatic 140, 3) := by decide +kernel
theorem dX4_heaviest_6 : decode cX4_heaviest 6 = .ok (.ifCond .ne 7, 3) := by decide +kernel
theorem dX4_heaviest_9 : decode cX4_heaviest 9 = .ok (.sipush (-1001), 3) := by decide +kernel
theorem dX4_heaviest_12 : decode cX4_heaviest 12 = .ok (.ireturn, 1) := by decide +kernel
theorem dX4_heaviest_13 : decode cX4_heaviest 13 = .ok (.bipush 9, 2) := by decide +kernel
theorem dX4_heaviest_15 : decode cX4_heaviest 15 = .ok (.istore_n 2, 1) := by decide +kernel
theorem dX4_heaviest_16 : decode cX4_heaviest 16 = .ok (.iload_n 2, 1) := by decide +kernel
theorem dX4_heaviest_17 : decode cX4_heaviest 17 = .ok (.iconst 1, 1) := by decide +kernel
theorem dX4_heaviest_18 : decode cX4_heaviest 18 = .ok (.if_icmp .lt 21, 3) := by decide +kernel
theorem dX4_heaviest_21 : decode cX4_heaviest 21 = .ok (.aload_n 0, 1) := by decide +kernel
theorem dX4_heaviest_22 : decode cX4_heaviest 22 = .ok (.iload_n 1, 1) := by decide +kernel
theorem dX4_heaviest_23 : decode cX4_heaviest 23 = .ok (.iload_n 2, 1) := by decide +kernel
theorem dX4_heaviest_24 : decode cX4_heaviest 24 = .ok (.iconst 0, 1) := by decide +kernel
theorem dX4_heaviest_25 : decode cX4_heaviest 25 = .ok (.invokevirtual 189, 3) := by decide +kernel
theorem dX4_heaviest_28 : decode cX4_heaviest 28 = .ok (.ifCond .ne 5, 3) := by decide +kernel
theorem dX4_heaviest_31 : decode cX4_heaviest 31 = .ok (.iload_n 2, 1) := by decide +kernel
theorem dX4_heaviest_32 : decode cX4_heaviest 32 = .ok (.ireturn, 1) := by decide +kernel
theorem dX4_heaviest_33 : decode cX4_heaviest 33 = .ok (.iinc 2 (-1), 3) := by decide +kernel
theorem dX4_heaviest_36 : decode cX4_heaviest 36 = .ok (.goto (-20), 3) := by decide +kernel
theorem dX4_heaviest_39 : decode cX4_heaviest 39 = .ok (.sipush (-1009), 3) := by decide +kernel
theorem dX4_heaviest_42 : decode cX4_heaviest 42 = .ok (.ireturn, 1) := by decide +kernel
theorem dX4_room_0 : decode cX4_room 0 = .ok (.aload_n 0, 1) := by decide +kernel
theorem dX4_room_1 : decode cX4_room 1 = .ok (.getfield 33, 3) := by decide +kernel
theorem dX4_room_4 : decode cX4_room 4 = .ok (.aload_n 0, 1) := by decide +kernel
theorem dX4_room_5 : decode cX4_room 5 = .ok (.getfield 12, 3) := by decide +kernel
theorem dX4_room_8 : decode cX4_room 8 = .ok (.getfield 41, 3) := by decide +kernel
theorem dX4_room_11 : decode cX4_room 11 = .ok (.invokevirtual 182, 3) := by decide +kernel
theorem dX4_room_14 : decode cX4_room 14 = .ok (.aload_n 0, 1) := by decide +kernel
theorem dX4_room_15 : decode cX4_room 15 = .ok (.getfield 33, 3) := by decide +kernel
theorem dX4_room_18 : decode cX4_room 18 = .ok (.invokevirtual 192, 3) := by decide +kernel
theorem dX4_room_21 : decode cX4_room 21 = .ok (.ireturn, 1) := by decide +kernel
theorem dX4_faultsInTrial_0 : decode cX4_faultsInTrial 0 = .ok (.aload_n 0, 1) := by decide +kernel
theorem dX4_faultsInTrial_1 : decode cX4_faultsInTrial 1 = .ok (.getfield 33, 3) := by decide +kernel
theorem dX4_faultsInTrial_4 : decode cX4_faultsInTrial 4 = .ok (.aload_n 0, 1) := by decide +kernel
theorem dX4_faultsInTrial_5 : decode cX4_faultsInTrial 5 = .ok (.getfield 12, 3) := by decide +kernel
theorem dX4_faultsInTrial_8 : decode cX4_faultsInTrial 8 = .ok (.getfield 41, 3) := by decide +kernel
theorem dX4_faultsInTrial_11 : decode cX4_faultsInTrial 11 = .ok (.invokevirtual 182, 3) := by decide +kernel
theorem dX4_faultsInTrial_14 : decode cX4_faultsInTrial 14 = .ok (.iload_n 3, 1) := by decide +kernel
theorem dX4_faultsInTrial_15 : decode cX4_faultsInTrial 15 = .ok (.ifCond .eq 23, 3) := by decide +kernel
theorem dX4_faultsInTrial_18 : decode cX4_faultsInTrial 18 = .ok (.aload_n 0, 1) := by decide +kernel
theorem dX4_faultsInTrial_19 : decode cX4_faultsInTrial 19 = .ok (.getfield 33, 3) := by decide +kernel
theorem dX4_faultsInTrial_22 : decode cX4_faultsInTrial 22 = .ok (.getfield 121, 3) := by decide +kernel
theorem dX4_faultsInTrial_25 : decode cX4_faultsInTrial 25 = .ok (.iconst 0, 1) := by decide +kernel
theorem dX4_faultsInTrial_26 : decode cX4_faultsInTrial 26 = .ok (.iload_n 3, 1) := by decide +kernel
theorem dX4_faultsInTrial_27 : decode cX4_faultsInTrial 27 = .ok (.iastore, 1) := by decide +kernel
theorem dX4_faultsInTrial_28 : decode cX4_faultsInTrial 28 = .ok (.aload_n 0, 1) := by decide +kernel
theorem dX4_faultsInTrial_29 : decode cX4_faultsInTrial 29 = .ok (.getfield 33, 3) := by decide +kernel
theorem dX4_faultsInTrial_32 : decode cX4_faultsInTrial 32 = .ok (.getfield 121, 3) := by decide +kernel
theorem dX4_faultsInTrial_35 : decode cX4_faultsInTrial 35 = .ok (.iconst 2, 1) := by decide +kernel
theorem dX4_faultsInTrial_36 : decode cX4_faultsInTrial 36 = .ok (.iconst 0, 1) := by decide +kernel
theorem dX4_faultsInTrial_37 : decode cX4_faultsInTrial 37 = .ok (.iastore, 1) := by decide +kernel
theorem dX4_faultsInTrial_38 : decode cX4_faultsInTrial 38 = .ok (.aload_n 0, 1) := by decide +kernel
theorem dX4_faultsInTrial_39 : decode cX4_faultsInTrial 39 = .ok (.getfield 33, 3) := by decide +kernel
theorem dX4_faultsInTrial_42 : decode cX4_faultsInTrial 42 = .ok (.iload_n 1, 1) := by decide +kernel
theorem dX4_faultsInTrial_43 : decode cX4_faultsInTrial 43 = .ok (.iload_n 2, 1) := by decide +kernel
theorem dX4_faultsInTrial_44 : decode cX4_faultsInTrial 44 = .ok (.invokevirtual 195, 3) := by decide +kernel
theorem dX4_faultsInTrial_47 : decode cX4_faultsInTrial 47 = .ok (.istore 4, 2) := by decide +kernel
theorem dX4_faultsInTrial_49 : decode cX4_faultsInTrial 49 = .ok (.aload_n 0, 1) := by decide +kernel
theorem dX4_faultsInTrial_50 : decode cX4_faultsInTrial 50 = .ok (.getfield 33, 3) := by decide +kernel
theorem dX4_faultsInTrial_53 : decode cX4_faultsInTrial 53 = .ok (.iload 4, 2) := by decide +kernel
theorem dX4_faultsInTrial_55 : decode cX4_faultsInTrial 55 = .ok (.invokevirtual 186, 3) := by decide +kernel
theorem dX4_faultsInTrial_58 : decode cX4_faultsInTrial 58 = .ok (.pop, 1) := by decide +kernel
theorem dX4_faultsInTrial_59 : decode cX4_faultsInTrial 59 = .ok (.aload_n 0, 1) := by decide +kernel
theorem dX4_faultsInTrial_60 : decode cX4_faultsInTrial 60 = .ok (.getfield 33, 3) := by decide +kernel
theorem dX4_faultsInTrial_63 : decode cX4_faultsInTrial 63 = .ok (.getfield 163, 3) := by decide +kernel
theorem dX4_faultsInTrial_66 : decode cX4_faultsInTrial 66 = .ok (.iload 4, 2) := by decide +kernel
theorem dX4_faultsInTrial_68 : decode cX4_faultsInTrial 68 = .ok (.bipush 22, 2) := by decide +kernel
theorem dX4_faultsInTrial_70 : decode cX4_faultsInTrial 70 = .ok (.imul, 1) := by decide +kernel
theorem dX4_faultsInTrial_71 : decode cX4_faultsInTrial 71 = .ok (.bipush 8, 2) := by decide +kernel
theorem dX4_faultsInTrial_73 : decode cX4_faultsInTrial 73 = .ok (.iadd, 1) := by decide +kernel
theorem dX4_faultsInTrial_74 : decode cX4_faultsInTrial 74 = .ok (.iaload, 1) := by decide +kernel
theorem dX4_faultsInTrial_75 : decode cX4_faultsInTrial 75 = .ok (.ireturn, 1) := by decide +kernel
theorem dX4_isWithin_0 : decode cX4_isWithin 0 = .ok (.iload_n 0, 1) := by decide +kernel
theorem dX4_isWithin_1 : decode cX4_isWithin 1 = .ok (.iload_n 1, 1) := by decide +kernel
theorem dX4_isWithin_2 : decode cX4_isWithin 2 = .ok (.if_icmp .lt 12, 3) := by decide +kernel
theorem dX4_isWithin_5 : decode cX4_isWithin 5 = .ok (.iload_n 0, 1) := by decide +kernel
theorem dX4_isWithin_6 : decode cX4_isWithin 6 = .ok (.iload_n 2, 1) := by decide +kernel
theorem dX4_isWithin_7 : decode cX4_isWithin 7 = .ok (.if_icmp .gt 7, 3) := by decide +kernel
theorem dX4_isWithin_10 : decode cX4_isWithin 10 = .ok (.iconst 1, 1) := by decide +kernel
theorem dX4_isWithin_11 : decode cX4_isWithin 11 = .ok (.goto 4, 3) := by decide +kernel
theorem dX4_isWithin_14 : decode cX4_isWithin 14 = .ok (.iconst 0, 1) := by decide +kernel
theorem dX4_isWithin_15 : decode cX4_isWithin 15 = .ok (.ireturn, 1) := by decide +kernel
theorem dX2_init_0 : decode cX2_init 0 = .ok (.aload_n 0, 1) := by decide +kernel
theorem dX2_init_1 : decode cX2_init 1 = .ok (.invokespecial 3, 3) := by decide +kernel
theorem dX2_init_4 : decode cX2_init 4 = .ok (.aload_n 0, 1) := by decide +kernel
theorem dX2_init_5 : decode cX2_init 5 = .ok (.bipush 24, 2) := by decide +kernel
theorem dX2_init_7 : decode cX2_init 7 = .ok (.newarray .int, 2) := by decide +kernel
theorem dX2_init_9 : decode cX2_init 9 = .ok (.putfield 9, 3) := by decide +kernel
theorem dX2_init_12 : decode cX2_init 12 = .ok (.aload_n 0, 1) := by decide +kernel
theorem dX2_init_13 : decode cX2_init 13 = .ok (.bipush 24, 2) := by decide +kernel
theorem dX2_init_15 : decode cX2_init 15 = .ok (.newarray .int, 2) := by decide +kernel
theorem dX2_init_17 : decode cX2_init 17 = .ok (.putfield 15, 3) := by decide +kernel
theorem dX2_init_20 : decode cX2_init 20 = .ok (.aload_n 0, 1) := by decide +kernel
theorem dX2_init_21 : decode cX2_init 21 = .ok (.iconst 4, 1) := by decide +kernel
theorem dX2_init_22 : decode cX2_init 22 = .ok (.newarray .int, 2) := by decide +kernel
theorem dX2_init_24 : decode cX2_init 24 = .ok (.putfield 18, 3) := by decide +kernel
theorem dX2_init_27 : decode cX2_init 27 = .ok (.aload_n 0, 1) := by decide +kernel
theorem dX2_init_28 : decode cX2_init 28 = .ok (.sipush 682, 3) := by decide +kernel
theorem dX2_init_31 : decode cX2_init 31 = .ok (.newarray .int, 2) := by decide +kernel
theorem dX2_init_33 : decode cX2_init 33 = .ok (.putfield 21, 3) := by decide +kernel
theorem dX2_init_36 : decode cX2_init 36 = .ok (.aload_n 0, 1) := by decide +kernel
theorem dX2_init_37 : decode cX2_init 37 = .ok (.bipush 6, 2) := by decide +kernel
theorem dX2_init_39 : decode cX2_init 39 = .ok (.newarray .int, 2) := by decide +kernel
theorem dX2_init_41 : decode cX2_init 41 = .ok (.putfield 24, 3) := by decide +kernel
theorem dX2_init_44 : decode cX2_init 44 = .ok (.iconst 0, 1) := by decide +kernel
theorem dX2_init_45 : decode cX2_init 45 = .ok (.istore_n 1, 1) := by decide +kernel
theorem dX2_init_46 : decode cX2_init 46 = .ok (.iload_n 1, 1) := by decide +kernel
theorem dX2_init_47 : decode cX2_init 47 = .ok (.bipush 6, 2) := by decide +kernel
theorem dX2_init_49 : decode cX2_init 49 = .ok (.if_icmp .ge 57, 3) := by decide +kernel
theorem dX2_init_52 : decode cX2_init 52 = .ok (.iload_n 1, 1) := by decide +kernel
theorem dX2_init_53 : decode cX2_init 53 = .ok (.iconst 4, 1) := by decide +kernel
theorem dX2_init_54 : decode cX2_init 54 = .ok (.imul, 1) := by decide +kernel
theorem dX2_init_55 : decode cX2_init 55 = .ok (.istore_n 2, 1) := by decide +kernel
theorem dX2_init_56 : decode cX2_init 56 = .ok (.aload_n 0, 1) := by decide +kernel
theorem dX2_init_57 : decode cX2_init 57 = .ok (.getfield 9, 3) := by decide +kernel
theorem dX2_init_60 : decode cX2_init 60 = .ok (.iload_n 2, 1) := by decide +kernel
theorem dX2_init_61 : decode cX2_init 61 = .ok (.iconst 0, 1) := by decide +kernel
theorem dX2_init_62 : decode cX2_init 62 = .ok (.iadd, 1) := by decide +kernel
theorem dX2_init_63 : decode cX2_init 63 = .ok (.iconst 4, 1) := by decide +kernel
theorem dX2_init_64 : decode cX2_init 64 = .ok (.iastore, 1) := by decide +kernel
theorem dX2_init_65 : decode cX2_init 65 = .ok (.aload_n 0, 1) := by decide +kernel
theorem dX2_init_66 : decode cX2_init 66 = .ok (.getfield 9, 3) := by decide +kernel
theorem dX2_init_69 : decode cX2_init 69 = .ok (.iload_n 2, 1) := by decide +kernel
theorem dX2_init_70 : decode cX2_init 70 = .ok (.iconst 1, 1) := by decide +kernel
theorem dX2_init_71 : decode cX2_init 71 = .ok (.iadd, 1) := by decide +kernel
theorem dX2_init_72 : decode cX2_init 72 = .ok (.getstatic 27, 3) := by decide +kernel
theorem dX2_init_75 : decode cX2_init 75 = .ok (.iload_n 1, 1) := by decide +kernel
theorem dX2_init_76 : decode cX2_init 76 = .ok (.iaload, 1) := by decide +kernel
theorem dX2_init_77 : decode cX2_init 77 = .ok (.iastore, 1) := by decide +kernel
theorem dX2_init_78 : decode cX2_init 78 = .ok (.aload_n 0, 1) := by decide +kernel
theorem dX2_init_79 : decode cX2_init 79 = .ok (.getfield 9, 3) := by decide +kernel
theorem dX2_init_82 : decode cX2_init 82 = .ok (.iload_n 2, 1) := by decide +kernel
theorem dX2_init_83 : decode cX2_init 83 = .ok (.iconst 2, 1) := by decide +kernel
theorem dX2_init_84 : decode cX2_init 84 = .ok (.iadd, 1) := by decide +kernel
theorem dX2_init_85 : decode cX2_init 85 = .ok (.iconst 5, 1) := by decide +kernel
theorem dX2_init_86 : decode cX2_init 86 = .ok (.iastore, 1) := by decide +kernel
theorem dX2_init_87 : decode cX2_init 87 = .ok (.aload_n 0, 1) := by decide +kernel
theorem dX2_init_88 : decode cX2_init 88 = .ok (.getfield 9, 3) := by decide +kernel
theorem dX2_init_91 : decode cX2_init 91 = .ok (.iload_n 2, 1) := by decide +kernel
theorem dX2_init_92 : decode cX2_init 92 = .ok (.iconst 3, 1) := by decide +kernel
theorem dX2_init_93 : decode cX2_init 93 = .ok (.iadd, 1) := by decide +kernel
theorem dX2_init_94 : decode cX2_init 94 = .ok (.getstatic 27, 3) := by decide +kernel
theorem dX2_init_97 : decode cX2_init 97 = .ok (.iload_n 1, 1) := by decide +kernel
theorem dX2_init_98 : decode cX2_init 98 = .ok (.iaload, 1) := by decide +kernel
theorem dX2_init_99 : decode cX2_init 99 = .ok (.iastore, 1) := by decide +kernel
theorem dX2_init_100 : decode cX2_init 100 = .ok (.iinc 1 1, 3) := by decide +kernel
theorem dX2_init_103 : decode cX2_init 103 = .ok (.goto (-57), 3) := by decide +kernel
theorem dX2_init_106 : decode cX2_init 106 = .ok (.iconst 0, 1) := by decide +kernel
theorem dX2_init_107 : decode cX2_init 107 = .ok (.istore_n 1, 1) := by decide +kernel
theorem dX2_init_108 : decode cX2_init 108 = .ok (.iload_n 1, 1) := by decide +kernel
theorem dX2_init_109 : decode cX2_init 109 = .ok (.iconst 4, 1) := by decide +kernel
theorem dX2_init_110 : decode cX2_init 110 = .ok (.if_icmp .ge 26, 3) := by decide +kernel
theorem dX2_init_113 : decode cX2_init 113 = .ok (.getstatic 30, 3) := by decide +kernel
theorem dX2_init_116 : decode cX2_init 116 = .ok (.iconst 0, 1) := by decide +kernel
theorem dX2_init_117 : decode cX2_init 117 = .ok (.aload_n 0, 1) := by decide +kernel
theorem dX2_init_118 : decode cX2_init 118 = .ok (.getfield 15, 3) := by decide +kernel
theorem dX2_init_121 : decode cX2_init 121 = .ok (.iload_n 1, 1) := by decide +kernel
theorem dX2_init_122 : decode cX2_init 122 = .ok (.bipush 6, 2) := by decide +kernel
theorem dX2_init_124 : decode cX2_init 124 = .ok (.imul, 1) := by decide +kernel
theorem dX2_init_125 : decode cX2_init 125 = .ok (.bipush 6, 2) := by decide +kernel
theorem dX2_init_127 : decode cX2_init 127 = .ok (.invokestatic 33, 3) := by decide +kernel
theorem dX2_init_130 : decode cX2_init 130 = .ok (.iinc 1 1, 3) := by decide +kernel
theorem dX2_init_133 : decode cX2_init 133 = .ok (.goto (-25), 3) := by decide +kernel
theorem dX2_init_136 : decode cX2_init 136 = .ok (.getstatic 39, 3) := by decide +kernel
theorem dX2_init_139 : decode cX2_init 139 = .ok (.iconst 0, 1) := by decide +kernel
theorem dX2_init_140 : decode cX2_init 140 = .ok (.aload_n 0, 1) := by decide +kernel
theorem dX2_init_141 : decode cX2_init 141 = .ok (.getfield 18, 3) := by decide +kernel
theorem dX2_init_144 : decode cX2_init 144 = .ok (.iconst 0, 1) := by decide +kernel
theorem dX2_init_145 : decode cX2_init 145 = .ok (.iconst 4, 1) := by decide +kernel
theorem dX2_init_146 : decode cX2_init 146 = .ok (.invokestatic 33, 3) := by decide +kernel
theorem dX2_init_149 : decode cX2_init 149 = .ok (.return_, 1) := by decide +kernel
theorem dX2_become_0 : decode cX2_become 0 = .ok (.aload_n 1, 1) := by decide +kernel
theorem dX2_become_1 : decode cX2_become 1 = .ok (.getfield 9, 3) := by decide +kernel
theorem dX2_become_4 : decode cX2_become 4 = .ok (.iconst 0, 1) := by decide +kernel
theorem dX2_become_5 : decode cX2_become 5 = .ok (.aload_n 0, 1) := by decide +kernel
theorem dX2_become_6 : decode cX2_become 6 = .ok (.getfield 9, 3) := by decide +kernel
theorem dX2_become_9 : decode cX2_become 9 = .ok (.iconst 0, 1) := by decide +kernel
theorem dX2_become_10 : decode cX2_become 10 = .ok (.bipush 24, 2) := by decide +kernel
theorem dX2_become_12 : decode cX2_become 12 = .ok (.invokestatic 33, 3) := by decide +kernel
theorem dX2_become_15 : decode cX2_become 15 = .ok (.aload_n 1, 1) := by decide +kernel
theorem dX2_become_16 : decode cX2_become 16 = .ok (.getfield 15, 3) := by decide +kernel
theorem dX2_become_19 : decode cX2_become 19 = .ok (.iconst 0, 1) := by decide +kernel
theorem dX2_become_20 : decode cX2_become 20 = .ok (.aload_n 0, 1) := by decide +kernel
theorem dX2_become_21 : decode cX2_become 21 = .ok (.getfield 15, 3) := by decide +kernel
theorem dX2_become_24 : decode cX2_become 24 = .ok (.iconst 0, 1) := by decide +kernel
theorem dX2_become_25 : decode cX2_become 25 = .ok (.bipush 24, 2) := by decide +kernel
theorem dX2_become_27 : decode cX2_become 27 = .ok (.invokestatic 33, 3) := by decide +kernel
theorem dX2_become_30 : decode cX2_become 30 = .ok (.aload_n 1, 1) := by decide +kernel
theorem dX2_become_31 : decode cX2_become 31 = .ok (.getfield 18, 3) := by decide +kernel
theorem dX2_become_34 : decode cX2_become 34 = .ok (.iconst 0, 1) := by decide +kernel
theorem dX2_become_35 : decode cX2_become 35 = .ok (.aload_n 0, 1) := by decide +kernel
theorem dX2_become_36 : decode cX2_become 36 = .ok (.getfield 18, 3) := by decide +kernel
theorem dX2_become_39 : decode cX2_become 39 = .ok (.iconst 0, 1) := by decide +kernel
theorem dX2_become_40 : decode cX2_become 40 = .ok (.iconst 4, 1) := by decide +kernel
theorem dX2_become_41 : decode cX2_become 41 = .ok (.invokestatic 33, 3) := by decide +kernel
theorem dX2_become_44 : decode cX2_become 44 = .ok (.aload_n 1, 1) := by decide +kernel
theorem dX2_become_45 : decode cX2_become 45 = .ok (.getfield 21, 3) := by decide +kernel
theorem dX2_become_48 : decode cX2_become 48 = .ok (.iconst 0, 1) := by decide +kernel
theorem dX2_become_49 : decode cX2_become 49 = .ok (.aload_n 0, 1) := by decide +kernel
theorem dX2_become_50 : decode cX2_become 50 = .ok (.getfield 21, 3) := by decide +kernel
theorem dX2_become_53 : decode cX2_become 53 = .ok (.iconst 0, 1) := by decide +kernel
theorem dX2_become_54 : decode cX2_become 54 = .ok (.aload_n 1, 1) := by decide +kernel
theorem dX2_become_55 : decode cX2_become 55 = .ok (.getfield 42, 3) := by decide +kernel
theorem dX2_become_58 : decode cX2_become 58 = .ok (.bipush 22, 2) := by decide +kernel
theorem dX2_become_60 : decode cX2_become 60 = .ok (.imul, 1) := by decide +kernel
theorem dX2_become_61 : decode cX2_become 61 = .ok (.invokestatic 33, 3) := by decide +kernel
theorem dX2_become_64 : decode cX2_become 64 = .ok (.aload_n 0, 1) := by decide +kernel
theorem dX2_become_65 : decode cX2_become 65 = .ok (.aload_n 1, 1) := by decide +kernel
theorem dX2_become_66 : decode cX2_become 66 = .ok (.getfield 46, 3) := by decide +kernel
theorem dX2_become_69 : decode cX2_become 69 = .ok (.putfield 46, 3) := by decide +kernel
theorem dX2_become_72 : decode cX2_become 72 = .ok (.aload_n 0, 1) := by decide +kernel
theorem dX2_become_73 : decode cX2_become 73 = .ok (.aload_n 1, 1) := by decide +kernel
theorem dX2_become_74 : decode cX2_become 74 = .ok (.getfield 42, 3) := by decide +kernel
theorem dX2_become_77 : decode cX2_become 77 = .ok (.putfield 42, 3) := by decide +kernel
theorem dX2_become_80 : decode cX2_become 80 = .ok (.aload_n 0, 1) := by decide +kernel
theorem dX2_become_81 : decode cX2_become 81 = .ok (.aload_n 1, 1) := by decide +kernel
theorem dX2_become_82 : decode cX2_become 82 = .ok (.getfield 49, 3) := by decide +kernel
theorem dX2_become_85 : decode cX2_become 85 = .ok (.putfield 49, 3) := by decide +kernel
theorem dX2_become_88 : decode cX2_become 88 = .ok (.aload_n 0, 1) := by decide +kernel
theorem dX2_become_89 : decode cX2_become 89 = .ok (.aload_n 1, 1) := by decide +kernel
theorem dX2_become_90 : decode cX2_become 90 = .ok (.getfield 52, 3) := by decide +kernel
theorem dX2_become_93 : decode cX2_become 93 = .ok (.putfield 52, 3) := by decide +kernel
theorem dX2_become_96 : decode cX2_become 96 = .ok (.return_, 1) := by decide +kernel
theorem dX2_changeZone_0 : decode cX2_changeZone 0 = .ok (.iload_n 1, 1) := by decide +kernel
theorem dX2_changeZone_1 : decode cX2_changeZone 1 = .ok (.iconst 0, 1) := by decide +kernel
theorem dX2_changeZone_2 : decode cX2_changeZone 2 = .ok (.iconst 5, 1) := by decide +kernel
theorem dX2_changeZone_3 : decode cX2_changeZone 3 = .ok (.invokestatic 55, 3) := by decide +kernel
theorem dX2_changeZone_6 : decode cX2_changeZone 6 = .ok (.ifCond .eq 36, 3) := by decide +kernel
theorem dX2_changeZone_9 : decode cX2_changeZone 9 = .ok (.iload_n 2, 1) := by decide +kernel
theorem dX2_changeZone_10 : decode cX2_changeZone 10 = .ok (.iconst 2, 1) := by decide +kernel
theorem dX2_changeZone_11 : decode cX2_changeZone 11 = .ok (.bipush 8, 2) := by decide +kernel
theorem dX2_changeZone_13 : decode cX2_changeZone 13 = .ok (.invokestatic 55, 3) := by decide +kernel
theorem dX2_changeZone_16 : decode cX2_changeZone 16 = .ok (.ifCond .eq 26, 3) := by decide +kernel
theorem dX2_changeZone_19 : decode cX2_changeZone 19 = .ok (.iload_n 3, 1) := by decide +kernel
theorem dX2_changeZone_20 : decode cX2_changeZone 20 = .ok (.bipush 20, 2) := by decide +kernel
theorem dX2_changeZone_22 : decode cX2_changeZone 22 = .ok (.sipush 300, 3) := by decide +kernel
theorem dX2_changeZone_25 : decode cX2_changeZone 25 = .ok (.invokestatic 55, 3) := by decide +kernel
theorem dX2_changeZone_28 : decode cX2_changeZone 28 = .ok (.ifCond .eq 14, 3) := by decide +kernel
theorem dX2_changeZone_31 : decode cX2_changeZone 31 = .ok (.iload 4, 2) := by decide +kernel
theorem dX2_changeZone_33 : decode cX2_changeZone 33 = .ok (.iconst 1, 1) := by decide +kernel
theorem dX2_changeZone_34 : decode cX2_changeZone 34 = .ok (.bipush 20, 2) := by decide +kernel
theorem dX2_changeZone_36 : decode cX2_changeZone 36 = .ok (.invokestatic 55, 3) := by decide +kernel
theorem dX2_changeZone_39 : decode cX2_changeZone 39 = .ok (.ifCond .ne 7, 3) := by decide +kernel
theorem dX2_changeZone_42 : decode cX2_changeZone 42 = .ok (.sipush (-1001), 3) := by decide +kernel
theorem dX2_changeZone_45 : decode cX2_changeZone 45 = .ok (.ireturn, 1) := by decide +kernel
theorem dX2_changeZone_46 : decode cX2_changeZone 46 = .ok (.aload_n 0, 1) := by decide +kernel
theorem dX2_changeZone_47 : decode cX2_changeZone 47 = .ok (.iconst 0, 1) := by decide +kernel
theorem dX2_changeZone_48 : decode cX2_changeZone 48 = .ok (.invokevirtual 59, 3) := by decide +kernel
theorem dX2_changeZone_51 : decode cX2_changeZone 51 = .ok (.ifCond .le 7, 3) := by decide +kernel
theorem dX2_changeZone_54 : decode cX2_changeZone 54 = .ok (.sipush (-1002), 3) := by decide +kernel
theorem dX2_changeZone_57 : decode cX2_changeZone 57 = .ok (.ireturn, 1) := by decide +kernel
theorem dX2_changeZone_58 : decode cX2_changeZone 58 = .ok (.iload_n 1, 1) := by decide +kernel
theorem dX2_changeZone_59 : decode cX2_changeZone 59 = .ok (.iconst 4, 1) := by decide +kernel
theorem dX2_changeZone_60 : decode cX2_changeZone 60 = .ok (.imul, 1) := by decide +kernel
theorem dX2_changeZone_61 : decode cX2_changeZone 61 = .ok (.istore 5, 2) := by decide +kernel
theorem dX2_changeZone_63 : decode cX2_changeZone 63 = .ok (.aload_n 0, 1) := by decide +kernel
theorem dX2_changeZone_64 : decode cX2_changeZone 64 = .ok (.getfield 9, 3) := by decide +kernel
theorem dX2_changeZone_67 : decode cX2_changeZone 67 = .ok (.iload 5, 2) := by decide +kernel
theorem dX2_changeZone_69 : decode cX2_changeZone 69 = .ok (.iconst 0, 1) := by decide +kernel
theorem dX2_changeZone_70 : decode cX2_changeZone 70 = .ok (.iadd, 1) := by decide +kernel
theorem dX2_changeZone_71 : decode cX2_changeZone 71 = .ok (.iload_n 2, 1) := by decide +kernel
theorem dX2_changeZone_72 : decode cX2_changeZone 72 = .ok (.iastore, 1) := by decide +kernel
theorem dX2_changeZone_73 : decode cX2_changeZone 73 = .ok (.aload_n 0, 1) := by decide +kernel
theorem dX2_changeZone_74 : decode cX2_changeZone 74 = .ok (.getfield 9, 3) := by decide +kernel
theorem dX2_changeZone_77 : decode cX2_changeZone 77 = .ok (.iload 5, 2) := by decide +kernel
theorem dX2_changeZone_79 : decode cX2_changeZone 79 = .ok (.iconst 1, 1) := by decide +kernel
theorem dX2_changeZone_80 : decode cX2_changeZone 80 = .ok (.iadd, 1) := by decide +kernel
theorem dX2_changeZone_81 : decode cX2_changeZone 81 = .ok (.iload_n 3, 1) := by decide +kernel
theorem dX2_changeZone_82 : decode cX2_changeZone 82 = .ok (.iastore, 1) := by decide +kernel
theorem dX2_changeZone_83 : decode cX2_changeZone 83 = .ok (.aload_n 0, 1) := by decide +kernel
theorem dX2_changeZone_84 : decode cX2_changeZone 84 = .ok (.getfield 9, 3) := by decide +kernel
theorem dX2_changeZone_87 : decode cX2_changeZone 87 = .ok (.iload 5, 2) := by decide +kernel
theorem dX2_changeZone_89 : decode cX2_changeZone 89 = .ok (.iconst 2, 1) := by decide +kernel
theorem dX2_changeZone_90 : decode cX2_changeZone 90 = .ok (.iadd, 1) := by decide +kernel
theorem dX2_changeZone_91 : decode cX2_changeZone 91 = .ok (.iload 4, 2) := by decide +kernel
theorem dX2_changeZone_93 : decode cX2_changeZone 93 = .ok (.iastore, 1) := by decide +kernel
theorem dX2_changeZone_94 : decode cX2_changeZone 94 = .ok (.aload_n 0, 1) := by decide +kernel
theorem dX2_changeZone_95 : decode cX2_changeZone 95 = .ok (.getfield 9, 3) := by decide +kernel
theorem dX2_changeZone_98 : decode cX2_changeZone 98 = .ok (.iload 5, 2) := by decide +kernel
theorem dX2_changeZone_100 : decode cX2_changeZone 100 = .ok (.iconst 3, 1) := by decide +kernel
theorem dX2_changeZone_101 : decode cX2_changeZone 101 = .ok (.iadd, 1) := by decide +kernel
theorem dX2_changeZone_102 : decode cX2_changeZone 102 = .ok (.iload_n 3, 1) := by decide +kernel
theorem dX2_changeZone_103 : decode cX2_changeZone 103 = .ok (.iastore, 1) := by decide +kernel
theorem dX2_changeZone_104 : decode cX2_changeZone 104 = .ok (.aload_n 0, 1) := by decide +kernel
theorem dX2_changeZone_105 : decode cX2_changeZone 105 = .ok (.invokevirtual 63, 3) := by decide +kernel
theorem dX2_changeZone_108 : decode cX2_changeZone 108 = .ok (.ireturn, 1) := by decide +kernel
theorem dX2_changeCurve_0 : decode cX2_changeCurve 0 = .ok (.iload_n 1, 1) := by decide +kernel
theorem dX2_changeCurve_1 : decode cX2_changeCurve 1 = .ok (.iconst 0, 1) := by decide +kernel
theorem dX2_changeCurve_2 : decode cX2_changeCurve 2 = .ok (.iconst 3, 1) := by decide +kernel
theorem dX2_changeCurve_3 : decode cX2_changeCurve 3 = .ok (.invokestatic 55, 3) := by decide +kernel
theorem dX2_changeCurve_6 : decode cX2_changeCurve 6 = .ok (.ifCond .eq 29, 3) := by decide +kernel
theorem dX2_changeCurve_9 : decode cX2_changeCurve 9 = .ok (.iload_n 2, 1) := by decide +kernel
theorem dX2_changeCurve_10 : decode cX2_changeCurve 10 = .ok (.iconst 0, 1) := by decide +kernel
theorem dX2_changeCurve_11 : decode cX2_changeCurve 11 = .ok (.iconst 5, 1) := by decide +kernel
theorem dX2_changeCurve_12 : decode cX2_changeCurve 12 = .ok (.invokestatic 55, 3) := by decide +kernel
theorem dX2_changeCurve_15 : decode cX2_changeCurve 15 = .ok (.ifCond .eq 20, 3) := by decide +kernel
theorem dX2_changeCurve_18 : decode cX2_changeCurve 18 = .ok (.iload_n 3, 1) := by decide +kernel
theorem dX2_changeCurve_19 : decode cX2_changeCurve 19 = .ok (.getstatic 67, 3) := by decide +kernel
theorem dX2_changeCurve_22 : decode cX2_changeCurve 22 = .ok (.iload_n 2, 1) := by decide +kernel
theorem dX2_changeCurve_23 : decode cX2_changeCurve 23 = .ok (.iaload, 1) := by decide +kernel
theorem dX2_changeCurve_24 : decode cX2_changeCurve 24 = .ok (.getstatic 70, 3) := by decide +kernel
theorem dX2_changeCurve_27 : decode cX2_changeCurve 27 = .ok (.iload_n 2, 1) := by decide +kernel
theorem dX2_changeCurve_28 : decode cX2_changeCurve 28 = .ok (.iaload, 1) := by decide +kernel
theorem dX2_changeCurve_29 : decode cX2_changeCurve 29 = .ok (.invokestatic 55, 3) := by decide +kernel
theorem dX2_changeCurve_32 : decode cX2_changeCurve 32 = .ok (.ifCond .ne 7, 3) := by decide +kernel
theorem dX2_changeCurve_35 : decode cX2_changeCurve 35 = .ok (.sipush (-1001), 3) := by decide +kernel
theorem dX2_changeCurve_38 : decode cX2_changeCurve 38 = .ok (.ireturn, 1) := by decide +kernel
theorem dX2_changeCurve_39 : decode cX2_changeCurve 39 = .ok (.aload_n 0, 1) := by decide +kernel
theorem dX2_changeCurve_40 : decode cX2_changeCurve 40 = .ok (.getfield 15, 3) := by decide +kernel
theorem dX2_changeCurve_43 : decode cX2_changeCurve 43 = .ok (.iload_n 1, 1) := by decide +kernel
theorem dX2_changeCurve_44 : decode cX2_changeCurve 44 = .ok (.bipush 6, 2) := by decide +kernel
theorem dX2_changeCurve_46 : decode cX2_changeCurve 46 = .ok (.imul, 1) := by decide +kernel
theorem dX2_changeCurve_47 : decode cX2_changeCurve 47 = .ok (.iload_n 2, 1) := by decide +kernel
theorem dX2_changeCurve_48 : decode cX2_changeCurve 48 = .ok (.iadd, 1) := by decide +kernel
theorem dX2_changeCurve_49 : decode cX2_changeCurve 49 = .ok (.iaload, 1) := by decide +kernel
theorem dX2_changeCurve_50 : decode cX2_changeCurve 50 = .ok (.istore 4, 2) := by decide +kernel
theorem dX2_changeCurve_52 : decode cX2_changeCurve 52 = .ok (.aload_n 0, 1) := by decide +kernel
theorem dX2_changeCurve_53 : decode cX2_changeCurve 53 = .ok (.getfield 15, 3) := by decide +kernel
theorem dX2_changeCurve_56 : decode cX2_changeCurve 56 = .ok (.iload_n 1, 1) := by decide +kernel
theorem dX2_changeCurve_57 : decode cX2_changeCurve 57 = .ok (.bipush 6, 2) := by decide +kernel
theorem dX2_changeCurve_59 : decode cX2_changeCurve 59 = .ok (.imul, 1) := by decide +kernel
theorem dX2_changeCurve_60 : decode cX2_changeCurve 60 = .ok (.iload_n 2, 1) := by decide +kernel
theorem dX2_changeCurve_61 : decode cX2_changeCurve 61 = .ok (.iadd, 1) := by decide +kernel
theorem dX2_changeCurve_62 : decode cX2_changeCurve 62 = .ok (.iload_n 3, 1) := by decide +kernel
theorem dX2_changeCurve_63 : decode cX2_changeCurve 63 = .ok (.iastore, 1) := by decide +kernel
theorem dX2_changeCurve_64 : decode cX2_changeCurve 64 = .ok (.iload 4, 2) := by decide +kernel
theorem dX2_changeCurve_66 : decode cX2_changeCurve 66 = .ok (.ireturn, 1) := by decide +kernel
theorem dX2_changeNumber_0 : decode cX2_changeNumber 0 = .ok (.iload_n 1, 1) := by decide +kernel
theorem dX2_changeNumber_1 : decode cX2_changeNumber 1 = .ok (.iconst 0, 1) := by decide +kernel
theorem dX2_changeNumber_2 : decode cX2_changeNumber 2 = .ok (.iconst 3, 1) := by decide +kernel
theorem dX2_changeNumber_3 : decode cX2_changeNumber 3 = .ok (.invokestatic 55, 3) := by decide +kernel
theorem dX2_changeNumber_6 : decode cX2_changeNumber 6 = .ok (.ifCond .eq 20, 3) := by decide +kernel
theorem dX2_changeNumber_9 : decode cX2_changeNumber 9 = .ok (.iload_n 2, 1) := by decide +kernel
theorem dX2_changeNumber_10 : decode cX2_changeNumber 10 = .ok (.getstatic 73, 3) := by decide +kernel
theorem dX2_changeNumber_13 : decode cX2_changeNumber 13 = .ok (.iload_n 1, 1) := by decide +kernel
theorem dX2_changeNumber_14 : decode cX2_changeNumber 14 = .ok (.iaload, 1) := by decide +kernel
theorem dX2_changeNumber_15 : decode cX2_changeNumber 15 = .ok (.getstatic 76, 3) := by decide +kernel
theorem dX2_changeNumber_18 : decode cX2_changeNumber 18 = .ok (.iload_n 1, 1) := by decide +kernel
theorem dX2_changeNumber_19 : decode cX2_changeNumber 19 = .ok (.iaload, 1) := by decide +kernel
theorem dX2_changeNumber_20 : decode cX2_changeNumber 20 = .ok (.invokestatic 55, 3) := by decide +kernel
theorem dX2_changeNumber_23 : decode cX2_changeNumber 23 = .ok (.ifCond .ne 7, 3) := by decide +kernel
theorem dX2_changeNumber_26 : decode cX2_changeNumber 26 = .ok (.sipush (-1001), 3) := by decide +kernel
theorem dX2_changeNumber_29 : decode cX2_changeNumber 29 = .ok (.ireturn, 1) := by decide +kernel
theorem dX2_changeNumber_30 : decode cX2_changeNumber 30 = .ok (.aload_n 0, 1) := by decide +kernel
theorem dX2_changeNumber_31 : decode cX2_changeNumber 31 = .ok (.getfield 18, 3) := by decide +kernel
theorem dX2_changeNumber_34 : decode cX2_changeNumber 34 = .ok (.iload_n 1, 1) := by decide +kernel
theorem dX2_changeNumber_35 : decode cX2_changeNumber 35 = .ok (.iaload, 1) := by decide +kernel
theorem dX2_changeNumber_36 : decode cX2_changeNumber 36 = .ok (.istore_n 3, 1) := by decide +kernel
theorem dX2_changeNumber_37 : decode cX2_changeNumber 37 = .ok (.aload_n 0, 1) := by decide +kernel
theorem dX2_changeNumber_38 : decode cX2_changeNumber 38 = .ok (.getfield 18, 3) := by decide +kernel
theorem dX2_changeNumber_41 : decode cX2_changeNumber 41 = .ok (.iload_n 1, 1) := by decide +kernel
theorem dX2_changeNumber_42 : decode cX2_changeNumber 42 = .ok (.iload_n 2, 1) := by decide +kernel
theorem dX2_changeNumber_43 : decode cX2_changeNumber 43 = .ok (.iastore, 1) := by decide +kernel
theorem dX2_changeNumber_44 : decode cX2_changeNumber 44 = .ok (.iload_n 3, 1) := by decide +kernel
theorem dX2_changeNumber_45 : decode cX2_changeNumber 45 = .ok (.ireturn, 1) := by decide +kernel
theorem dX2_addBoard_0 : decode cX2_addBoard 0 = .ok (.iload_n 1, 1) := by decide +kernel
theorem dX2_addBoard_1 : decode cX2_addBoard 1 = .ok (.iconst 0, 1) := by decide +kernel
theorem dX2_addBoard_2 : decode cX2_addBoard 2 = .ok (.iconst 3, 1) := by decide +kernel
theorem dX2_addBoard_3 : decode cX2_addBoard 3 = .ok (.invokestatic 55, 3) := by decide +kernel
theorem dX2_addBoard_6 : decode cX2_addBoard 6 = .ok (.ifCond .eq 13, 3) := by decide +kernel
theorem dX2_addBoard_9 : decode cX2_addBoard 9 = .ok (.iload_n 2, 1) := by decide +kernel
theorem dX2_addBoard_10 : decode cX2_addBoard 10 = .ok (.iconst 1, 1) := by decide +kernel
theorem dX2_addBoard_11 : decode cX2_addBoard 11 = .ok (.bipush 9, 2) := by decide +kernel
theorem dX2_addBoard_13 : decode cX2_addBoard 13 = .ok (.invokestatic 55, 3) := by decide +kernel
theorem dX2_addBoard_16 : decode cX2_addBoard 16 = .ok (.ifCond .ne 7, 3) := by decide +kernel
theorem dX2_addBoard_19 : decode cX2_addBoard 19 = .ok (.sipush (-1001), 3) := by decide +kernel
theorem dX2_addBoard_22 : decode cX2_addBoard 22 = .ok (.ireturn, 1) := by decide +kernel
theorem dX2_addBoard_23 : decode cX2_addBoard 23 = .ok (.aload_n 0, 1) := by decide +kernel
theorem dX2_addBoard_24 : decode cX2_addBoard 24 = .ok (.invokevirtual 79, 3) := by decide +kernel
theorem dX2_addBoard_27 : decode cX2_addBoard 27 = .ok (.ifCond .ne 7, 3) := by decide +kernel
theorem dX2_addBoard_30 : decode cX2_addBoard 30 = .ok (.sipush (-1002), 3) := by decide +kernel
theorem dX2_addBoard_33 : decode cX2_addBoard 33 = .ok (.ireturn, 1) := by decide +kernel
theorem dX2_addBoard_34 : decode cX2_addBoard 34 = .ok (.aload_n 0, 1) := by decide +kernel
theorem dX2_addBoard_35 : decode cX2_addBoard 35 = .ok (.getfield 42, 3) := by decide +kernel
theorem dX2_addBoard_38 : decode cX2_addBoard 38 = .ok (.bipush 30, 2) := by decide +kernel
theorem dX2_addBoard_40 : decode cX2_addBoard 40 = .ok (.if_icmp .lt 7, 3) := by decide +kernel
theorem dX2_addBoard_43 : decode cX2_addBoard 43 = .ok (.sipush (-1003), 3) := by decide +kernel
theorem dX2_addBoard_46 : decode cX2_addBoard 46 = .ok (.ireturn, 1) := by decide +kernel
theorem dX2_addBoard_47 : decode cX2_addBoard 47 = .ok (.aload_n 0, 1) := by decide +kernel
theorem dX2_addBoard_48 : decode cX2_addBoard 48 = .ok (.iload_n 1, 1) := by decide +kernel
theorem dX2_addBoard_49 : decode cX2_addBoard 49 = .ok (.iload_n 2, 1) := by decide +kernel
theorem dX2_addBoard_50 : decode cX2_addBoard 50 = .ok (.invokevirtual 83, 3) := by decide +kernel
theorem dX2_addBoard_53 : decode cX2_addBoard 53 = .ok (.ireturn, 1) := by decide +kernel
theorem dX2_removeBoard_0 : decode cX2_removeBoard 0 = .ok (.aload_n 0, 1) := by decide +kernel
theorem dX2_removeBoard_1 : decode cX2_removeBoard 1 = .ok (.iload_n 1, 1) := by decide +kernel
theorem dX2_removeBoard_2 : decode cX2_removeBoard 2 = .ok (.invokevirtual 87, 3) := by decide +kernel
theorem dX2_removeBoard_5 : decode cX2_removeBoard 5 = .ok (.ifCond .ne 7, 3) := by decide +kernel
theorem dX2_removeBoard_8 : decode cX2_removeBoard 8 = .ok (.sipush (-1001), 3) := by decide +kernel
theorem dX2_removeBoard_11 : decode cX2_removeBoard 11 = .ok (.ireturn, 1) := by decide +kernel
theorem dX2_removeBoard_12 : decode cX2_removeBoard 12 = .ok (.aload_n 0, 1) := by decide +kernel
theorem dX2_removeBoard_13 : decode cX2_removeBoard 13 = .ok (.iload_n 1, 1) := by decide +kernel
theorem dX2_removeBoard_14 : decode cX2_removeBoard 14 = .ok (.invokevirtual 91, 3) := by decide +kernel
theorem dX2_removeBoard_17 : decode cX2_removeBoard 17 = .ok (.ifCond .ne 7, 3) := by decide +kernel
theorem dX2_removeBoard_20 : decode cX2_removeBoard 20 = .ok (.sipush (-1002), 3) := by decide +kernel
theorem dX2_removeBoard_23 : decode cX2_removeBoard 23 = .ok (.ireturn, 1) := by decide +kernel
theorem dX2_removeBoard_24 : decode cX2_removeBoard 24 = .ok (.iload_n 1, 1) := by decide +kernel
theorem dX2_removeBoard_25 : decode cX2_removeBoard 25 = .ok (.bipush 22, 2) := by decide +kernel
theorem dX2_removeBoard_27 : decode cX2_removeBoard 27 = .ok (.imul, 1) := by decide +kernel
theorem dX2_removeBoard_28 : decode cX2_removeBoard 28 = .ok (.istore_n 2, 1) := by decide +kernel
theorem dX2_removeBoard_29 : decode cX2_removeBoard 29 = .ok (.aload_n 0, 1) := by decide +kernel
theorem dX2_removeBoard_30 : decode cX2_removeBoard 30 = .ok (.getfield 21, 3) := by decide +kernel
theorem dX2_removeBoard_33 : decode cX2_removeBoard 33 = .ok (.iload_n 2, 1) := by decide +kernel
theorem dX2_removeBoard_34 : decode cX2_removeBoard 34 = .ok (.iconst 3, 1) := by decide +kernel
theorem dX2_removeBoard_35 : decode cX2_removeBoard 35 = .ok (.iadd, 1) := by decide +kernel
theorem dX2_removeBoard_36 : decode cX2_removeBoard 36 = .ok (.iaload, 1) := by decide +kernel
theorem dX2_removeBoard_37 : decode cX2_removeBoard 37 = .ok (.istore_n 3, 1) := by decide +kernel
theorem dX2_removeBoard_38 : decode cX2_removeBoard 38 = .ok (.aload_n 0, 1) := by decide +kernel
theorem dX2_removeBoard_39 : decode cX2_removeBoard 39 = .ok (.getfield 21, 3) := by decide +kernel
theorem dX2_removeBoard_42 : decode cX2_removeBoard 42 = .ok (.iload_n 2, 1) := by decide +kernel
theorem dX2_removeBoard_43 : decode cX2_removeBoard 43 = .ok (.iconst 2, 1) := by decide +kernel
theorem dX2_removeBoard_44 : decode cX2_removeBoard 44 = .ok (.iadd, 1) := by decide +kernel
theorem dX2_removeBoard_45 : decode cX2_removeBoard 45 = .ok (.iconst 2, 1) := by decide +kernel
theorem dX2_removeBoard_46 : decode cX2_removeBoard 46 = .ok (.iastore, 1) := by decide +kernel
theorem dX2_removeBoard_47 : decode cX2_removeBoard 47 = .ok (.aload_n 0, 1) := by decide +kernel
theorem dX2_removeBoard_48 : decode cX2_removeBoard 48 = .ok (.getfield 21, 3) := by decide +kernel
