theorem dX5_take_43 : decode cX5_take 43 = .ok (.iconst 1, 1) := by decide +kernel
theorem dX5_take_44 : decode cX5_take 44 = .ok (.iastore, 1) := by decide +kernel
theorem dX5_take_45 : decode cX5_take 45 = .ok (.aload_n 0, 1) := by decide +kernel
theorem dX5_take_46 : decode cX5_take 46 = .ok (.getfield 7, 3) := by decide +kernel
theorem dX5_take_49 : decode cX5_take 49 = .ok (.bipush 52, 2) := by decide +kernel
theorem dX5_take_51 : decode cX5_take 51 = .ok (.iaload, 1) := by decide +kernel
theorem dX5_take_52 : decode cX5_take 52 = .ok (.ireturn, 1) := by decide +kernel
theorem dX5_restore_0 : decode cX5_restore 0 = .ok (.iload_n 1, 1) := by decide +kernel
theorem dX5_restore_1 : decode cX5_restore 1 = .ok (.iconst 0, 1) := by decide +kernel
theorem dX5_restore_2 : decode cX5_restore 2 = .ok (.iconst 1, 1) := by decide +kernel
theorem dX5_restore_3 : decode cX5_restore 3 = .ok (.invokestatic 23, 3) := by decide +kernel
theorem dX5_restore_6 : decode cX5_restore 6 = .ok (.ifCond .ne 7, 3) := by decide +kernel
theorem dX5_restore_9 : decode cX5_restore 9 = .ok (.sipush (-1001), 3) := by decide +kernel
theorem dX5_restore_12 : decode cX5_restore 12 = .ok (.ireturn, 1) := by decide +kernel
theorem dX5_restore_13 : decode cX5_restore 13 = .ok (.aload_n 0, 1) := by decide +kernel
theorem dX5_restore_14 : decode cX5_restore 14 = .ok (.getfield 7, 3) := by decide +kernel
theorem dX5_restore_17 : decode cX5_restore 17 = .ok (.sipush 2121, 3) := by decide +kernel
theorem dX5_restore_20 : decode cX5_restore 20 = .ok (.iload_n 1, 1) := by decide +kernel
theorem dX5_restore_21 : decode cX5_restore 21 = .ok (.iadd, 1) := by decide +kernel
theorem dX5_restore_22 : decode cX5_restore 22 = .ok (.iaload, 1) := by decide +kernel
theorem dX5_restore_23 : decode cX5_restore 23 = .ok (.ifCond .ne 7, 3) := by decide +kernel
theorem dX5_restore_26 : decode cX5_restore 26 = .ok (.sipush (-1002), 3) := by decide +kernel
theorem dX5_restore_29 : decode cX5_restore 29 = .ok (.ireturn, 1) := by decide +kernel
theorem dX5_restore_30 : decode cX5_restore 30 = .ok (.aload_n 0, 1) := by decide +kernel
theorem dX5_restore_31 : decode cX5_restore 31 = .ok (.invokevirtual 38, 3) := by decide +kernel
theorem dX5_restore_34 : decode cX5_restore 34 = .ok (.aload_n 0, 1) := by decide +kernel
theorem dX5_restore_35 : decode cX5_restore 35 = .ok (.sipush 707, 3) := by decide +kernel
theorem dX5_restore_38 : decode cX5_restore 38 = .ok (.sipush 707, 3) := by decide +kernel
theorem dX5_restore_41 : decode cX5_restore 41 = .ok (.iload_n 1, 1) := by decide +kernel
theorem dX5_restore_42 : decode cX5_restore 42 = .ok (.imul, 1) := by decide +kernel
theorem dX5_restore_43 : decode cX5_restore 43 = .ok (.iadd, 1) := by decide +kernel
theorem dX5_restore_44 : decode cX5_restore 44 = .ok (.iconst 0, 1) := by decide +kernel
theorem dX5_restore_45 : decode cX5_restore 45 = .ok (.sipush 707, 3) := by decide +kernel
theorem dX5_restore_48 : decode cX5_restore 48 = .ok (.invokevirtual 34, 3) := by decide +kernel
theorem dX5_restore_51 : decode cX5_restore 51 = .ok (.aload_n 0, 1) := by decide +kernel
theorem dX5_restore_52 : decode cX5_restore 52 = .ok (.getfield 7, 3) := by decide +kernel
theorem dX5_restore_55 : decode cX5_restore 55 = .ok (.bipush 52, 2) := by decide +kernel
theorem dX5_restore_57 : decode cX5_restore 57 = .ok (.iaload, 1) := by decide +kernel
theorem dX5_restore_58 : decode cX5_restore 58 = .ok (.ireturn, 1) := by decide +kernel
theorem dX5_belt_0 : decode cX5_belt 0 = .ok (.iconst 0, 1) := by decide +kernel
theorem dX5_belt_1 : decode cX5_belt 1 = .ok (.istore_n 1, 1) := by decide +kernel
theorem dX5_belt_2 : decode cX5_belt 2 = .ok (.iconst 0, 1) := by decide +kernel
theorem dX5_belt_3 : decode cX5_belt 3 = .ok (.istore_n 2, 1) := by decide +kernel
theorem dX5_belt_4 : decode cX5_belt 4 = .ok (.iload_n 2, 1) := by decide +kernel
theorem dX5_belt_5 : decode cX5_belt 5 = .ok (.bipush 6, 2) := by decide +kernel
theorem dX5_belt_7 : decode cX5_belt 7 = .ok (.if_icmp .ge 22, 3) := by decide +kernel
theorem dX5_belt_10 : decode cX5_belt 10 = .ok (.iload_n 1, 1) := by decide +kernel
theorem dX5_belt_11 : decode cX5_belt 11 = .ok (.aload_n 0, 1) := by decide +kernel
theorem dX5_belt_12 : decode cX5_belt 12 = .ok (.getfield 7, 3) := by decide +kernel
theorem dX5_belt_15 : decode cX5_belt 15 = .ok (.iload_n 2, 1) := by decide +kernel
theorem dX5_belt_16 : decode cX5_belt 16 = .ok (.iconst 0, 1) := by decide +kernel
theorem dX5_belt_17 : decode cX5_belt 17 = .ok (.invokestatic 16, 3) := by decide +kernel
theorem dX5_belt_20 : decode cX5_belt 20 = .ok (.iaload, 1) := by decide +kernel
theorem dX5_belt_21 : decode cX5_belt 21 = .ok (.iadd, 1) := by decide +kernel
theorem dX5_belt_22 : decode cX5_belt 22 = .ok (.istore_n 1, 1) := by decide +kernel
theorem dX5_belt_23 : decode cX5_belt 23 = .ok (.iinc 2 1, 3) := by decide +kernel
theorem dX5_belt_26 : decode cX5_belt 26 = .ok (.goto (-22), 3) := by decide +kernel
theorem dX5_belt_29 : decode cX5_belt 29 = .ok (.iload_n 1, 1) := by decide +kernel
theorem dX5_belt_30 : decode cX5_belt 30 = .ok (.ireturn, 1) := by decide +kernel
theorem dX5_zoneOf_0 : decode cX5_zoneOf 0 = .ok (.iconst 0, 1) := by decide +kernel
theorem dX5_zoneOf_1 : decode cX5_zoneOf 1 = .ok (.istore_n 2, 1) := by decide +kernel
theorem dX5_zoneOf_2 : decode cX5_zoneOf 2 = .ok (.iload_n 1, 1) := by decide +kernel
theorem dX5_zoneOf_3 : decode cX5_zoneOf 3 = .ok (.istore_n 3, 1) := by decide +kernel
theorem dX5_zoneOf_4 : decode cX5_zoneOf 4 = .ok (.iload_n 3, 1) := by decide +kernel
theorem dX5_zoneOf_5 : decode cX5_zoneOf 5 = .ok (.aload_n 0, 1) := by decide +kernel
theorem dX5_zoneOf_6 : decode cX5_zoneOf 6 = .ok (.getfield 7, 3) := by decide +kernel
theorem dX5_zoneOf_9 : decode cX5_zoneOf 9 = .ok (.iload_n 2, 1) := by decide +kernel
theorem dX5_zoneOf_10 : decode cX5_zoneOf 10 = .ok (.iconst 0, 1) := by decide +kernel
theorem dX5_zoneOf_11 : decode cX5_zoneOf 11 = .ok (.invokestatic 16, 3) := by decide +kernel
theorem dX5_zoneOf_14 : decode cX5_zoneOf 14 = .ok (.iaload, 1) := by decide +kernel
theorem dX5_zoneOf_15 : decode cX5_zoneOf 15 = .ok (.if_icmp .lt 22, 3) := by decide +kernel
theorem dX5_zoneOf_18 : decode cX5_zoneOf 18 = .ok (.iload_n 3, 1) := by decide +kernel
theorem dX5_zoneOf_19 : decode cX5_zoneOf 19 = .ok (.aload_n 0, 1) := by decide +kernel
theorem dX5_zoneOf_20 : decode cX5_zoneOf 20 = .ok (.getfield 7, 3) := by decide +kernel
theorem dX5_zoneOf_23 : decode cX5_zoneOf 23 = .ok (.iload_n 2, 1) := by decide +kernel
theorem dX5_zoneOf_24 : decode cX5_zoneOf 24 = .ok (.iconst 0, 1) := by decide +kernel
theorem dX5_zoneOf_25 : decode cX5_zoneOf 25 = .ok (.invokestatic 16, 3) := by decide +kernel
theorem dX5_zoneOf_28 : decode cX5_zoneOf 28 = .ok (.iaload, 1) := by decide +kernel
theorem dX5_zoneOf_29 : decode cX5_zoneOf 29 = .ok (.isub, 1) := by decide +kernel
theorem dX5_zoneOf_30 : decode cX5_zoneOf 30 = .ok (.istore_n 3, 1) := by decide +kernel
theorem dX5_zoneOf_31 : decode cX5_zoneOf 31 = .ok (.iinc 2 1, 3) := by decide +kernel
theorem dX5_zoneOf_34 : decode cX5_zoneOf 34 = .ok (.goto (-30), 3) := by decide +kernel
theorem dX5_zoneOf_37 : decode cX5_zoneOf 37 = .ok (.iload_n 2, 1) := by decide +kernel
theorem dX5_zoneOf_38 : decode cX5_zoneOf 38 = .ok (.ireturn, 1) := by decide +kernel
theorem dX5_many_0 : decode cX5_many 0 = .ok (.iconst 0, 1) := by decide +kernel
theorem dX5_many_1 : decode cX5_many 1 = .ok (.istore_n 2, 1) := by decide +kernel
theorem dX5_many_2 : decode cX5_many 2 = .ok (.iconst 0, 1) := by decide +kernel
theorem dX5_many_3 : decode cX5_many 3 = .ok (.istore_n 3, 1) := by decide +kernel
theorem dX5_many_4 : decode cX5_many 4 = .ok (.iload_n 3, 1) := by decide +kernel
theorem dX5_many_5 : decode cX5_many 5 = .ok (.aload_n 0, 1) := by decide +kernel
theorem dX5_many_6 : decode cX5_many 6 = .ok (.getfield 7, 3) := by decide +kernel
theorem dX5_many_9 : decode cX5_many 9 = .ok (.bipush 53, 2) := by decide +kernel
theorem dX5_many_11 : decode cX5_many 11 = .ok (.iaload, 1) := by decide +kernel
theorem dX5_many_12 : decode cX5_many 12 = .ok (.if_icmp .ge 31, 3) := by decide +kernel
theorem dX5_many_15 : decode cX5_many 15 = .ok (.iload_n 2, 1) := by decide +kernel
theorem dX5_many_16 : decode cX5_many 16 = .ok (.aload_n 0, 1) := by decide +kernel
theorem dX5_many_17 : decode cX5_many 17 = .ok (.getfield 7, 3) := by decide +kernel
theorem dX5_many_20 : decode cX5_many 20 = .ok (.iload_n 3, 1) := by decide +kernel
theorem dX5_many_21 : decode cX5_many 21 = .ok (.iconst 2, 1) := by decide +kernel
theorem dX5_many_22 : decode cX5_many 22 = .ok (.invokestatic 27, 3) := by decide +kernel
theorem dX5_many_25 : decode cX5_many 25 = .ok (.iaload, 1) := by decide +kernel
theorem dX5_many_26 : decode cX5_many 26 = .ok (.iload_n 1, 1) := by decide +kernel
theorem dX5_many_27 : decode cX5_many 27 = .ok (.if_icmp .ne 7, 3) := by decide +kernel
theorem dX5_many_30 : decode cX5_many 30 = .ok (.iconst 1, 1) := by decide +kernel
theorem dX5_many_31 : decode cX5_many 31 = .ok (.goto 4, 3) := by decide +kernel
theorem dX5_many_34 : decode cX5_many 34 = .ok (.iconst 0, 1) := by decide +kernel
theorem dX5_many_35 : decode cX5_many 35 = .ok (.iadd, 1) := by decide +kernel
theorem dX5_many_36 : decode cX5_many 36 = .ok (.istore_n 2, 1) := by decide +kernel
theorem dX5_many_37 : decode cX5_many 37 = .ok (.iinc 3 1, 3) := by decide +kernel
theorem dX5_many_40 : decode cX5_many 40 = .ok (.goto (-36), 3) := by decide +kernel
theorem dX5_many_43 : decode cX5_many 43 = .ok (.iload_n 2, 1) := by decide +kernel
theorem dX5_many_44 : decode cX5_many 44 = .ok (.ireturn, 1) := by decide +kernel
theorem dX5_setZone_0 : decode cX5_setZone 0 = .ok (.iload_n 1, 1) := by decide +kernel
theorem dX5_setZone_1 : decode cX5_setZone 1 = .ok (.invokestatic 41, 3) := by decide +kernel
theorem dX5_setZone_4 : decode cX5_setZone 4 = .ok (.ifCond .eq 36, 3) := by decide +kernel
theorem dX5_setZone_7 : decode cX5_setZone 7 = .ok (.iload_n 2, 1) := by decide +kernel
theorem dX5_setZone_8 : decode cX5_setZone 8 = .ok (.iconst 2, 1) := by decide +kernel
theorem dX5_setZone_9 : decode cX5_setZone 9 = .ok (.bipush 8, 2) := by decide +kernel
theorem dX5_setZone_11 : decode cX5_setZone 11 = .ok (.invokestatic 23, 3) := by decide +kernel
theorem dX5_setZone_14 : decode cX5_setZone 14 = .ok (.ifCond .eq 26, 3) := by decide +kernel
theorem dX5_setZone_17 : decode cX5_setZone 17 = .ok (.iload_n 3, 1) := by decide +kernel
theorem dX5_setZone_18 : decode cX5_setZone 18 = .ok (.bipush 20, 2) := by decide +kernel
theorem dX5_setZone_20 : decode cX5_setZone 20 = .ok (.sipush 300, 3) := by decide +kernel
theorem dX5_setZone_23 : decode cX5_setZone 23 = .ok (.invokestatic 23, 3) := by decide +kernel
theorem dX5_setZone_26 : decode cX5_setZone 26 = .ok (.ifCond .eq 14, 3) := by decide +kernel
theorem dX5_setZone_29 : decode cX5_setZone 29 = .ok (.iload 4, 2) := by decide +kernel
theorem dX5_setZone_31 : decode cX5_setZone 31 = .ok (.iconst 1, 1) := by decide +kernel
theorem dX5_setZone_32 : decode cX5_setZone 32 = .ok (.bipush 20, 2) := by decide +kernel
theorem dX5_setZone_34 : decode cX5_setZone 34 = .ok (.invokestatic 23, 3) := by decide +kernel
theorem dX5_setZone_37 : decode cX5_setZone 37 = .ok (.ifCond .ne 7, 3) := by decide +kernel
theorem dX5_setZone_40 : decode cX5_setZone 40 = .ok (.sipush (-1001), 3) := by decide +kernel
theorem dX5_setZone_43 : decode cX5_setZone 43 = .ok (.ireturn, 1) := by decide +kernel
theorem dX5_setZone_44 : decode cX5_setZone 44 = .ok (.aload_n 0, 1) := by decide +kernel
theorem dX5_setZone_45 : decode cX5_setZone 45 = .ok (.iconst 0, 1) := by decide +kernel
theorem dX5_setZone_46 : decode cX5_setZone 46 = .ok (.invokevirtual 45, 3) := by decide +kernel
theorem dX5_setZone_49 : decode cX5_setZone 49 = .ok (.ifCond .le 7, 3) := by decide +kernel
theorem dX5_setZone_52 : decode cX5_setZone 52 = .ok (.sipush (-1002), 3) := by decide +kernel
theorem dX5_setZone_55 : decode cX5_setZone 55 = .ok (.ireturn, 1) := by decide +kernel
theorem dX5_setZone_56 : decode cX5_setZone 56 = .ok (.aload_n 0, 1) := by decide +kernel
theorem dX5_setZone_57 : decode cX5_setZone 57 = .ok (.invokevirtual 38, 3) := by decide +kernel
theorem dX5_setZone_60 : decode cX5_setZone 60 = .ok (.aload_n 0, 1) := by decide +kernel
theorem dX5_setZone_61 : decode cX5_setZone 61 = .ok (.getfield 7, 3) := by decide +kernel
theorem dX5_setZone_64 : decode cX5_setZone 64 = .ok (.iload_n 1, 1) := by decide +kernel
theorem dX5_setZone_65 : decode cX5_setZone 65 = .ok (.iconst 0, 1) := by decide +kernel
theorem dX5_setZone_66 : decode cX5_setZone 66 = .ok (.invokestatic 16, 3) := by decide +kernel
theorem dX5_setZone_69 : decode cX5_setZone 69 = .ok (.iload_n 2, 1) := by decide +kernel
theorem dX5_setZone_70 : decode cX5_setZone 70 = .ok (.iastore, 1) := by decide +kernel
theorem dX5_setZone_71 : decode cX5_setZone 71 = .ok (.aload_n 0, 1) := by decide +kernel
theorem dX5_setZone_72 : decode cX5_setZone 72 = .ok (.getfield 7, 3) := by decide +kernel
theorem dX5_setZone_75 : decode cX5_setZone 75 = .ok (.iload_n 1, 1) := by decide +kernel
theorem dX5_setZone_76 : decode cX5_setZone 76 = .ok (.iconst 1, 1) := by decide +kernel
theorem dX5_setZone_77 : decode cX5_setZone 77 = .ok (.invokestatic 16, 3) := by decide +kernel
theorem dX5_setZone_80 : decode cX5_setZone 80 = .ok (.iload_n 3, 1) := by decide +kernel
theorem dX5_setZone_81 : decode cX5_setZone 81 = .ok (.iastore, 1) := by decide +kernel
theorem dX5_setZone_82 : decode cX5_setZone 82 = .ok (.aload_n 0, 1) := by decide +kernel
theorem dX5_setZone_83 : decode cX5_setZone 83 = .ok (.getfield 7, 3) := by decide +kernel
theorem dX5_setZone_86 : decode cX5_setZone 86 = .ok (.iload_n 1, 1) := by decide +kernel
theorem dX5_setZone_87 : decode cX5_setZone 87 = .ok (.iconst 2, 1) := by decide +kernel
theorem dX5_setZone_88 : decode cX5_setZone 88 = .ok (.invokestatic 16, 3) := by decide +kernel
theorem dX5_setZone_91 : decode cX5_setZone 91 = .ok (.iload 4, 2) := by decide +kernel
theorem dX5_setZone_93 : decode cX5_setZone 93 = .ok (.iastore, 1) := by decide +kernel
theorem dX5_setZone_94 : decode cX5_setZone 94 = .ok (.aload_n 0, 1) := by decide +kernel
theorem dX5_setZone_95 : decode cX5_setZone 95 = .ok (.getfield 7, 3) := by decide +kernel
theorem dX5_setZone_98 : decode cX5_setZone 98 = .ok (.iload_n 1, 1) := by decide +kernel
theorem dX5_setZone_99 : decode cX5_setZone 99 = .ok (.iconst 3, 1) := by decide +kernel
theorem dX5_setZone_100 : decode cX5_setZone 100 = .ok (.invokestatic 16, 3) := by decide +kernel
theorem dX5_setZone_103 : decode cX5_setZone 103 = .ok (.iload_n 3, 1) := by decide +kernel
theorem dX5_setZone_104 : decode cX5_setZone 104 = .ok (.iastore, 1) := by decide +kernel
theorem dX5_setZone_105 : decode cX5_setZone 105 = .ok (.aload_n 0, 1) := by decide +kernel
theorem dX5_setZone_106 : decode cX5_setZone 106 = .ok (.invokevirtual 49, 3) := by decide +kernel
theorem dX5_setZone_109 : decode cX5_setZone 109 = .ok (.ireturn, 1) := by decide +kernel
theorem dX5_put_0 : decode cX5_put 0 = .ok (.iload_n 1, 1) := by decide +kernel
theorem dX5_put_1 : decode cX5_put 1 = .ok (.ifCond .ne 7, 3) := by decide +kernel
theorem dX5_put_4 : decode cX5_put 4 = .ok (.sipush (-1001), 3) := by decide +kernel
theorem dX5_put_7 : decode cX5_put 7 = .ok (.ireturn, 1) := by decide +kernel
theorem dX5_put_8 : decode cX5_put 8 = .ok (.aload_n 0, 1) := by decide +kernel
theorem dX5_put_9 : decode cX5_put 9 = .ok (.invokevirtual 38, 3) := by decide +kernel
theorem dX5_put_12 : decode cX5_put 12 = .ok (.aload_n 0, 1) := by decide +kernel
theorem dX5_put_13 : decode cX5_put 13 = .ok (.getfield 7, 3) := by decide +kernel
theorem dX5_put_16 : decode cX5_put 16 = .ok (.iload_n 2, 1) := by decide +kernel
theorem dX5_put_17 : decode cX5_put 17 = .ok (.iaload, 1) := by decide +kernel
theorem dX5_put_18 : decode cX5_put 18 = .ok (.istore 4, 2) := by decide +kernel
theorem dX5_put_20 : decode cX5_put 20 = .ok (.aload_n 0, 1) := by decide +kernel
theorem dX5_put_21 : decode cX5_put 21 = .ok (.getfield 7, 3) := by decide +kernel
theorem dX5_put_24 : decode cX5_put 24 = .ok (.iload_n 2, 1) := by decide +kernel
theorem dX5_put_25 : decode cX5_put 25 = .ok (.iload_n 3, 1) := by decide +kernel
theorem dX5_put_26 : decode cX5_put 26 = .ok (.iastore, 1) := by decide +kernel
theorem dX5_put_27 : decode cX5_put 27 = .ok (.iload 4, 2) := by decide +kernel
theorem dX5_put_29 : decode cX5_put 29 = .ok (.ireturn, 1) := by decide +kernel
theorem dX5_isCurveNumber_0 : decode cX5_isCurveNumber 0 = .ok (.iload_n 0, 1) := by decide +kernel
theorem dX5_isCurveNumber_1 : decode cX5_isCurveNumber 1 = .ok (.tableswitch 47 0 3 #[31, 47, 39, 39], 31) := by decide +kernel
theorem dX5_isCurveNumber_32 : decode cX5_isCurveNumber 32 = .ok (.iload_n 1, 1) := by decide +kernel
theorem dX5_isCurveNumber_33 : decode cX5_isCurveNumber 33 = .ok (.iconst 1, 1) := by decide +kernel
theorem dX5_isCurveNumber_34 : decode cX5_isCurveNumber 34 = .ok (.bipush 99, 2) := by decide +kernel
theorem dX5_isCurveNumber_36 : decode cX5_isCurveNumber 36 = .ok (.invokestatic 23, 3) := by decide +kernel
theorem dX5_isCurveNumber_39 : decode cX5_isCurveNumber 39 = .ok (.ireturn, 1) := by decide +kernel
theorem dX5_isCurveNumber_40 : decode cX5_isCurveNumber 40 = .ok (.iload_n 1, 1) := by decide +kernel
theorem dX5_isCurveNumber_41 : decode cX5_isCurveNumber 41 = .ok (.iconst 0, 1) := by decide +kernel
theorem dX5_isCurveNumber_42 : decode cX5_isCurveNumber 42 = .ok (.bipush 99, 2) := by decide +kernel
theorem dX5_isCurveNumber_44 : decode cX5_isCurveNumber 44 = .ok (.invokestatic 23, 3) := by decide +kernel
theorem dX5_isCurveNumber_47 : decode cX5_isCurveNumber 47 = .ok (.ireturn, 1) := by decide +kernel
theorem dX5_isCurveNumber_48 : decode cX5_isCurveNumber 48 = .ok (.iload_n 0, 1) := by decide +kernel
theorem dX5_isCurveNumber_49 : decode cX5_isCurveNumber 49 = .ok (.iconst 1, 1) := by decide +kernel
theorem dX5_isCurveNumber_50 : decode cX5_isCurveNumber 50 = .ok (.iconst 5, 1) := by decide +kernel
theorem dX5_isCurveNumber_51 : decode cX5_isCurveNumber 51 = .ok (.invokestatic 23, 3) := by decide +kernel
theorem dX5_isCurveNumber_54 : decode cX5_isCurveNumber 54 = .ok (.ifCond .eq 19, 3) := by decide +kernel
theorem dX5_isCurveNumber_57 : decode cX5_isCurveNumber 57 = .ok (.iload_n 1, 1) := by decide +kernel
theorem dX5_isCurveNumber_58 : decode cX5_isCurveNumber 58 = .ok (.bipush 20, 2) := by decide +kernel
theorem dX5_isCurveNumber_60 : decode cX5_isCurveNumber 60 = .ok (.sipush 300, 3) := by decide +kernel
theorem dX5_isCurveNumber_63 : decode cX5_isCurveNumber 63 = .ok (.invokestatic 23, 3) := by decide +kernel
theorem dX5_isCurveNumber_66 : decode cX5_isCurveNumber 66 = .ok (.ifCond .eq 7, 3) := by decide +kernel
theorem dX5_isCurveNumber_69 : decode cX5_isCurveNumber 69 = .ok (.iconst 1, 1) := by decide +kernel
theorem dX5_isCurveNumber_70 : decode cX5_isCurveNumber 70 = .ok (.goto 4, 3) := by decide +kernel
theorem dX5_isCurveNumber_73 : decode cX5_isCurveNumber 73 = .ok (.iconst 0, 1) := by decide +kernel
theorem dX5_isCurveNumber_74 : decode cX5_isCurveNumber 74 = .ok (.ireturn, 1) := by decide +kernel
theorem dX5_setCurve_0 : decode cX5_setCurve 0 = .ok (.iload_n 1, 1) := by decide +kernel
theorem dX5_setCurve_1 : decode cX5_setCurve 1 = .ok (.invokestatic 53, 3) := by decide +kernel
theorem dX5_setCurve_4 : decode cX5_setCurve 4 = .ok (.ifCond .eq 15, 3) := by decide +kernel
theorem dX5_setCurve_7 : decode cX5_setCurve 7 = .ok (.iload_n 2, 1) := by decide +kernel
theorem dX5_setCurve_8 : decode cX5_setCurve 8 = .ok (.iload_n 3, 1) := by decide +kernel
theorem dX5_setCurve_9 : decode cX5_setCurve 9 = .ok (.invokestatic 56, 3) := by decide +kernel
theorem dX5_setCurve_12 : decode cX5_setCurve 12 = .ok (.ifCond .eq 7, 3) := by decide +kernel
theorem dX5_setCurve_15 : decode cX5_setCurve 15 = .ok (.iconst 1, 1) := by decide +kernel
theorem dX5_setCurve_16 : decode cX5_setCurve 16 = .ok (.goto 4, 3) := by decide +kernel
theorem dX5_setCurve_19 : decode cX5_setCurve 19 = .ok (.iconst 0, 1) := by decide +kernel
theorem dX5_setCurve_20 : decode cX5_setCurve 20 = .ok (.istore 4, 2) := by decide +kernel
theorem dX5_setCurve_22 : decode cX5_setCurve 22 = .ok (.aload_n 0, 1) := by decide +kernel
theorem dX5_setCurve_23 : decode cX5_setCurve 23 = .ok (.iload 4, 2) := by decide +kernel
theorem dX5_setCurve_25 : decode cX5_setCurve 25 = .ok (.iload 4, 2) := by decide +kernel
theorem dX5_setCurve_27 : decode cX5_setCurve 27 = .ok (.ifCond .eq 11, 3) := by decide +kernel
theorem dX5_setCurve_30 : decode cX5_setCurve 30 = .ok (.iload_n 1, 1) := by decide +kernel
theorem dX5_setCurve_31 : decode cX5_setCurve 31 = .ok (.iload_n 2, 1) := by decide +kernel
theorem dX5_setCurve_32 : decode cX5_setCurve 32 = .ok (.invokestatic 20, 3) := by decide +kernel
theorem dX5_setCurve_35 : decode cX5_setCurve 35 = .ok (.goto 4, 3) := by decide +kernel
theorem dX5_setCurve_38 : decode cX5_setCurve 38 = .ok (.iconst 0, 1) := by decide +kernel
theorem dX5_setCurve_39 : decode cX5_setCurve 39 = .ok (.iload_n 3, 1) := by decide +kernel
theorem dX5_setCurve_40 : decode cX5_setCurve 40 = .ok (.invokevirtual 60, 3) := by decide +kernel
theorem dX5_setCurve_43 : decode cX5_setCurve 43 = .ok (.ireturn, 1) := by decide +kernel
theorem dX5_isBeltNumber_0 : decode cX5_isBeltNumber 0 = .ok (.iload_n 0, 1) := by decide +kernel
theorem dX5_isBeltNumber_1 : decode cX5_isBeltNumber 1 = .ok (.ifCond .ne 12, 3) := by decide +kernel
theorem dX5_isBeltNumber_4 : decode cX5_isBeltNumber 4 = .ok (.iload_n 1, 1) := by decide +kernel
theorem dX5_isBeltNumber_5 : decode cX5_isBeltNumber 5 = .ok (.iconst 1, 1) := by decide +kernel
theorem dX5_isBeltNumber_6 : decode cX5_isBeltNumber 6 = .ok (.iconst 3, 1) := by decide +kernel
theorem dX5_isBeltNumber_7 : decode cX5_isBeltNumber 7 = .ok (.invokestatic 23, 3) := by decide +kernel
theorem dX5_isBeltNumber_10 : decode cX5_isBeltNumber 10 = .ok (.goto 53, 3) := by decide +kernel
theorem dX5_isBeltNumber_13 : decode cX5_isBeltNumber 13 = .ok (.iload_n 0, 1) := by decide +kernel
theorem dX5_isBeltNumber_14 : decode cX5_isBeltNumber 14 = .ok (.iconst 1, 1) := by decide +kernel
theorem dX5_isBeltNumber_15 : decode cX5_isBeltNumber 15 = .ok (.if_icmp .ne 13, 3) := by decide +kernel
theorem dX5_isBeltNumber_18 : decode cX5_isBeltNumber 18 = .ok (.iload_n 1, 1) := by decide +kernel
theorem dX5_isBeltNumber_19 : decode cX5_isBeltNumber 19 = .ok (.iconst 1, 1) := by decide +kernel
theorem dX5_isBeltNumber_20 : decode cX5_isBeltNumber 20 = .ok (.bipush 20, 2) := by decide +kernel
theorem dX5_isBeltNumber_22 : decode cX5_isBeltNumber 22 = .ok (.invokestatic 23, 3) := by decide +kernel
theorem dX5_isBeltNumber_25 : decode cX5_isBeltNumber 25 = .ok (.goto 38, 3) := by decide +kernel
theorem dX5_isBeltNumber_28 : decode cX5_isBeltNumber 28 = .ok (.iload_n 0, 1) := by decide +kernel
theorem dX5_isBeltNumber_29 : decode cX5_isBeltNumber 29 = .ok (.iconst 2, 1) := by decide +kernel
theorem dX5_isBeltNumber_30 : decode cX5_isBeltNumber 30 = .ok (.if_icmp .ne 13, 3) := by decide +kernel
theorem dX5_isBeltNumber_33 : decode cX5_isBeltNumber 33 = .ok (.iload_n 1, 1) := by decide +kernel
theorem dX5_isBeltNumber_34 : decode cX5_isBeltNumber 34 = .ok (.iconst 0, 1) := by decide +kernel
theorem dX5_isBeltNumber_35 : decode cX5_isBeltNumber 35 = .ok (.bipush 99, 2) := by decide +kernel
theorem dX5_isBeltNumber_37 : decode cX5_isBeltNumber 37 = .ok (.invokestatic 23, 3) := by decide +kernel
theorem dX5_isBeltNumber_40 : decode cX5_isBeltNumber 40 = .ok (.goto 23, 3) := by decide +kernel
theorem dX5_isBeltNumber_43 : decode cX5_isBeltNumber 43 = .ok (.iload_n 0, 1) := by decide +kernel
theorem dX5_isBeltNumber_44 : decode cX5_isBeltNumber 44 = .ok (.iconst 3, 1) := by decide +kernel
theorem dX5_isBeltNumber_45 : decode cX5_isBeltNumber 45 = .ok (.if_icmp .ne 17, 3) := by decide +kernel
theorem dX5_isBeltNumber_48 : decode cX5_isBeltNumber 48 = .ok (.iload_n 1, 1) := by decide +kernel
theorem dX5_isBeltNumber_49 : decode cX5_isBeltNumber 49 = .ok (.iconst 0, 1) := by decide +kernel
theorem dX5_isBeltNumber_50 : decode cX5_isBeltNumber 50 = .ok (.bipush 9, 2) := by decide +kernel
theorem dX5_isBeltNumber_52 : decode cX5_isBeltNumber 52 = .ok (.invokestatic 23, 3) := by decide +kernel
theorem dX5_isBeltNumber_55 : decode cX5_isBeltNumber 55 = .ok (.ifCond .eq 7, 3) := by decide +kernel
theorem dX5_isBeltNumber_58 : decode cX5_isBeltNumber 58 = .ok (.iconst 1, 1) := by decide +kernel
theorem dX5_isBeltNumber_59 : decode cX5_isBeltNumber 59 = .ok (.goto 4, 3) := by decide +kernel
theorem dX5_isBeltNumber_62 : decode cX5_isBeltNumber 62 = .ok (.iconst 0, 1) := by decide +kernel
theorem dX5_isBeltNumber_63 : decode cX5_isBeltNumber 63 = .ok (.ireturn, 1) := by decide +kernel
theorem dX5_set_0 : decode cX5_set 0 = .ok (.iload_n 1, 1) := by decide +kernel
theorem dX5_set_1 : decode cX5_set 1 = .ok (.iload_n 2, 1) := by decide +kernel
theorem dX5_set_2 : decode cX5_set 2 = .ok (.invokestatic 64, 3) := by decide +kernel
theorem dX5_set_5 : decode cX5_set 5 = .ok (.istore_n 3, 1) := by decide +kernel
theorem dX5_set_6 : decode cX5_set 6 = .ok (.aload_n 0, 1) := by decide +kernel
theorem dX5_set_7 : decode cX5_set 7 = .ok (.iload_n 3, 1) := by decide +kernel
theorem dX5_set_8 : decode cX5_set 8 = .ok (.iload_n 3, 1) := by decide +kernel
theorem dX5_set_9 : decode cX5_set 9 = .ok (.ifCond .eq 10, 3) := by decide +kernel
theorem dX5_set_12 : decode cX5_set 12 = .ok (.bipush 48, 2) := by decide +kernel
theorem dX5_set_14 : decode cX5_set 14 = .ok (.iload_n 1, 1) := by decide +kernel
theorem dX5_set_15 : decode cX5_set 15 = .ok (.iadd, 1) := by decide +kernel
theorem dX5_set_16 : decode cX5_set 16 = .ok (.goto 4, 3) := by decide +kernel
theorem dX5_set_19 : decode cX5_set 19 = .ok (.iconst 0, 1) := by decide +kernel
theorem dX5_set_20 : decode cX5_set 20 = .ok (.iload_n 2, 1) := by decide +kernel
theorem dX5_set_21 : decode cX5_set 21 = .ok (.invokevirtual 60, 3) := by decide +kernel
theorem dX5_set_24 : decode cX5_set 24 = .ok (.ireturn, 1) := by decide +kernel
theorem dX5_lay_0 : decode cX5_lay 0 = .ok (.iconst 0, 1) := by decide +kernel
theorem dX5_lay_1 : decode cX5_lay 1 = .ok (.istore 4, 2) := by decide +kernel
theorem dX5_lay_3 : decode cX5_lay 3 = .ok (.iload 4, 2) := by decide +kernel
theorem dX5_lay_5 : decode cX5_lay 5 = .ok (.bipush 21, 2) := by decide +kernel
theorem dX5_lay_7 : decode cX5_lay 7 = .ok (.if_icmp .ge 21, 3) := by decide +kernel
theorem dX5_lay_10 : decode cX5_lay 10 = .ok (.aload_n 0, 1) := by decide +kernel
theorem dX5_lay_11 : decode cX5_lay 11 = .ok (.getfield 7, 3) := by decide +kernel
theorem dX5_lay_14 : decode cX5_lay 14 = .ok (.iload_n 1, 1) := by decide +kernel
theorem dX5_lay_15 : decode cX5_lay 15 = .ok (.iload 4, 2) := by decide +kernel
theorem dX5_lay_17 : decode cX5_lay 17 = .ok (.invokestatic 27, 3) := by decide +kernel
theorem dX5_lay_20 : decode cX5_lay 20 = .ok (.iconst 0, 1) := by decide +kernel
theorem dX5_lay_21 : decode cX5_lay 21 = .ok (.iastore, 1) := by decide +kernel
theorem dX5_lay_22 : decode cX5_lay 22 = .ok (.iinc 4 1, 3) := by decide +kernel
theorem dX5_lay_25 : decode cX5_lay 25 = .ok (.goto (-22), 3) := by decide +kernel
theorem dX5_lay_28 : decode cX5_lay 28 = .ok (.aload_n 0, 1) := by decide +kernel
theorem dX5_lay_29 : decode cX5_lay 29 = .ok (.getfield 7, 3) := by decide +kernel
theorem dX5_lay_32 : decode cX5_lay 32 = .ok (.iload_n 1, 1) := by decide +kernel
theorem dX5_lay_33 : decode cX5_lay 33 = .ok (.iconst 0, 1) := by decide +kernel
theorem dX5_lay_34 : decode cX5_lay 34 = .ok (.invokestatic 27, 3) := by decide +kernel
theorem dX5_lay_37 : decode cX5_lay 37 = .ok (.iload_n 2, 1) := by decide +kernel
theorem dX5_lay_38 : decode cX5_lay 38 = .ok (.iastore, 1) := by decide +kernel
theorem dX5_lay_39 : decode cX5_lay 39 = .ok (.aload_n 0, 1) := by decide +kernel
theorem dX5_lay_40 : decode cX5_lay 40 = .ok (.getfield 7, 3) := by decide +kernel
theorem dX5_lay_43 : decode cX5_lay 43 = .ok (.iload_n 1, 1) := by decide +kernel
theorem dX5_lay_44 : decode cX5_lay 44 = .ok (.iconst 1, 1) := by decide +kernel
theorem dX5_lay_45 : decode cX5_lay 45 = .ok (.invokestatic 27, 3) := by decide +kernel
theorem dX5_lay_48 : decode cX5_lay 48 = .ok (.iload_n 3, 1) := by decide +kernel
theorem dX5_lay_49 : decode cX5_lay 49 = .ok (.iastore, 1) := by decide +kernel
theorem dX5_lay_50 : decode cX5_lay 50 = .ok (.aload_n 0, 1) := by decide +kernel
theorem dX5_lay_51 : decode cX5_lay 51 = .ok (.getfield 7, 3) := by decide +kernel
theorem dX5_lay_54 : decode cX5_lay 54 = .ok (.iload_n 1, 1) := by decide +kernel
theorem dX5_lay_55 : decode cX5_lay 55 = .ok (.iconst 4, 1) := by decide +kernel
theorem dX5_lay_56 : decode cX5_lay 56 = .ok (.invokestatic 27, 3) := by decide +kernel
theorem dX5_lay_59 : decode cX5_lay 59 = .ok (.bipush 20, 2) := by decide +kernel
theorem dX5_lay_61 : decode cX5_lay 61 = .ok (.iastore, 1) := by decide +kernel
theorem dX5_lay_62 : decode cX5_lay 62 = .ok (.aload_n 0, 1) := by decide +kernel
theorem dX5_lay_63 : decode cX5_lay 63 = .ok (.getfield 7, 3) := by decide +kernel
theorem dX5_lay_66 : decode cX5_lay 66 = .ok (.iload_n 1, 1) := by decide +kernel
theorem dX5_lay_67 : decode cX5_lay 67 = .ok (.bipush 6, 2) := by decide +kernel
theorem dX5_lay_69 : decode cX5_lay 69 = .ok (.invokestatic 27, 3) := by decide +kernel
theorem dX5_lay_72 : decode cX5_lay 72 = .ok (.bipush 20, 2) := by decide +kernel
theorem dX5_lay_74 : decode cX5_lay 74 = .ok (.iastore, 1) := by decide +kernel
theorem dX5_lay_75 : decode cX5_lay 75 = .ok (.aload_n 0, 1) := by decide +kernel
theorem dX5_lay_76 : decode cX5_lay 76 = .ok (.getfield 7, 3) := by decide +kernel
theorem dX5_lay_79 : decode cX5_lay 79 = .ok (.iload_n 1, 1) := by decide +kernel
theorem dX5_lay_80 : decode cX5_lay 80 = .ok (.bipush 10, 2) := by decide +kernel
theorem dX5_lay_82 : decode cX5_lay 82 = .ok (.invokestatic 27, 3) := by decide +kernel
theorem dX5_lay_85 : decode cX5_lay 85 = .ok (.sipush (-1009), 3) := by decide +kernel
theorem dX5_lay_88 : decode cX5_lay 88 = .ok (.iastore, 1) := by decide +kernel
theorem dX5_lay_89 : decode cX5_lay 89 = .ok (.return_, 1) := by decide +kernel
theorem dX5_hasRoom_0 : decode cX5_hasRoom 0 = .ok (.iconst 0, 1) := by decide +kernel
theorem dX5_hasRoom_1 : decode cX5_hasRoom 1 = .ok (.istore_n 1, 1) := by decide +kernel
theorem dX5_hasRoom_2 : decode cX5_hasRoom 2 = .ok (.iload_n 1, 1) := by decide +kernel
theorem dX5_hasRoom_3 : decode cX5_hasRoom 3 = .ok (.aload_n 0, 1) := by decide +kernel
theorem dX5_hasRoom_4 : decode cX5_hasRoom 4 = .ok (.getfield 7, 3) := by decide +kernel
theorem dX5_hasRoom_7 : decode cX5_hasRoom 7 = .ok (.bipush 53, 2) := by decide +kernel
theorem dX5_hasRoom_9 : decode cX5_hasRoom 9 = .ok (.iaload, 1) := by decide +kernel
theorem dX5_hasRoom_10 : decode cX5_hasRoom 10 = .ok (.if_icmp .ge 39, 3) := by decide +kernel
theorem dX5_hasRoom_13 : decode cX5_hasRoom 13 = .ok (.aload_n 0, 1) := by decide +kernel
theorem dX5_hasRoom_14 : decode cX5_hasRoom 14 = .ok (.iload_n 1, 1) := by decide +kernel
theorem dX5_hasRoom_15 : decode cX5_hasRoom 15 = .ok (.invokevirtual 67, 3) := by decide +kernel
theorem dX5_hasRoom_18 : decode cX5_hasRoom 18 = .ok (.ifCond .eq 25, 3) := by decide +kernel
theorem dX5_hasRoom_21 : decode cX5_hasRoom 21 = .ok (.aload_n 0, 1) := by decide +kernel
theorem dX5_hasRoom_22 : decode cX5_hasRoom 22 = .ok (.getfield 7, 3) := by decide +kernel
theorem dX5_hasRoom_25 : decode cX5_hasRoom 25 = .ok (.iload_n 1, 1) := by decide +kernel
theorem dX5_hasRoom_26 : decode cX5_hasRoom 26 = .ok (.iconst 3, 1) := by decide +kernel
theorem dX5_hasRoom_27 : decode cX5_hasRoom 27 = .ok (.invokestatic 27, 3) := by decide +kernel
theorem dX5_hasRoom_30 : decode cX5_hasRoom 30 = .ok (.iaload, 1) := by decide +kernel
theorem dX5_hasRoom_31 : decode cX5_hasRoom 31 = .ok (.aload_n 0, 1) := by decide +kernel
theorem dX5_hasRoom_32 : decode cX5_hasRoom 32 = .ok (.getfield 7, 3) := by decide +kernel
theorem dX5_hasRoom_35 : decode cX5_hasRoom 35 = .ok (.bipush 49, 2) := by decide +kernel
theorem dX5_hasRoom_37 : decode cX5_hasRoom 37 = .ok (.iaload, 1) := by decide +kernel
theorem dX5_hasRoom_38 : decode cX5_hasRoom 38 = .ok (.if_icmp .ge 5, 3) := by decide +kernel
theorem dX5_hasRoom_41 : decode cX5_hasRoom 41 = .ok (.iconst 0, 1) := by decide +kernel
theorem dX5_hasRoom_42 : decode cX5_hasRoom 42 = .ok (.ireturn, 1) := by decide +kernel
theorem dX5_hasRoom_43 : decode cX5_hasRoom 43 = .ok (.iinc 1 1, 3) := by decide +kernel
theorem dX5_hasRoom_46 : decode cX5_hasRoom 46 = .ok (.goto (-44), 3) := by decide +kernel
theorem dX5_hasRoom_49 : decode cX5_hasRoom 49 = .ok (.iconst 1, 1) := by decide +kernel
theorem dX5_hasRoom_50 : decode cX5_hasRoom 50 = .ok (.ireturn, 1) := by decide +kernel
theorem dX5_noLoad_0 : decode cX5_noLoad 0 = .ok (.iload_n 1, 1) := by decide +kernel
theorem dX5_noLoad_1 : decode cX5_noLoad 1 = .ok (.invokestatic 53, 3) := by decide +kernel
theorem dX5_noLoad_4 : decode cX5_noLoad 4 = .ok (.ifCond .eq 13, 3) := by decide +kernel
theorem dX5_noLoad_7 : decode cX5_noLoad 7 = .ok (.iload_n 2, 1) := by decide +kernel
theorem dX5_noLoad_8 : decode cX5_noLoad 8 = .ok (.iconst 1, 1) := by decide +kernel
theorem dX5_noLoad_9 : decode cX5_noLoad 9 = .ok (.bipush 9, 2) := by decide +kernel
theorem dX5_noLoad_11 : decode cX5_noLoad 11 = .ok (.invokestatic 23, 3) := by decide +kernel
theorem dX5_noLoad_14 : decode cX5_noLoad 14 = .ok (.ifCond .ne 7, 3) := by decide +kernel
theorem dX5_noLoad_17 : decode cX5_noLoad 17 = .ok (.sipush (-1001), 3) := by decide +kernel
theorem dX5_noLoad_20 : decode cX5_noLoad 20 = .ok (.ireturn, 1) := by decide +kernel
theorem dX5_noLoad_21 : decode cX5_noLoad 21 = .ok (.aload_n 0, 1) := by decide +kernel
theorem dX5_noLoad_22 : decode cX5_noLoad 22 = .ok (.invokevirtual 70, 3) := by decide +kernel
theorem dX5_noLoad_25 : decode cX5_noLoad 25 = .ok (.ifCond .ne 9, 3) := by decide +kernel
theorem dX5_noLoad_28 : decode cX5_noLoad 28 = .ok (.sipush (-1002), 3) := by decide +kernel
theorem dX5_noLoad_31 : decode cX5_noLoad 31 = .ok (.goto 22, 3) := by decide +kernel
theorem dX5_noLoad_34 : decode cX5_noLoad 34 = .ok (.aload_n 0, 1) := by decide +kernel
theorem dX5_noLoad_35 : decode cX5_noLoad 35 = .ok (.getfield 7, 3) := by decide +kernel
theorem dX5_noLoad_38 : decode cX5_noLoad 38 = .ok (.bipush 53, 2) := by decide +kernel
theorem dX5_noLoad_40 : decode cX5_noLoad 40 = .ok (.iaload, 1) := by decide +kernel
theorem dX5_noLoad_41 : decode cX5_noLoad 41 = .ok (.bipush 30, 2) := by decide +kernel
theorem dX5_noLoad_43 : decode cX5_noLoad 43 = .ok (.if_icmp .ne 9, 3) := by decide +kernel
theorem dX5_noLoad_46 : decode cX5_noLoad 46 = .ok (.sipush (-1003), 3) := by decide +kernel
theorem dX5_noLoad_49 : decode cX5_noLoad 49 = .ok (.goto 4, 3) := by decide +kernel
theorem dX5_noLoad_52 : decode cX5_noLoad 52 = .ok (.iconst 0, 1) := by decide +kernel
theorem dX5_noLoad_53 : decode cX5_noLoad 53 = .ok (.ireturn, 1) := by decide +kernel
theorem dX5_doLoad_0 : decode cX5_doLoad 0 = .ok (.aload_n 0, 1) := by decide +kernel
theorem dX5_doLoad_1 : decode cX5_doLoad 1 = .ok (.aload_n 0, 1) := by decide +kernel
theorem dX5_doLoad_2 : decode cX5_doLoad 2 = .ok (.getfield 7, 3) := by decide +kernel
theorem dX5_doLoad_5 : decode cX5_doLoad 5 = .ok (.bipush 53, 2) := by decide +kernel
theorem dX5_doLoad_7 : decode cX5_doLoad 7 = .ok (.iaload, 1) := by decide +kernel
theorem dX5_doLoad_8 : decode cX5_doLoad 8 = .ok (.iload_n 1, 1) := by decide +kernel
theorem dX5_doLoad_9 : decode cX5_doLoad 9 = .ok (.iload_n 2, 1) := by decide +kernel
theorem dX5_doLoad_10 : decode cX5_doLoad 10 = .ok (.invokevirtual 74, 3) := by decide +kernel
theorem dX5_doLoad_13 : decode cX5_doLoad 13 = .ok (.aload_n 0, 1) := by decide +kernel
theorem dX5_doLoad_14 : decode cX5_doLoad 14 = .ok (.getfield 7, 3) := by decide +kernel
theorem dX5_doLoad_17 : decode cX5_doLoad 17 = .ok (.bipush 53, 2) := by decide +kernel
theorem dX5_doLoad_19 : decode cX5_doLoad 19 = .ok (.dup2, 1) := by decide +kernel
theorem dX5_doLoad_20 : decode cX5_doLoad 20 = .ok (.iaload, 1) := by decide +kernel
theorem dX5_doLoad_21 : decode cX5_doLoad 21 = .ok (.iconst 1, 1) := by decide +kernel
theorem dX5_doLoad_22 : decode cX5_doLoad 22 = .ok (.iadd, 1) := by decide +kernel
theorem dX5_doLoad_23 : decode cX5_doLoad 23 = .ok (.iastore, 1) := by decide +kernel
theorem dX5_doLoad_24 : decode cX5_doLoad 24 = .ok (.aload_n 0, 1) := by decide +kernel
theorem dX5_doLoad_25 : decode cX5_doLoad 25 = .ok (.getfield 7, 3) := by decide +kernel
theorem dX5_doLoad_28 : decode cX5_doLoad 28 = .ok (.bipush 53, 2) := by decide +kernel
theorem dX5_doLoad_30 : decode cX5_doLoad 30 = .ok (.iaload, 1) := by decide +kernel
theorem dX5_doLoad_31 : decode cX5_doLoad 31 = .ok (.iconst 1, 1) := by decide +kernel
theorem dX5_doLoad_32 : decode cX5_doLoad 32 = .ok (.isub, 1) := by decide +kernel
theorem dX5_doLoad_33 : decode cX5_doLoad 33 = .ok (.ireturn, 1) := by decide +kernel
theorem dX5_load_0 : decode cX5_load 0 = .ok (.aload_n 0, 1) := by decide +kernel
theorem dX5_load_1 : decode cX5_load 1 = .ok (.iload_n 1, 1) := by decide +kernel
theorem dX5_load_2 : decode cX5_load 2 = .ok (.iload_n 2, 1) := by decide +kernel
theorem dX5_load_3 : decode cX5_load 3 = .ok (.invokevirtual 77, 3) := by decide +kernel
theorem dX5_load_6 : decode cX5_load 6 = .ok (.istore_n 3, 1) := by decide +kernel
theorem dX5_load_7 : decode cX5_load 7 = .ok (.iload_n 3, 1) := by decide +kernel
theorem dX5_load_8 : decode cX5_load 8 = .ok (.ifCond .eq 5, 3) := by decide +kernel
theorem dX5_load_11 : decode cX5_load 11 = .ok (.iload_n 3, 1) := by decide +kernel
theorem dX5_load_12 : decode cX5_load 12 = .ok (.ireturn, 1) := by decide +kernel
theorem dX5_load_13 : decode cX5_load 13 = .ok (.aload_n 0, 1) := by decide +kernel
theorem dX5_load_14 : decode cX5_load 14 = .ok (.invokevirtual 38, 3) := by decide +kernel
theorem dX5_load_17 : decode cX5_load 17 = .ok (.aload_n 0, 1) := by decide +kernel
theorem dX5_load_18 : decode cX5_load 18 = .ok (.iload_n 1, 1) := by decide +kernel
theorem dX5_load_19 : decode cX5_load 19 = .ok (.iload_n 2, 1) := by decide +kernel
theorem dX5_load_20 : decode cX5_load 20 = .ok (.invokevirtual 80, 3) := by decide +kernel
theorem dX5_load_23 : decode cX5_load 23 = .ok (.ireturn, 1) := by decide +kernel
theorem dX5_noTakeOff_0 : decode cX5_noTakeOff 0 = .ok (.aload_n 0, 1) := by decide +kernel
theorem dX5_noTakeOff_1 : decode cX5_noTakeOff 1 = .ok (.iload_n 1, 1) := by decide +kernel
theorem dX5_noTakeOff_2 : decode cX5_noTakeOff 2 = .ok (.invokevirtual 83, 3) := by decide +kernel
theorem dX5_noTakeOff_5 : decode cX5_noTakeOff 5 = .ok (.ifCond .ne 9, 3) := by decide +kernel
theorem dX5_noTakeOff_8 : decode cX5_noTakeOff 8 = .ok (.sipush (-1001), 3) := by decide +kernel
theorem dX5_noTakeOff_11 : decode cX5_noTakeOff 11 = .ok (.goto 18, 3) := by decide +kernel
theorem dX5_noTakeOff_14 : decode cX5_noTakeOff 14 = .ok (.aload_n 0, 1) := by decide +kernel
theorem dX5_noTakeOff_15 : decode cX5_noTakeOff 15 = .ok (.iload_n 1, 1) := by decide +kernel
theorem dX5_noTakeOff_16 : decode cX5_noTakeOff 16 = .ok (.invokevirtual 67, 3) := by decide +kernel
theorem dX5_noTakeOff_19 : decode cX5_noTakeOff 19 = .ok (.ifCond .eq 7, 3) := by decide +kernel
theorem dX5_noTakeOff_22 : decode cX5_noTakeOff 22 = .ok (.iconst 0, 1) := by decide +kernel
theorem dX5_noTakeOff_23 : decode cX5_noTakeOff 23 = .ok (.goto 6, 3) := by decide +kernel
theorem dX5_noTakeOff_26 : decode cX5_noTakeOff 26 = .ok (.sipush (-1002), 3) := by decide +kernel
theorem dX5_noTakeOff_29 : decode cX5_noTakeOff 29 = .ok (.ireturn, 1) := by decide +kernel
theorem dX5_takeOff_0 : decode cX5_takeOff 0 = .ok (.aload_n 0, 1) := by decide +kernel
theorem dX5_takeOff_1 : decode cX5_takeOff 1 = .ok (.iload_n 1, 1) := by decide +kernel
theorem dX5_takeOff_2 : decode cX5_takeOff 2 = .ok (.invokevirtual 86, 3) := by decide +kernel
theorem dX5_takeOff_5 : decode cX5_takeOff 5 = .ok (.istore_n 2, 1) := by decide +kernel
theorem dX5_takeOff_6 : decode cX5_takeOff 6 = .ok (.iload_n 2, 1) := by decide +kernel
theorem dX5_takeOff_7 : decode cX5_takeOff 7 = .ok (.ifCond .eq 5, 3) := by decide +kernel
theorem dX5_takeOff_10 : decode cX5_takeOff 10 = .ok (.iload_n 2, 1) := by decide +kernel
theorem dX5_takeOff_11 : decode cX5_takeOff 11 = .ok (.ireturn, 1) := by decide +kernel
theorem dX5_takeOff_12 : decode cX5_takeOff 12 = .ok (.aload_n 0, 1) := by decide +kernel
theorem dX5_takeOff_13 : decode cX5_takeOff 13 = .ok (.invokevirtual 38, 3) := by decide +kernel
theorem dX5_takeOff_16 : decode cX5_takeOff 16 = .ok (.aload_n 0, 1) := by decide +kernel
theorem dX5_takeOff_17 : decode cX5_takeOff 17 = .ok (.getfield 7, 3) := by decide +kernel
theorem dX5_takeOff_20 : decode cX5_takeOff 20 = .ok (.iload_n 1, 1) := by decide +kernel
theorem dX5_takeOff_21 : decode cX5_takeOff 21 = .ok (.iconst 2, 1) := by decide +kernel
theorem dX5_takeOff_22 : decode cX5_takeOff 22 = .ok (.invokestatic 27, 3) := by decide +kernel
theorem dX5_takeOff_25 : decode cX5_takeOff 25 = .ok (.iconst 2, 1) := by decide +kernel
theorem dX5_takeOff_26 : decode cX5_takeOff 26 = .ok (.iastore, 1) := by decide +kernel
theorem dX5_takeOff_27 : decode cX5_takeOff 27 = .ok (.aload_n 0, 1) := by decide +kernel
theorem dX5_takeOff_28 : decode cX5_takeOff 28 = .ok (.getfield 7, 3) := by decide +kernel
theorem dX5_takeOff_31 : decode cX5_takeOff 31 = .ok (.iload_n 1, 1) := by decide +kernel
theorem dX5_takeOff_32 : decode cX5_takeOff 32 = .ok (.iconst 3, 1) := by decide +kernel
theorem dX5_takeOff_33 : decode cX5_takeOff 33 = .ok (.invokestatic 27, 3) := by decide +kernel
theorem dX5_takeOff_36 : decode cX5_takeOff 36 = .ok (.iaload, 1) := by decide +kernel
theorem dX5_takeOff_37 : decode cX5_takeOff 37 = .ok (.ireturn, 1) := by decide +kernel
theorem dX5_faultIf_0 : decode cX5_faultIf 0 = .ok (.iload_n 1, 1) := by decide +kernel
theorem dX5_faultIf_1 : decode cX5_faultIf 1 = .ok (.ifCond .eq 73, 3) := by decide +kernel
theorem dX5_faultIf_4 : decode cX5_faultIf 4 = .ok (.aload_n 0, 1) := by decide +kernel
theorem dX5_faultIf_5 : decode cX5_faultIf 5 = .ok (.getfield 7, 3) := by decide +kernel
theorem dX5_faultIf_8 : decode cX5_faultIf 8 = .ok (.iload_n 2, 1) := by decide +kernel
theorem dX5_faultIf_9 : decode cX5_faultIf 9 = .ok (.bipush 8, 2) := by decide +kernel
theorem dX5_faultIf_11 : decode cX5_faultIf 11 = .ok (.invokestatic 27, 3) := by decide +kernel
theorem dX5_faultIf_14 : decode cX5_faultIf 14 = .ok (.iaload, 1) := by decide +kernel
theorem dX5_faultIf_15 : decode cX5_faultIf 15 = .ok (.iload_n 3, 1) := by decide +kernel
theorem dX5_faultIf_16 : decode cX5_faultIf 16 = .ok (.ishr, 1) := by decide +kernel
theorem dX5_faultIf_17 : decode cX5_faultIf 17 = .ok (.iconst 1, 1) := by decide +kernel
theorem dX5_faultIf_18 : decode cX5_faultIf 18 = .ok (.iand, 1) := by decide +kernel
theorem dX5_faultIf_19 : decode cX5_faultIf 19 = .ok (.ifCond .ne 55, 3) := by decide +kernel
theorem dX5_faultIf_22 : decode cX5_faultIf 22 = .ok (.aload_n 0, 1) := by decide +kernel
theorem dX5_faultIf_23 : decode cX5_faultIf 23 = .ok (.getfield 7, 3) := by decide +kernel
theorem dX5_faultIf_26 : decode cX5_faultIf 26 = .ok (.iload_n 2, 1) := by decide +kernel
theorem dX5_faultIf_27 : decode cX5_faultIf 27 = .ok (.bipush 8, 2) := by decide +kernel
theorem dX5_faultIf_29 : decode cX5_faultIf 29 = .ok (.invokestatic 27, 3) := by decide +kernel
theorem dX5_faultIf_32 : decode cX5_faultIf 32 = .ok (.dup2, 1) := by decide +kernel
theorem dX5_faultIf_33 : decode cX5_faultIf 33 = .ok (.iaload, 1) := by decide +kernel
theorem dX5_faultIf_34 : decode cX5_faultIf 34 = .ok (.iconst 1, 1) := by decide +kernel
theorem dX5_faultIf_35 : decode cX5_faultIf 35 = .ok (.iload_n 3, 1) := by decide +kernel
theorem dX5_faultIf_36 : decode cX5_faultIf 36 = .ok (.ishl, 1) := by decide +kernel
theorem dX5_faultIf_37 : decode cX5_faultIf 37 = .ok (.ior, 1) := by decide +kernel
theorem dX5_faultIf_38 : decode cX5_faultIf 38 = .ok (.iastore, 1) := by decide +kernel
theorem dX5_faultIf_39 : decode cX5_faultIf 39 = .ok (.aload_n 0, 1) := by decide +kernel
theorem dX5_faultIf_40 : decode cX5_faultIf 40 = .ok (.getfield 7, 3) := by decide +kernel
theorem dX5_faultIf_43 : decode cX5_faultIf 43 = .ok (.iload_n 2, 1) := by decide +kernel
theorem dX5_faultIf_44 : decode cX5_faultIf 44 = .ok (.bipush 11, 2) := by decide +kernel
theorem dX5_faultIf_46 : decode cX5_faultIf 46 = .ok (.iload_n 3, 1) := by decide +kernel
theorem dX5_faultIf_47 : decode cX5_faultIf 47 = .ok (.iadd, 1) := by decide +kernel
theorem dX5_faultIf_48 : decode cX5_faultIf 48 = .ok (.invokestatic 27, 3) := by decide +kernel
theorem dX5_faultIf_51 : decode cX5_faultIf 51 = .ok (.iload 4, 2) := by decide +kernel
theorem dX5_faultIf_53 : decode cX5_faultIf 53 = .ok (.iastore, 1) := by decide +kernel
theorem dX5_faultIf_54 : decode cX5_faultIf 54 = .ok (.aload_n 0, 1) := by decide +kernel
theorem dX5_faultIf_55 : decode cX5_faultIf 55 = .ok (.getfield 7, 3) := by decide +kernel
theorem dX5_faultIf_58 : decode cX5_faultIf 58 = .ok (.iload_n 2, 1) := by decide +kernel
theorem dX5_faultIf_59 : decode cX5_faultIf 59 = .ok (.bipush 16, 2) := by decide +kernel
theorem dX5_faultIf_61 : decode cX5_faultIf 61 = .ok (.iload_n 3, 1) := by decide +kernel
theorem dX5_faultIf_62 : decode cX5_faultIf 62 = .ok (.iadd, 1) := by decide +kernel
theorem dX5_faultIf_63 : decode cX5_faultIf 63 = .ok (.invokestatic 27, 3) := by decide +kernel
theorem dX5_faultIf_66 : decode cX5_faultIf 66 = .ok (.aload_n 0, 1) := by decide +kernel
theorem dX5_faultIf_67 : decode cX5_faultIf 67 = .ok (.getfield 7, 3) := by decide +kernel
theorem dX5_faultIf_70 : decode cX5_faultIf 70 = .ok (.bipush 52, 2) := by decide +kernel
theorem dX5_faultIf_72 : decode cX5_faultIf 72 = .ok (.iaload, 1) := by decide +kernel
theorem dX5_faultIf_73 : decode cX5_faultIf 73 = .ok (.iastore, 1) := by decide +kernel
theorem dX5_faultIf_74 : decode cX5_faultIf 74 = .ok (.return_, 1) := by decide +kernel
theorem dX5_curveOf_0 : decode cX5_curveOf 0 = .ok (.aload_n 0, 1) := by decide +kernel
theorem dX5_curveOf_1 : decode cX5_curveOf 1 = .ok (.getfield 7, 3) := by decide +kernel
theorem dX5_curveOf_4 : decode cX5_curveOf 4 = .ok (.aload_n 0, 1) := by decide +kernel
theorem dX5_curveOf_5 : decode cX5_curveOf 5 = .ok (.getfield 7, 3) := by decide +kernel
theorem dX5_curveOf_8 : decode cX5_curveOf 8 = .ok (.iload_n 1, 1) := by decide +kernel
theorem dX5_curveOf_9 : decode cX5_curveOf 9 = .ok (.iconst 0, 1) := by decide +kernel
theorem dX5_curveOf_10 : decode cX5_curveOf 10 = .ok (.invokestatic 27, 3) := by decide +kernel
theorem dX5_curveOf_13 : decode cX5_curveOf 13 = .ok (.iaload, 1) := by decide +kernel
theorem dX5_curveOf_14 : decode cX5_curveOf 14 = .ok (.iload_n 2, 1) := by decide +kernel
theorem dX5_curveOf_15 : decode cX5_curveOf 15 = .ok (.invokestatic 20, 3) := by decide +kernel
theorem dX5_curveOf_18 : decode cX5_curveOf 18 = .ok (.iaload, 1) := by decide +kernel
theorem dX5_curveOf_19 : decode cX5_curveOf 19 = .ok (.ireturn, 1) := by decide +kernel
theorem dX5_goOn_0 : decode cX5_goOn 0 = .ok (.aload_n 0, 1) := by decide +kernel
theorem dX5_goOn_1 : decode cX5_goOn 1 = .ok (.invokevirtual 49, 3) := by decide +kernel
theorem dX5_goOn_4 : decode cX5_goOn 4 = .ok (.istore_n 2, 1) := by decide +kernel
theorem dX5_goOn_5 : decode cX5_goOn 5 = .ok (.aload_n 0, 1) := by decide +kernel
theorem dX5_goOn_6 : decode cX5_goOn 6 = .ok (.getfield 7, 3) := by decide +kernel
theorem dX5_goOn_9 : decode cX5_goOn 9 = .ok (.iload_n 1, 1) := by decide +kernel
theorem dX5_goOn_10 : decode cX5_goOn 10 = .ok (.iconst 3, 1) := by decide +kernel
theorem dX5_goOn_11 : decode cX5_goOn 11 = .ok (.invokestatic 27, 3) := by decide +kernel
theorem dX5_goOn_14 : decode cX5_goOn 14 = .ok (.dup2, 1) := by decide +kernel
theorem dX5_goOn_15 : decode cX5_goOn 15 = .ok (.iaload, 1) := by decide +kernel
theorem dX5_goOn_16 : decode cX5_goOn 16 = .ok (.aload_n 0, 1) := by decide +kernel
theorem dX5_goOn_17 : decode cX5_goOn 17 = .ok (.getfield 7, 3) := by decide +kernel
theorem dX5_goOn_20 : decode cX5_goOn 20 = .ok (.bipush 48, 2) := by decide +kernel
theorem dX5_goOn_22 : decode cX5_goOn 22 = .ok (.iaload, 1) := by decide +kernel
theorem dX5_goOn_23 : decode cX5_goOn 23 = .ok (.iadd, 1) := by decide +kernel
theorem dX5_goOn_24 : decode cX5_goOn 24 = .ok (.iastore, 1) := by decide +kernel
theorem dX5_goOn_25 : decode cX5_goOn 25 = .ok (.aload_n 0, 1) := by decide +kernel
theorem dX5_goOn_26 : decode cX5_goOn 26 = .ok (.getfield 7, 3) := by decide +kernel
theorem dX5_goOn_29 : decode cX5_goOn 29 = .ok (.iload_n 1, 1) := by decide +kernel
theorem dX5_goOn_30 : decode cX5_goOn 30 = .ok (.iconst 3, 1) := by decide +kernel
theorem dX5_goOn_31 : decode cX5_goOn 31 = .ok (.invokestatic 27, 3) := by decide +kernel
theorem dX5_goOn_34 : decode cX5_goOn 34 = .ok (.iaload, 1) := by decide +kernel
theorem dX5_goOn_35 : decode cX5_goOn 35 = .ok (.iload_n 2, 1) := by decide +kernel
theorem dX5_goOn_36 : decode cX5_goOn 36 = .ok (.if_icmp .lt 96, 3) := by decide +kernel
theorem dX5_goOn_39 : decode cX5_goOn 39 = .ok (.aload_n 0, 1) := by decide +kernel
theorem dX5_goOn_40 : decode cX5_goOn 40 = .ok (.getfield 7, 3) := by decide +kernel
theorem dX5_goOn_43 : decode cX5_goOn 43 = .ok (.iload_n 1, 1) := by decide +kernel
theorem dX5_goOn_44 : decode cX5_goOn 44 = .ok (.iconst 2, 1) := by decide +kernel
theorem dX5_goOn_45 : decode cX5_goOn 45 = .ok (.invokestatic 27, 3) := by decide +kernel
theorem dX5_goOn_48 : decode cX5_goOn 48 = .ok (.iconst 1, 1) := by decide +kernel
theorem dX5_goOn_49 : decode cX5_goOn 49 = .ok (.iastore, 1) := by decide +kernel
theorem dX5_goOn_50 : decode cX5_goOn 50 = .ok (.aload_n 0, 1) := by decide +kernel
theorem dX5_goOn_51 : decode cX5_goOn 51 = .ok (.getfield 7, 3) := by decide +kernel
theorem dX5_goOn_54 : decode cX5_goOn 54 = .ok (.iload_n 1, 1) := by decide +kernel
theorem dX5_goOn_55 : decode cX5_goOn 55 = .ok (.bipush 10, 2) := by decide +kernel
theorem dX5_goOn_57 : decode cX5_goOn 57 = .ok (.invokestatic 27, 3) := by decide +kernel
theorem dX5_goOn_60 : decode cX5_goOn 60 = .ok (.aload_n 0, 1) := by decide +kernel
theorem dX5_goOn_61 : decode cX5_goOn 61 = .ok (.getfield 7, 3) := by decide +kernel
theorem dX5_goOn_64 : decode cX5_goOn 64 = .ok (.bipush 52, 2) := by decide +kernel
theorem dX5_goOn_66 : decode cX5_goOn 66 = .ok (.iaload, 1) := by decide +kernel
theorem dX5_goOn_67 : decode cX5_goOn 67 = .ok (.iastore, 1) := by decide +kernel
theorem dX5_goOn_68 : decode cX5_goOn 68 = .ok (.aload_n 0, 1) := by decide +kernel
theorem dX5_goOn_69 : decode cX5_goOn 69 = .ok (.aload_n 0, 1) := by decide +kernel
theorem dX5_goOn_70 : decode cX5_goOn 70 = .ok (.getfield 7, 3) := by decide +kernel
theorem dX5_goOn_73 : decode cX5_goOn 73 = .ok (.iload_n 1, 1) := by decide +kernel
theorem dX5_goOn_74 : decode cX5_goOn 74 = .ok (.bipush 7, 2) := by decide +kernel
theorem dX5_goOn_76 : decode cX5_goOn 76 = .ok (.invokestatic 27, 3) := by decide +kernel
theorem dX5_goOn_79 : decode cX5_goOn 79 = .ok (.iaload, 1) := by decide +kernel
theorem dX5_goOn_80 : decode cX5_goOn 80 = .ok (.aload_n 0, 1) := by decide +kernel
theorem dX5_goOn_81 : decode cX5_goOn 81 = .ok (.iload_n 1, 1) := by decide +kernel
theorem dX5_goOn_82 : decode cX5_goOn 82 = .ok (.iconst 2, 1) := by decide +kernel
theorem dX5_goOn_83 : decode cX5_goOn 83 = .ok (.invokevirtual 89, 3) := by decide +kernel
theorem dX5_goOn_86 : decode cX5_goOn 86 = .ok (.if_icmp .ge 7, 3) := by decide +kernel
theorem dX5_goOn_89 : decode cX5_goOn 89 = .ok (.iconst 1, 1) := by decide +kernel
theorem dX5_goOn_90 : decode cX5_goOn 90 = .ok (.goto 4, 3) := by decide +kernel
theorem dX5_goOn_93 : decode cX5_goOn 93 = .ok (.iconst 0, 1) := by decide +kernel
theorem dX5_goOn_94 : decode cX5_goOn 94 = .ok (.iload_n 1, 1) := by decide +kernel
theorem dX5_goOn_95 : decode cX5_goOn 95 = .ok (.iconst 3, 1) := by decide +kernel
theorem dX5_goOn_96 : decode cX5_goOn 96 = .ok (.iload_n 2, 1) := by decide +kernel
theorem dX5_goOn_97 : decode cX5_goOn 97 = .ok (.invokevirtual 92, 3) := by decide +kernel
theorem dX5_goOn_100 : decode cX5_goOn 100 = .ok (.aload_n 0, 1) := by decide +kernel
theorem dX5_goOn_101 : decode cX5_goOn 101 = .ok (.aload_n 0, 1) := by decide +kernel
theorem dX5_goOn_102 : decode cX5_goOn 102 = .ok (.getfield 7, 3) := by decide +kernel
theorem dX5_goOn_105 : decode cX5_goOn 105 = .ok (.iload_n 1, 1) := by decide +kernel
theorem dX5_goOn_106 : decode cX5_goOn 106 = .ok (.bipush 6, 2) := by decide +kernel
theorem dX5_goOn_108 : decode cX5_goOn 108 = .ok (.invokestatic 27, 3) := by decide +kernel
theorem dX5_goOn_111 : decode cX5_goOn 111 = .ok (.iaload, 1) := by decide +kernel
theorem dX5_goOn_112 : decode cX5_goOn 112 = .ok (.aload_n 0, 1) := by decide +kernel
theorem dX5_goOn_113 : decode cX5_goOn 113 = .ok (.iload_n 1, 1) := by decide +kernel
theorem dX5_goOn_114 : decode cX5_goOn 114 = .ok (.iconst 4, 1) := by decide +kernel
theorem dX5_goOn_115 : decode cX5_goOn 115 = .ok (.invokevirtual 89, 3) := by decide +kernel
theorem dX5_goOn_118 : decode cX5_goOn 118 = .ok (.if_icmp .ge 7, 3) := by decide +kernel
theorem dX5_goOn_121 : decode cX5_goOn 121 = .ok (.iconst 1, 1) := by decide +kernel
theorem dX5_goOn_122 : decode cX5_goOn 122 = .ok (.goto 4, 3) := by decide +kernel
theorem dX5_goOn_125 : decode cX5_goOn 125 = .ok (.iconst 0, 1) := by decide +kernel
theorem dX5_goOn_126 : decode cX5_goOn 126 = .ok (.iload_n 1, 1) := by decide +kernel
theorem dX5_goOn_127 : decode cX5_goOn 127 = .ok (.iconst 4, 1) := by decide +kernel
theorem dX5_goOn_128 : decode cX5_goOn 128 = .ok (.iload_n 2, 1) := by decide +kernel
theorem dX5_goOn_129 : decode cX5_goOn 129 = .ok (.invokevirtual 92, 3) := by decide +kernel
theorem dX5_goOn_132 : decode cX5_goOn 132 = .ok (.return_, 1) := by decide +kernel
theorem dX5_weightsIn_0 : decode cX5_weightsIn 0 = .ok (.iconst 0, 1) := by decide +kernel
theorem dX5_weightsIn_1 : decode cX5_weightsIn 1 = .ok (.istore_n 2, 1) := by decide +kernel
theorem dX5_weightsIn_2 : decode cX5_weightsIn 2 = .ok (.iconst 0, 1) := by decide +kernel
theorem dX5_weightsIn_3 : decode cX5_weightsIn 3 = .ok (.istore_n 3, 1) := by decide +kernel
theorem dX5_weightsIn_4 : decode cX5_weightsIn 4 = .ok (.iload_n 3, 1) := by decide +kernel
theorem dX5_weightsIn_5 : decode cX5_weightsIn 5 = .ok (.aload_n 0, 1) := by decide +kernel
theorem dX5_weightsIn_6 : decode cX5_weightsIn 6 = .ok (.getfield 7, 3) := by decide +kernel
theorem dX5_weightsIn_9 : decode cX5_weightsIn 9 = .ok (.bipush 53, 2) := by decide +kernel
theorem dX5_weightsIn_11 : decode cX5_weightsIn 11 = .ok (.iaload, 1) := by decide +kernel
theorem dX5_weightsIn_12 : decode cX5_weightsIn 12 = .ok (.if_icmp .ge 52, 3) := by decide +kernel
theorem dX5_weightsIn_15 : decode cX5_weightsIn 15 = .ok (.iload_n 2, 1) := by decide +kernel
theorem dX5_weightsIn_16 : decode cX5_weightsIn 16 = .ok (.aload_n 0, 1) := by decide +kernel
theorem dX5_weightsIn_17 : decode cX5_weightsIn 17 = .ok (.iload_n 3, 1) := by decide +kernel
theorem dX5_weightsIn_18 : decode cX5_weightsIn 18 = .ok (.invokevirtual 67, 3) := by decide +kernel
theorem dX5_weightsIn_21 : decode cX5_weightsIn 21 = .ok (.ifCond .eq 34, 3) := by decide +kernel
theorem dX5_weightsIn_24 : decode cX5_weightsIn 24 = .ok (.aload_n 0, 1) := by decide +kernel
theorem dX5_weightsIn_25 : decode cX5_weightsIn 25 = .ok (.aload_n 0, 1) := by decide +kernel
theorem dX5_weightsIn_26 : decode cX5_weightsIn 26 = .ok (.getfield 7, 3) := by decide +kernel
theorem dX5_weightsIn_29 : decode cX5_weightsIn 29 = .ok (.iload_n 3, 1) := by decide +kernel
theorem dX5_weightsIn_30 : decode cX5_weightsIn 30 = .ok (.iconst 3, 1) := by decide +kernel
theorem dX5_weightsIn_31 : decode cX5_weightsIn 31 = .ok (.invokestatic 27, 3) := by decide +kernel
theorem dX5_weightsIn_34 : decode cX5_weightsIn 34 = .ok (.iaload, 1) := by decide +kernel
theorem dX5_weightsIn_35 : decode cX5_weightsIn 35 = .ok (.invokevirtual 96, 3) := by decide +kernel
theorem dX5_weightsIn_38 : decode cX5_weightsIn 38 = .ok (.iload_n 1, 1) := by decide +kernel
theorem dX5_weightsIn_39 : decode cX5_weightsIn 39 = .ok (.if_icmp .ne 16, 3) := by decide +kernel
theorem dX5_weightsIn_42 : decode cX5_weightsIn 42 = .ok (.aload_n 0, 1) := by decide +kernel
theorem dX5_weightsIn_43 : decode cX5_weightsIn 43 = .ok (.getfield 7, 3) := by decide +kernel
theorem dX5_weightsIn_46 : decode cX5_weightsIn 46 = .ok (.iload_n 3, 1) := by decide +kernel
theorem dX5_weightsIn_47 : decode cX5_weightsIn 47 = .ok (.iconst 1, 1) := by decide +kernel
theorem dX5_weightsIn_48 : decode cX5_weightsIn 48 = .ok (.invokestatic 27, 3) := by decide +kernel
theorem dX5_weightsIn_51 : decode cX5_weightsIn 51 = .ok (.iaload, 1) := by decide +kernel
theorem dX5_weightsIn_52 : decode cX5_weightsIn 52 = .ok (.goto 4, 3) := by decide +kernel
theorem dX5_weightsIn_55 : decode cX5_weightsIn 55 = .ok (.iconst 0, 1) := by decide +kernel
theorem dX5_weightsIn_56 : decode cX5_weightsIn 56 = .ok (.iadd, 1) := by decide +kernel
theorem dX5_weightsIn_57 : decode cX5_weightsIn 57 = .ok (.istore_n 2, 1) := by decide +kernel
theorem dX5_weightsIn_58 : decode cX5_weightsIn 58 = .ok (.iinc 3 1, 3) := by decide +kernel
theorem dX5_weightsIn_61 : decode cX5_weightsIn 61 = .ok (.goto (-57), 3) := by decide +kernel
theorem dX5_weightsIn_64 : decode cX5_weightsIn 64 = .ok (.iload_n 2, 1) := by decide +kernel
theorem dX5_weightsIn_65 : decode cX5_weightsIn 65 = .ok (.ireturn, 1) := by decide +kernel
theorem dX5_heat_0 : decode cX5_heat 0 = .ok (.aload_n 0, 1) := by decide +kernel
theorem dX5_heat_1 : decode cX5_heat 1 = .ok (.getfield 7, 3) := by decide +kernel
theorem dX5_heat_4 : decode cX5_heat 4 = .ok (.iload_n 1, 1) := by decide +kernel
theorem dX5_heat_5 : decode cX5_heat 5 = .ok (.iconst 3, 1) := by decide +kernel
theorem dX5_heat_6 : decode cX5_heat 6 = .ok (.invokestatic 16, 3) := by decide +kernel
theorem dX5_heat_9 : decode cX5_heat 9 = .ok (.iaload, 1) := by decide +kernel
theorem dX5_heat_10 : decode cX5_heat 10 = .ok (.aload_n 0, 1) := by decide +kernel
theorem dX5_heat_11 : decode cX5_heat 11 = .ok (.getfield 7, 3) := by decide +kernel
theorem dX5_heat_14 : decode cX5_heat 14 = .ok (.bipush 51, 2) := by decide +kernel
theorem dX5_heat_16 : decode cX5_heat 16 = .ok (.iaload, 1) := by decide +kernel
theorem dX5_heat_17 : decode cX5_heat 17 = .ok (.aload_n 0, 1) := by decide +kernel
theorem dX5_heat_18 : decode cX5_heat 18 = .ok (.iload_n 1, 1) := by decide +kernel
theorem dX5_heat_19 : decode cX5_heat 19 = .ok (.invokevirtual 99, 3) := by decide +kernel
theorem dX5_heat_22 : decode cX5_heat 22 = .ok (.imul, 1) := by decide +kernel
theorem dX5_heat_23 : decode cX5_heat 23 = .ok (.iconst 5, 1) := by decide +kernel
theorem dX5_heat_24 : decode cX5_heat 24 = .ok (.idiv, 1) := by decide +kernel
theorem dX5_heat_25 : decode cX5_heat 25 = .ok (.isub, 1) := by decide +kernel
theorem dX5_heat_26 : decode cX5_heat 26 = .ok (.istore_n 2, 1) := by decide +kernel
theorem dX5_heat_27 : decode cX5_heat 27 = .ok (.aload_n 0, 1) := by decide +kernel
theorem dX5_heat_28 : decode cX5_heat 28 = .ok (.getfield 7, 3) := by decide +kernel
theorem dX5_heat_31 : decode cX5_heat 31 = .ok (.iload_n 1, 1) := by decide +kernel
theorem dX5_heat_32 : decode cX5_heat 32 = .ok (.iconst 1, 1) := by decide +kernel
theorem dX5_heat_33 : decode cX5_heat 33 = .ok (.invokestatic 16, 3) := by decide +kernel
theorem dX5_heat_36 : decode cX5_heat 36 = .ok (.iaload, 1) := by decide +kernel
theorem dX5_heat_37 : decode cX5_heat 37 = .ok (.istore_n 3, 1) := by decide +kernel
theorem dX5_heat_38 : decode cX5_heat 38 = .ok (.aload_n 0, 1) := by decide +kernel
theorem dX5_heat_39 : decode cX5_heat 39 = .ok (.getfield 7, 3) := by decide +kernel
theorem dX5_heat_42 : decode cX5_heat 42 = .ok (.iload_n 1, 1) := by decide +kernel
theorem dX5_heat_43 : decode cX5_heat 43 = .ok (.iconst 2, 1) := by decide +kernel
theorem dX5_heat_44 : decode cX5_heat 44 = .ok (.invokestatic 16, 3) := by decide +kernel
theorem dX5_heat_47 : decode cX5_heat 47 = .ok (.iaload, 1) := by decide +kernel
theorem dX5_heat_48 : decode cX5_heat 48 = .ok (.istore 4, 2) := by decide +kernel
theorem dX5_heat_50 : decode cX5_heat 50 = .ok (.iload_n 2, 1) := by decide +kernel
theorem dX5_heat_51 : decode cX5_heat 51 = .ok (.bipush 20, 2) := by decide +kernel
theorem dX5_heat_53 : decode cX5_heat 53 = .ok (.if_icmp .ge 8, 3) := by decide +kernel
theorem dX5_heat_56 : decode cX5_heat 56 = .ok (.bipush 20, 2) := by decide +kernel
theorem dX5_heat_58 : decode cX5_heat 58 = .ok (.goto 4, 3) := by decide +kernel
theorem dX5_heat_61 : decode cX5_heat 61 = .ok (.iload_n 2, 1) := by decide +kernel
theorem dX5_heat_62 : decode cX5_heat 62 = .ok (.istore_n 2, 1) := by decide +kernel
theorem dX5_heat_63 : decode cX5_heat 63 = .ok (.iload_n 2, 1) := by decide +kernel
theorem dX5_heat_64 : decode cX5_heat 64 = .ok (.iload_n 3, 1) := by decide +kernel
theorem dX5_heat_65 : decode cX5_heat 65 = .ok (.if_icmp .ge 23, 3) := by decide +kernel
theorem dX5_heat_68 : decode cX5_heat 68 = .ok (.iload_n 2, 1) := by decide +kernel
theorem dX5_heat_69 : decode cX5_heat 69 = .ok (.iload 4, 2) := by decide +kernel
theorem dX5_heat_71 : decode cX5_heat 71 = .ok (.iadd, 1) := by decide +kernel
theorem dX5_heat_72 : decode cX5_heat 72 = .ok (.iload_n 3, 1) := by decide +kernel
theorem dX5_heat_73 : decode cX5_heat 73 = .ok (.if_icmp .ge 10, 3) := by decide +kernel
theorem dX5_heat_76 : decode cX5_heat 76 = .ok (.iload_n 2, 1) := by decide +kernel
theorem dX5_heat_77 : decode cX5_heat 77 = .ok (.iload 4, 2) := by decide +kernel
theorem dX5_heat_79 : decode cX5_heat 79 = .ok (.iadd, 1) := by decide +kernel
theorem dX5_heat_80 : decode cX5_heat 80 = .ok (.goto 4, 3) := by decide +kernel
theorem dX5_heat_83 : decode cX5_heat 83 = .ok (.iload_n 3, 1) := by decide +kernel
theorem dX5_heat_84 : decode cX5_heat 84 = .ok (.istore_n 2, 1) := by decide +kernel
theorem dX5_heat_85 : decode cX5_heat 85 = .ok (.goto 20, 3) := by decide +kernel
theorem dX5_heat_88 : decode cX5_heat 88 = .ok (.iload_n 2, 1) := by decide +kernel
theorem dX5_heat_89 : decode cX5_heat 89 = .ok (.iload 4, 2) := by decide +kernel
theorem dX5_heat_91 : decode cX5_heat 91 = .ok (.isub, 1) := by decide +kernel
theorem dX5_heat_92 : decode cX5_heat 92 = .ok (.iload_n 3, 1) := by decide +kernel
theorem dX5_heat_93 : decode cX5_heat 93 = .ok (.if_icmp .le 10, 3) := by decide +kernel
theorem dX5_heat_96 : decode cX5_heat 96 = .ok (.iload_n 2, 1) := by decide +kernel
theorem dX5_heat_97 : decode cX5_heat 97 = .ok (.iload 4, 2) := by decide +kernel
theorem dX5_heat_99 : decode cX5_heat 99 = .ok (.isub, 1) := by decide +kernel
theorem dX5_heat_100 : decode cX5_heat 100 = .ok (.goto 4, 3) := by decide +kernel
theorem dX5_heat_103 : decode cX5_heat 103 = .ok (.iload_n 3, 1) := by decide +kernel
theorem dX5_heat_104 : decode cX5_heat 104 = .ok (.istore_n 2, 1) := by decide +kernel
theorem dX5_heat_105 : decode cX5_heat 105 = .ok (.aload_n 0, 1) := by decide +kernel
theorem dX5_heat_106 : decode cX5_heat 106 = .ok (.getfield 7, 3) := by decide +kernel
theorem dX5_heat_109 : decode cX5_heat 109 = .ok (.iload_n 1, 1) := by decide +kernel
theorem dX5_heat_110 : decode cX5_heat 110 = .ok (.iconst 3, 1) := by decide +kernel
theorem dX5_heat_111 : decode cX5_heat 111 = .ok (.invokestatic 16, 3) := by decide +kernel
theorem dX5_heat_114 : decode cX5_heat 114 = .ok (.iload_n 2, 1) := by decide +kernel
theorem dX5_heat_115 : decode cX5_heat 115 = .ok (.iastore, 1) := by decide +kernel
theorem dX5_heat_116 : decode cX5_heat 116 = .ok (.return_, 1) := by decide +kernel
theorem dX5_warmUp_0 : decode cX5_warmUp 0 = .ok (.aload_n 0, 1) := by decide +kernel
theorem dX5_warmUp_1 : decode cX5_warmUp 1 = .ok (.getfield 7, 3) := by decide +kernel
theorem dX5_warmUp_4 : decode cX5_warmUp 4 = .ok (.iload_n 1, 1) := by decide +kernel
theorem dX5_warmUp_5 : decode cX5_warmUp 5 = .ok (.iconst 3, 1) := by decide +kernel
theorem dX5_warmUp_6 : decode cX5_warmUp 6 = .ok (.invokestatic 27, 3) := by decide +kernel
theorem dX5_warmUp_9 : decode cX5_warmUp 9 = .ok (.iaload, 1) := by decide +kernel
theorem dX5_warmUp_10 : decode cX5_warmUp 10 = .ok (.istore_n 2, 1) := by decide +kernel
theorem dX5_warmUp_11 : decode cX5_warmUp 11 = .ok (.aload_n 0, 1) := by decide +kernel
theorem dX5_warmUp_12 : decode cX5_warmUp 12 = .ok (.getfield 7, 3) := by decide +kernel
theorem dX5_warmUp_15 : decode cX5_warmUp 15 = .ok (.aload_n 0, 1) := by decide +kernel
theorem dX5_warmUp_16 : decode cX5_warmUp 16 = .ok (.iload_n 2, 1) := by decide +kernel
theorem dX5_warmUp_17 : decode cX5_warmUp 17 = .ok (.invokevirtual 96, 3) := by decide +kernel
theorem dX5_warmUp_20 : decode cX5_warmUp 20 = .ok (.iconst 3, 1) := by decide +kernel
theorem dX5_warmUp_21 : decode cX5_warmUp 21 = .ok (.invokestatic 16, 3) := by decide +kernel
theorem dX5_warmUp_24 : decode cX5_warmUp 24 = .ok (.iaload, 1) := by decide +kernel
theorem dX5_warmUp_25 : decode cX5_warmUp 25 = .ok (.aload_n 0, 1) := by decide +kernel
theorem dX5_warmUp_26 : decode cX5_warmUp 26 = .ok (.getfield 7, 3) := by decide +kernel
theorem dX5_warmUp_29 : decode cX5_warmUp 29 = .ok (.iload_n 1, 1) := by decide +kernel
theorem dX5_warmUp_30 : decode cX5_warmUp 30 = .ok (.iconst 4, 1) := by decide +kernel
theorem dX5_warmUp_31 : decode cX5_warmUp 31 = .ok (.invokestatic 27, 3) := by decide +kernel
theorem dX5_warmUp_34 : decode cX5_warmUp 34 = .ok (.iaload, 1) := by decide +kernel
theorem dX5_warmUp_35 : decode cX5_warmUp 35 = .ok (.isub, 1) := by decide +kernel
theorem dX5_warmUp_36 : decode cX5_warmUp 36 = .ok (.aload_n 0, 1) := by decide +kernel
theorem dX5_warmUp_37 : decode cX5_warmUp 37 = .ok (.getfield 7, 3) := by decide +kernel
theorem dX5_warmUp_40 : decode cX5_warmUp 40 = .ok (.iload_n 1, 1) := by decide +kernel
theorem dX5_warmUp_41 : decode cX5_warmUp 41 = .ok (.iconst 1, 1) := by decide +kernel
theorem dX5_warmUp_42 : decode cX5_warmUp 42 = .ok (.invokestatic 27, 3) := by decide +kernel
theorem dX5_warmUp_45 : decode cX5_warmUp 45 = .ok (.iaload, 1) := by decide +kernel
theorem dX5_warmUp_46 : decode cX5_warmUp 46 = .ok (.iconst 1, 1) := by decide +kernel
theorem dX5_warmUp_47 : decode cX5_warmUp 47 = .ok (.iadd, 1) := by decide +kernel
theorem dX5_warmUp_48 : decode cX5_warmUp 48 = .ok (.idiv, 1) := by decide +kernel
theorem dX5_warmUp_49 : decode cX5_warmUp 49 = .ok (.istore_n 3, 1) := by decide +kernel
theorem dX5_warmUp_50 : decode cX5_warmUp 50 = .ok (.aload_n 0, 1) := by decide +kernel
theorem dX5_warmUp_51 : decode cX5_warmUp 51 = .ok (.getfield 7, 3) := by decide +kernel
theorem dX5_warmUp_54 : decode cX5_warmUp 54 = .ok (.iload_n 1, 1) := by decide +kernel
theorem dX5_warmUp_55 : decode cX5_warmUp 55 = .ok (.iconst 4, 1) := by decide +kernel
theorem dX5_warmUp_56 : decode cX5_warmUp 56 = .ok (.invokestatic 27, 3) := by decide +kernel
theorem dX5_warmUp_59 : decode cX5_warmUp 59 = .ok (.iaload, 1) := by decide +kernel
theorem dX5_warmUp_60 : decode cX5_warmUp 60 = .ok (.iload_n 3, 1) := by decide +kernel
theorem dX5_warmUp_61 : decode cX5_warmUp 61 = .ok (.iadd, 1) := by decide +kernel
theorem dX5_warmUp_62 : decode cX5_warmUp 62 = .ok (.istore 4, 2) := by decide +kernel
theorem dX5_warmUp_64 : decode cX5_warmUp 64 = .ok (.aload_n 0, 1) := by decide +kernel
theorem dX5_warmUp_65 : decode cX5_warmUp 65 = .ok (.getfield 7, 3) := by decide +kernel
theorem dX5_warmUp_68 : decode cX5_warmUp 68 = .ok (.iload_n 1, 1) := by decide +kernel
theorem dX5_warmUp_69 : decode cX5_warmUp 69 = .ok (.iconst 5, 1) := by decide +kernel
theorem dX5_warmUp_70 : decode cX5_warmUp 70 = .ok (.invokestatic 27, 3) := by decide +kernel
theorem dX5_warmUp_73 : decode cX5_warmUp 73 = .ok (.iload_n 3, 1) := by decide +kernel
theorem dX5_warmUp_74 : decode cX5_warmUp 74 = .ok (.iastore, 1) := by decide +kernel
theorem dX5_warmUp_75 : decode cX5_warmUp 75 = .ok (.aload_n 0, 1) := by decide +kernel
theorem dX5_warmUp_76 : decode cX5_warmUp 76 = .ok (.getfield 7, 3) := by decide +kernel
theorem dX5_warmUp_79 : decode cX5_warmUp 79 = .ok (.iload_n 1, 1) := by decide +kernel
theorem dX5_warmUp_80 : decode cX5_warmUp 80 = .ok (.iconst 4, 1) := by decide +kernel
theorem dX5_warmUp_81 : decode cX5_warmUp 81 = .ok (.invokestatic 27, 3) := by decide +kernel
theorem dX5_warmUp_84 : decode cX5_warmUp 84 = .ok (.iload 4, 2) := by decide +kernel
theorem dX5_warmUp_86 : decode cX5_warmUp 86 = .ok (.iastore, 1) := by decide +kernel
theorem dX5_warmUp_87 : decode cX5_warmUp 87 = .ok (.aload_n 0, 1) := by decide +kernel
theorem dX5_warmUp_88 : decode cX5_warmUp 88 = .ok (.getfield 7, 3) := by decide +kernel
theorem dX5_warmUp_91 : decode cX5_warmUp 91 = .ok (.iload_n 1, 1) := by decide +kernel
theorem dX5_warmUp_92 : decode cX5_warmUp 92 = .ok (.bipush 6, 2) := by decide +kernel
theorem dX5_warmUp_94 : decode cX5_warmUp 94 = .ok (.invokestatic 27, 3) := by decide +kernel
theorem dX5_warmUp_97 : decode cX5_warmUp 97 = .ok (.iload 4, 2) := by decide +kernel
theorem dX5_warmUp_99 : decode cX5_warmUp 99 = .ok (.aload_n 0, 1) := by decide +kernel
theorem dX5_warmUp_100 : decode cX5_warmUp 100 = .ok (.getfield 7, 3) := by decide +kernel
theorem dX5_warmUp_103 : decode cX5_warmUp 103 = .ok (.iload_n 1, 1) := by decide +kernel
theorem dX5_warmUp_104 : decode cX5_warmUp 104 = .ok (.bipush 6, 2) := by decide +kernel
theorem dX5_warmUp_106 : decode cX5_warmUp 106 = .ok (.invokestatic 27, 3) := by decide +kernel
theorem dX5_warmUp_109 : decode cX5_warmUp 109 = .ok (.iaload, 1) := by decide +kernel
theorem dX5_warmUp_110 : decode cX5_warmUp 110 = .ok (.if_icmp .le 8, 3) := by decide +kernel
theorem dX5_warmUp_113 : decode cX5_warmUp 113 = .ok (.iload 4, 2) := by decide +kernel
theorem dX5_warmUp_115 : decode cX5_warmUp 115 = .ok (.goto 14, 3) := by decide +kernel
theorem dX5_warmUp_118 : decode cX5_warmUp 118 = .ok (.aload_n 0, 1) := by decide +kernel
theorem dX5_warmUp_119 : decode cX5_warmUp 119 = .ok (.getfield 7, 3) := by decide +kernel
theorem dX5_warmUp_122 : decode cX5_warmUp 122 = .ok (.iload_n 1, 1) := by decide +kernel
theorem dX5_warmUp_123 : decode cX5_warmUp 123 = .ok (.bipush 6, 2) := by decide +kernel
theorem dX5_warmUp_125 : decode cX5_warmUp 125 = .ok (.invokestatic 27, 3) := by decide +kernel
theorem dX5_warmUp_128 : decode cX5_warmUp 128 = .ok (.iaload, 1) := by decide +kernel
theorem dX5_warmUp_129 : decode cX5_warmUp 129 = .ok (.iastore, 1) := by decide +kernel
theorem dX5_warmUp_130 : decode cX5_warmUp 130 = .ok (.aload_n 0, 1) := by decide +kernel
theorem dX5_warmUp_131 : decode cX5_warmUp 131 = .ok (.getfield 7, 3) := by decide +kernel
theorem dX5_warmUp_134 : decode cX5_warmUp 134 = .ok (.iload_n 1, 1) := by decide +kernel
theorem dX5_warmUp_135 : decode cX5_warmUp 135 = .ok (.bipush 7, 2) := by decide +kernel
theorem dX5_warmUp_137 : decode cX5_warmUp 137 = .ok (.invokestatic 27, 3) := by decide +kernel
theorem dX5_warmUp_140 : decode cX5_warmUp 140 = .ok (.dup2, 1) := by decide +kernel
theorem dX5_warmUp_141 : decode cX5_warmUp 141 = .ok (.iaload, 1) := by decide +kernel
theorem dX5_warmUp_142 : decode cX5_warmUp 142 = .ok (.iload 4, 2) := by decide +kernel
theorem dX5_warmUp_144 : decode cX5_warmUp 144 = .ok (.aload_n 0, 1) := by decide +kernel
theorem dX5_warmUp_145 : decode cX5_warmUp 145 = .ok (.iload_n 1, 1) := by decide +kernel
theorem dX5_warmUp_146 : decode cX5_warmUp 146 = .ok (.iconst 1, 1) := by decide +kernel
theorem dX5_warmUp_147 : decode cX5_warmUp 147 = .ok (.invokevirtual 89, 3) := by decide +kernel
theorem dX5_warmUp_150 : decode cX5_warmUp 150 = .ok (.if_icmp .le 7, 3) := by decide +kernel
theorem dX5_warmUp_153 : decode cX5_warmUp 153 = .ok (.iconst 1, 1) := by decide +kernel
theorem dX5_warmUp_154 : decode cX5_warmUp 154 = .ok (.goto 4, 3) := by decide +kernel
theorem dX5_warmUp_157 : decode cX5_warmUp 157 = .ok (.iconst 0, 1) := by decide +kernel
theorem dX5_warmUp_158 : decode cX5_warmUp 158 = .ok (.iadd, 1) := by decide +kernel
theorem dX5_warmUp_159 : decode cX5_warmUp 159 = .ok (.iastore, 1) := by decide +kernel
theorem dX5_warmUp_160 : decode cX5_warmUp 160 = .ok (.iload_n 3, 1) := by decide +kernel
theorem dX5_warmUp_161 : decode cX5_warmUp 161 = .ok (.aload_n 0, 1) := by decide +kernel
theorem dX5_warmUp_162 : decode cX5_warmUp 162 = .ok (.iload_n 1, 1) := by decide +kernel
theorem dX5_warmUp_163 : decode cX5_warmUp 163 = .ok (.iconst 0, 1) := by decide +kernel
theorem dX5_warmUp_164 : decode cX5_warmUp 164 = .ok (.invokevirtual 89, 3) := by decide +kernel
theorem dX5_warmUp_167 : decode cX5_warmUp 167 = .ok (.if_icmp .le 7, 3) := by decide +kernel
theorem dX5_warmUp_170 : decode cX5_warmUp 170 = .ok (.iconst 1, 1) := by decide +kernel
theorem dX5_warmUp_171 : decode cX5_warmUp 171 = .ok (.goto 4, 3) := by decide +kernel
theorem dX5_warmUp_174 : decode cX5_warmUp 174 = .ok (.iconst 0, 1) := by decide +kernel
theorem dX5_warmUp_175 : decode cX5_warmUp 175 = .ok (.istore 5, 2) := by decide +kernel
theorem dX5_warmUp_177 : decode cX5_warmUp 177 = .ok (.aload_n 0, 1) := by decide +kernel
theorem dX5_warmUp_178 : decode cX5_warmUp 178 = .ok (.getfield 7, 3) := by decide +kernel
theorem dX5_warmUp_181 : decode cX5_warmUp 181 = .ok (.iload_n 1, 1) := by decide +kernel
theorem dX5_warmUp_182 : decode cX5_warmUp 182 = .ok (.bipush 7, 2) := by decide +kernel
theorem dX5_warmUp_184 : decode cX5_warmUp 184 = .ok (.invokestatic 27, 3) := by decide +kernel
theorem dX5_warmUp_187 : decode cX5_warmUp 187 = .ok (.iaload, 1) := by decide +kernel
theorem dX5_warmUp_188 : decode cX5_warmUp 188 = .ok (.aload_n 0, 1) := by decide +kernel
theorem dX5_warmUp_189 : decode cX5_warmUp 189 = .ok (.iload_n 1, 1) := by decide +kernel
theorem dX5_warmUp_190 : decode cX5_warmUp 190 = .ok (.iconst 3, 1) := by decide +kernel
theorem dX5_warmUp_191 : decode cX5_warmUp 191 = .ok (.invokevirtual 89, 3) := by decide +kernel
theorem dX5_warmUp_194 : decode cX5_warmUp 194 = .ok (.if_icmp .le 7, 3) := by decide +kernel
theorem dX5_warmUp_197 : decode cX5_warmUp 197 = .ok (.iconst 1, 1) := by decide +kernel
theorem dX5_warmUp_198 : decode cX5_warmUp 198 = .ok (.goto 4, 3) := by decide +kernel
theorem dX5_warmUp_201 : decode cX5_warmUp 201 = .ok (.iconst 0, 1) := by decide +kernel
theorem dX5_warmUp_202 : decode cX5_warmUp 202 = .ok (.istore 6, 2) := by decide +kernel
theorem dX5_warmUp_204 : decode cX5_warmUp 204 = .ok (.aload_n 0, 1) := by decide +kernel
theorem dX5_warmUp_205 : decode cX5_warmUp 205 = .ok (.iload 5, 2) := by decide +kernel
theorem dX5_warmUp_207 : decode cX5_warmUp 207 = .ok (.iload_n 1, 1) := by decide +kernel
theorem dX5_warmUp_208 : decode cX5_warmUp 208 = .ok (.iconst 0, 1) := by decide +kernel
theorem dX5_warmUp_209 : decode cX5_warmUp 209 = .ok (.iload_n 2, 1) := by decide +kernel
theorem dX5_warmUp_210 : decode cX5_warmUp 210 = .ok (.invokevirtual 92, 3) := by decide +kernel
theorem dX5_warmUp_213 : decode cX5_warmUp 213 = .ok (.aload_n 0, 1) := by decide +kernel
theorem dX5_warmUp_214 : decode cX5_warmUp 214 = .ok (.iload 6, 2) := by decide +kernel
theorem dX5_warmUp_216 : decode cX5_warmUp 216 = .ok (.iload_n 1, 1) := by decide +kernel
theorem dX5_warmUp_217 : decode cX5_warmUp 217 = .ok (.iconst 1, 1) := by decide +kernel
theorem dX5_warmUp_218 : decode cX5_warmUp 218 = .ok (.iload_n 2, 1) := by decide +kernel
theorem dX5_warmUp_219 : decode cX5_warmUp 219 = .ok (.invokevirtual 92, 3) := by decide +kernel
theorem dX5_warmUp_222 : decode cX5_warmUp 222 = .ok (.aload_n 0, 1) := by decide +kernel
theorem dX5_warmUp_223 : decode cX5_warmUp 223 = .ok (.iload 4, 2) := by decide +kernel
theorem dX5_warmUp_225 : decode cX5_warmUp 225 = .ok (.aload_n 0, 1) := by decide +kernel
theorem dX5_warmUp_226 : decode cX5_warmUp 226 = .ok (.iload_n 1, 1) := by decide +kernel
theorem dX5_warmUp_227 : decode cX5_warmUp 227 = .ok (.iconst 5, 1) := by decide +kernel
theorem dX5_warmUp_228 : decode cX5_warmUp 228 = .ok (.invokevirtual 89, 3) := by decide +kernel
theorem dX5_warmUp_231 : decode cX5_warmUp 231 = .ok (.if_icmp .le 7, 3) := by decide +kernel
theorem dX5_warmUp_234 : decode cX5_warmUp 234 = .ok (.iconst 1, 1) := by decide +kernel
theorem dX5_warmUp_235 : decode cX5_warmUp 235 = .ok (.goto 4, 3) := by decide +kernel
theorem dX5_warmUp_238 : decode cX5_warmUp 238 = .ok (.iconst 0, 1) := by decide +kernel
theorem dX5_warmUp_239 : decode cX5_warmUp 239 = .ok (.iload_n 1, 1) := by decide +kernel
theorem dX5_warmUp_240 : decode cX5_warmUp 240 = .ok (.iconst 2, 1) := by decide +kernel
theorem dX5_warmUp_241 : decode cX5_warmUp 241 = .ok (.iload_n 2, 1) := by decide +kernel
theorem dX5_warmUp_242 : decode cX5_warmUp 242 = .ok (.invokevirtual 92, 3) := by decide +kernel
theorem dX5_warmUp_245 : decode cX5_warmUp 245 = .ok (.aload_n 0, 1) := by decide +kernel
theorem dX5_warmUp_246 : decode cX5_warmUp 246 = .ok (.getfield 7, 3) := by decide +kernel
theorem dX5_warmUp_249 : decode cX5_warmUp 249 = .ok (.iload_n 1, 1) := by decide +kernel
theorem dX5_warmUp_250 : decode cX5_warmUp 250 = .ok (.bipush 9, 2) := by decide +kernel
theorem dX5_warmUp_252 : decode cX5_warmUp 252 = .ok (.invokestatic 27, 3) := by decide +kernel
theorem dX5_warmUp_255 : decode cX5_warmUp 255 = .ok (.iload 5, 2) := by decide +kernel
theorem dX5_warmUp_257 : decode cX5_warmUp 257 = .ok (.ifCond .eq 7, 3) := by decide +kernel
theorem dX5_warmUp_260 : decode cX5_warmUp 260 = .ok (.iconst 1, 1) := by decide +kernel
theorem dX5_warmUp_261 : decode cX5_warmUp 261 = .ok (.goto 13, 3) := by decide +kernel
theorem dX5_warmUp_264 : decode cX5_warmUp 264 = .ok (.iload 6, 2) := by decide +kernel
theorem dX5_warmUp_266 : decode cX5_warmUp 266 = .ok (.ifCond .eq 7, 3) := by decide +kernel
theorem dX5_warmUp_269 : decode cX5_warmUp 269 = .ok (.iconst 2, 1) := by decide +kernel
theorem dX5_warmUp_270 : decode cX5_warmUp 270 = .ok (.goto 4, 3) := by decide +kernel
theorem dX5_warmUp_273 : decode cX5_warmUp 273 = .ok (.iconst 0, 1) := by decide +kernel
theorem dX5_warmUp_274 : decode cX5_warmUp 274 = .ok (.iastore, 1) := by decide +kernel
theorem dX5_warmUp_275 : decode cX5_warmUp 275 = .ok (.return_, 1) := by decide +kernel
theorem dX5_hear_0 : decode cX5_hear 0 = .ok (.iconst 0, 1) := by decide +kernel
theorem dX5_hear_1 : decode cX5_hear 1 = .ok (.istore_n 1, 1) := by decide +kernel
theorem dX5_hear_2 : decode cX5_hear 2 = .ok (.iconst 0, 1) := by decide +kernel
theorem dX5_hear_3 : decode cX5_hear 3 = .ok (.istore_n 2, 1) := by decide +kernel
theorem dX5_hear_4 : decode cX5_hear 4 = .ok (.iload_n 2, 1) := by decide +kernel
theorem dX5_hear_5 : decode cX5_hear 5 = .ok (.aload_n 0, 1) := by decide +kernel
theorem dX5_hear_6 : decode cX5_hear 6 = .ok (.getfield 7, 3) := by decide +kernel
theorem dX5_hear_9 : decode cX5_hear 9 = .ok (.bipush 53, 2) := by decide +kernel
theorem dX5_hear_11 : decode cX5_hear 11 = .ok (.iaload, 1) := by decide +kernel
theorem dX5_hear_12 : decode cX5_hear 12 = .ok (.if_icmp .ge 74, 3) := by decide +kernel
theorem dX5_hear_15 : decode cX5_hear 15 = .ok (.aload_n 0, 1) := by decide +kernel
theorem dX5_hear_16 : decode cX5_hear 16 = .ok (.iload_n 2, 1) := by decide +kernel
theorem dX5_hear_17 : decode cX5_hear 17 = .ok (.invokevirtual 67, 3) := by decide +kernel
theorem dX5_hear_20 : decode cX5_hear 20 = .ok (.ifCond .eq 17, 3) := by decide +kernel
theorem dX5_hear_23 : decode cX5_hear 23 = .ok (.aload_n 0, 1) := by decide +kernel
theorem dX5_hear_24 : decode cX5_hear 24 = .ok (.getfield 7, 3) := by decide +kernel
theorem dX5_hear_27 : decode cX5_hear 27 = .ok (.iload_n 2, 1) := by decide +kernel
theorem dX5_hear_28 : decode cX5_hear 28 = .ok (.bipush 9, 2) := by decide +kernel
theorem dX5_hear_30 : decode cX5_hear 30 = .ok (.invokestatic 27, 3) := by decide +kernel
theorem dX5_hear_33 : decode cX5_hear 33 = .ok (.iaload, 1) := by decide +kernel
theorem dX5_hear_34 : decode cX5_hear 34 = .ok (.goto 4, 3) := by decide +kernel
theorem dX5_hear_37 : decode cX5_hear 37 = .ok (.iconst 0, 1) := by decide +kernel
theorem dX5_hear_38 : decode cX5_hear 38 = .ok (.istore_n 3, 1) := by decide +kernel
theorem dX5_hear_39 : decode cX5_hear 39 = .ok (.iload_n 1, 1) := by decide +kernel
theorem dX5_hear_40 : decode cX5_hear 40 = .ok (.iload_n 3, 1) := by decide +kernel
theorem dX5_hear_41 : decode cX5_hear 41 = .ok (.iconst 1, 1) := by decide +kernel
theorem dX5_hear_42 : decode cX5_hear 42 = .ok (.if_icmp .ne 16, 3) := by decide +kernel
theorem dX5_hear_45 : decode cX5_hear 45 = .ok (.aload_n 0, 1) := by decide +kernel
theorem dX5_hear_46 : decode cX5_hear 46 = .ok (.getfield 7, 3) := by decide +kernel
theorem dX5_hear_49 : decode cX5_hear 49 = .ok (.iload_n 2, 1) := by decide +kernel
theorem dX5_hear_50 : decode cX5_hear 50 = .ok (.iconst 1, 1) := by decide +kernel
theorem dX5_hear_51 : decode cX5_hear 51 = .ok (.invokestatic 27, 3) := by decide +kernel
theorem dX5_hear_54 : decode cX5_hear 54 = .ok (.iaload, 1) := by decide +kernel
theorem dX5_hear_55 : decode cX5_hear 55 = .ok (.goto 23, 3) := by decide +kernel
theorem dX5_hear_58 : decode cX5_hear 58 = .ok (.iload_n 3, 1) := by decide +kernel
theorem dX5_hear_59 : decode cX5_hear 59 = .ok (.iconst 2, 1) := by decide +kernel
theorem dX5_hear_60 : decode cX5_hear 60 = .ok (.if_icmp .ne 17, 3) := by decide +kernel
theorem dX5_hear_63 : decode cX5_hear 63 = .ok (.aload_n 0, 1) := by decide +kernel
theorem dX5_hear_64 : decode cX5_hear 64 = .ok (.getfield 7, 3) := by decide +kernel
theorem dX5_hear_67 : decode cX5_hear 67 = .ok (.iload_n 2, 1) := by decide +kernel
theorem dX5_hear_68 : decode cX5_hear 68 = .ok (.iconst 1, 1) := by decide +kernel
theorem dX5_hear_69 : decode cX5_hear 69 = .ok (.invokestatic 27, 3) := by decide +kernel
theorem dX5_hear_72 : decode cX5_hear 72 = .ok (.iaload, 1) := by decide +kernel
theorem dX5_hear_73 : decode cX5_hear 73 = .ok (.ineg, 1) := by decide +kernel
theorem dX5_hear_74 : decode cX5_hear 74 = .ok (.goto 4, 3) := by decide +kernel
theorem dX5_hear_77 : decode cX5_hear 77 = .ok (.iconst 0, 1) := by decide +kernel
theorem dX5_hear_78 : decode cX5_hear 78 = .ok (.iadd, 1) := by decide +kernel
theorem dX5_hear_79 : decode cX5_hear 79 = .ok (.istore_n 1, 1) := by decide +kernel
theorem dX5_hear_80 : decode cX5_hear 80 = .ok (.iinc 2 1, 3) := by decide +kernel
theorem dX5_hear_83 : decode cX5_hear 83 = .ok (.goto (-79), 3) := by decide +kernel
theorem dX5_hear_86 : decode cX5_hear 86 = .ok (.aload_n 0, 1) := by decide +kernel
theorem dX5_hear_87 : decode cX5_hear 87 = .ok (.getfield 7, 3) := by decide +kernel
theorem dX5_hear_90 : decode cX5_hear 90 = .ok (.bipush 50, 2) := by decide +kernel
theorem dX5_hear_92 : decode cX5_hear 92 = .ok (.iaload, 1) := by decide +kernel
theorem dX5_hear_93 : decode cX5_hear 93 = .ok (.ifCond .ne 4, 3) := by decide +kernel
theorem dX5_hear_96 : decode cX5_hear 96 = .ok (.return_, 1) := by decide +kernel
theorem dX5_hear_97 : decode cX5_hear 97 = .ok (.iload_n 1, 1) := by decide +kernel
theorem dX5_hear_98 : decode cX5_hear 98 = .ok (.aload_n 0, 1) := by decide +kernel
theorem dX5_hear_99 : decode cX5_hear 99 = .ok (.getfield 7, 3) := by decide +kernel
theorem dX5_hear_102 : decode cX5_hear 102 = .ok (.bipush 50, 2) := by decide +kernel
theorem dX5_hear_104 : decode cX5_hear 104 = .ok (.iaload, 1) := by decide +kernel
theorem dX5_hear_105 : decode cX5_hear 105 = .ok (.if_icmp .lt 39, 3) := by decide +kernel
theorem dX5_hear_108 : decode cX5_hear 108 = .ok (.aload_n 0, 1) := by decide +kernel
theorem dX5_hear_109 : decode cX5_hear 109 = .ok (.getfield 7, 3) := by decide +kernel
theorem dX5_hear_112 : decode cX5_hear 112 = .ok (.bipush 48, 2) := by decide +kernel
theorem dX5_hear_114 : decode cX5_hear 114 = .ok (.iaload, 1) := by decide +kernel
theorem dX5_hear_115 : decode cX5_hear 115 = .ok (.iconst 1, 1) := by decide +kernel
theorem dX5_hear_116 : decode cX5_hear 116 = .ok (.if_icmp .le 28, 3) := by decide +kernel
theorem dX5_hear_119 : decode cX5_hear 119 = .ok (.aload_n 0, 1) := by decide +kernel
theorem dX5_hear_120 : decode cX5_hear 120 = .ok (.getfield 7, 3) := by decide +kernel
theorem dX5_hear_123 : decode cX5_hear 123 = .ok (.bipush 48, 2) := by decide +kernel
theorem dX5_hear_125 : decode cX5_hear 125 = .ok (.dup2, 1) := by decide +kernel
theorem dX5_hear_126 : decode cX5_hear 126 = .ok (.iaload, 1) := by decide +kernel
theorem dX5_hear_127 : decode cX5_hear 127 = .ok (.iconst 1, 1) := by decide +kernel
theorem dX5_hear_128 : decode cX5_hear 128 = .ok (.isub, 1) := by decide +kernel
theorem dX5_hear_129 : decode cX5_hear 129 = .ok (.iastore, 1) := by decide +kernel
theorem dX5_hear_130 : decode cX5_hear 130 = .ok (.aload_n 0, 1) := by decide +kernel
theorem dX5_hear_131 : decode cX5_hear 131 = .ok (.getfield 7, 3) := by decide +kernel
theorem dX5_hear_134 : decode cX5_hear 134 = .ok (.bipush 54, 2) := by decide +kernel
theorem dX5_hear_136 : decode cX5_hear 136 = .ok (.dup2, 1) := by decide +kernel
theorem dX5_hear_137 : decode cX5_hear 137 = .ok (.iaload, 1) := by decide +kernel
theorem dX5_hear_138 : decode cX5_hear 138 = .ok (.iconst 1, 1) := by decide +kernel
theorem dX5_hear_139 : decode cX5_hear 139 = .ok (.iadd, 1) := by decide +kernel
theorem dX5_hear_140 : decode cX5_hear 140 = .ok (.iastore, 1) := by decide +kernel
theorem dX5_hear_141 : decode cX5_hear 141 = .ok (.goto 48, 3) := by decide +kernel
theorem dX5_hear_144 : decode cX5_hear 144 = .ok (.iload_n 1, 1) := by decide +kernel
theorem dX5_hear_145 : decode cX5_hear 145 = .ok (.ineg, 1) := by decide +kernel
theorem dX5_hear_146 : decode cX5_hear 146 = .ok (.aload_n 0, 1) := by decide +kernel
theorem dX5_hear_147 : decode cX5_hear 147 = .ok (.getfield 7, 3) := by decide +kernel
theorem dX5_hear_150 : decode cX5_hear 150 = .ok (.bipush 50, 2) := by decide +kernel
theorem dX5_hear_152 : decode cX5_hear 152 = .ok (.iaload, 1) := by decide +kernel
theorem dX5_hear_153 : decode cX5_hear 153 = .ok (.if_icmp .lt 36, 3) := by decide +kernel
theorem dX5_hear_156 : decode cX5_hear 156 = .ok (.aload_n 0, 1) := by decide +kernel
theorem dX5_hear_157 : decode cX5_hear 157 = .ok (.getfield 7, 3) := by decide +kernel
theorem dX5_hear_160 : decode cX5_hear 160 = .ok (.bipush 48, 2) := by decide +kernel
theorem dX5_hear_162 : decode cX5_hear 162 = .ok (.iaload, 1) := by decide +kernel
theorem dX5_hear_163 : decode cX5_hear 163 = .ok (.iconst 3, 1) := by decide +kernel
theorem dX5_hear_164 : decode cX5_hear 164 = .ok (.if_icmp .ge 25, 3) := by decide +kernel
theorem dX5_hear_167 : decode cX5_hear 167 = .ok (.aload_n 0, 1) := by decide +kernel
theorem dX5_hear_168 : decode cX5_hear 168 = .ok (.getfield 7, 3) := by decide +kernel
theorem dX5_hear_171 : decode cX5_hear 171 = .ok (.bipush 48, 2) := by decide +kernel
theorem dX5_hear_173 : decode cX5_hear 173 = .ok (.dup2, 1) := by decide +kernel
theorem dX5_hear_174 : decode cX5_hear 174 = .ok (.iaload, 1) := by decide +kernel
theorem dX5_hear_175 : decode cX5_hear 175 = .ok (.iconst 1, 1) := by decide +kernel
theorem dX5_hear_176 : decode cX5_hear 176 = .ok (.iadd, 1) := by decide +kernel
theorem dX5_hear_177 : decode cX5_hear 177 = .ok (.iastore, 1) := by decide +kernel
theorem dX5_hear_178 : decode cX5_hear 178 = .ok (.aload_n 0, 1) := by decide +kernel
theorem dX5_hear_179 : decode cX5_hear 179 = .ok (.getfield 7, 3) := by decide +kernel
theorem dX5_hear_182 : decode cX5_hear 182 = .ok (.bipush 55, 2) := by decide +kernel
theorem dX5_hear_184 : decode cX5_hear 184 = .ok (.dup2, 1) := by decide +kernel
theorem dX5_hear_185 : decode cX5_hear 185 = .ok (.iaload, 1) := by decide +kernel
theorem dX5_hear_186 : decode cX5_hear 186 = .ok (.iconst 1, 1) := by decide +kernel
theorem dX5_hear_187 : decode cX5_hear 187 = .ok (.iadd, 1) := by decide +kernel
theorem dX5_hear_188 : decode cX5_hear 188 = .ok (.iastore, 1) := by decide +kernel
theorem dX5_hear_189 : decode cX5_hear 189 = .ok (.return_, 1) := by decide +kernel
theorem dX5_tick_0 : decode cX5_tick 0 = .ok (.iconst 0, 1) := by decide +kernel
theorem dX5_tick_1 : decode cX5_tick 1 = .ok (.istore_n 1, 1) := by decide +kernel
theorem dX5_tick_2 : decode cX5_tick 2 = .ok (.iload_n 1, 1) := by decide +kernel
theorem dX5_tick_3 : decode cX5_tick 3 = .ok (.aload_n 0, 1) := by decide +kernel
theorem dX5_tick_4 : decode cX5_tick 4 = .ok (.getfield 7, 3) := by decide +kernel
theorem dX5_tick_7 : decode cX5_tick 7 = .ok (.bipush 53, 2) := by decide +kernel
theorem dX5_tick_9 : decode cX5_tick 9 = .ok (.iaload, 1) := by decide +kernel
theorem dX5_tick_10 : decode cX5_tick 10 = .ok (.if_icmp .ge 22, 3) := by decide +kernel
theorem dX5_tick_13 : decode cX5_tick 13 = .ok (.aload_n 0, 1) := by decide +kernel
theorem dX5_tick_14 : decode cX5_tick 14 = .ok (.iload_n 1, 1) := by decide +kernel
theorem dX5_tick_15 : decode cX5_tick 15 = .ok (.invokevirtual 67, 3) := by decide +kernel
theorem dX5_tick_18 : decode cX5_tick 18 = .ok (.ifCond .eq 8, 3) := by decide +kernel
theorem dX5_tick_21 : decode cX5_tick 21 = .ok (.aload_n 0, 1) := by decide +kernel
theorem dX5_tick_22 : decode cX5_tick 22 = .ok (.iload_n 1, 1) := by decide +kernel
theorem dX5_tick_23 : decode cX5_tick 23 = .ok (.invokevirtual 102, 3) := by decide +kernel
theorem dX5_tick_26 : decode cX5_tick 26 = .ok (.iinc 1 1, 3) := by decide +kernel
theorem dX5_tick_29 : decode cX5_tick 29 = .ok (.goto (-27), 3) := by decide +kernel
theorem dX5_tick_32 : decode cX5_tick 32 = .ok (.iconst 0, 1) := by decide +kernel
theorem dX5_tick_33 : decode cX5_tick 33 = .ok (.istore_n 1, 1) := by decide +kernel
theorem dX5_tick_34 : decode cX5_tick 34 = .ok (.iload_n 1, 1) := by decide +kernel
theorem dX5_tick_35 : decode cX5_tick 35 = .ok (.bipush 6, 2) := by decide +kernel
theorem dX5_tick_37 : decode cX5_tick 37 = .ok (.if_icmp .ge 14, 3) := by decide +kernel
theorem dX5_tick_40 : decode cX5_tick 40 = .ok (.aload_n 0, 1) := by decide +kernel
theorem dX5_tick_41 : decode cX5_tick 41 = .ok (.iload_n 1, 1) := by decide +kernel
theorem dX5_tick_42 : decode cX5_tick 42 = .ok (.invokevirtual 106, 3) := by decide +kernel
theorem dX5_tick_45 : decode cX5_tick 45 = .ok (.iinc 1 1, 3) := by decide +kernel
theorem dX5_tick_48 : decode cX5_tick 48 = .ok (.goto (-14), 3) := by decide +kernel
theorem dX5_tick_51 : decode cX5_tick 51 = .ok (.iconst 0, 1) := by decide +kernel
theorem dX5_tick_52 : decode cX5_tick 52 = .ok (.istore_n 1, 1) := by decide +kernel
theorem dX5_tick_53 : decode cX5_tick 53 = .ok (.iload_n 1, 1) := by decide +kernel
theorem dX5_tick_54 : decode cX5_tick 54 = .ok (.aload_n 0, 1) := by decide +kernel
theorem dX5_tick_55 : decode cX5_tick 55 = .ok (.getfield 7, 3) := by decide +kernel
theorem dX5_tick_58 : decode cX5_tick 58 = .ok (.bipush 53, 2) := by decide +kernel
theorem dX5_tick_60 : decode cX5_tick 60 = .ok (.iaload, 1) := by decide +kernel
theorem dX5_tick_61 : decode cX5_tick 61 = .ok (.if_icmp .ge 22, 3) := by decide +kernel
theorem dX5_tick_64 : decode cX5_tick 64 = .ok (.aload_n 0, 1) := by decide +kernel
theorem dX5_tick_65 : decode cX5_tick 65 = .ok (.iload_n 1, 1) := by decide +kernel
theorem dX5_tick_66 : decode cX5_tick 66 = .ok (.invokevirtual 67, 3) := by decide +kernel
theorem dX5_tick_69 : decode cX5_tick 69 = .ok (.ifCond .eq 8, 3) := by decide +kernel
theorem dX5_tick_72 : decode cX5_tick 72 = .ok (.aload_n 0, 1) := by decide +kernel
theorem dX5_tick_73 : decode cX5_tick 73 = .ok (.iload_n 1, 1) := by decide +kernel
theorem dX5_tick_74 : decode cX5_tick 74 = .ok (.invokevirtual 109, 3) := by decide +kernel
theorem dX5_tick_77 : decode cX5_tick 77 = .ok (.iinc 1 1, 3) := by decide +kernel
theorem dX5_tick_80 : decode cX5_tick 80 = .ok (.goto (-27), 3) := by decide +kernel
theorem dX5_tick_83 : decode cX5_tick 83 = .ok (.aload_n 0, 1) := by decide +kernel
theorem dX5_tick_84 : decode cX5_tick 84 = .ok (.invokevirtual 112, 3) := by decide +kernel
theorem dX5_tick_87 : decode cX5_tick 87 = .ok (.aload_n 0, 1) := by decide +kernel
theorem dX5_tick_88 : decode cX5_tick 88 = .ok (.getfield 7, 3) := by decide +kernel
theorem dX5_tick_91 : decode cX5_tick 91 = .ok (.bipush 52, 2) := by decide +kernel
theorem dX5_tick_93 : decode cX5_tick 93 = .ok (.dup2, 1) := by decide +kernel
theorem dX5_tick_94 : decode cX5_tick 94 = .ok (.iaload, 1) := by decide +kernel
theorem dX5_tick_95 : decode cX5_tick 95 = .ok (.iconst 1, 1) := by decide +kernel
theorem dX5_tick_96 : decode cX5_tick 96 = .ok (.iadd, 1) := by decide +kernel
theorem dX5_tick_97 : decode cX5_tick 97 = .ok (.iastore, 1) := by decide +kernel
theorem dX5_tick_98 : decode cX5_tick 98 = .ok (.return_, 1) := by decide +kernel
theorem dX5_noPass_0 : decode cX5_noPass 0 = .ok (.iload_n 1, 1) := by decide +kernel
theorem dX5_noPass_1 : decode cX5_noPass 1 = .ok (.iconst 1, 1) := by decide +kernel
theorem dX5_noPass_2 : decode cX5_noPass 2 = .ok (.bipush 99, 2) := by decide +kernel
theorem dX5_noPass_4 : decode cX5_noPass 4 = .ok (.invokestatic 23, 3) := by decide +kernel
theorem dX5_noPass_7 : decode cX5_noPass 7 = .ok (.ifCond .ne 9, 3) := by decide +kernel
theorem dX5_noPass_10 : decode cX5_noPass 10 = .ok (.sipush (-1001), 3) := by decide +kernel
theorem dX5_noPass_13 : decode cX5_noPass 13 = .ok (.goto 25, 3) := by decide +kernel
theorem dX5_noPass_16 : decode cX5_noPass 16 = .ok (.aload_n 0, 1) := by decide +kernel
theorem dX5_noPass_17 : decode cX5_noPass 17 = .ok (.getfield 7, 3) := by decide +kernel
theorem dX5_noPass_20 : decode cX5_noPass 20 = .ok (.bipush 52, 2) := by decide +kernel
theorem dX5_noPass_22 : decode cX5_noPass 22 = .ok (.iaload, 1) := by decide +kernel
theorem dX5_noPass_23 : decode cX5_noPass 23 = .ok (.iload_n 1, 1) := by decide +kernel
theorem dX5_noPass_24 : decode cX5_noPass 24 = .ok (.iadd, 1) := by decide +kernel
theorem dX5_noPass_25 : decode cX5_noPass 25 = .ok (.sipush 5000, 3) := by decide +kernel
theorem dX5_noPass_28 : decode cX5_noPass 28 = .ok (.if_icmp .le 9, 3) := by decide +kernel
theorem dX5_noPass_31 : decode cX5_noPass 31 = .ok (.sipush (-1003), 3) := by decide +kernel
theorem dX5_noPass_34 : decode cX5_noPass 34 = .ok (.goto 4, 3) := by decide +kernel
theorem dX5_noPass_37 : decode cX5_noPass 37 = .ok (.iconst 0, 1) := by decide +kernel
theorem dX5_noPass_38 : decode cX5_noPass 38 = .ok (.ireturn, 1) := by decide +kernel
theorem dX5_doPass_0 : decode cX5_doPass 0 = .ok (.aload_n 0, 1) := by decide +kernel
theorem dX5_doPass_1 : decode cX5_doPass 1 = .ok (.iconst 1, 1) := by decide +kernel
theorem dX5_doPass_2 : decode cX5_doPass 2 = .ok (.invokevirtual 45, 3) := by decide +kernel
theorem dX5_doPass_5 : decode cX5_doPass 5 = .ok (.istore_n 2, 1) := by decide +kernel
theorem dX5_doPass_6 : decode cX5_doPass 6 = .ok (.iconst 0, 1) := by decide +kernel
theorem dX5_doPass_7 : decode cX5_doPass 7 = .ok (.istore_n 3, 1) := by decide +kernel
theorem dX5_doPass_8 : decode cX5_doPass 8 = .ok (.iload_n 3, 1) := by decide +kernel
theorem dX5_doPass_9 : decode cX5_doPass 9 = .ok (.iload_n 1, 1) := by decide +kernel
theorem dX5_doPass_10 : decode cX5_doPass 10 = .ok (.if_icmp .ge 13, 3) := by decide +kernel
theorem dX5_doPass_13 : decode cX5_doPass 13 = .ok (.aload_n 0, 1) := by decide +kernel
theorem dX5_doPass_14 : decode cX5_doPass 14 = .ok (.invokevirtual 115, 3) := by decide +kernel
theorem dX5_doPass_17 : decode cX5_doPass 17 = .ok (.iinc 3 1, 3) := by decide +kernel
theorem dX5_doPass_20 : decode cX5_doPass 20 = .ok (.goto (-12), 3) := by decide +kernel
theorem dX5_doPass_23 : decode cX5_doPass 23 = .ok (.aload_n 0, 1) := by decide +kernel
theorem dX5_doPass_24 : decode cX5_doPass 24 = .ok (.iconst 1, 1) := by decide +kernel
theorem dX5_doPass_25 : decode cX5_doPass 25 = .ok (.invokevirtual 45, 3) := by decide +kernel
theorem dX5_doPass_28 : decode cX5_doPass 28 = .ok (.iload_n 2, 1) := by decide +kernel
theorem dX5_doPass_29 : decode cX5_doPass 29 = .ok (.isub, 1) := by decide +kernel
theorem dX5_doPass_30 : decode cX5_doPass 30 = .ok (.ireturn, 1) := by decide +kernel
theorem dX5_pass_0 : decode cX5_pass 0 = .ok (.aload_n 0, 1) := by decide +kernel
theorem dX5_pass_1 : decode cX5_pass 1 = .ok (.iload_n 1, 1) := by decide +kernel
theorem dX5_pass_2 : decode cX5_pass 2 = .ok (.invokevirtual 118, 3) := by decide +kernel
theorem dX5_pass_5 : decode cX5_pass 5 = .ok (.istore_n 2, 1) := by decide +kernel
theorem dX5_pass_6 : decode cX5_pass 6 = .ok (.iload_n 2, 1) := by decide +kernel
theorem dX5_pass_7 : decode cX5_pass 7 = .ok (.ifCond .eq 5, 3) := by decide +kernel
theorem dX5_pass_10 : decode cX5_pass 10 = .ok (.iload_n 2, 1) := by decide +kernel
theorem dX5_pass_11 : decode cX5_pass 11 = .ok (.ireturn, 1) := by decide +kernel
theorem dX5_pass_12 : decode cX5_pass 12 = .ok (.aload_n 0, 1) := by decide +kernel
theorem dX5_pass_13 : decode cX5_pass 13 = .ok (.invokevirtual 38, 3) := by decide +kernel
theorem dX5_pass_16 : decode cX5_pass 16 = .ok (.aload_n 0, 1) := by decide +kernel
theorem dX5_pass_17 : decode cX5_pass 17 = .ok (.iload_n 1, 1) := by decide +kernel
theorem dX5_pass_18 : decode cX5_pass 18 = .ok (.invokevirtual 121, 3) := by decide +kernel
theorem dX5_pass_21 : decode cX5_pass 21 = .ok (.ireturn, 1) := by decide +kernel
theorem dX5_append_0 : decode cX5_append 0 = .ok (.iload_n 1, 1) := by decide +kernel
theorem dX5_append_1 : decode cX5_append 1 = .ok (.iconst 1, 1) := by decide +kernel
theorem dX5_append_2 : decode cX5_append 2 = .ok (.sipush 255, 3) := by decide +kernel
theorem dX5_append_5 : decode cX5_append 5 = .ok (.invokestatic 23, 3) := by decide +kernel
theorem dX5_append_8 : decode cX5_append 8 = .ok (.ifCond .ne 7, 3) := by decide +kernel
theorem dX5_append_11 : decode cX5_append 11 = .ok (.sipush (-1001), 3) := by decide +kernel
theorem dX5_append_14 : decode cX5_append 14 = .ok (.ireturn, 1) := by decide +kernel
theorem dX5_append_15 : decode cX5_append 15 = .ok (.aload_n 0, 1) := by decide +kernel
theorem dX5_append_16 : decode cX5_append 16 = .ok (.getfield 124, 3) := by decide +kernel
theorem dX5_append_19 : decode cX5_append 19 = .ok (.bipush 100, 2) := by decide +kernel
theorem dX5_append_21 : decode cX5_append 21 = .ok (.if_icmp .ne 7, 3) := by decide +kernel
theorem dX5_append_24 : decode cX5_append 24 = .ok (.sipush (-1003), 3) := by decide +kernel
theorem dX5_append_27 : decode cX5_append 27 = .ok (.ireturn, 1) := by decide +kernel
theorem dX5_append_28 : decode cX5_append 28 = .ok (.aload_n 0, 1) := by decide +kernel
theorem dX5_append_29 : decode cX5_append 29 = .ok (.getfield 13, 3) := by decide +kernel
theorem dX5_append_32 : decode cX5_append 32 = .ok (.aload_n 0, 1) := by decide +kernel
theorem dX5_append_33 : decode cX5_append 33 = .ok (.getfield 124, 3) := by decide +kernel
theorem dX5_append_36 : decode cX5_append 36 = .ok (.iload_n 1, 1) := by decide +kernel
theorem dX5_append_37 : decode cX5_append 37 = .ok (.iastore, 1) := by decide +kernel
theorem dX5_append_38 : decode cX5_append 38 = .ok (.aload_n 0, 1) := by decide +kernel
theorem dX5_append_39 : decode cX5_append 39 = .ok (.dup, 1) := by decide +kernel
theorem dX5_append_40 : decode cX5_append 40 = .ok (.getfield 124, 3) := by decide +kernel
theorem dX5_append_43 : decode cX5_append 43 = .ok (.iconst 1, 1) := by decide +kernel
theorem dX5_append_44 : decode cX5_append 44 = .ok (.iadd, 1) := by decide +kernel
theorem dX5_append_45 : decode cX5_append 45 = .ok (.putfield 124, 3) := by decide +kernel
theorem dX5_append_48 : decode cX5_append 48 = .ok (.aload_n 0, 1) := by decide +kernel
theorem dX5_append_49 : decode cX5_append 49 = .ok (.getfield 124, 3) := by decide +kernel
theorem dX5_append_52 : decode cX5_append 52 = .ok (.ireturn, 1) := by decide +kernel
theorem dX5_clearText_0 : decode cX5_clearText 0 = .ok (.aload_n 0, 1) := by decide +kernel
theorem dX5_clearText_1 : decode cX5_clearText 1 = .ok (.getfield 124, 3) := by decide +kernel
theorem dX5_clearText_4 : decode cX5_clearText 4 = .ok (.istore_n 1, 1) := by decide +kernel
theorem dX5_clearText_5 : decode cX5_clearText 5 = .ok (.aload_n 0, 1) := by decide +kernel
theorem dX5_clearText_6 : decode cX5_clearText 6 = .ok (.iconst 0, 1) := by decide +kernel
theorem dX5_clearText_7 : decode cX5_clearText 7 = .ok (.putfield 124, 3) := by decide +kernel
theorem dX5_clearText_10 : decode cX5_clearText 10 = .ok (.iload_n 1, 1) := by decide +kernel
theorem dX5_clearText_11 : decode cX5_clearText 11 = .ok (.ireturn, 1) := by decide +kernel
theorem dX5_code_0 : decode cX5_code 0 = .ok (.aload_n 0, 1) := by decide +kernel
theorem dX5_code_1 : decode cX5_code 1 = .ok (.getfield 127, 3) := by decide +kernel
theorem dX5_code_4 : decode cX5_code 4 = .ok (.aload_n 0, 1) := by decide +kernel
theorem dX5_code_5 : decode cX5_code 5 = .ok (.getfield 124, 3) := by decide +kernel
theorem dX5_code_8 : decode cX5_code 8 = .ok (.if_icmp .ge 15, 3) := by decide +kernel
theorem dX5_code_11 : decode cX5_code 11 = .ok (.aload_n 0, 1) := by decide +kernel
theorem dX5_code_12 : decode cX5_code 12 = .ok (.getfield 13, 3) := by decide +kernel
theorem dX5_code_15 : decode cX5_code 15 = .ok (.aload_n 0, 1) := by decide +kernel
theorem dX5_code_16 : decode cX5_code 16 = .ok (.getfield 127, 3) := by decide +kernel
theorem dX5_code_19 : decode cX5_code 19 = .ok (.iaload, 1) := by decide +kernel
theorem dX5_code_20 : decode cX5_code 20 = .ok (.goto 4, 3) := by decide +kernel
theorem dX5_code_23 : decode cX5_code 23 = .ok (.iconst 0, 1) := by decide +kernel
theorem dX5_code_24 : decode cX5_code 24 = .ok (.ireturn, 1) := by decide +kernel
theorem dX5_isDigit_0 : decode cX5_isDigit 0 = .ok (.aload_n 0, 1) := by decide +kernel
theorem dX5_isDigit_1 : decode cX5_isDigit 1 = .ok (.invokevirtual 130, 3) := by decide +kernel
theorem dX5_isDigit_4 : decode cX5_isDigit 4 = .ok (.bipush 48, 2) := by decide +kernel
theorem dX5_isDigit_6 : decode cX5_isDigit 6 = .ok (.bipush 57, 2) := by decide +kernel
theorem dX5_isDigit_8 : decode cX5_isDigit 8 = .ok (.invokestatic 23, 3) := by decide +kernel
theorem dX5_isDigit_11 : decode cX5_isDigit 11 = .ok (.ireturn, 1) := by decide +kernel
theorem dX5_number_0 : decode cX5_number 0 = .ok (.aload_n 0, 1) := by decide +kernel
theorem dX5_number_1 : decode cX5_number 1 = .ok (.invokevirtual 133, 3) := by decide +kernel
theorem dX5_number_4 : decode cX5_number 4 = .ok (.ifCond .ne 5, 3) := by decide +kernel
theorem dX5_number_7 : decode cX5_number 7 = .ok (.iconst (-1), 1) := by decide +kernel
theorem dX5_number_8 : decode cX5_number 8 = .ok (.ireturn, 1) := by decide +kernel
theorem dX5_number_9 : decode cX5_number 9 = .ok (.aload_n 0, 1) := by decide +kernel
theorem dX5_number_10 : decode cX5_number 10 = .ok (.invokevirtual 130, 3) := by decide +kernel
theorem dX5_number_13 : decode cX5_number 13 = .ok (.bipush 48, 2) := by decide +kernel
theorem dX5_number_15 : decode cX5_number 15 = .ok (.isub, 1) := by decide +kernel
theorem dX5_number_16 : decode cX5_number 16 = .ok (.istore_n 1, 1) := by decide +kernel
theorem dX5_number_17 : decode cX5_number 17 = .ok (.aload_n 0, 1) := by decide +kernel
theorem dX5_number_18 : decode cX5_number 18 = .ok (.dup, 1) := by decide +kernel
theorem dX5_number_19 : decode cX5_number 19 = .ok (.getfield 127, 3) := by decide +kernel
theorem dX5_number_22 : decode cX5_number 22 = .ok (.iconst 1, 1) := by decide +kernel
theorem dX5_number_23 : decode cX5_number 23 = .ok (.iadd, 1) := by decide +kernel
theorem dX5_number_24 : decode cX5_number 24 = .ok (.putfield 127, 3) := by decide +kernel
theorem dX5_number_27 : decode cX5_number 27 = .ok (.iload_n 1, 1) := by decide +kernel
theorem dX5_number_28 : decode cX5_number 28 = .ok (.ifCond .le 33, 3) := by decide +kernel
theorem dX5_number_31 : decode cX5_number 31 = .ok (.aload_n 0, 1) := by decide +kernel
theorem dX5_number_32 : decode cX5_number 32 = .ok (.invokevirtual 133, 3) := by decide +kernel
theorem dX5_number_35 : decode cX5_number 35 = .ok (.ifCond .eq 26, 3) := by decide +kernel
theorem dX5_number_38 : decode cX5_number 38 = .ok (.bipush 10, 2) := by decide +kernel
theorem dX5_number_40 : decode cX5_number 40 = .ok (.iload_n 1, 1) := by decide +kernel
theorem dX5_number_41 : decode cX5_number 41 = .ok (.imul, 1) := by decide +kernel
theorem dX5_number_42 : decode cX5_number 42 = .ok (.aload_n 0, 1) := by decide +kernel
theorem dX5_number_43 : decode cX5_number 43 = .ok (.invokevirtual 130, 3) := by decide +kernel
theorem dX5_number_46 : decode cX5_number 46 = .ok (.iadd, 1) := by decide +kernel
theorem dX5_number_47 : decode cX5_number 47 = .ok (.bipush 48, 2) := by decide +kernel
theorem dX5_number_49 : decode cX5_number 49 = .ok (.isub, 1) := by decide +kernel
theorem dX5_number_50 : decode cX5_number 50 = .ok (.istore_n 1, 1) := by decide +kernel
theorem dX5_number_51 : decode cX5_number 51 = .ok (.aload_n 0, 1) := by decide +kernel
theorem dX5_number_52 : decode cX5_number 52 = .ok (.dup, 1) := by decide +kernel
theorem dX5_number_53 : decode cX5_number 53 = .ok (.getfield 127, 3) := by decide +kernel
theorem dX5_number_56 : decode cX5_number 56 = .ok (.iconst 1, 1) := by decide +kernel
theorem dX5_number_57 : decode cX5_number 57 = .ok (.iadd, 1) := by decide +kernel
theorem dX5_number_58 : decode cX5_number 58 = .ok (.putfield 127, 3) := by decide +kernel
theorem dX5_number_61 : decode cX5_number 61 = .ok (.iload_n 1, 1) := by decide +kernel
theorem dX5_number_62 : decode cX5_number 62 = .ok (.ireturn, 1) := by decide +kernel
theorem dX5_readsOrder_0 : decode cX5_readsOrder 0 = .ok (.aload_n 0, 1) := by decide +kernel
theorem dX5_readsOrder_1 : decode cX5_readsOrder 1 = .ok (.aload_n 0, 1) := by decide +kernel
theorem dX5_readsOrder_2 : decode cX5_readsOrder 2 = .ok (.invokevirtual 130, 3) := by decide +kernel
theorem dX5_readsOrder_5 : decode cX5_readsOrder 5 = .ok (.putfield 136, 3) := by decide +kernel
theorem dX5_readsOrder_8 : decode cX5_readsOrder 8 = .ok (.aload_n 0, 1) := by decide +kernel
theorem dX5_readsOrder_9 : decode cX5_readsOrder 9 = .ok (.getfield 136, 3) := by decide +kernel
theorem dX5_readsOrder_12 : decode cX5_readsOrder 12 = .ok (.bipush 108, 2) := by decide +kernel
theorem dX5_readsOrder_14 : decode cX5_readsOrder 14 = .ok (.if_icmp .eq 32, 3) := by decide +kernel
theorem dX5_readsOrder_17 : decode cX5_readsOrder 17 = .ok (.aload_n 0, 1) := by decide +kernel
theorem dX5_readsOrder_18 : decode cX5_readsOrder 18 = .ok (.getfield 136, 3) := by decide +kernel
theorem dX5_readsOrder_21 : decode cX5_readsOrder 21 = .ok (.bipush 112, 2) := by decide +kernel
theorem dX5_readsOrder_23 : decode cX5_readsOrder 23 = .ok (.if_icmp .eq 23, 3) := by decide +kernel
theorem dX5_readsOrder_26 : decode cX5_readsOrder 26 = .ok (.aload_n 0, 1) := by decide +kernel
theorem dX5_readsOrder_27 : decode cX5_readsOrder 27 = .ok (.getfield 136, 3) := by decide +kernel
theorem dX5_readsOrder_30 : decode cX5_readsOrder 30 = .ok (.bipush 116, 2) := by decide +kernel
theorem dX5_readsOrder_32 : decode cX5_readsOrder 32 = .ok (.if_icmp .eq 14, 3) := by decide +kernel
theorem dX5_readsOrder_35 : decode cX5_readsOrder 35 = .ok (.aload_n 0, 1) := by decide +kernel
theorem dX5_readsOrder_36 : decode cX5_readsOrder 36 = .ok (.getfield 136, 3) := by decide +kernel
theorem dX5_readsOrder_39 : decode cX5_readsOrder 39 = .ok (.bipush 115, 2) := by decide +kernel
theorem dX5_readsOrder_41 : decode cX5_readsOrder 41 = .ok (.if_icmp .eq 5, 3) := by decide +kernel
theorem dX5_readsOrder_44 : decode cX5_readsOrder 44 = .ok (.iconst 0, 1) := by decide +kernel
theorem dX5_readsOrder_45 : decode cX5_readsOrder 45 = .ok (.ireturn, 1) := by decide +kernel
theorem dX5_readsOrder_46 : decode cX5_readsOrder 46 = .ok (.aload_n 0, 1) := by decide +kernel
theorem dX5_readsOrder_47 : decode cX5_readsOrder 47 = .ok (.dup, 1) := by decide +kernel
theorem dX5_readsOrder_48 : decode cX5_readsOrder 48 = .ok (.getfield 127, 3) := by decide +kernel
theorem dX5_readsOrder_51 : decode cX5_readsOrder 51 = .ok (.iconst 1, 1) := by decide +kernel
theorem dX5_readsOrder_52 : decode cX5_readsOrder 52 = .ok (.iadd, 1) := by decide +kernel
theorem dX5_readsOrder_53 : decode cX5_readsOrder 53 = .ok (.putfield 127, 3) := by decide +kernel
theorem dX5_readsOrder_56 : decode cX5_readsOrder 56 = .ok (.aload_n 0, 1) := by decide +kernel
theorem dX5_readsOrder_57 : decode cX5_readsOrder 57 = .ok (.aload_n 0, 1) := by decide +kernel
theorem dX5_readsOrder_58 : decode cX5_readsOrder 58 = .ok (.invokevirtual 139, 3) := by decide +kernel
theorem dX5_readsOrder_61 : decode cX5_readsOrder 61 = .ok (.putfield 142, 3) := by decide +kernel
theorem dX5_readsOrder_64 : decode cX5_readsOrder 64 = .ok (.aload_n 0, 1) := by decide +kernel
theorem dX5_readsOrder_65 : decode cX5_readsOrder 65 = .ok (.getfield 142, 3) := by decide +kernel
theorem dX5_readsOrder_68 : decode cX5_readsOrder 68 = .ok (.ifCond .lt 12, 3) := by decide +kernel
theorem dX5_readsOrder_71 : decode cX5_readsOrder 71 = .ok (.aload_n 0, 1) := by decide +kernel
theorem dX5_readsOrder_72 : decode cX5_readsOrder 72 = .ok (.getfield 136, 3) := by decide +kernel
theorem dX5_readsOrder_75 : decode cX5_readsOrder 75 = .ok (.bipush 108, 2) := by decide +kernel
theorem dX5_readsOrder_77 : decode cX5_readsOrder 77 = .ok (.if_icmp .eq 16, 3) := by decide +kernel
theorem dX5_readsOrder_80 : decode cX5_readsOrder 80 = .ok (.aload_n 0, 1) := by decide +kernel
theorem dX5_readsOrder_81 : decode cX5_readsOrder 81 = .ok (.getfield 142, 3) := by decide +kernel
theorem dX5_readsOrder_84 : decode cX5_readsOrder 84 = .ok (.ifCond .lt 7, 3) := by decide +kernel
theorem dX5_readsOrder_87 : decode cX5_readsOrder 87 = .ok (.iconst 1, 1) := by decide +kernel
theorem dX5_readsOrder_88 : decode cX5_readsOrder 88 = .ok (.goto 4, 3) := by decide +kernel
theorem dX5_readsOrder_91 : decode cX5_readsOrder 91 = .ok (.iconst 0, 1) := by decide +kernel
theorem dX5_readsOrder_92 : decode cX5_readsOrder 92 = .ok (.ireturn, 1) := by decide +kernel
theorem dX5_readsOrder_93 : decode cX5_readsOrder 93 = .ok (.aload_n 0, 1) := by decide +kernel
theorem dX5_readsOrder_94 : decode cX5_readsOrder 94 = .ok (.invokevirtual 130, 3) := by decide +kernel
theorem dX5_readsOrder_97 : decode cX5_readsOrder 97 = .ok (.bipush 44, 2) := by decide +kernel
theorem dX5_readsOrder_99 : decode cX5_readsOrder 99 = .ok (.if_icmp .eq 5, 3) := by decide +kernel
theorem dX5_readsOrder_102 : decode cX5_readsOrder 102 = .ok (.iconst 0, 1) := by decide +kernel
theorem dX5_readsOrder_103 : decode cX5_readsOrder 103 = .ok (.ireturn, 1) := by decide +kernel
theorem dX5_readsOrder_104 : decode cX5_readsOrder 104 = .ok (.aload_n 0, 1) := by decide +kernel
theorem dX5_readsOrder_105 : decode cX5_readsOrder 105 = .ok (.dup, 1) := by decide +kernel
theorem dX5_readsOrder_106 : decode cX5_readsOrder 106 = .ok (.getfield 127, 3) := by decide +kernel
theorem dX5_readsOrder_109 : decode cX5_readsOrder 109 = .ok (.iconst 1, 1) := by decide +kernel
theorem dX5_readsOrder_110 : decode cX5_readsOrder 110 = .ok (.iadd, 1) := by decide +kernel
theorem dX5_readsOrder_111 : decode cX5_readsOrder 111 = .ok (.putfield 127, 3) := by decide +kernel
theorem dX5_readsOrder_114 : decode cX5_readsOrder 114 = .ok (.aload_n 0, 1) := by decide +kernel
theorem dX5_readsOrder_115 : decode cX5_readsOrder 115 = .ok (.aload_n 0, 1) := by decide +kernel
theorem dX5_readsOrder_116 : decode cX5_readsOrder 116 = .ok (.invokevirtual 139, 3) := by decide +kernel
theorem dX5_readsOrder_119 : decode cX5_readsOrder 119 = .ok (.putfield 145, 3) := by decide +kernel
theorem dX5_readsOrder_122 : decode cX5_readsOrder 122 = .ok (.aload_n 0, 1) := by decide +kernel
theorem dX5_readsOrder_123 : decode cX5_readsOrder 123 = .ok (.getfield 145, 3) := by decide +kernel
theorem dX5_readsOrder_126 : decode cX5_readsOrder 126 = .ok (.ifCond .lt 7, 3) := by decide +kernel
theorem dX5_readsOrder_129 : decode cX5_readsOrder 129 = .ok (.iconst 1, 1) := by decide +kernel
theorem dX5_readsOrder_130 : decode cX5_readsOrder 130 = .ok (.goto 4, 3) := by decide +kernel
theorem dX5_readsOrder_133 : decode cX5_readsOrder 133 = .ok (.iconst 0, 1) := by decide +kernel
theorem dX5_readsOrder_134 : decode cX5_readsOrder 134 = .ok (.ireturn, 1) := by decide +kernel
theorem dX5_faultOf_0 : decode cX5_faultOf 0 = .ok (.aload_n 0, 1) := by decide +kernel
theorem dX5_faultOf_1 : decode cX5_faultOf 1 = .ok (.iconst 0, 1) := by decide +kernel
theorem dX5_faultOf_2 : decode cX5_faultOf 2 = .ok (.putfield 127, 3) := by decide +kernel
theorem dX5_faultOf_5 : decode cX5_faultOf 5 = .ok (.aload_n 0, 1) := by decide +kernel
theorem dX5_faultOf_6 : decode cX5_faultOf 6 = .ok (.invokevirtual 148, 3) := by decide +kernel
theorem dX5_faultOf_9 : decode cX5_faultOf 9 = .ok (.istore_n 1, 1) := by decide +kernel
theorem dX5_faultOf_10 : decode cX5_faultOf 10 = .ok (.iload_n 1, 1) := by decide +kernel
theorem dX5_faultOf_11 : decode cX5_faultOf 11 = .ok (.ifCond .eq 67, 3) := by decide +kernel
theorem dX5_faultOf_14 : decode cX5_faultOf 14 = .ok (.aload_n 0, 1) := by decide +kernel
theorem dX5_faultOf_15 : decode cX5_faultOf 15 = .ok (.getfield 127, 3) := by decide +kernel
theorem dX5_faultOf_18 : decode cX5_faultOf 18 = .ok (.aload_n 0, 1) := by decide +kernel
theorem dX5_faultOf_19 : decode cX5_faultOf 19 = .ok (.getfield 124, 3) := by decide +kernel
theorem dX5_faultOf_22 : decode cX5_faultOf 22 = .ok (.if_icmp .ge 56, 3) := by decide +kernel
theorem dX5_faultOf_25 : decode cX5_faultOf 25 = .ok (.aload_n 0, 1) := by decide +kernel
theorem dX5_faultOf_26 : decode cX5_faultOf 26 = .ok (.invokevirtual 130, 3) := by decide +kernel
theorem dX5_faultOf_29 : decode cX5_faultOf 29 = .ok (.bipush 59, 2) := by decide +kernel
theorem dX5_faultOf_31 : decode cX5_faultOf 31 = .ok (.if_icmp .ne 7, 3) := by decide +kernel
theorem dX5_faultOf_34 : decode cX5_faultOf 34 = .ok (.iconst 1, 1) := by decide +kernel
theorem dX5_faultOf_35 : decode cX5_faultOf 35 = .ok (.goto 4, 3) := by decide +kernel
theorem dX5_faultOf_38 : decode cX5_faultOf 38 = .ok (.iconst 0, 1) := by decide +kernel
theorem dX5_faultOf_39 : decode cX5_faultOf 39 = .ok (.istore_n 1, 1) := by decide +kernel
theorem dX5_faultOf_40 : decode cX5_faultOf 40 = .ok (.aload_n 0, 1) := by decide +kernel
theorem dX5_faultOf_41 : decode cX5_faultOf 41 = .ok (.dup, 1) := by decide +kernel
theorem dX5_faultOf_42 : decode cX5_faultOf 42 = .ok (.getfield 127, 3) := by decide +kernel
theorem dX5_faultOf_45 : decode cX5_faultOf 45 = .ok (.iload_n 1, 1) := by decide +kernel
theorem dX5_faultOf_46 : decode cX5_faultOf 46 = .ok (.ifCond .eq 7, 3) := by decide +kernel
theorem dX5_faultOf_49 : decode cX5_faultOf 49 = .ok (.iconst 1, 1) := by decide +kernel
theorem dX5_faultOf_50 : decode cX5_faultOf 50 = .ok (.goto 4, 3) := by decide +kernel
theorem dX5_faultOf_53 : decode cX5_faultOf 53 = .ok (.iconst 0, 1) := by decide +kernel
theorem dX5_faultOf_54 : decode cX5_faultOf 54 = .ok (.iadd, 1) := by decide +kernel
theorem dX5_faultOf_55 : decode cX5_faultOf 55 = .ok (.putfield 127, 3) := by decide +kernel
theorem dX5_faultOf_58 : decode cX5_faultOf 58 = .ok (.iload_n 1, 1) := by decide +kernel
theorem dX5_faultOf_59 : decode cX5_faultOf 59 = .ok (.ifCond .eq 14, 3) := by decide +kernel
theorem dX5_faultOf_62 : decode cX5_faultOf 62 = .ok (.aload_n 0, 1) := by decide +kernel
theorem dX5_faultOf_63 : decode cX5_faultOf 63 = .ok (.invokevirtual 148, 3) := by decide +kernel
theorem dX5_faultOf_66 : decode cX5_faultOf 66 = .ok (.ifCond .eq 7, 3) := by decide +kernel
theorem dX5_faultOf_69 : decode cX5_faultOf 69 = .ok (.iconst 1, 1) := by decide +kernel
theorem dX5_faultOf_70 : decode cX5_faultOf 70 = .ok (.goto 4, 3) := by decide +kernel
theorem dX5_faultOf_73 : decode cX5_faultOf 73 = .ok (.iconst 0, 1) := by decide +kernel
theorem dX5_faultOf_74 : decode cX5_faultOf 74 = .ok (.istore_n 1, 1) := by decide +kernel
theorem dX5_faultOf_75 : decode cX5_faultOf 75 = .ok (.goto (-65), 3) := by decide +kernel
theorem dX5_faultOf_78 : decode cX5_faultOf 78 = .ok (.iload_n 1, 1) := by decide +kernel
theorem dX5_faultOf_79 : decode cX5_faultOf 79 = .ok (.ifCond .eq 7, 3) := by decide +kernel
theorem dX5_faultOf_82 : decode cX5_faultOf 82 = .ok (.iconst (-1), 1) := by decide +kernel
theorem dX5_faultOf_83 : decode cX5_faultOf 83 = .ok (.goto 7, 3) := by decide +kernel
theorem dX5_faultOf_86 : decode cX5_faultOf 86 = .ok (.aload_n 0, 1) := by decide +kernel
theorem dX5_faultOf_87 : decode cX5_faultOf 87 = .ok (.getfield 127, 3) := by decide +kernel
theorem dX5_faultOf_90 : decode cX5_faultOf 90 = .ok (.ireturn, 1) := by decide +kernel
theorem dX5_does_0 : decode cX5_does 0 = .ok (.iconst 0, 1) := by decide +kernel
theorem dX5_does_1 : decode cX5_does 1 = .ok (.istore_n 1, 1) := by decide +kernel
theorem dX5_does_2 : decode cX5_does 2 = .ok (.aload_n 0, 1) := by decide +kernel
theorem dX5_does_3 : decode cX5_does 3 = .ok (.getfield 136, 3) := by decide +kernel
theorem dX5_does_6 : decode cX5_does 6 = .ok (.lookupswitch 122 #[(108, 34), (112, 67), (116, 92)], 34) := by decide +kernel
theorem dX5_does_40 : decode cX5_does 40 = .ok (.aload_n 0, 1) := by decide +kernel
theorem dX5_does_41 : decode cX5_does 41 = .ok (.aload_n 0, 1) := by decide +kernel
theorem dX5_does_42 : decode cX5_does 42 = .ok (.getfield 142, 3) := by decide +kernel
theorem dX5_does_45 : decode cX5_does 45 = .ok (.aload_n 0, 1) := by decide +kernel
theorem dX5_does_46 : decode cX5_does 46 = .ok (.getfield 145, 3) := by decide +kernel
theorem dX5_does_49 : decode cX5_does 49 = .ok (.invokevirtual 77, 3) := by decide +kernel
theorem dX5_does_52 : decode cX5_does 52 = .ok (.istore_n 1, 1) := by decide +kernel
theorem dX5_does_53 : decode cX5_does 53 = .ok (.iload_n 1, 1) := by decide +kernel
theorem dX5_does_54 : decode cX5_does 54 = .ok (.ifCond .ne 118, 3) := by decide +kernel
theorem dX5_does_57 : decode cX5_does 57 = .ok (.aload_n 0, 1) := by decide +kernel
theorem dX5_does_58 : decode cX5_does 58 = .ok (.aload_n 0, 1) := by decide +kernel
theorem dX5_does_59 : decode cX5_does 59 = .ok (.getfield 142, 3) := by decide +kernel
theorem dX5_does_62 : decode cX5_does 62 = .ok (.aload_n 0, 1) := by decide +kernel
theorem dX5_does_63 : decode cX5_does 63 = .ok (.getfield 145, 3) := by decide +kernel
theorem dX5_does_66 : decode cX5_does 66 = .ok (.invokevirtual 80, 3) := by decide +kernel
theorem dX5_does_69 : decode cX5_does 69 = .ok (.pop, 1) := by decide +kernel
theorem dX5_does_70 : decode cX5_does 70 = .ok (.goto 102, 3) := by decide +kernel
theorem dX5_does_73 : decode cX5_does 73 = .ok (.aload_n 0, 1) := by decide +kernel
theorem dX5_does_74 : decode cX5_does 74 = .ok (.aload_n 0, 1) := by decide +kernel
theorem dX5_does_75 : decode cX5_does 75 = .ok (.getfield 142, 3) := by decide +kernel
theorem dX5_does_78 : decode cX5_does 78 = .ok (.invokevirtual 118, 3) := by decide +kernel
theorem dX5_does_81 : decode cX5_does 81 = .ok (.istore_n 1, 1) := by decide +kernel
theorem dX5_does_82 : decode cX5_does 82 = .ok (.iload_n 1, 1) := by decide +kernel
theorem dX5_does_83 : decode cX5_does 83 = .ok (.ifCond .ne 89, 3) := by decide +kernel
theorem dX5_does_86 : decode cX5_does 86 = .ok (.aload_n 0, 1) := by decide +kernel
theorem dX5_does_87 : decode cX5_does 87 = .ok (.aload_n 0, 1) := by decide +kernel
theorem dX5_does_88 : decode cX5_does 88 = .ok (.getfield 142, 3) := by decide +kernel
theorem dX5_does_91 : decode cX5_does 91 = .ok (.invokevirtual 121, 3) := by decide +kernel
theorem dX5_does_94 : decode cX5_does 94 = .ok (.pop, 1) := by decide +kernel
theorem dX5_does_95 : decode cX5_does 95 = .ok (.goto 77, 3) := by decide +kernel
theorem dX5_does_98 : decode cX5_does 98 = .ok (.aload_n 0, 1) := by decide +kernel
theorem dX5_does_99 : decode cX5_does 99 = .ok (.aload_n 0, 1) := by decide +kernel
theorem dX5_does_100 : decode cX5_does 100 = .ok (.getfield 142, 3) := by decide +kernel
theorem dX5_does_103 : decode cX5_does 103 = .ok (.invokevirtual 86, 3) := by decide +kernel
theorem dX5_does_106 : decode cX5_does 106 = .ok (.istore_n 1, 1) := by decide +kernel
theorem dX5_does_107 : decode cX5_does 107 = .ok (.iload_n 1, 1) := by decide +kernel
theorem dX5_does_108 : decode cX5_does 108 = .ok (.ifCond .ne 64, 3) := by decide +kernel
theorem dX5_does_111 : decode cX5_does 111 = .ok (.aload_n 0, 1) := by decide +kernel
theorem dX5_does_112 : decode cX5_does 112 = .ok (.getfield 7, 3) := by decide +kernel
theorem dX5_does_115 : decode cX5_does 115 = .ok (.aload_n 0, 1) := by decide +kernel
theorem dX5_does_116 : decode cX5_does 116 = .ok (.getfield 142, 3) := by decide +kernel
theorem dX5_does_119 : decode cX5_does 119 = .ok (.iconst 2, 1) := by decide +kernel
theorem dX5_does_120 : decode cX5_does 120 = .ok (.invokestatic 27, 3) := by decide +kernel
theorem dX5_does_123 : decode cX5_does 123 = .ok (.iconst 2, 1) := by decide +kernel
theorem dX5_does_124 : decode cX5_does 124 = .ok (.iastore, 1) := by decide +kernel
theorem dX5_does_125 : decode cX5_does 125 = .ok (.goto 47, 3) := by decide +kernel
theorem dX5_does_128 : decode cX5_does 128 = .ok (.iconst 0, 1) := by decide +kernel
theorem dX5_does_129 : decode cX5_does 129 = .ok (.aload_n 0, 1) := by decide +kernel
theorem dX5_does_130 : decode cX5_does 130 = .ok (.getfield 142, 3) := by decide +kernel
theorem dX5_does_133 : decode cX5_does 133 = .ok (.invokestatic 64, 3) := by decide +kernel
theorem dX5_does_136 : decode cX5_does 136 = .ok (.ifCond .eq 7, 3) := by decide +kernel
theorem dX5_does_139 : decode cX5_does 139 = .ok (.iconst 0, 1) := by decide +kernel
theorem dX5_does_140 : decode cX5_does 140 = .ok (.goto 6, 3) := by decide +kernel
theorem dX5_does_143 : decode cX5_does 143 = .ok (.sipush (-1001), 3) := by decide +kernel
theorem dX5_does_146 : decode cX5_does 146 = .ok (.istore_n 1, 1) := by decide +kernel
theorem dX5_does_147 : decode cX5_does 147 = .ok (.aload_n 0, 1) := by decide +kernel
theorem dX5_does_148 : decode cX5_does 148 = .ok (.getfield 7, 3) := by decide +kernel
theorem dX5_does_151 : decode cX5_does 151 = .ok (.bipush 48, 2) := by decide +kernel
theorem dX5_does_153 : decode cX5_does 153 = .ok (.iload_n 1, 1) := by decide +kernel
theorem dX5_does_154 : decode cX5_does 154 = .ok (.ifCond .ne 10, 3) := by decide +kernel
theorem dX5_does_157 : decode cX5_does 157 = .ok (.aload_n 0, 1) := by decide +kernel
theorem dX5_does_158 : decode cX5_does 158 = .ok (.getfield 142, 3) := by decide +kernel
theorem dX5_does_161 : decode cX5_does 161 = .ok (.goto 10, 3) := by decide +kernel
theorem dX5_does_164 : decode cX5_does 164 = .ok (.aload_n 0, 1) := by decide +kernel
theorem dX5_does_165 : decode cX5_does 165 = .ok (.getfield 7, 3) := by decide +kernel
theorem dX5_does_168 : decode cX5_does 168 = .ok (.bipush 48, 2) := by decide +kernel
theorem dX5_does_170 : decode cX5_does 170 = .ok (.iaload, 1) := by decide +kernel
theorem dX5_does_171 : decode cX5_does 171 = .ok (.iastore, 1) := by decide +kernel
theorem dX5_does_172 : decode cX5_does 172 = .ok (.iload_n 1, 1) := by decide +kernel
theorem dX5_does_173 : decode cX5_does 173 = .ok (.ifCond .ne 7, 3) := by decide +kernel
theorem dX5_does_176 : decode cX5_does 176 = .ok (.iconst 1, 1) := by decide +kernel
theorem dX5_does_177 : decode cX5_does 177 = .ok (.goto 4, 3) := by decide +kernel
theorem dX5_does_180 : decode cX5_does 180 = .ok (.iconst 0, 1) := by decide +kernel
theorem dX5_does_181 : decode cX5_does 181 = .ok (.ireturn, 1) := by decide +kernel
theorem dX5_carryOut_0 : decode cX5_carryOut 0 = .ok (.aload_n 0, 1) := by decide +kernel
theorem dX5_carryOut_1 : decode cX5_carryOut 1 = .ok (.invokevirtual 151, 3) := by decide +kernel
theorem dX5_carryOut_4 : decode cX5_carryOut 4 = .ok (.istore_n 1, 1) := by decide +kernel
theorem dX5_carryOut_5 : decode cX5_carryOut 5 = .ok (.iload_n 1, 1) := by decide +kernel
theorem dX5_carryOut_6 : decode cX5_carryOut 6 = .ok (.ifCond .lt 9, 3) := by decide +kernel
theorem dX5_carryOut_9 : decode cX5_carryOut 9 = .ok (.sipush (-2000), 3) := by decide +kernel
