theorem dX2_removeBoard_51 : decode cX2_removeBoard 51 = .ok (.iload_n 2, 1) := by decide +kernel
theorem dX2_removeBoard_52 : decode cX2_removeBoard 52 = .ok (.iconst 3, 1) := by decide +kernel
theorem dX2_removeBoard_53 : decode cX2_removeBoard 53 = .ok (.iadd, 1) := by decide +kernel
theorem dX2_removeBoard_54 : decode cX2_removeBoard 54 = .ok (.sipush (-1009), 3) := by decide +kernel
theorem dX2_removeBoard_57 : decode cX2_removeBoard 57 = .ok (.iastore, 1) := by decide +kernel
theorem dX2_removeBoard_58 : decode cX2_removeBoard 58 = .ok (.iload_n 3, 1) := by decide +kernel
theorem dX2_removeBoard_59 : decode cX2_removeBoard 59 = .ok (.ireturn, 1) := by decide +kernel
theorem dX2_letPass_0 : decode cX2_letPass 0 = .ok (.iload_n 1, 1) := by decide +kernel
theorem dX2_letPass_1 : decode cX2_letPass 1 = .ok (.iconst 1, 1) := by decide +kernel
theorem dX2_letPass_2 : decode cX2_letPass 2 = .ok (.bipush 99, 2) := by decide +kernel
theorem dX2_letPass_4 : decode cX2_letPass 4 = .ok (.invokestatic 55, 3) := by decide +kernel
theorem dX2_letPass_7 : decode cX2_letPass 7 = .ok (.ifCond .ne 7, 3) := by decide +kernel
theorem dX2_letPass_10 : decode cX2_letPass 10 = .ok (.sipush (-1001), 3) := by decide +kernel
theorem dX2_letPass_13 : decode cX2_letPass 13 = .ok (.ireturn, 1) := by decide +kernel
theorem dX2_letPass_14 : decode cX2_letPass 14 = .ok (.aload_n 0, 1) := by decide +kernel
theorem dX2_letPass_15 : decode cX2_letPass 15 = .ok (.getfield 46, 3) := by decide +kernel
theorem dX2_letPass_18 : decode cX2_letPass 18 = .ok (.iload_n 1, 1) := by decide +kernel
theorem dX2_letPass_19 : decode cX2_letPass 19 = .ok (.iadd, 1) := by decide +kernel
theorem dX2_letPass_20 : decode cX2_letPass 20 = .ok (.sipush 5000, 3) := by decide +kernel
theorem dX2_letPass_23 : decode cX2_letPass 23 = .ok (.if_icmp .le 7, 3) := by decide +kernel
theorem dX2_letPass_26 : decode cX2_letPass 26 = .ok (.sipush (-1003), 3) := by decide +kernel
theorem dX2_letPass_29 : decode cX2_letPass 29 = .ok (.ireturn, 1) := by decide +kernel
theorem dX2_letPass_30 : decode cX2_letPass 30 = .ok (.iconst 0, 1) := by decide +kernel
theorem dX2_letPass_31 : decode cX2_letPass 31 = .ok (.istore_n 2, 1) := by decide +kernel
theorem dX2_letPass_32 : decode cX2_letPass 32 = .ok (.iconst 0, 1) := by decide +kernel
theorem dX2_letPass_33 : decode cX2_letPass 33 = .ok (.istore_n 3, 1) := by decide +kernel
theorem dX2_letPass_34 : decode cX2_letPass 34 = .ok (.iload_n 3, 1) := by decide +kernel
theorem dX2_letPass_35 : decode cX2_letPass 35 = .ok (.iload_n 1, 1) := by decide +kernel
theorem dX2_letPass_36 : decode cX2_letPass 36 = .ok (.if_icmp .ge 16, 3) := by decide +kernel
theorem dX2_letPass_39 : decode cX2_letPass 39 = .ok (.iload_n 2, 1) := by decide +kernel
theorem dX2_letPass_40 : decode cX2_letPass 40 = .ok (.aload_n 0, 1) := by decide +kernel
theorem dX2_letPass_41 : decode cX2_letPass 41 = .ok (.invokevirtual 94, 3) := by decide +kernel
theorem dX2_letPass_44 : decode cX2_letPass 44 = .ok (.iadd, 1) := by decide +kernel
theorem dX2_letPass_45 : decode cX2_letPass 45 = .ok (.istore_n 2, 1) := by decide +kernel
theorem dX2_letPass_46 : decode cX2_letPass 46 = .ok (.iinc 3 1, 3) := by decide +kernel
theorem dX2_letPass_49 : decode cX2_letPass 49 = .ok (.goto (-15), 3) := by decide +kernel
theorem dX2_letPass_52 : decode cX2_letPass 52 = .ok (.iload_n 2, 1) := by decide +kernel
theorem dX2_letPass_53 : decode cX2_letPass 53 = .ok (.ireturn, 1) := by decide +kernel
theorem dX2_obey_0 : decode cX2_obey 0 = .ok (.iload_n 1, 1) := by decide +kernel
theorem dX2_obey_1 : decode cX2_obey 1 = .ok (.lookupswitch 54 #[(108, 35), (112, 42), (116, 48)], 35) := by decide +kernel
theorem dX2_obey_36 : decode cX2_obey 36 = .ok (.aload_n 0, 1) := by decide +kernel
theorem dX2_obey_37 : decode cX2_obey 37 = .ok (.iload_n 2, 1) := by decide +kernel
theorem dX2_obey_38 : decode cX2_obey 38 = .ok (.iload_n 3, 1) := by decide +kernel
theorem dX2_obey_39 : decode cX2_obey 39 = .ok (.invokevirtual 97, 3) := by decide +kernel
theorem dX2_obey_42 : decode cX2_obey 42 = .ok (.ireturn, 1) := by decide +kernel
theorem dX2_obey_43 : decode cX2_obey 43 = .ok (.aload_n 0, 1) := by decide +kernel
theorem dX2_obey_44 : decode cX2_obey 44 = .ok (.iload_n 3, 1) := by decide +kernel
theorem dX2_obey_45 : decode cX2_obey 45 = .ok (.invokevirtual 100, 3) := by decide +kernel
theorem dX2_obey_48 : decode cX2_obey 48 = .ok (.ireturn, 1) := by decide +kernel
theorem dX2_obey_49 : decode cX2_obey 49 = .ok (.aload_n 0, 1) := by decide +kernel
theorem dX2_obey_50 : decode cX2_obey 50 = .ok (.iload_n 3, 1) := by decide +kernel
theorem dX2_obey_51 : decode cX2_obey 51 = .ok (.invokevirtual 103, 3) := by decide +kernel
theorem dX2_obey_54 : decode cX2_obey 54 = .ok (.ireturn, 1) := by decide +kernel
theorem dX2_obey_55 : decode cX2_obey 55 = .ok (.aload_n 0, 1) := by decide +kernel
theorem dX2_obey_56 : decode cX2_obey 56 = .ok (.iconst 0, 1) := by decide +kernel
theorem dX2_obey_57 : decode cX2_obey 57 = .ok (.iload_n 3, 1) := by decide +kernel
theorem dX2_obey_58 : decode cX2_obey 58 = .ok (.invokevirtual 106, 3) := by decide +kernel
theorem dX2_obey_61 : decode cX2_obey 61 = .ok (.ireturn, 1) := by decide +kernel
theorem dX2_placeBoard_0 : decode cX2_placeBoard 0 = .ok (.aload_n 0, 1) := by decide +kernel
theorem dX2_placeBoard_1 : decode cX2_placeBoard 1 = .ok (.getfield 42, 3) := by decide +kernel
theorem dX2_placeBoard_4 : decode cX2_placeBoard 4 = .ok (.bipush 22, 2) := by decide +kernel
theorem dX2_placeBoard_6 : decode cX2_placeBoard 6 = .ok (.imul, 1) := by decide +kernel
theorem dX2_placeBoard_7 : decode cX2_placeBoard 7 = .ok (.istore_n 3, 1) := by decide +kernel
theorem dX2_placeBoard_8 : decode cX2_placeBoard 8 = .ok (.iconst 0, 1) := by decide +kernel
theorem dX2_placeBoard_9 : decode cX2_placeBoard 9 = .ok (.istore 4, 2) := by decide +kernel
theorem dX2_placeBoard_11 : decode cX2_placeBoard 11 = .ok (.iload 4, 2) := by decide +kernel
theorem dX2_placeBoard_13 : decode cX2_placeBoard 13 = .ok (.bipush 22, 2) := by decide +kernel
theorem dX2_placeBoard_15 : decode cX2_placeBoard 15 = .ok (.if_icmp .ge 32, 3) := by decide +kernel
theorem dX2_placeBoard_18 : decode cX2_placeBoard 18 = .ok (.aload_n 0, 1) := by decide +kernel
theorem dX2_placeBoard_19 : decode cX2_placeBoard 19 = .ok (.getfield 21, 3) := by decide +kernel
theorem dX2_placeBoard_22 : decode cX2_placeBoard 22 = .ok (.iload_n 3, 1) := by decide +kernel
theorem dX2_placeBoard_23 : decode cX2_placeBoard 23 = .ok (.iload 4, 2) := by decide +kernel
theorem dX2_placeBoard_25 : decode cX2_placeBoard 25 = .ok (.iadd, 1) := by decide +kernel
theorem dX2_placeBoard_26 : decode cX2_placeBoard 26 = .ok (.iload 4, 2) := by decide +kernel
theorem dX2_placeBoard_28 : decode cX2_placeBoard 28 = .ok (.bipush 12, 2) := by decide +kernel
theorem dX2_placeBoard_30 : decode cX2_placeBoard 30 = .ok (.if_icmp .ge 7, 3) := by decide +kernel
theorem dX2_placeBoard_33 : decode cX2_placeBoard 33 = .ok (.iconst 0, 1) := by decide +kernel
theorem dX2_placeBoard_34 : decode cX2_placeBoard 34 = .ok (.goto 6, 3) := by decide +kernel
theorem dX2_placeBoard_37 : decode cX2_placeBoard 37 = .ok (.sipush (-1009), 3) := by decide +kernel
theorem dX2_placeBoard_40 : decode cX2_placeBoard 40 = .ok (.iastore, 1) := by decide +kernel
theorem dX2_placeBoard_41 : decode cX2_placeBoard 41 = .ok (.iinc 4 1, 3) := by decide +kernel
theorem dX2_placeBoard_44 : decode cX2_placeBoard 44 = .ok (.goto (-33), 3) := by decide +kernel
theorem dX2_placeBoard_47 : decode cX2_placeBoard 47 = .ok (.aload_n 0, 1) := by decide +kernel
theorem dX2_placeBoard_48 : decode cX2_placeBoard 48 = .ok (.getfield 21, 3) := by decide +kernel
theorem dX2_placeBoard_51 : decode cX2_placeBoard 51 = .ok (.iload_n 3, 1) := by decide +kernel
theorem dX2_placeBoard_52 : decode cX2_placeBoard 52 = .ok (.iconst 0, 1) := by decide +kernel
theorem dX2_placeBoard_53 : decode cX2_placeBoard 53 = .ok (.iadd, 1) := by decide +kernel
theorem dX2_placeBoard_54 : decode cX2_placeBoard 54 = .ok (.iload_n 1, 1) := by decide +kernel
theorem dX2_placeBoard_55 : decode cX2_placeBoard 55 = .ok (.iastore, 1) := by decide +kernel
theorem dX2_placeBoard_56 : decode cX2_placeBoard 56 = .ok (.aload_n 0, 1) := by decide +kernel
theorem dX2_placeBoard_57 : decode cX2_placeBoard 57 = .ok (.getfield 21, 3) := by decide +kernel
theorem dX2_placeBoard_60 : decode cX2_placeBoard 60 = .ok (.iload_n 3, 1) := by decide +kernel
theorem dX2_placeBoard_61 : decode cX2_placeBoard 61 = .ok (.iconst 1, 1) := by decide +kernel
theorem dX2_placeBoard_62 : decode cX2_placeBoard 62 = .ok (.iadd, 1) := by decide +kernel
theorem dX2_placeBoard_63 : decode cX2_placeBoard 63 = .ok (.iload_n 2, 1) := by decide +kernel
theorem dX2_placeBoard_64 : decode cX2_placeBoard 64 = .ok (.iastore, 1) := by decide +kernel
theorem dX2_placeBoard_65 : decode cX2_placeBoard 65 = .ok (.aload_n 0, 1) := by decide +kernel
theorem dX2_placeBoard_66 : decode cX2_placeBoard 66 = .ok (.getfield 21, 3) := by decide +kernel
theorem dX2_placeBoard_69 : decode cX2_placeBoard 69 = .ok (.iload_n 3, 1) := by decide +kernel
theorem dX2_placeBoard_70 : decode cX2_placeBoard 70 = .ok (.iconst 4, 1) := by decide +kernel
theorem dX2_placeBoard_71 : decode cX2_placeBoard 71 = .ok (.iadd, 1) := by decide +kernel
theorem dX2_placeBoard_72 : decode cX2_placeBoard 72 = .ok (.bipush 20, 2) := by decide +kernel
theorem dX2_placeBoard_74 : decode cX2_placeBoard 74 = .ok (.iastore, 1) := by decide +kernel
theorem dX2_placeBoard_75 : decode cX2_placeBoard 75 = .ok (.aload_n 0, 1) := by decide +kernel
theorem dX2_placeBoard_76 : decode cX2_placeBoard 76 = .ok (.getfield 21, 3) := by decide +kernel
theorem dX2_placeBoard_79 : decode cX2_placeBoard 79 = .ok (.iload_n 3, 1) := by decide +kernel
theorem dX2_placeBoard_80 : decode cX2_placeBoard 80 = .ok (.bipush 6, 2) := by decide +kernel
theorem dX2_placeBoard_82 : decode cX2_placeBoard 82 = .ok (.iadd, 1) := by decide +kernel
theorem dX2_placeBoard_83 : decode cX2_placeBoard 83 = .ok (.bipush 20, 2) := by decide +kernel
theorem dX2_placeBoard_85 : decode cX2_placeBoard 85 = .ok (.iastore, 1) := by decide +kernel
theorem dX2_placeBoard_86 : decode cX2_placeBoard 86 = .ok (.aload_n 0, 1) := by decide +kernel
theorem dX2_placeBoard_87 : decode cX2_placeBoard 87 = .ok (.getfield 21, 3) := by decide +kernel
theorem dX2_placeBoard_90 : decode cX2_placeBoard 90 = .ok (.iload_n 3, 1) := by decide +kernel
theorem dX2_placeBoard_91 : decode cX2_placeBoard 91 = .ok (.bipush 10, 2) := by decide +kernel
theorem dX2_placeBoard_93 : decode cX2_placeBoard 93 = .ok (.iadd, 1) := by decide +kernel
theorem dX2_placeBoard_94 : decode cX2_placeBoard 94 = .ok (.sipush (-1009), 3) := by decide +kernel
theorem dX2_placeBoard_97 : decode cX2_placeBoard 97 = .ok (.iastore, 1) := by decide +kernel
theorem dX2_placeBoard_98 : decode cX2_placeBoard 98 = .ok (.aload_n 0, 1) := by decide +kernel
theorem dX2_placeBoard_99 : decode cX2_placeBoard 99 = .ok (.dup, 1) := by decide +kernel
theorem dX2_placeBoard_100 : decode cX2_placeBoard 100 = .ok (.getfield 42, 3) := by decide +kernel
theorem dX2_placeBoard_103 : decode cX2_placeBoard 103 = .ok (.iconst 1, 1) := by decide +kernel
theorem dX2_placeBoard_104 : decode cX2_placeBoard 104 = .ok (.iadd, 1) := by decide +kernel
theorem dX2_placeBoard_105 : decode cX2_placeBoard 105 = .ok (.putfield 42, 3) := by decide +kernel
theorem dX2_placeBoard_108 : decode cX2_placeBoard 108 = .ok (.aload_n 0, 1) := by decide +kernel
theorem dX2_placeBoard_109 : decode cX2_placeBoard 109 = .ok (.getfield 42, 3) := by decide +kernel
theorem dX2_placeBoard_112 : decode cX2_placeBoard 112 = .ok (.iconst 1, 1) := by decide +kernel
theorem dX2_placeBoard_113 : decode cX2_placeBoard 113 = .ok (.isub, 1) := by decide +kernel
theorem dX2_placeBoard_114 : decode cX2_placeBoard 114 = .ok (.ireturn, 1) := by decide +kernel
theorem dX2_passUntilLeft_0 : decode cX2_passUntilLeft 0 = .ok (.iconst 0, 1) := by decide +kernel
theorem dX2_passUntilLeft_1 : decode cX2_passUntilLeft 1 = .ok (.istore_n 2, 1) := by decide +kernel
theorem dX2_passUntilLeft_2 : decode cX2_passUntilLeft 2 = .ok (.aload_n 0, 1) := by decide +kernel
theorem dX2_passUntilLeft_3 : decode cX2_passUntilLeft 3 = .ok (.iload_n 1, 1) := by decide +kernel
theorem dX2_passUntilLeft_4 : decode cX2_passUntilLeft 4 = .ok (.invokevirtual 91, 3) := by decide +kernel
theorem dX2_passUntilLeft_7 : decode cX2_passUntilLeft 7 = .ok (.ifCond .eq 20, 3) := by decide +kernel
theorem dX2_passUntilLeft_10 : decode cX2_passUntilLeft 10 = .ok (.iload_n 2, 1) := by decide +kernel
theorem dX2_passUntilLeft_11 : decode cX2_passUntilLeft 11 = .ok (.bipush 48, 2) := by decide +kernel
theorem dX2_passUntilLeft_13 : decode cX2_passUntilLeft 13 = .ok (.if_icmp .ge 14, 3) := by decide +kernel
theorem dX2_passUntilLeft_16 : decode cX2_passUntilLeft 16 = .ok (.aload_n 0, 1) := by decide +kernel
theorem dX2_passUntilLeft_17 : decode cX2_passUntilLeft 17 = .ok (.invokevirtual 94, 3) := by decide +kernel
theorem dX2_passUntilLeft_20 : decode cX2_passUntilLeft 20 = .ok (.pop, 1) := by decide +kernel
theorem dX2_passUntilLeft_21 : decode cX2_passUntilLeft 21 = .ok (.iinc 2 1, 3) := by decide +kernel
theorem dX2_passUntilLeft_24 : decode cX2_passUntilLeft 24 = .ok (.goto (-22), 3) := by decide +kernel
theorem dX2_passUntilLeft_27 : decode cX2_passUntilLeft 27 = .ok (.iload_n 2, 1) := by decide +kernel
theorem dX2_passUntilLeft_28 : decode cX2_passUntilLeft 28 = .ok (.ireturn, 1) := by decide +kernel
theorem dX2_passUntilFree_0 : decode cX2_passUntilFree 0 = .ok (.iconst 0, 1) := by decide +kernel
theorem dX2_passUntilFree_1 : decode cX2_passUntilFree 1 = .ok (.istore_n 1, 1) := by decide +kernel
theorem dX2_passUntilFree_2 : decode cX2_passUntilFree 2 = .ok (.aload_n 0, 1) := by decide +kernel
theorem dX2_passUntilFree_3 : decode cX2_passUntilFree 3 = .ok (.invokevirtual 79, 3) := by decide +kernel
theorem dX2_passUntilFree_6 : decode cX2_passUntilFree 6 = .ok (.ifCond .ne 20, 3) := by decide +kernel
theorem dX2_passUntilFree_9 : decode cX2_passUntilFree 9 = .ok (.iload_n 1, 1) := by decide +kernel
theorem dX2_passUntilFree_10 : decode cX2_passUntilFree 10 = .ok (.bipush 48, 2) := by decide +kernel
theorem dX2_passUntilFree_12 : decode cX2_passUntilFree 12 = .ok (.if_icmp .ge 14, 3) := by decide +kernel
theorem dX2_passUntilFree_15 : decode cX2_passUntilFree 15 = .ok (.aload_n 0, 1) := by decide +kernel
theorem dX2_passUntilFree_16 : decode cX2_passUntilFree 16 = .ok (.invokevirtual 94, 3) := by decide +kernel
theorem dX2_passUntilFree_19 : decode cX2_passUntilFree 19 = .ok (.pop, 1) := by decide +kernel
theorem dX2_passUntilFree_20 : decode cX2_passUntilFree 20 = .ok (.iinc 1 1, 3) := by decide +kernel
theorem dX2_passUntilFree_23 : decode cX2_passUntilFree 23 = .ok (.goto (-21), 3) := by decide +kernel
theorem dX2_passUntilFree_26 : decode cX2_passUntilFree 26 = .ok (.iload_n 1, 1) := by decide +kernel
theorem dX2_passUntilFree_27 : decode cX2_passUntilFree 27 = .ok (.ireturn, 1) := by decide +kernel
theorem dX2_letOnePass_0 : decode cX2_letOnePass 0 = .ok (.aload_n 0, 1) := by decide +kernel
theorem dX2_letOnePass_1 : decode cX2_letOnePass 1 = .ok (.invokevirtual 109, 3) := by decide +kernel
theorem dX2_letOnePass_4 : decode cX2_letOnePass 4 = .ok (.istore_n 1, 1) := by decide +kernel
theorem dX2_letOnePass_5 : decode cX2_letOnePass 5 = .ok (.aload_n 0, 1) := by decide +kernel
theorem dX2_letOnePass_6 : decode cX2_letOnePass 6 = .ok (.invokevirtual 112, 3) := by decide +kernel
theorem dX2_letOnePass_9 : decode cX2_letOnePass 9 = .ok (.aload_n 0, 1) := by decide +kernel
theorem dX2_letOnePass_10 : decode cX2_letOnePass 10 = .ok (.invokevirtual 115, 3) := by decide +kernel
theorem dX2_letOnePass_13 : decode cX2_letOnePass 13 = .ok (.aload_n 0, 1) := by decide +kernel
theorem dX2_letOnePass_14 : decode cX2_letOnePass 14 = .ok (.invokevirtual 118, 3) := by decide +kernel
theorem dX2_letOnePass_17 : decode cX2_letOnePass 17 = .ok (.aload_n 0, 1) := by decide +kernel
theorem dX2_letOnePass_18 : decode cX2_letOnePass 18 = .ok (.dup, 1) := by decide +kernel
theorem dX2_letOnePass_19 : decode cX2_letOnePass 19 = .ok (.getfield 46, 3) := by decide +kernel
theorem dX2_letOnePass_22 : decode cX2_letOnePass 22 = .ok (.iconst 1, 1) := by decide +kernel
theorem dX2_letOnePass_23 : decode cX2_letOnePass 23 = .ok (.iadd, 1) := by decide +kernel
theorem dX2_letOnePass_24 : decode cX2_letOnePass 24 = .ok (.putfield 46, 3) := by decide +kernel
theorem dX2_letOnePass_27 : decode cX2_letOnePass 27 = .ok (.iload_n 1, 1) := by decide +kernel
theorem dX2_letOnePass_28 : decode cX2_letOnePass 28 = .ok (.ireturn, 1) := by decide +kernel
theorem dX2_moveBoards_0 : decode cX2_moveBoards 0 = .ok (.aload_n 0, 1) := by decide +kernel
theorem dX2_moveBoards_1 : decode cX2_moveBoards 1 = .ok (.invokevirtual 63, 3) := by decide +kernel
theorem dX2_moveBoards_4 : decode cX2_moveBoards 4 = .ok (.istore_n 1, 1) := by decide +kernel
theorem dX2_moveBoards_5 : decode cX2_moveBoards 5 = .ok (.iconst 0, 1) := by decide +kernel
theorem dX2_moveBoards_6 : decode cX2_moveBoards 6 = .ok (.istore_n 2, 1) := by decide +kernel
theorem dX2_moveBoards_7 : decode cX2_moveBoards 7 = .ok (.iconst 0, 1) := by decide +kernel
theorem dX2_moveBoards_8 : decode cX2_moveBoards 8 = .ok (.istore_n 3, 1) := by decide +kernel
theorem dX2_moveBoards_9 : decode cX2_moveBoards 9 = .ok (.iload_n 3, 1) := by decide +kernel
theorem dX2_moveBoards_10 : decode cX2_moveBoards 10 = .ok (.aload_n 0, 1) := by decide +kernel
theorem dX2_moveBoards_11 : decode cX2_moveBoards 11 = .ok (.getfield 42, 3) := by decide +kernel
theorem dX2_moveBoards_14 : decode cX2_moveBoards 14 = .ok (.if_icmp .ge 91, 3) := by decide +kernel
theorem dX2_moveBoards_17 : decode cX2_moveBoards 17 = .ok (.iload_n 3, 1) := by decide +kernel
theorem dX2_moveBoards_18 : decode cX2_moveBoards 18 = .ok (.bipush 22, 2) := by decide +kernel
theorem dX2_moveBoards_20 : decode cX2_moveBoards 20 = .ok (.imul, 1) := by decide +kernel
theorem dX2_moveBoards_21 : decode cX2_moveBoards 21 = .ok (.istore 4, 2) := by decide +kernel
theorem dX2_moveBoards_23 : decode cX2_moveBoards 23 = .ok (.aload_n 0, 1) := by decide +kernel
theorem dX2_moveBoards_24 : decode cX2_moveBoards 24 = .ok (.getfield 21, 3) := by decide +kernel
theorem dX2_moveBoards_27 : decode cX2_moveBoards 27 = .ok (.iload 4, 2) := by decide +kernel
theorem dX2_moveBoards_29 : decode cX2_moveBoards 29 = .ok (.iconst 2, 1) := by decide +kernel
theorem dX2_moveBoards_30 : decode cX2_moveBoards 30 = .ok (.iadd, 1) := by decide +kernel
theorem dX2_moveBoards_31 : decode cX2_moveBoards 31 = .ok (.iaload, 1) := by decide +kernel
theorem dX2_moveBoards_32 : decode cX2_moveBoards 32 = .ok (.ifCond .ne 67, 3) := by decide +kernel
theorem dX2_moveBoards_35 : decode cX2_moveBoards 35 = .ok (.aload_n 0, 1) := by decide +kernel
theorem dX2_moveBoards_36 : decode cX2_moveBoards 36 = .ok (.getfield 21, 3) := by decide +kernel
theorem dX2_moveBoards_39 : decode cX2_moveBoards 39 = .ok (.iload 4, 2) := by decide +kernel
theorem dX2_moveBoards_41 : decode cX2_moveBoards 41 = .ok (.iconst 3, 1) := by decide +kernel
theorem dX2_moveBoards_42 : decode cX2_moveBoards 42 = .ok (.iadd, 1) := by decide +kernel
theorem dX2_moveBoards_43 : decode cX2_moveBoards 43 = .ok (.iaload, 1) := by decide +kernel
theorem dX2_moveBoards_44 : decode cX2_moveBoards 44 = .ok (.aload_n 0, 1) := by decide +kernel
theorem dX2_moveBoards_45 : decode cX2_moveBoards 45 = .ok (.getfield 18, 3) := by decide +kernel
theorem dX2_moveBoards_48 : decode cX2_moveBoards 48 = .ok (.iconst 0, 1) := by decide +kernel
theorem dX2_moveBoards_49 : decode cX2_moveBoards 49 = .ok (.iaload, 1) := by decide +kernel
theorem dX2_moveBoards_50 : decode cX2_moveBoards 50 = .ok (.iadd, 1) := by decide +kernel
theorem dX2_moveBoards_51 : decode cX2_moveBoards 51 = .ok (.istore 5, 2) := by decide +kernel
theorem dX2_moveBoards_53 : decode cX2_moveBoards 53 = .ok (.iload 5, 2) := by decide +kernel
theorem dX2_moveBoards_55 : decode cX2_moveBoards 55 = .ok (.iload_n 1, 1) := by decide +kernel
theorem dX2_moveBoards_56 : decode cX2_moveBoards 56 = .ok (.if_icmp .ge 33, 3) := by decide +kernel
theorem dX2_moveBoards_59 : decode cX2_moveBoards 59 = .ok (.aload_n 0, 1) := by decide +kernel
theorem dX2_moveBoards_60 : decode cX2_moveBoards 60 = .ok (.getfield 21, 3) := by decide +kernel
theorem dX2_moveBoards_63 : decode cX2_moveBoards 63 = .ok (.iload 4, 2) := by decide +kernel
theorem dX2_moveBoards_65 : decode cX2_moveBoards 65 = .ok (.iconst 3, 1) := by decide +kernel
theorem dX2_moveBoards_66 : decode cX2_moveBoards 66 = .ok (.iadd, 1) := by decide +kernel
theorem dX2_moveBoards_67 : decode cX2_moveBoards 67 = .ok (.iload 5, 2) := by decide +kernel
theorem dX2_moveBoards_69 : decode cX2_moveBoards 69 = .ok (.iastore, 1) := by decide +kernel
theorem dX2_moveBoards_70 : decode cX2_moveBoards 70 = .ok (.aload_n 0, 1) := by decide +kernel
theorem dX2_moveBoards_71 : decode cX2_moveBoards 71 = .ok (.getfield 21, 3) := by decide +kernel
theorem dX2_moveBoards_74 : decode cX2_moveBoards 74 = .ok (.iload 4, 2) := by decide +kernel
theorem dX2_moveBoards_76 : decode cX2_moveBoards 76 = .ok (.bipush 11, 2) := by decide +kernel
theorem dX2_moveBoards_78 : decode cX2_moveBoards 78 = .ok (.iadd, 1) := by decide +kernel
theorem dX2_moveBoards_79 : decode cX2_moveBoards 79 = .ok (.aload_n 0, 1) := by decide +kernel
theorem dX2_moveBoards_80 : decode cX2_moveBoards 80 = .ok (.iload 5, 2) := by decide +kernel
theorem dX2_moveBoards_82 : decode cX2_moveBoards 82 = .ok (.invokevirtual 121, 3) := by decide +kernel
theorem dX2_moveBoards_85 : decode cX2_moveBoards 85 = .ok (.iastore, 1) := by decide +kernel
theorem dX2_moveBoards_86 : decode cX2_moveBoards 86 = .ok (.goto 13, 3) := by decide +kernel
theorem dX2_moveBoards_89 : decode cX2_moveBoards 89 = .ok (.aload_n 0, 1) := by decide +kernel
theorem dX2_moveBoards_90 : decode cX2_moveBoards 90 = .ok (.iload 4, 2) := by decide +kernel
theorem dX2_moveBoards_92 : decode cX2_moveBoards 92 = .ok (.iload_n 1, 1) := by decide +kernel
theorem dX2_moveBoards_93 : decode cX2_moveBoards 93 = .ok (.invokevirtual 124, 3) := by decide +kernel
theorem dX2_moveBoards_96 : decode cX2_moveBoards 96 = .ok (.iinc 2 1, 3) := by decide +kernel
theorem dX2_moveBoards_99 : decode cX2_moveBoards 99 = .ok (.iinc 3 1, 3) := by decide +kernel
theorem dX2_moveBoards_102 : decode cX2_moveBoards 102 = .ok (.goto (-93), 3) := by decide +kernel
theorem dX2_moveBoards_105 : decode cX2_moveBoards 105 = .ok (.iload_n 2, 1) := by decide +kernel
theorem dX2_moveBoards_106 : decode cX2_moveBoards 106 = .ok (.ireturn, 1) := by decide +kernel
theorem dX2_leave_0 : decode cX2_leave 0 = .ok (.aload_n 0, 1) := by decide +kernel
theorem dX2_leave_1 : decode cX2_leave 1 = .ok (.getfield 21, 3) := by decide +kernel
theorem dX2_leave_4 : decode cX2_leave 4 = .ok (.iload_n 1, 1) := by decide +kernel
theorem dX2_leave_5 : decode cX2_leave 5 = .ok (.iconst 0, 1) := by decide +kernel
theorem dX2_leave_6 : decode cX2_leave 6 = .ok (.iadd, 1) := by decide +kernel
theorem dX2_leave_7 : decode cX2_leave 7 = .ok (.iaload, 1) := by decide +kernel
theorem dX2_leave_8 : decode cX2_leave 8 = .ok (.bipush 6, 2) := by decide +kernel
theorem dX2_leave_10 : decode cX2_leave 10 = .ok (.imul, 1) := by decide +kernel
theorem dX2_leave_11 : decode cX2_leave 11 = .ok (.istore_n 3, 1) := by decide +kernel
theorem dX2_leave_12 : decode cX2_leave 12 = .ok (.aload_n 0, 1) := by decide +kernel
theorem dX2_leave_13 : decode cX2_leave 13 = .ok (.getfield 21, 3) := by decide +kernel
theorem dX2_leave_16 : decode cX2_leave 16 = .ok (.iload_n 1, 1) := by decide +kernel
theorem dX2_leave_17 : decode cX2_leave 17 = .ok (.iconst 2, 1) := by decide +kernel
theorem dX2_leave_18 : decode cX2_leave 18 = .ok (.iadd, 1) := by decide +kernel
theorem dX2_leave_19 : decode cX2_leave 19 = .ok (.iconst 1, 1) := by decide +kernel
theorem dX2_leave_20 : decode cX2_leave 20 = .ok (.iastore, 1) := by decide +kernel
theorem dX2_leave_21 : decode cX2_leave 21 = .ok (.aload_n 0, 1) := by decide +kernel
theorem dX2_leave_22 : decode cX2_leave 22 = .ok (.getfield 21, 3) := by decide +kernel
theorem dX2_leave_25 : decode cX2_leave 25 = .ok (.iload_n 1, 1) := by decide +kernel
theorem dX2_leave_26 : decode cX2_leave 26 = .ok (.iconst 3, 1) := by decide +kernel
theorem dX2_leave_27 : decode cX2_leave 27 = .ok (.iadd, 1) := by decide +kernel
theorem dX2_leave_28 : decode cX2_leave 28 = .ok (.sipush (-1009), 3) := by decide +kernel
theorem dX2_leave_31 : decode cX2_leave 31 = .ok (.iastore, 1) := by decide +kernel
theorem dX2_leave_32 : decode cX2_leave 32 = .ok (.aload_n 0, 1) := by decide +kernel
theorem dX2_leave_33 : decode cX2_leave 33 = .ok (.getfield 21, 3) := by decide +kernel
theorem dX2_leave_36 : decode cX2_leave 36 = .ok (.iload_n 1, 1) := by decide +kernel
theorem dX2_leave_37 : decode cX2_leave 37 = .ok (.bipush 10, 2) := by decide +kernel
theorem dX2_leave_39 : decode cX2_leave 39 = .ok (.iadd, 1) := by decide +kernel
theorem dX2_leave_40 : decode cX2_leave 40 = .ok (.aload_n 0, 1) := by decide +kernel
theorem dX2_leave_41 : decode cX2_leave 41 = .ok (.getfield 46, 3) := by decide +kernel
theorem dX2_leave_44 : decode cX2_leave 44 = .ok (.iastore, 1) := by decide +kernel
theorem dX2_leave_45 : decode cX2_leave 45 = .ok (.aload_n 0, 1) := by decide +kernel
theorem dX2_leave_46 : decode cX2_leave 46 = .ok (.getfield 21, 3) := by decide +kernel
theorem dX2_leave_49 : decode cX2_leave 49 = .ok (.iload_n 1, 1) := by decide +kernel
theorem dX2_leave_50 : decode cX2_leave 50 = .ok (.bipush 7, 2) := by decide +kernel
theorem dX2_leave_52 : decode cX2_leave 52 = .ok (.iadd, 1) := by decide +kernel
theorem dX2_leave_53 : decode cX2_leave 53 = .ok (.iaload, 1) := by decide +kernel
theorem dX2_leave_54 : decode cX2_leave 54 = .ok (.aload_n 0, 1) := by decide +kernel
theorem dX2_leave_55 : decode cX2_leave 55 = .ok (.getfield 15, 3) := by decide +kernel
theorem dX2_leave_58 : decode cX2_leave 58 = .ok (.iload_n 3, 1) := by decide +kernel
theorem dX2_leave_59 : decode cX2_leave 59 = .ok (.iconst 2, 1) := by decide +kernel
theorem dX2_leave_60 : decode cX2_leave 60 = .ok (.iadd, 1) := by decide +kernel
theorem dX2_leave_61 : decode cX2_leave 61 = .ok (.iaload, 1) := by decide +kernel
theorem dX2_leave_62 : decode cX2_leave 62 = .ok (.if_icmp .ge 10, 3) := by decide +kernel
theorem dX2_leave_65 : decode cX2_leave 65 = .ok (.aload_n 0, 1) := by decide +kernel
theorem dX2_leave_66 : decode cX2_leave 66 = .ok (.iload_n 1, 1) := by decide +kernel
theorem dX2_leave_67 : decode cX2_leave 67 = .ok (.iconst 3, 1) := by decide +kernel
theorem dX2_leave_68 : decode cX2_leave 68 = .ok (.iload_n 2, 1) := by decide +kernel
theorem dX2_leave_69 : decode cX2_leave 69 = .ok (.invokevirtual 128, 3) := by decide +kernel
theorem dX2_leave_72 : decode cX2_leave 72 = .ok (.aload_n 0, 1) := by decide +kernel
theorem dX2_leave_73 : decode cX2_leave 73 = .ok (.getfield 21, 3) := by decide +kernel
theorem dX2_leave_76 : decode cX2_leave 76 = .ok (.iload_n 1, 1) := by decide +kernel
theorem dX2_leave_77 : decode cX2_leave 77 = .ok (.bipush 6, 2) := by decide +kernel
theorem dX2_leave_79 : decode cX2_leave 79 = .ok (.iadd, 1) := by decide +kernel
theorem dX2_leave_80 : decode cX2_leave 80 = .ok (.iaload, 1) := by decide +kernel
theorem dX2_leave_81 : decode cX2_leave 81 = .ok (.aload_n 0, 1) := by decide +kernel
theorem dX2_leave_82 : decode cX2_leave 82 = .ok (.getfield 15, 3) := by decide +kernel
theorem dX2_leave_85 : decode cX2_leave 85 = .ok (.iload_n 3, 1) := by decide +kernel
theorem dX2_leave_86 : decode cX2_leave 86 = .ok (.iconst 4, 1) := by decide +kernel
theorem dX2_leave_87 : decode cX2_leave 87 = .ok (.iadd, 1) := by decide +kernel
theorem dX2_leave_88 : decode cX2_leave 88 = .ok (.iaload, 1) := by decide +kernel
theorem dX2_leave_89 : decode cX2_leave 89 = .ok (.if_icmp .ge 10, 3) := by decide +kernel
theorem dX2_leave_92 : decode cX2_leave 92 = .ok (.aload_n 0, 1) := by decide +kernel
theorem dX2_leave_93 : decode cX2_leave 93 = .ok (.iload_n 1, 1) := by decide +kernel
theorem dX2_leave_94 : decode cX2_leave 94 = .ok (.iconst 4, 1) := by decide +kernel
theorem dX2_leave_95 : decode cX2_leave 95 = .ok (.iload_n 2, 1) := by decide +kernel
theorem dX2_leave_96 : decode cX2_leave 96 = .ok (.invokevirtual 128, 3) := by decide +kernel
theorem dX2_leave_99 : decode cX2_leave 99 = .ok (.return_, 1) := by decide +kernel
theorem dX2_changeWarmths_0 : decode cX2_changeWarmths 0 = .ok (.aload_n 0, 1) := by decide +kernel
theorem dX2_changeWarmths_1 : decode cX2_changeWarmths 1 = .ok (.invokevirtual 132, 3) := by decide +kernel
theorem dX2_changeWarmths_4 : decode cX2_changeWarmths 4 = .ok (.iconst 0, 1) := by decide +kernel
theorem dX2_changeWarmths_5 : decode cX2_changeWarmths 5 = .ok (.istore_n 1, 1) := by decide +kernel
theorem dX2_changeWarmths_6 : decode cX2_changeWarmths 6 = .ok (.iload_n 1, 1) := by decide +kernel
theorem dX2_changeWarmths_7 : decode cX2_changeWarmths 7 = .ok (.bipush 6, 2) := by decide +kernel
theorem dX2_changeWarmths_9 : decode cX2_changeWarmths 9 = .ok (.if_icmp .ge 104, 3) := by decide +kernel
theorem dX2_changeWarmths_12 : decode cX2_changeWarmths 12 = .ok (.iload_n 1, 1) := by decide +kernel
theorem dX2_changeWarmths_13 : decode cX2_changeWarmths 13 = .ok (.iconst 4, 1) := by decide +kernel
theorem dX2_changeWarmths_14 : decode cX2_changeWarmths 14 = .ok (.imul, 1) := by decide +kernel
theorem dX2_changeWarmths_15 : decode cX2_changeWarmths 15 = .ok (.istore_n 2, 1) := by decide +kernel
theorem dX2_changeWarmths_16 : decode cX2_changeWarmths 16 = .ok (.aload_n 0, 1) := by decide +kernel
theorem dX2_changeWarmths_17 : decode cX2_changeWarmths 17 = .ok (.getfield 9, 3) := by decide +kernel
theorem dX2_changeWarmths_20 : decode cX2_changeWarmths 20 = .ok (.iload_n 2, 1) := by decide +kernel
theorem dX2_changeWarmths_21 : decode cX2_changeWarmths 21 = .ok (.iconst 1, 1) := by decide +kernel
theorem dX2_changeWarmths_22 : decode cX2_changeWarmths 22 = .ok (.iadd, 1) := by decide +kernel
theorem dX2_changeWarmths_23 : decode cX2_changeWarmths 23 = .ok (.iaload, 1) := by decide +kernel
theorem dX2_changeWarmths_24 : decode cX2_changeWarmths 24 = .ok (.istore_n 3, 1) := by decide +kernel
theorem dX2_changeWarmths_25 : decode cX2_changeWarmths 25 = .ok (.aload_n 0, 1) := by decide +kernel
theorem dX2_changeWarmths_26 : decode cX2_changeWarmths 26 = .ok (.getfield 9, 3) := by decide +kernel
theorem dX2_changeWarmths_29 : decode cX2_changeWarmths 29 = .ok (.iload_n 2, 1) := by decide +kernel
theorem dX2_changeWarmths_30 : decode cX2_changeWarmths 30 = .ok (.iconst 2, 1) := by decide +kernel
theorem dX2_changeWarmths_31 : decode cX2_changeWarmths 31 = .ok (.iadd, 1) := by decide +kernel
theorem dX2_changeWarmths_32 : decode cX2_changeWarmths 32 = .ok (.iaload, 1) := by decide +kernel
theorem dX2_changeWarmths_33 : decode cX2_changeWarmths 33 = .ok (.istore 4, 2) := by decide +kernel
theorem dX2_changeWarmths_35 : decode cX2_changeWarmths 35 = .ok (.bipush 20, 2) := by decide +kernel
theorem dX2_changeWarmths_37 : decode cX2_changeWarmths 37 = .ok (.aload_n 0, 1) := by decide +kernel
theorem dX2_changeWarmths_38 : decode cX2_changeWarmths 38 = .ok (.getfield 9, 3) := by decide +kernel
theorem dX2_changeWarmths_41 : decode cX2_changeWarmths 41 = .ok (.iload_n 2, 1) := by decide +kernel
theorem dX2_changeWarmths_42 : decode cX2_changeWarmths 42 = .ok (.iconst 3, 1) := by decide +kernel
theorem dX2_changeWarmths_43 : decode cX2_changeWarmths 43 = .ok (.iadd, 1) := by decide +kernel
theorem dX2_changeWarmths_44 : decode cX2_changeWarmths 44 = .ok (.iaload, 1) := by decide +kernel
theorem dX2_changeWarmths_45 : decode cX2_changeWarmths 45 = .ok (.aload_n 0, 1) := by decide +kernel
theorem dX2_changeWarmths_46 : decode cX2_changeWarmths 46 = .ok (.getfield 18, 3) := by decide +kernel
theorem dX2_changeWarmths_49 : decode cX2_changeWarmths 49 = .ok (.iconst 3, 1) := by decide +kernel
theorem dX2_changeWarmths_50 : decode cX2_changeWarmths 50 = .ok (.iaload, 1) := by decide +kernel
theorem dX2_changeWarmths_51 : decode cX2_changeWarmths 51 = .ok (.aload_n 0, 1) := by decide +kernel
theorem dX2_changeWarmths_52 : decode cX2_changeWarmths 52 = .ok (.getfield 24, 3) := by decide +kernel
theorem dX2_changeWarmths_55 : decode cX2_changeWarmths 55 = .ok (.iload_n 1, 1) := by decide +kernel
theorem dX2_changeWarmths_56 : decode cX2_changeWarmths 56 = .ok (.iaload, 1) := by decide +kernel
theorem dX2_changeWarmths_57 : decode cX2_changeWarmths 57 = .ok (.imul, 1) := by decide +kernel
theorem dX2_changeWarmths_58 : decode cX2_changeWarmths 58 = .ok (.iconst 5, 1) := by decide +kernel
theorem dX2_changeWarmths_59 : decode cX2_changeWarmths 59 = .ok (.idiv, 1) := by decide +kernel
theorem dX2_changeWarmths_60 : decode cX2_changeWarmths 60 = .ok (.isub, 1) := by decide +kernel
theorem dX2_changeWarmths_61 : decode cX2_changeWarmths 61 = .ok (.invokestatic 135, 3) := by decide +kernel
theorem dX2_changeWarmths_64 : decode cX2_changeWarmths 64 = .ok (.istore 5, 2) := by decide +kernel
theorem dX2_changeWarmths_66 : decode cX2_changeWarmths 66 = .ok (.iload 5, 2) := by decide +kernel
theorem dX2_changeWarmths_68 : decode cX2_changeWarmths 68 = .ok (.iload_n 3, 1) := by decide +kernel
theorem dX2_changeWarmths_69 : decode cX2_changeWarmths 69 = .ok (.if_icmp .ge 17, 3) := by decide +kernel
theorem dX2_changeWarmths_72 : decode cX2_changeWarmths 72 = .ok (.iload_n 3, 1) := by decide +kernel
theorem dX2_changeWarmths_73 : decode cX2_changeWarmths 73 = .ok (.iload 5, 2) := by decide +kernel
theorem dX2_changeWarmths_75 : decode cX2_changeWarmths 75 = .ok (.iload 4, 2) := by decide +kernel
theorem dX2_changeWarmths_77 : decode cX2_changeWarmths 77 = .ok (.iadd, 1) := by decide +kernel
theorem dX2_changeWarmths_78 : decode cX2_changeWarmths 78 = .ok (.invokestatic 140, 3) := by decide +kernel
theorem dX2_changeWarmths_81 : decode cX2_changeWarmths 81 = .ok (.istore 5, 2) := by decide +kernel
theorem dX2_changeWarmths_83 : decode cX2_changeWarmths 83 = .ok (.goto 14, 3) := by decide +kernel
theorem dX2_changeWarmths_86 : decode cX2_changeWarmths 86 = .ok (.iload_n 3, 1) := by decide +kernel
theorem dX2_changeWarmths_87 : decode cX2_changeWarmths 87 = .ok (.iload 5, 2) := by decide +kernel
theorem dX2_changeWarmths_89 : decode cX2_changeWarmths 89 = .ok (.iload 4, 2) := by decide +kernel
theorem dX2_changeWarmths_91 : decode cX2_changeWarmths 91 = .ok (.isub, 1) := by decide +kernel
theorem dX2_changeWarmths_92 : decode cX2_changeWarmths 92 = .ok (.invokestatic 135, 3) := by decide +kernel
theorem dX2_changeWarmths_95 : decode cX2_changeWarmths 95 = .ok (.istore 5, 2) := by decide +kernel
theorem dX2_changeWarmths_97 : decode cX2_changeWarmths 97 = .ok (.aload_n 0, 1) := by decide +kernel
theorem dX2_changeWarmths_98 : decode cX2_changeWarmths 98 = .ok (.getfield 9, 3) := by decide +kernel
theorem dX2_changeWarmths_101 : decode cX2_changeWarmths 101 = .ok (.iload_n 2, 1) := by decide +kernel
theorem dX2_changeWarmths_102 : decode cX2_changeWarmths 102 = .ok (.iconst 3, 1) := by decide +kernel
theorem dX2_changeWarmths_103 : decode cX2_changeWarmths 103 = .ok (.iadd, 1) := by decide +kernel
theorem dX2_changeWarmths_104 : decode cX2_changeWarmths 104 = .ok (.iload 5, 2) := by decide +kernel
theorem dX2_changeWarmths_106 : decode cX2_changeWarmths 106 = .ok (.iastore, 1) := by decide +kernel
theorem dX2_changeWarmths_107 : decode cX2_changeWarmths 107 = .ok (.iinc 1 1, 3) := by decide +kernel
theorem dX2_changeWarmths_110 : decode cX2_changeWarmths 110 = .ok (.goto (-104), 3) := by decide +kernel
theorem dX2_changeWarmths_113 : decode cX2_changeWarmths 113 = .ok (.return_, 1) := by decide +kernel
theorem dX2_sumWeights_0 : decode cX2_sumWeights 0 = .ok (.iconst 0, 1) := by decide +kernel
theorem dX2_sumWeights_1 : decode cX2_sumWeights 1 = .ok (.istore_n 1, 1) := by decide +kernel
theorem dX2_sumWeights_2 : decode cX2_sumWeights 2 = .ok (.iload_n 1, 1) := by decide +kernel
theorem dX2_sumWeights_3 : decode cX2_sumWeights 3 = .ok (.bipush 6, 2) := by decide +kernel
theorem dX2_sumWeights_5 : decode cX2_sumWeights 5 = .ok (.if_icmp .ge 16, 3) := by decide +kernel
theorem dX2_sumWeights_8 : decode cX2_sumWeights 8 = .ok (.aload_n 0, 1) := by decide +kernel
theorem dX2_sumWeights_9 : decode cX2_sumWeights 9 = .ok (.getfield 24, 3) := by decide +kernel
theorem dX2_sumWeights_12 : decode cX2_sumWeights 12 = .ok (.iload_n 1, 1) := by decide +kernel
theorem dX2_sumWeights_13 : decode cX2_sumWeights 13 = .ok (.iconst 0, 1) := by decide +kernel
theorem dX2_sumWeights_14 : decode cX2_sumWeights 14 = .ok (.iastore, 1) := by decide +kernel
theorem dX2_sumWeights_15 : decode cX2_sumWeights 15 = .ok (.iinc 1 1, 3) := by decide +kernel
theorem dX2_sumWeights_18 : decode cX2_sumWeights 18 = .ok (.goto (-16), 3) := by decide +kernel
theorem dX2_sumWeights_21 : decode cX2_sumWeights 21 = .ok (.iconst 0, 1) := by decide +kernel
theorem dX2_sumWeights_22 : decode cX2_sumWeights 22 = .ok (.istore_n 1, 1) := by decide +kernel
theorem dX2_sumWeights_23 : decode cX2_sumWeights 23 = .ok (.iload_n 1, 1) := by decide +kernel
theorem dX2_sumWeights_24 : decode cX2_sumWeights 24 = .ok (.aload_n 0, 1) := by decide +kernel
theorem dX2_sumWeights_25 : decode cX2_sumWeights 25 = .ok (.getfield 42, 3) := by decide +kernel
theorem dX2_sumWeights_28 : decode cX2_sumWeights 28 = .ok (.if_icmp .ge 50, 3) := by decide +kernel
theorem dX2_sumWeights_31 : decode cX2_sumWeights 31 = .ok (.iload_n 1, 1) := by decide +kernel
theorem dX2_sumWeights_32 : decode cX2_sumWeights 32 = .ok (.bipush 22, 2) := by decide +kernel
theorem dX2_sumWeights_34 : decode cX2_sumWeights 34 = .ok (.imul, 1) := by decide +kernel
theorem dX2_sumWeights_35 : decode cX2_sumWeights 35 = .ok (.istore_n 2, 1) := by decide +kernel
theorem dX2_sumWeights_36 : decode cX2_sumWeights 36 = .ok (.aload_n 0, 1) := by decide +kernel
theorem dX2_sumWeights_37 : decode cX2_sumWeights 37 = .ok (.getfield 21, 3) := by decide +kernel
theorem dX2_sumWeights_40 : decode cX2_sumWeights 40 = .ok (.iload_n 2, 1) := by decide +kernel
theorem dX2_sumWeights_41 : decode cX2_sumWeights 41 = .ok (.iconst 2, 1) := by decide +kernel
theorem dX2_sumWeights_42 : decode cX2_sumWeights 42 = .ok (.iadd, 1) := by decide +kernel
theorem dX2_sumWeights_43 : decode cX2_sumWeights 43 = .ok (.iaload, 1) := by decide +kernel
theorem dX2_sumWeights_44 : decode cX2_sumWeights 44 = .ok (.ifCond .ne 28, 3) := by decide +kernel
theorem dX2_sumWeights_47 : decode cX2_sumWeights 47 = .ok (.aload_n 0, 1) := by decide +kernel
theorem dX2_sumWeights_48 : decode cX2_sumWeights 48 = .ok (.getfield 24, 3) := by decide +kernel
theorem dX2_sumWeights_51 : decode cX2_sumWeights 51 = .ok (.aload_n 0, 1) := by decide +kernel
theorem dX2_sumWeights_52 : decode cX2_sumWeights 52 = .ok (.getfield 21, 3) := by decide +kernel
theorem dX2_sumWeights_55 : decode cX2_sumWeights 55 = .ok (.iload_n 2, 1) := by decide +kernel
theorem dX2_sumWeights_56 : decode cX2_sumWeights 56 = .ok (.bipush 11, 2) := by decide +kernel
theorem dX2_sumWeights_58 : decode cX2_sumWeights 58 = .ok (.iadd, 1) := by decide +kernel
theorem dX2_sumWeights_59 : decode cX2_sumWeights 59 = .ok (.iaload, 1) := by decide +kernel
theorem dX2_sumWeights_60 : decode cX2_sumWeights 60 = .ok (.dup2, 1) := by decide +kernel
theorem dX2_sumWeights_61 : decode cX2_sumWeights 61 = .ok (.iaload, 1) := by decide +kernel
theorem dX2_sumWeights_62 : decode cX2_sumWeights 62 = .ok (.aload_n 0, 1) := by decide +kernel
theorem dX2_sumWeights_63 : decode cX2_sumWeights 63 = .ok (.getfield 21, 3) := by decide +kernel
theorem dX2_sumWeights_66 : decode cX2_sumWeights 66 = .ok (.iload_n 2, 1) := by decide +kernel
theorem dX2_sumWeights_67 : decode cX2_sumWeights 67 = .ok (.iconst 1, 1) := by decide +kernel
theorem dX2_sumWeights_68 : decode cX2_sumWeights 68 = .ok (.iadd, 1) := by decide +kernel
theorem dX2_sumWeights_69 : decode cX2_sumWeights 69 = .ok (.iaload, 1) := by decide +kernel
theorem dX2_sumWeights_70 : decode cX2_sumWeights 70 = .ok (.iadd, 1) := by decide +kernel
theorem dX2_sumWeights_71 : decode cX2_sumWeights 71 = .ok (.iastore, 1) := by decide +kernel
theorem dX2_sumWeights_72 : decode cX2_sumWeights 72 = .ok (.iinc 1 1, 3) := by decide +kernel
theorem dX2_sumWeights_75 : decode cX2_sumWeights 75 = .ok (.goto (-52), 3) := by decide +kernel
theorem dX2_sumWeights_78 : decode cX2_sumWeights 78 = .ok (.return_, 1) := by decide +kernel
theorem dX2_warmBoards_0 : decode cX2_warmBoards 0 = .ok (.iconst 0, 1) := by decide +kernel
theorem dX2_warmBoards_1 : decode cX2_warmBoards 1 = .ok (.istore_n 1, 1) := by decide +kernel
theorem dX2_warmBoards_2 : decode cX2_warmBoards 2 = .ok (.iload_n 1, 1) := by decide +kernel
theorem dX2_warmBoards_3 : decode cX2_warmBoards 3 = .ok (.aload_n 0, 1) := by decide +kernel
theorem dX2_warmBoards_4 : decode cX2_warmBoards 4 = .ok (.getfield 42, 3) := by decide +kernel
theorem dX2_warmBoards_7 : decode cX2_warmBoards 7 = .ok (.if_icmp .ge 35, 3) := by decide +kernel
theorem dX2_warmBoards_10 : decode cX2_warmBoards 10 = .ok (.iload_n 1, 1) := by decide +kernel
theorem dX2_warmBoards_11 : decode cX2_warmBoards 11 = .ok (.bipush 22, 2) := by decide +kernel
theorem dX2_warmBoards_13 : decode cX2_warmBoards 13 = .ok (.imul, 1) := by decide +kernel
theorem dX2_warmBoards_14 : decode cX2_warmBoards 14 = .ok (.istore_n 2, 1) := by decide +kernel
theorem dX2_warmBoards_15 : decode cX2_warmBoards 15 = .ok (.aload_n 0, 1) := by decide +kernel
theorem dX2_warmBoards_16 : decode cX2_warmBoards 16 = .ok (.getfield 21, 3) := by decide +kernel
theorem dX2_warmBoards_19 : decode cX2_warmBoards 19 = .ok (.iload_n 2, 1) := by decide +kernel
theorem dX2_warmBoards_20 : decode cX2_warmBoards 20 = .ok (.iconst 2, 1) := by decide +kernel
theorem dX2_warmBoards_21 : decode cX2_warmBoards 21 = .ok (.iadd, 1) := by decide +kernel
theorem dX2_warmBoards_22 : decode cX2_warmBoards 22 = .ok (.iaload, 1) := by decide +kernel
theorem dX2_warmBoards_23 : decode cX2_warmBoards 23 = .ok (.ifCond .ne 13, 3) := by decide +kernel
theorem dX2_warmBoards_26 : decode cX2_warmBoards 26 = .ok (.aload_n 0, 1) := by decide +kernel
theorem dX2_warmBoards_27 : decode cX2_warmBoards 27 = .ok (.iload_n 2, 1) := by decide +kernel
theorem dX2_warmBoards_28 : decode cX2_warmBoards 28 = .ok (.invokevirtual 143, 3) := by decide +kernel
theorem dX2_warmBoards_31 : decode cX2_warmBoards 31 = .ok (.aload_n 0, 1) := by decide +kernel
theorem dX2_warmBoards_32 : decode cX2_warmBoards 32 = .ok (.iload_n 2, 1) := by decide +kernel
theorem dX2_warmBoards_33 : decode cX2_warmBoards 33 = .ok (.invokevirtual 147, 3) := by decide +kernel
theorem dX2_warmBoards_36 : decode cX2_warmBoards 36 = .ok (.iinc 1 1, 3) := by decide +kernel
theorem dX2_warmBoards_39 : decode cX2_warmBoards 39 = .ok (.goto (-37), 3) := by decide +kernel
theorem dX2_warmBoards_42 : decode cX2_warmBoards 42 = .ok (.return_, 1) := by decide +kernel
theorem dX2_warm_0 : decode cX2_warm 0 = .ok (.aload_n 0, 1) := by decide +kernel
theorem dX2_warm_1 : decode cX2_warm 1 = .ok (.getfield 9, 3) := by decide +kernel
theorem dX2_warm_4 : decode cX2_warm 4 = .ok (.aload_n 0, 1) := by decide +kernel
theorem dX2_warm_5 : decode cX2_warm 5 = .ok (.getfield 21, 3) := by decide +kernel
theorem dX2_warm_8 : decode cX2_warm 8 = .ok (.iload_n 1, 1) := by decide +kernel
theorem dX2_warm_9 : decode cX2_warm 9 = .ok (.bipush 11, 2) := by decide +kernel
theorem dX2_warm_11 : decode cX2_warm 11 = .ok (.iadd, 1) := by decide +kernel
theorem dX2_warm_12 : decode cX2_warm 12 = .ok (.iaload, 1) := by decide +kernel
theorem dX2_warm_13 : decode cX2_warm 13 = .ok (.iconst 4, 1) := by decide +kernel
theorem dX2_warm_14 : decode cX2_warm 14 = .ok (.imul, 1) := by decide +kernel
theorem dX2_warm_15 : decode cX2_warm 15 = .ok (.iconst 3, 1) := by decide +kernel
theorem dX2_warm_16 : decode cX2_warm 16 = .ok (.iadd, 1) := by decide +kernel
theorem dX2_warm_17 : decode cX2_warm 17 = .ok (.iaload, 1) := by decide +kernel
theorem dX2_warm_18 : decode cX2_warm 18 = .ok (.istore_n 2, 1) := by decide +kernel
theorem dX2_warm_19 : decode cX2_warm 19 = .ok (.aload_n 0, 1) := by decide +kernel
theorem dX2_warm_20 : decode cX2_warm 20 = .ok (.getfield 21, 3) := by decide +kernel
theorem dX2_warm_23 : decode cX2_warm 23 = .ok (.iload_n 1, 1) := by decide +kernel
theorem dX2_warm_24 : decode cX2_warm 24 = .ok (.iconst 4, 1) := by decide +kernel
theorem dX2_warm_25 : decode cX2_warm 25 = .ok (.iadd, 1) := by decide +kernel
theorem dX2_warm_26 : decode cX2_warm 26 = .ok (.iaload, 1) := by decide +kernel
theorem dX2_warm_27 : decode cX2_warm 27 = .ok (.istore_n 3, 1) := by decide +kernel
theorem dX2_warm_28 : decode cX2_warm 28 = .ok (.iload_n 2, 1) := by decide +kernel
theorem dX2_warm_29 : decode cX2_warm 29 = .ok (.iload_n 3, 1) := by decide +kernel
theorem dX2_warm_30 : decode cX2_warm 30 = .ok (.isub, 1) := by decide +kernel
theorem dX2_warm_31 : decode cX2_warm 31 = .ok (.aload_n 0, 1) := by decide +kernel
theorem dX2_warm_32 : decode cX2_warm 32 = .ok (.getfield 21, 3) := by decide +kernel
theorem dX2_warm_35 : decode cX2_warm 35 = .ok (.iload_n 1, 1) := by decide +kernel
theorem dX2_warm_36 : decode cX2_warm 36 = .ok (.iconst 1, 1) := by decide +kernel
theorem dX2_warm_37 : decode cX2_warm 37 = .ok (.iadd, 1) := by decide +kernel
theorem dX2_warm_38 : decode cX2_warm 38 = .ok (.iaload, 1) := by decide +kernel
theorem dX2_warm_39 : decode cX2_warm 39 = .ok (.iconst 1, 1) := by decide +kernel
theorem dX2_warm_40 : decode cX2_warm 40 = .ok (.iadd, 1) := by decide +kernel
theorem dX2_warm_41 : decode cX2_warm 41 = .ok (.idiv, 1) := by decide +kernel
theorem dX2_warm_42 : decode cX2_warm 42 = .ok (.istore 4, 2) := by decide +kernel
theorem dX2_warm_44 : decode cX2_warm 44 = .ok (.iload_n 3, 1) := by decide +kernel
theorem dX2_warm_45 : decode cX2_warm 45 = .ok (.iload 4, 2) := by decide +kernel
theorem dX2_warm_47 : decode cX2_warm 47 = .ok (.iadd, 1) := by decide +kernel
theorem dX2_warm_48 : decode cX2_warm 48 = .ok (.istore_n 3, 1) := by decide +kernel
theorem dX2_warm_49 : decode cX2_warm 49 = .ok (.aload_n 0, 1) := by decide +kernel
theorem dX2_warm_50 : decode cX2_warm 50 = .ok (.getfield 21, 3) := by decide +kernel
theorem dX2_warm_53 : decode cX2_warm 53 = .ok (.iload_n 1, 1) := by decide +kernel
theorem dX2_warm_54 : decode cX2_warm 54 = .ok (.iconst 5, 1) := by decide +kernel
theorem dX2_warm_55 : decode cX2_warm 55 = .ok (.iadd, 1) := by decide +kernel
theorem dX2_warm_56 : decode cX2_warm 56 = .ok (.iload 4, 2) := by decide +kernel
theorem dX2_warm_58 : decode cX2_warm 58 = .ok (.iastore, 1) := by decide +kernel
theorem dX2_warm_59 : decode cX2_warm 59 = .ok (.aload_n 0, 1) := by decide +kernel
theorem dX2_warm_60 : decode cX2_warm 60 = .ok (.getfield 21, 3) := by decide +kernel
theorem dX2_warm_63 : decode cX2_warm 63 = .ok (.iload_n 1, 1) := by decide +kernel
theorem dX2_warm_64 : decode cX2_warm 64 = .ok (.iconst 4, 1) := by decide +kernel
theorem dX2_warm_65 : decode cX2_warm 65 = .ok (.iadd, 1) := by decide +kernel
theorem dX2_warm_66 : decode cX2_warm 66 = .ok (.iload_n 3, 1) := by decide +kernel
theorem dX2_warm_67 : decode cX2_warm 67 = .ok (.iastore, 1) := by decide +kernel
theorem dX2_warm_68 : decode cX2_warm 68 = .ok (.aload_n 0, 1) := by decide +kernel
theorem dX2_warm_69 : decode cX2_warm 69 = .ok (.getfield 21, 3) := by decide +kernel
theorem dX2_warm_72 : decode cX2_warm 72 = .ok (.iload_n 1, 1) := by decide +kernel
theorem dX2_warm_73 : decode cX2_warm 73 = .ok (.bipush 6, 2) := by decide +kernel
theorem dX2_warm_75 : decode cX2_warm 75 = .ok (.iadd, 1) := by decide +kernel
theorem dX2_warm_76 : decode cX2_warm 76 = .ok (.aload_n 0, 1) := by decide +kernel
theorem dX2_warm_77 : decode cX2_warm 77 = .ok (.getfield 21, 3) := by decide +kernel
theorem dX2_warm_80 : decode cX2_warm 80 = .ok (.iload_n 1, 1) := by decide +kernel
theorem dX2_warm_81 : decode cX2_warm 81 = .ok (.bipush 6, 2) := by decide +kernel
theorem dX2_warm_83 : decode cX2_warm 83 = .ok (.iadd, 1) := by decide +kernel
theorem dX2_warm_84 : decode cX2_warm 84 = .ok (.iaload, 1) := by decide +kernel
theorem dX2_warm_85 : decode cX2_warm 85 = .ok (.iload_n 3, 1) := by decide +kernel
theorem dX2_warm_86 : decode cX2_warm 86 = .ok (.invokestatic 135, 3) := by decide +kernel
theorem dX2_warm_89 : decode cX2_warm 89 = .ok (.iastore, 1) := by decide +kernel
theorem dX2_warm_90 : decode cX2_warm 90 = .ok (.iload_n 3, 1) := by decide +kernel
theorem dX2_warm_91 : decode cX2_warm 91 = .ok (.aload_n 0, 1) := by decide +kernel
theorem dX2_warm_92 : decode cX2_warm 92 = .ok (.getfield 15, 3) := by decide +kernel
theorem dX2_warm_95 : decode cX2_warm 95 = .ok (.aload_n 0, 1) := by decide +kernel
theorem dX2_warm_96 : decode cX2_warm 96 = .ok (.getfield 21, 3) := by decide +kernel
theorem dX2_warm_99 : decode cX2_warm 99 = .ok (.iload_n 1, 1) := by decide +kernel
theorem dX2_warm_100 : decode cX2_warm 100 = .ok (.iconst 0, 1) := by decide +kernel
theorem dX2_warm_101 : decode cX2_warm 101 = .ok (.iadd, 1) := by decide +kernel
theorem dX2_warm_102 : decode cX2_warm 102 = .ok (.iaload, 1) := by decide +kernel
theorem dX2_warm_103 : decode cX2_warm 103 = .ok (.bipush 6, 2) := by decide +kernel
theorem dX2_warm_105 : decode cX2_warm 105 = .ok (.imul, 1) := by decide +kernel
theorem dX2_warm_106 : decode cX2_warm 106 = .ok (.iconst 1, 1) := by decide +kernel
theorem dX2_warm_107 : decode cX2_warm 107 = .ok (.iadd, 1) := by decide +kernel
theorem dX2_warm_108 : decode cX2_warm 108 = .ok (.iaload, 1) := by decide +kernel
theorem dX2_warm_109 : decode cX2_warm 109 = .ok (.if_icmp .le 16, 3) := by decide +kernel
theorem dX2_warm_112 : decode cX2_warm 112 = .ok (.aload_n 0, 1) := by decide +kernel
theorem dX2_warm_113 : decode cX2_warm 113 = .ok (.getfield 21, 3) := by decide +kernel
theorem dX2_warm_116 : decode cX2_warm 116 = .ok (.iload_n 1, 1) := by decide +kernel
theorem dX2_warm_117 : decode cX2_warm 117 = .ok (.bipush 7, 2) := by decide +kernel
theorem dX2_warm_119 : decode cX2_warm 119 = .ok (.iadd, 1) := by decide +kernel
theorem dX2_warm_120 : decode cX2_warm 120 = .ok (.dup2, 1) := by decide +kernel
theorem dX2_warm_121 : decode cX2_warm 121 = .ok (.iaload, 1) := by decide +kernel
theorem dX2_warm_122 : decode cX2_warm 122 = .ok (.iconst 1, 1) := by decide +kernel
theorem dX2_warm_123 : decode cX2_warm 123 = .ok (.iadd, 1) := by decide +kernel
theorem dX2_warm_124 : decode cX2_warm 124 = .ok (.iastore, 1) := by decide +kernel
theorem dX2_warm_125 : decode cX2_warm 125 = .ok (.return_, 1) := by decide +kernel
theorem dX2_judgeOnBelt_0 : decode cX2_judgeOnBelt 0 = .ok (.aload_n 0, 1) := by decide +kernel
theorem dX2_judgeOnBelt_1 : decode cX2_judgeOnBelt 1 = .ok (.getfield 21, 3) := by decide +kernel
theorem dX2_judgeOnBelt_4 : decode cX2_judgeOnBelt 4 = .ok (.iload_n 1, 1) := by decide +kernel
theorem dX2_judgeOnBelt_5 : decode cX2_judgeOnBelt 5 = .ok (.iconst 0, 1) := by decide +kernel
theorem dX2_judgeOnBelt_6 : decode cX2_judgeOnBelt 6 = .ok (.iadd, 1) := by decide +kernel
theorem dX2_judgeOnBelt_7 : decode cX2_judgeOnBelt 7 = .ok (.iaload, 1) := by decide +kernel
theorem dX2_judgeOnBelt_8 : decode cX2_judgeOnBelt 8 = .ok (.bipush 6, 2) := by decide +kernel
theorem dX2_judgeOnBelt_10 : decode cX2_judgeOnBelt 10 = .ok (.imul, 1) := by decide +kernel
theorem dX2_judgeOnBelt_11 : decode cX2_judgeOnBelt 11 = .ok (.istore_n 2, 1) := by decide +kernel
theorem dX2_judgeOnBelt_12 : decode cX2_judgeOnBelt 12 = .ok (.aload_n 0, 1) := by decide +kernel
theorem dX2_judgeOnBelt_13 : decode cX2_judgeOnBelt 13 = .ok (.getfield 21, 3) := by decide +kernel
theorem dX2_judgeOnBelt_16 : decode cX2_judgeOnBelt 16 = .ok (.iload_n 1, 1) := by decide +kernel
theorem dX2_judgeOnBelt_17 : decode cX2_judgeOnBelt 17 = .ok (.iconst 3, 1) := by decide +kernel
theorem dX2_judgeOnBelt_18 : decode cX2_judgeOnBelt 18 = .ok (.iadd, 1) := by decide +kernel
theorem dX2_judgeOnBelt_19 : decode cX2_judgeOnBelt 19 = .ok (.iaload, 1) := by decide +kernel
theorem dX2_judgeOnBelt_20 : decode cX2_judgeOnBelt 20 = .ok (.istore_n 3, 1) := by decide +kernel
theorem dX2_judgeOnBelt_21 : decode cX2_judgeOnBelt 21 = .ok (.iconst 0, 1) := by decide +kernel
theorem dX2_judgeOnBelt_22 : decode cX2_judgeOnBelt 22 = .ok (.istore 4, 2) := by decide +kernel
theorem dX2_judgeOnBelt_24 : decode cX2_judgeOnBelt 24 = .ok (.aload_n 0, 1) := by decide +kernel
theorem dX2_judgeOnBelt_25 : decode cX2_judgeOnBelt 25 = .ok (.getfield 21, 3) := by decide +kernel
theorem dX2_judgeOnBelt_28 : decode cX2_judgeOnBelt 28 = .ok (.iload_n 1, 1) := by decide +kernel
theorem dX2_judgeOnBelt_29 : decode cX2_judgeOnBelt 29 = .ok (.bipush 7, 2) := by decide +kernel
theorem dX2_judgeOnBelt_31 : decode cX2_judgeOnBelt 31 = .ok (.iadd, 1) := by decide +kernel
theorem dX2_judgeOnBelt_32 : decode cX2_judgeOnBelt 32 = .ok (.iaload, 1) := by decide +kernel
theorem dX2_judgeOnBelt_33 : decode cX2_judgeOnBelt 33 = .ok (.aload_n 0, 1) := by decide +kernel
theorem dX2_judgeOnBelt_34 : decode cX2_judgeOnBelt 34 = .ok (.getfield 15, 3) := by decide +kernel
theorem dX2_judgeOnBelt_37 : decode cX2_judgeOnBelt 37 = .ok (.iload_n 2, 1) := by decide +kernel
theorem dX2_judgeOnBelt_38 : decode cX2_judgeOnBelt 38 = .ok (.iconst 3, 1) := by decide +kernel
theorem dX2_judgeOnBelt_39 : decode cX2_judgeOnBelt 39 = .ok (.iadd, 1) := by decide +kernel
theorem dX2_judgeOnBelt_40 : decode cX2_judgeOnBelt 40 = .ok (.iaload, 1) := by decide +kernel
theorem dX2_judgeOnBelt_41 : decode cX2_judgeOnBelt 41 = .ok (.if_icmp .le 13, 3) := by decide +kernel
theorem dX2_judgeOnBelt_44 : decode cX2_judgeOnBelt 44 = .ok (.aload_n 0, 1) := by decide +kernel
theorem dX2_judgeOnBelt_45 : decode cX2_judgeOnBelt 45 = .ok (.iload_n 1, 1) := by decide +kernel
theorem dX2_judgeOnBelt_46 : decode cX2_judgeOnBelt 46 = .ok (.iconst 1, 1) := by decide +kernel
theorem dX2_judgeOnBelt_47 : decode cX2_judgeOnBelt 47 = .ok (.iload_n 3, 1) := by decide +kernel
theorem dX2_judgeOnBelt_48 : decode cX2_judgeOnBelt 48 = .ok (.invokevirtual 128, 3) := by decide +kernel
theorem dX2_judgeOnBelt_51 : decode cX2_judgeOnBelt 51 = .ok (.iconst 2, 1) := by decide +kernel
theorem dX2_judgeOnBelt_52 : decode cX2_judgeOnBelt 52 = .ok (.istore 4, 2) := by decide +kernel
theorem dX2_judgeOnBelt_54 : decode cX2_judgeOnBelt 54 = .ok (.aload_n 0, 1) := by decide +kernel
theorem dX2_judgeOnBelt_55 : decode cX2_judgeOnBelt 55 = .ok (.getfield 21, 3) := by decide +kernel
theorem dX2_judgeOnBelt_58 : decode cX2_judgeOnBelt 58 = .ok (.iload_n 1, 1) := by decide +kernel
theorem dX2_judgeOnBelt_59 : decode cX2_judgeOnBelt 59 = .ok (.iconst 5, 1) := by decide +kernel
theorem dX2_judgeOnBelt_60 : decode cX2_judgeOnBelt 60 = .ok (.iadd, 1) := by decide +kernel
theorem dX2_judgeOnBelt_61 : decode cX2_judgeOnBelt 61 = .ok (.iaload, 1) := by decide +kernel
theorem dX2_judgeOnBelt_62 : decode cX2_judgeOnBelt 62 = .ok (.aload_n 0, 1) := by decide +kernel
theorem dX2_judgeOnBelt_63 : decode cX2_judgeOnBelt 63 = .ok (.getfield 15, 3) := by decide +kernel
theorem dX2_judgeOnBelt_66 : decode cX2_judgeOnBelt 66 = .ok (.iload_n 2, 1) := by decide +kernel
theorem dX2_judgeOnBelt_67 : decode cX2_judgeOnBelt 67 = .ok (.iconst 0, 1) := by decide +kernel
theorem dX2_judgeOnBelt_68 : decode cX2_judgeOnBelt 68 = .ok (.iadd, 1) := by decide +kernel
theorem dX2_judgeOnBelt_69 : decode cX2_judgeOnBelt 69 = .ok (.iaload, 1) := by decide +kernel
theorem dX2_judgeOnBelt_70 : decode cX2_judgeOnBelt 70 = .ok (.if_icmp .le 13, 3) := by decide +kernel
theorem dX2_judgeOnBelt_73 : decode cX2_judgeOnBelt 73 = .ok (.aload_n 0, 1) := by decide +kernel
theorem dX2_judgeOnBelt_74 : decode cX2_judgeOnBelt 74 = .ok (.iload_n 1, 1) := by decide +kernel
theorem dX2_judgeOnBelt_75 : decode cX2_judgeOnBelt 75 = .ok (.iconst 0, 1) := by decide +kernel
theorem dX2_judgeOnBelt_76 : decode cX2_judgeOnBelt 76 = .ok (.iload_n 3, 1) := by decide +kernel
theorem dX2_judgeOnBelt_77 : decode cX2_judgeOnBelt 77 = .ok (.invokevirtual 128, 3) := by decide +kernel
theorem dX2_judgeOnBelt_80 : decode cX2_judgeOnBelt 80 = .ok (.iconst 1, 1) := by decide +kernel
theorem dX2_judgeOnBelt_81 : decode cX2_judgeOnBelt 81 = .ok (.istore 4, 2) := by decide +kernel
theorem dX2_judgeOnBelt_83 : decode cX2_judgeOnBelt 83 = .ok (.aload_n 0, 1) := by decide +kernel
theorem dX2_judgeOnBelt_84 : decode cX2_judgeOnBelt 84 = .ok (.getfield 21, 3) := by decide +kernel
theorem dX2_judgeOnBelt_87 : decode cX2_judgeOnBelt 87 = .ok (.iload_n 1, 1) := by decide +kernel
theorem dX2_judgeOnBelt_88 : decode cX2_judgeOnBelt 88 = .ok (.iconst 4, 1) := by decide +kernel
theorem dX2_judgeOnBelt_89 : decode cX2_judgeOnBelt 89 = .ok (.iadd, 1) := by decide +kernel
theorem dX2_judgeOnBelt_90 : decode cX2_judgeOnBelt 90 = .ok (.iaload, 1) := by decide +kernel
theorem dX2_judgeOnBelt_91 : decode cX2_judgeOnBelt 91 = .ok (.aload_n 0, 1) := by decide +kernel
theorem dX2_judgeOnBelt_92 : decode cX2_judgeOnBelt 92 = .ok (.getfield 15, 3) := by decide +kernel
theorem dX2_judgeOnBelt_95 : decode cX2_judgeOnBelt 95 = .ok (.iload_n 2, 1) := by decide +kernel
theorem dX2_judgeOnBelt_96 : decode cX2_judgeOnBelt 96 = .ok (.iconst 5, 1) := by decide +kernel
theorem dX2_judgeOnBelt_97 : decode cX2_judgeOnBelt 97 = .ok (.iadd, 1) := by decide +kernel
theorem dX2_judgeOnBelt_98 : decode cX2_judgeOnBelt 98 = .ok (.iaload, 1) := by decide +kernel
theorem dX2_judgeOnBelt_99 : decode cX2_judgeOnBelt 99 = .ok (.if_icmp .le 10, 3) := by decide +kernel
theorem dX2_judgeOnBelt_102 : decode cX2_judgeOnBelt 102 = .ok (.aload_n 0, 1) := by decide +kernel
theorem dX2_judgeOnBelt_103 : decode cX2_judgeOnBelt 103 = .ok (.iload_n 1, 1) := by decide +kernel
theorem dX2_judgeOnBelt_104 : decode cX2_judgeOnBelt 104 = .ok (.iconst 2, 1) := by decide +kernel
theorem dX2_judgeOnBelt_105 : decode cX2_judgeOnBelt 105 = .ok (.iload_n 3, 1) := by decide +kernel
theorem dX2_judgeOnBelt_106 : decode cX2_judgeOnBelt 106 = .ok (.invokevirtual 128, 3) := by decide +kernel
theorem dX2_judgeOnBelt_109 : decode cX2_judgeOnBelt 109 = .ok (.aload_n 0, 1) := by decide +kernel
theorem dX2_judgeOnBelt_110 : decode cX2_judgeOnBelt 110 = .ok (.getfield 21, 3) := by decide +kernel
theorem dX2_judgeOnBelt_113 : decode cX2_judgeOnBelt 113 = .ok (.iload_n 1, 1) := by decide +kernel
theorem dX2_judgeOnBelt_114 : decode cX2_judgeOnBelt 114 = .ok (.bipush 9, 2) := by decide +kernel
theorem dX2_judgeOnBelt_116 : decode cX2_judgeOnBelt 116 = .ok (.iadd, 1) := by decide +kernel
theorem dX2_judgeOnBelt_117 : decode cX2_judgeOnBelt 117 = .ok (.iload 4, 2) := by decide +kernel
theorem dX2_judgeOnBelt_119 : decode cX2_judgeOnBelt 119 = .ok (.iastore, 1) := by decide +kernel
theorem dX2_judgeOnBelt_120 : decode cX2_judgeOnBelt 120 = .ok (.return_, 1) := by decide +kernel
theorem dX2_noteFault_0 : decode cX2_noteFault 0 = .ok (.iconst 1, 1) := by decide +kernel
theorem dX2_noteFault_1 : decode cX2_noteFault 1 = .ok (.iload_n 2, 1) := by decide +kernel
theorem dX2_noteFault_2 : decode cX2_noteFault 2 = .ok (.ishl, 1) := by decide +kernel
theorem dX2_noteFault_3 : decode cX2_noteFault 3 = .ok (.istore 4, 2) := by decide +kernel
theorem dX2_noteFault_5 : decode cX2_noteFault 5 = .ok (.aload_n 0, 1) := by decide +kernel
theorem dX2_noteFault_6 : decode cX2_noteFault 6 = .ok (.getfield 21, 3) := by decide +kernel
theorem dX2_noteFault_9 : decode cX2_noteFault 9 = .ok (.iload_n 1, 1) := by decide +kernel
theorem dX2_noteFault_10 : decode cX2_noteFault 10 = .ok (.bipush 8, 2) := by decide +kernel
theorem dX2_noteFault_12 : decode cX2_noteFault 12 = .ok (.iadd, 1) := by decide +kernel
theorem dX2_noteFault_13 : decode cX2_noteFault 13 = .ok (.iaload, 1) := by decide +kernel
theorem dX2_noteFault_14 : decode cX2_noteFault 14 = .ok (.iload 4, 2) := by decide +kernel
theorem dX2_noteFault_16 : decode cX2_noteFault 16 = .ok (.iand, 1) := by decide +kernel
theorem dX2_noteFault_17 : decode cX2_noteFault 17 = .ok (.ifCond .ne 44, 3) := by decide +kernel
theorem dX2_noteFault_20 : decode cX2_noteFault 20 = .ok (.aload_n 0, 1) := by decide +kernel
theorem dX2_noteFault_21 : decode cX2_noteFault 21 = .ok (.getfield 21, 3) := by decide +kernel
theorem dX2_noteFault_24 : decode cX2_noteFault 24 = .ok (.iload_n 1, 1) := by decide +kernel
theorem dX2_noteFault_25 : decode cX2_noteFault 25 = .ok (.bipush 8, 2) := by decide +kernel
theorem dX2_noteFault_27 : decode cX2_noteFault 27 = .ok (.iadd, 1) := by decide +kernel
theorem dX2_noteFault_28 : decode cX2_noteFault 28 = .ok (.dup2, 1) := by decide +kernel
theorem dX2_noteFault_29 : decode cX2_noteFault 29 = .ok (.iaload, 1) := by decide +kernel
theorem dX2_noteFault_30 : decode cX2_noteFault 30 = .ok (.iload 4, 2) := by decide +kernel
theorem dX2_noteFault_32 : decode cX2_noteFault 32 = .ok (.ior, 1) := by decide +kernel
theorem dX2_noteFault_33 : decode cX2_noteFault 33 = .ok (.iastore, 1) := by decide +kernel
theorem dX2_noteFault_34 : decode cX2_noteFault 34 = .ok (.aload_n 0, 1) := by decide +kernel
theorem dX2_noteFault_35 : decode cX2_noteFault 35 = .ok (.getfield 21, 3) := by decide +kernel
theorem dX2_noteFault_38 : decode cX2_noteFault 38 = .ok (.iload_n 1, 1) := by decide +kernel
theorem dX2_noteFault_39 : decode cX2_noteFault 39 = .ok (.bipush 12, 2) := by decide +kernel
theorem dX2_noteFault_41 : decode cX2_noteFault 41 = .ok (.iadd, 1) := by decide +kernel
theorem dX2_noteFault_42 : decode cX2_noteFault 42 = .ok (.iload_n 2, 1) := by decide +kernel
theorem dX2_noteFault_43 : decode cX2_noteFault 43 = .ok (.iadd, 1) := by decide +kernel
theorem dX2_noteFault_44 : decode cX2_noteFault 44 = .ok (.iload_n 3, 1) := by decide +kernel
theorem dX2_noteFault_45 : decode cX2_noteFault 45 = .ok (.iastore, 1) := by decide +kernel
theorem dX2_noteFault_46 : decode cX2_noteFault 46 = .ok (.aload_n 0, 1) := by decide +kernel
theorem dX2_noteFault_47 : decode cX2_noteFault 47 = .ok (.getfield 21, 3) := by decide +kernel
theorem dX2_noteFault_50 : decode cX2_noteFault 50 = .ok (.iload_n 1, 1) := by decide +kernel
theorem dX2_noteFault_51 : decode cX2_noteFault 51 = .ok (.bipush 17, 2) := by decide +kernel
theorem dX2_noteFault_53 : decode cX2_noteFault 53 = .ok (.iadd, 1) := by decide +kernel
theorem dX2_noteFault_54 : decode cX2_noteFault 54 = .ok (.iload_n 2, 1) := by decide +kernel
theorem dX2_noteFault_55 : decode cX2_noteFault 55 = .ok (.iadd, 1) := by decide +kernel
theorem dX2_noteFault_56 : decode cX2_noteFault 56 = .ok (.aload_n 0, 1) := by decide +kernel
theorem dX2_noteFault_57 : decode cX2_noteFault 57 = .ok (.getfield 46, 3) := by decide +kernel
theorem dX2_noteFault_60 : decode cX2_noteFault 60 = .ok (.iastore, 1) := by decide +kernel
theorem dX2_noteFault_61 : decode cX2_noteFault 61 = .ok (.return_, 1) := by decide +kernel
theorem dX2_hearPleas_0 : decode cX2_hearPleas 0 = .ok (.aload_n 0, 1) := by decide +kernel
theorem dX2_hearPleas_1 : decode cX2_hearPleas 1 = .ok (.getfield 18, 3) := by decide +kernel
theorem dX2_hearPleas_4 : decode cX2_hearPleas 4 = .ok (.iconst 2, 1) := by decide +kernel
theorem dX2_hearPleas_5 : decode cX2_hearPleas 5 = .ok (.iaload, 1) := by decide +kernel
theorem dX2_hearPleas_6 : decode cX2_hearPleas 6 = .ok (.istore_n 1, 1) := by decide +kernel
theorem dX2_hearPleas_7 : decode cX2_hearPleas 7 = .ok (.iload_n 1, 1) := by decide +kernel
theorem dX2_hearPleas_8 : decode cX2_hearPleas 8 = .ok (.ifCond .ne 4, 3) := by decide +kernel
theorem dX2_hearPleas_11 : decode cX2_hearPleas 11 = .ok (.return_, 1) := by decide +kernel
theorem dX2_hearPleas_12 : decode cX2_hearPleas 12 = .ok (.aload_n 0, 1) := by decide +kernel
theorem dX2_hearPleas_13 : decode cX2_hearPleas 13 = .ok (.getfield 18, 3) := by decide +kernel
theorem dX2_hearPleas_16 : decode cX2_hearPleas 16 = .ok (.iconst 0, 1) := by decide +kernel
theorem dX2_hearPleas_17 : decode cX2_hearPleas 17 = .ok (.iaload, 1) := by decide +kernel
theorem dX2_hearPleas_18 : decode cX2_hearPleas 18 = .ok (.istore_n 2, 1) := by decide +kernel
theorem dX2_hearPleas_19 : decode cX2_hearPleas 19 = .ok (.aload_n 0, 1) := by decide +kernel
theorem dX2_hearPleas_20 : decode cX2_hearPleas 20 = .ok (.invokevirtual 150, 3) := by decide +kernel
theorem dX2_hearPleas_23 : decode cX2_hearPleas 23 = .ok (.istore_n 3, 1) := by decide +kernel
theorem dX2_hearPleas_24 : decode cX2_hearPleas 24 = .ok (.iload_n 3, 1) := by decide +kernel
theorem dX2_hearPleas_25 : decode cX2_hearPleas 25 = .ok (.iload_n 1, 1) := by decide +kernel
theorem dX2_hearPleas_26 : decode cX2_hearPleas 26 = .ok (.if_icmp .lt 30, 3) := by decide +kernel
theorem dX2_hearPleas_29 : decode cX2_hearPleas 29 = .ok (.iload_n 2, 1) := by decide +kernel
theorem dX2_hearPleas_30 : decode cX2_hearPleas 30 = .ok (.iconst 1, 1) := by decide +kernel
theorem dX2_hearPleas_31 : decode cX2_hearPleas 31 = .ok (.if_icmp .le 25, 3) := by decide +kernel
theorem dX2_hearPleas_34 : decode cX2_hearPleas 34 = .ok (.aload_n 0, 1) := by decide +kernel
theorem dX2_hearPleas_35 : decode cX2_hearPleas 35 = .ok (.getfield 18, 3) := by decide +kernel
theorem dX2_hearPleas_38 : decode cX2_hearPleas 38 = .ok (.iconst 0, 1) := by decide +kernel
theorem dX2_hearPleas_39 : decode cX2_hearPleas 39 = .ok (.iload_n 2, 1) := by decide +kernel
theorem dX2_hearPleas_40 : decode cX2_hearPleas 40 = .ok (.iconst 1, 1) := by decide +kernel
theorem dX2_hearPleas_41 : decode cX2_hearPleas 41 = .ok (.isub, 1) := by decide +kernel
theorem dX2_hearPleas_42 : decode cX2_hearPleas 42 = .ok (.iastore, 1) := by decide +kernel
theorem dX2_hearPleas_43 : decode cX2_hearPleas 43 = .ok (.aload_n 0, 1) := by decide +kernel
theorem dX2_hearPleas_44 : decode cX2_hearPleas 44 = .ok (.dup, 1) := by decide +kernel
theorem dX2_hearPleas_45 : decode cX2_hearPleas 45 = .ok (.getfield 49, 3) := by decide +kernel
theorem dX2_hearPleas_48 : decode cX2_hearPleas 48 = .ok (.iconst 1, 1) := by decide +kernel
theorem dX2_hearPleas_49 : decode cX2_hearPleas 49 = .ok (.iadd, 1) := by decide +kernel
theorem dX2_hearPleas_50 : decode cX2_hearPleas 50 = .ok (.putfield 49, 3) := by decide +kernel
theorem dX2_hearPleas_53 : decode cX2_hearPleas 53 = .ok (.goto 33, 3) := by decide +kernel
theorem dX2_hearPleas_56 : decode cX2_hearPleas 56 = .ok (.iload_n 3, 1) := by decide +kernel
theorem dX2_hearPleas_57 : decode cX2_hearPleas 57 = .ok (.ineg, 1) := by decide +kernel
theorem dX2_hearPleas_58 : decode cX2_hearPleas 58 = .ok (.iload_n 1, 1) := by decide +kernel
theorem dX2_hearPleas_59 : decode cX2_hearPleas 59 = .ok (.if_icmp .lt 27, 3) := by decide +kernel
theorem dX2_hearPleas_62 : decode cX2_hearPleas 62 = .ok (.iload_n 2, 1) := by decide +kernel
theorem dX2_hearPleas_63 : decode cX2_hearPleas 63 = .ok (.iconst 3, 1) := by decide +kernel
theorem dX2_hearPleas_64 : decode cX2_hearPleas 64 = .ok (.if_icmp .ge 22, 3) := by decide +kernel
theorem dX2_hearPleas_67 : decode cX2_hearPleas 67 = .ok (.aload_n 0, 1) := by decide +kernel
theorem dX2_hearPleas_68 : decode cX2_hearPleas 68 = .ok (.getfield 18, 3) := by decide +kernel
theorem dX2_hearPleas_71 : decode cX2_hearPleas 71 = .ok (.iconst 0, 1) := by decide +kernel
theorem dX2_hearPleas_72 : decode cX2_hearPleas 72 = .ok (.iload_n 2, 1) := by decide +kernel
theorem dX2_hearPleas_73 : decode cX2_hearPleas 73 = .ok (.iconst 1, 1) := by decide +kernel
theorem dX2_hearPleas_74 : decode cX2_hearPleas 74 = .ok (.iadd, 1) := by decide +kernel
theorem dX2_hearPleas_75 : decode cX2_hearPleas 75 = .ok (.iastore, 1) := by decide +kernel
theorem dX2_hearPleas_76 : decode cX2_hearPleas 76 = .ok (.aload_n 0, 1) := by decide +kernel
theorem dX2_hearPleas_77 : decode cX2_hearPleas 77 = .ok (.dup, 1) := by decide +kernel
theorem dX2_hearPleas_78 : decode cX2_hearPleas 78 = .ok (.getfield 52, 3) := by decide +kernel
theorem dX2_hearPleas_81 : decode cX2_hearPleas 81 = .ok (.iconst 1, 1) := by decide +kernel
theorem dX2_hearPleas_82 : decode cX2_hearPleas 82 = .ok (.iadd, 1) := by decide +kernel
theorem dX2_hearPleas_83 : decode cX2_hearPleas 83 = .ok (.putfield 52, 3) := by decide +kernel
theorem dX2_hearPleas_86 : decode cX2_hearPleas 86 = .ok (.return_, 1) := by decide +kernel
theorem dX2_weightForSlower_0 : decode cX2_weightForSlower 0 = .ok (.iconst 0, 1) := by decide +kernel
theorem dX2_weightForSlower_1 : decode cX2_weightForSlower 1 = .ok (.istore_n 1, 1) := by decide +kernel
theorem dX2_weightForSlower_2 : decode cX2_weightForSlower 2 = .ok (.iconst 0, 1) := by decide +kernel
theorem dX2_weightForSlower_3 : decode cX2_weightForSlower 3 = .ok (.istore_n 2, 1) := by decide +kernel
theorem dX2_weightForSlower_4 : decode cX2_weightForSlower 4 = .ok (.iload_n 2, 1) := by decide +kernel
theorem dX2_weightForSlower_5 : decode cX2_weightForSlower 5 = .ok (.aload_n 0, 1) := by decide +kernel
theorem dX2_weightForSlower_6 : decode cX2_weightForSlower 6 = .ok (.getfield 42, 3) := by decide +kernel
theorem dX2_weightForSlower_9 : decode cX2_weightForSlower 9 = .ok (.if_icmp .ge 76, 3) := by decide +kernel
theorem dX2_weightForSlower_12 : decode cX2_weightForSlower 12 = .ok (.iload_n 2, 1) := by decide +kernel
theorem dX2_weightForSlower_13 : decode cX2_weightForSlower 13 = .ok (.bipush 22, 2) := by decide +kernel
theorem dX2_weightForSlower_15 : decode cX2_weightForSlower 15 = .ok (.imul, 1) := by decide +kernel
theorem dX2_weightForSlower_16 : decode cX2_weightForSlower 16 = .ok (.istore_n 3, 1) := by decide +kernel
theorem dX2_weightForSlower_17 : decode cX2_weightForSlower 17 = .ok (.aload_n 0, 1) := by decide +kernel
theorem dX2_weightForSlower_18 : decode cX2_weightForSlower 18 = .ok (.getfield 21, 3) := by decide +kernel
theorem dX2_weightForSlower_21 : decode cX2_weightForSlower 21 = .ok (.iload_n 3, 1) := by decide +kernel
theorem dX2_weightForSlower_22 : decode cX2_weightForSlower 22 = .ok (.iconst 2, 1) := by decide +kernel
theorem dX2_weightForSlower_23 : decode cX2_weightForSlower 23 = .ok (.iadd, 1) := by decide +kernel
theorem dX2_weightForSlower_24 : decode cX2_weightForSlower 24 = .ok (.iaload, 1) := by decide +kernel
theorem dX2_weightForSlower_25 : decode cX2_weightForSlower 25 = .ok (.ifCond .ne 54, 3) := by decide +kernel
theorem dX2_weightForSlower_28 : decode cX2_weightForSlower 28 = .ok (.aload_n 0, 1) := by decide +kernel
theorem dX2_weightForSlower_29 : decode cX2_weightForSlower 29 = .ok (.getfield 21, 3) := by decide +kernel
theorem dX2_weightForSlower_32 : decode cX2_weightForSlower 32 = .ok (.iload_n 3, 1) := by decide +kernel
theorem dX2_weightForSlower_33 : decode cX2_weightForSlower 33 = .ok (.bipush 9, 2) := by decide +kernel
theorem dX2_weightForSlower_35 : decode cX2_weightForSlower 35 = .ok (.iadd, 1) := by decide +kernel
theorem dX2_weightForSlower_36 : decode cX2_weightForSlower 36 = .ok (.iaload, 1) := by decide +kernel
theorem dX2_weightForSlower_37 : decode cX2_weightForSlower 37 = .ok (.iconst 1, 1) := by decide +kernel
theorem dX2_weightForSlower_38 : decode cX2_weightForSlower 38 = .ok (.if_icmp .ne 17, 3) := by decide +kernel
theorem dX2_weightForSlower_41 : decode cX2_weightForSlower 41 = .ok (.iload_n 1, 1) := by decide +kernel
theorem dX2_weightForSlower_42 : decode cX2_weightForSlower 42 = .ok (.aload_n 0, 1) := by decide +kernel
theorem dX2_weightForSlower_43 : decode cX2_weightForSlower 43 = .ok (.getfield 21, 3) := by decide +kernel
theorem dX2_weightForSlower_46 : decode cX2_weightForSlower 46 = .ok (.iload_n 3, 1) := by decide +kernel
theorem dX2_weightForSlower_47 : decode cX2_weightForSlower 47 = .ok (.iconst 1, 1) := by decide +kernel
theorem dX2_weightForSlower_48 : decode cX2_weightForSlower 48 = .ok (.iadd, 1) := by decide +kernel
theorem dX2_weightForSlower_49 : decode cX2_weightForSlower 49 = .ok (.iaload, 1) := by decide +kernel
theorem dX2_weightForSlower_50 : decode cX2_weightForSlower 50 = .ok (.iadd, 1) := by decide +kernel
theorem dX2_weightForSlower_51 : decode cX2_weightForSlower 51 = .ok (.istore_n 1, 1) := by decide +kernel
theorem dX2_weightForSlower_52 : decode cX2_weightForSlower 52 = .ok (.goto 27, 3) := by decide +kernel
theorem dX2_weightForSlower_55 : decode cX2_weightForSlower 55 = .ok (.aload_n 0, 1) := by decide +kernel
theorem dX2_weightForSlower_56 : decode cX2_weightForSlower 56 = .ok (.getfield 21, 3) := by decide +kernel
theorem dX2_weightForSlower_59 : decode cX2_weightForSlower 59 = .ok (.iload_n 3, 1) := by decide +kernel
theorem dX2_weightForSlower_60 : decode cX2_weightForSlower 60 = .ok (.bipush 9, 2) := by decide +kernel
theorem dX2_weightForSlower_62 : decode cX2_weightForSlower 62 = .ok (.iadd, 1) := by decide +kernel
theorem dX2_weightForSlower_63 : decode cX2_weightForSlower 63 = .ok (.iaload, 1) := by decide +kernel
theorem dX2_weightForSlower_64 : decode cX2_weightForSlower 64 = .ok (.iconst 2, 1) := by decide +kernel
theorem dX2_weightForSlower_65 : decode cX2_weightForSlower 65 = .ok (.if_icmp .ne 14, 3) := by decide +kernel
theorem dX2_weightForSlower_68 : decode cX2_weightForSlower 68 = .ok (.iload_n 1, 1) := by decide +kernel
theorem dX2_weightForSlower_69 : decode cX2_weightForSlower 69 = .ok (.aload_n 0, 1) := by decide +kernel
theorem dX2_weightForSlower_70 : decode cX2_weightForSlower 70 = .ok (.getfield 21, 3) := by decide +kernel
theorem dX2_weightForSlower_73 : decode cX2_weightForSlower 73 = .ok (.iload_n 3, 1) := by decide +kernel
theorem dX2_weightForSlower_74 : decode cX2_weightForSlower 74 = .ok (.iconst 1, 1) := by decide +kernel
theorem dX2_weightForSlower_75 : decode cX2_weightForSlower 75 = .ok (.iadd, 1) := by decide +kernel
theorem dX2_weightForSlower_76 : decode cX2_weightForSlower 76 = .ok (.iaload, 1) := by decide +kernel
theorem dX2_weightForSlower_77 : decode cX2_weightForSlower 77 = .ok (.isub, 1) := by decide +kernel
theorem dX2_weightForSlower_78 : decode cX2_weightForSlower 78 = .ok (.istore_n 1, 1) := by decide +kernel
theorem dX2_weightForSlower_79 : decode cX2_weightForSlower 79 = .ok (.iinc 2 1, 3) := by decide +kernel
theorem dX2_weightForSlower_82 : decode cX2_weightForSlower 82 = .ok (.goto (-78), 3) := by decide +kernel
theorem dX2_weightForSlower_85 : decode cX2_weightForSlower 85 = .ok (.iload_n 1, 1) := by decide +kernel
theorem dX2_weightForSlower_86 : decode cX2_weightForSlower 86 = .ok (.ireturn, 1) := by decide +kernel
theorem dX2_hasBoard_0 : decode cX2_hasBoard 0 = .ok (.iload_n 1, 1) := by decide +kernel
theorem dX2_hasBoard_1 : decode cX2_hasBoard 1 = .ok (.iconst 0, 1) := by decide +kernel
theorem dX2_hasBoard_2 : decode cX2_hasBoard 2 = .ok (.aload_n 0, 1) := by decide +kernel
theorem dX2_hasBoard_3 : decode cX2_hasBoard 3 = .ok (.getfield 42, 3) := by decide +kernel
theorem dX2_hasBoard_6 : decode cX2_hasBoard 6 = .ok (.iconst 1, 1) := by decide +kernel
theorem dX2_hasBoard_7 : decode cX2_hasBoard 7 = .ok (.isub, 1) := by decide +kernel
theorem dX2_hasBoard_8 : decode cX2_hasBoard 8 = .ok (.invokestatic 55, 3) := by decide +kernel
theorem dX2_hasBoard_11 : decode cX2_hasBoard 11 = .ok (.ireturn, 1) := by decide +kernel
theorem dX2_isOnBelt_0 : decode cX2_isOnBelt 0 = .ok (.aload_n 0, 1) := by decide +kernel
theorem dX2_isOnBelt_1 : decode cX2_isOnBelt 1 = .ok (.getfield 21, 3) := by decide +kernel
theorem dX2_isOnBelt_4 : decode cX2_isOnBelt 4 = .ok (.iload_n 1, 1) := by decide +kernel
theorem dX2_isOnBelt_5 : decode cX2_isOnBelt 5 = .ok (.bipush 22, 2) := by decide +kernel
theorem dX2_isOnBelt_7 : decode cX2_isOnBelt 7 = .ok (.imul, 1) := by decide +kernel
theorem dX2_isOnBelt_8 : decode cX2_isOnBelt 8 = .ok (.iconst 2, 1) := by decide +kernel
theorem dX2_isOnBelt_9 : decode cX2_isOnBelt 9 = .ok (.iadd, 1) := by decide +kernel
theorem dX2_isOnBelt_10 : decode cX2_isOnBelt 10 = .ok (.iaload, 1) := by decide +kernel
theorem dX2_isOnBelt_11 : decode cX2_isOnBelt 11 = .ok (.ifCond .ne 7, 3) := by decide +kernel
theorem dX2_isOnBelt_14 : decode cX2_isOnBelt 14 = .ok (.iconst 1, 1) := by decide +kernel
theorem dX2_isOnBelt_15 : decode cX2_isOnBelt 15 = .ok (.goto 4, 3) := by decide +kernel
theorem dX2_isOnBelt_18 : decode cX2_isOnBelt 18 = .ok (.iconst 0, 1) := by decide +kernel
theorem dX2_isOnBelt_19 : decode cX2_isOnBelt 19 = .ok (.ireturn, 1) := by decide +kernel
theorem dX2_isStartFree_0 : decode cX2_isStartFree 0 = .ok (.iconst 0, 1) := by decide +kernel
theorem dX2_isStartFree_1 : decode cX2_isStartFree 1 = .ok (.istore_n 1, 1) := by decide +kernel
theorem dX2_isStartFree_2 : decode cX2_isStartFree 2 = .ok (.iload_n 1, 1) := by decide +kernel
theorem dX2_isStartFree_3 : decode cX2_isStartFree 3 = .ok (.aload_n 0, 1) := by decide +kernel
theorem dX2_isStartFree_4 : decode cX2_isStartFree 4 = .ok (.getfield 42, 3) := by decide +kernel
theorem dX2_isStartFree_7 : decode cX2_isStartFree 7 = .ok (.if_icmp .ge 39, 3) := by decide +kernel
theorem dX2_isStartFree_10 : decode cX2_isStartFree 10 = .ok (.aload_n 0, 1) := by decide +kernel
theorem dX2_isStartFree_11 : decode cX2_isStartFree 11 = .ok (.iload_n 1, 1) := by decide +kernel
theorem dX2_isStartFree_12 : decode cX2_isStartFree 12 = .ok (.invokevirtual 91, 3) := by decide +kernel
theorem dX2_isStartFree_15 : decode cX2_isStartFree 15 = .ok (.ifCond .eq 25, 3) := by decide +kernel
theorem dX2_isStartFree_18 : decode cX2_isStartFree 18 = .ok (.aload_n 0, 1) := by decide +kernel
theorem dX2_isStartFree_19 : decode cX2_isStartFree 19 = .ok (.getfield 21, 3) := by decide +kernel
theorem dX2_isStartFree_22 : decode cX2_isStartFree 22 = .ok (.iload_n 1, 1) := by decide +kernel
theorem dX2_isStartFree_23 : decode cX2_isStartFree 23 = .ok (.bipush 22, 2) := by decide +kernel
theorem dX2_isStartFree_25 : decode cX2_isStartFree 25 = .ok (.imul, 1) := by decide +kernel
theorem dX2_isStartFree_26 : decode cX2_isStartFree 26 = .ok (.iconst 3, 1) := by decide +kernel
theorem dX2_isStartFree_27 : decode cX2_isStartFree 27 = .ok (.iadd, 1) := by decide +kernel
theorem dX2_isStartFree_28 : decode cX2_isStartFree 28 = .ok (.iaload, 1) := by decide +kernel
theorem dX2_isStartFree_29 : decode cX2_isStartFree 29 = .ok (.aload_n 0, 1) := by decide +kernel
theorem dX2_isStartFree_30 : decode cX2_isStartFree 30 = .ok (.getfield 18, 3) := by decide +kernel
theorem dX2_isStartFree_33 : decode cX2_isStartFree 33 = .ok (.iconst 1, 1) := by decide +kernel
theorem dX2_isStartFree_34 : decode cX2_isStartFree 34 = .ok (.iaload, 1) := by decide +kernel
theorem dX2_isStartFree_35 : decode cX2_isStartFree 35 = .ok (.if_icmp .ge 5, 3) := by decide +kernel
theorem dX2_isStartFree_38 : decode cX2_isStartFree 38 = .ok (.iconst 0, 1) := by decide +kernel
theorem dX2_isStartFree_39 : decode cX2_isStartFree 39 = .ok (.ireturn, 1) := by decide +kernel
theorem dX2_isStartFree_40 : decode cX2_isStartFree 40 = .ok (.iinc 1 1, 3) := by decide +kernel
theorem dX2_isStartFree_43 : decode cX2_isStartFree 43 = .ok (.goto (-41), 3) := by decide +kernel
theorem dX2_isStartFree_46 : decode cX2_isStartFree 46 = .ok (.iconst 1, 1) := by decide +kernel
theorem dX2_isStartFree_47 : decode cX2_isStartFree 47 = .ok (.ireturn, 1) := by decide +kernel
theorem dX2_beltLength_0 : decode cX2_beltLength 0 = .ok (.aload_n 0, 1) := by decide +kernel
theorem dX2_beltLength_1 : decode cX2_beltLength 1 = .ok (.bipush 6, 2) := by decide +kernel
theorem dX2_beltLength_3 : decode cX2_beltLength 3 = .ok (.invokevirtual 153, 3) := by decide +kernel
theorem dX2_beltLength_6 : decode cX2_beltLength 6 = .ok (.ireturn, 1) := by decide +kernel
theorem dX2_firstCellOf_0 : decode cX2_firstCellOf 0 = .ok (.iconst 0, 1) := by decide +kernel
theorem dX2_firstCellOf_1 : decode cX2_firstCellOf 1 = .ok (.istore_n 2, 1) := by decide +kernel
theorem dX2_firstCellOf_2 : decode cX2_firstCellOf 2 = .ok (.iconst 0, 1) := by decide +kernel
theorem dX2_firstCellOf_3 : decode cX2_firstCellOf 3 = .ok (.istore_n 3, 1) := by decide +kernel
theorem dX2_firstCellOf_4 : decode cX2_firstCellOf 4 = .ok (.iload_n 3, 1) := by decide +kernel
theorem dX2_firstCellOf_5 : decode cX2_firstCellOf 5 = .ok (.iload_n 1, 1) := by decide +kernel
theorem dX2_firstCellOf_6 : decode cX2_firstCellOf 6 = .ok (.if_icmp .ge 28, 3) := by decide +kernel
theorem dX2_firstCellOf_9 : decode cX2_firstCellOf 9 = .ok (.iload_n 3, 1) := by decide +kernel
theorem dX2_firstCellOf_10 : decode cX2_firstCellOf 10 = .ok (.bipush 6, 2) := by decide +kernel
theorem dX2_firstCellOf_12 : decode cX2_firstCellOf 12 = .ok (.if_icmp .ge 22, 3) := by decide +kernel
theorem dX2_firstCellOf_15 : decode cX2_firstCellOf 15 = .ok (.iload_n 2, 1) := by decide +kernel
theorem dX2_firstCellOf_16 : decode cX2_firstCellOf 16 = .ok (.aload_n 0, 1) := by decide +kernel
theorem dX2_firstCellOf_17 : decode cX2_firstCellOf 17 = .ok (.getfield 9, 3) := by decide +kernel
theorem dX2_firstCellOf_20 : decode cX2_firstCellOf 20 = .ok (.iload_n 3, 1) := by decide +kernel
theorem dX2_firstCellOf_21 : decode cX2_firstCellOf 21 = .ok (.iconst 4, 1) := by decide +kernel
theorem dX2_firstCellOf_22 : decode cX2_firstCellOf 22 = .ok (.imul, 1) := by decide +kernel
theorem dX2_firstCellOf_23 : decode cX2_firstCellOf 23 = .ok (.iconst 0, 1) := by decide +kernel
theorem dX2_firstCellOf_24 : decode cX2_firstCellOf 24 = .ok (.iadd, 1) := by decide +kernel
theorem dX2_firstCellOf_25 : decode cX2_firstCellOf 25 = .ok (.iaload, 1) := by decide +kernel
theorem dX2_firstCellOf_26 : decode cX2_firstCellOf 26 = .ok (.iadd, 1) := by decide +kernel
theorem dX2_firstCellOf_27 : decode cX2_firstCellOf 27 = .ok (.istore_n 2, 1) := by decide +kernel
theorem dX2_firstCellOf_28 : decode cX2_firstCellOf 28 = .ok (.iinc 3 1, 3) := by decide +kernel
theorem dX2_firstCellOf_31 : decode cX2_firstCellOf 31 = .ok (.goto (-27), 3) := by decide +kernel
theorem dX2_firstCellOf_34 : decode cX2_firstCellOf 34 = .ok (.iload_n 2, 1) := by decide +kernel
theorem dX2_firstCellOf_35 : decode cX2_firstCellOf 35 = .ok (.ireturn, 1) := by decide +kernel
theorem dX2_zoneAt_0 : decode cX2_zoneAt 0 = .ok (.iconst 0, 1) := by decide +kernel
theorem dX2_zoneAt_1 : decode cX2_zoneAt 1 = .ok (.istore_n 2, 1) := by decide +kernel
theorem dX2_zoneAt_2 : decode cX2_zoneAt 2 = .ok (.iconst 0, 1) := by decide +kernel
theorem dX2_zoneAt_3 : decode cX2_zoneAt 3 = .ok (.istore_n 3, 1) := by decide +kernel
theorem dX2_zoneAt_4 : decode cX2_zoneAt 4 = .ok (.iload_n 3, 1) := by decide +kernel
theorem dX2_zoneAt_5 : decode cX2_zoneAt 5 = .ok (.iconst 5, 1) := by decide +kernel
theorem dX2_zoneAt_6 : decode cX2_zoneAt 6 = .ok (.if_icmp .ge 29, 3) := by decide +kernel
theorem dX2_zoneAt_9 : decode cX2_zoneAt 9 = .ok (.iload_n 2, 1) := by decide +kernel
theorem dX2_zoneAt_10 : decode cX2_zoneAt 10 = .ok (.aload_n 0, 1) := by decide +kernel
theorem dX2_zoneAt_11 : decode cX2_zoneAt 11 = .ok (.getfield 9, 3) := by decide +kernel
theorem dX2_zoneAt_14 : decode cX2_zoneAt 14 = .ok (.iload_n 3, 1) := by decide +kernel
theorem dX2_zoneAt_15 : decode cX2_zoneAt 15 = .ok (.iconst 4, 1) := by decide +kernel
theorem dX2_zoneAt_16 : decode cX2_zoneAt 16 = .ok (.imul, 1) := by decide +kernel
theorem dX2_zoneAt_17 : decode cX2_zoneAt 17 = .ok (.iconst 0, 1) := by decide +kernel
theorem dX2_zoneAt_18 : decode cX2_zoneAt 18 = .ok (.iadd, 1) := by decide +kernel
theorem dX2_zoneAt_19 : decode cX2_zoneAt 19 = .ok (.iaload, 1) := by decide +kernel
theorem dX2_zoneAt_20 : decode cX2_zoneAt 20 = .ok (.iadd, 1) := by decide +kernel
theorem dX2_zoneAt_21 : decode cX2_zoneAt 21 = .ok (.istore_n 2, 1) := by decide +kernel
theorem dX2_zoneAt_22 : decode cX2_zoneAt 22 = .ok (.iload_n 1, 1) := by decide +kernel
theorem dX2_zoneAt_23 : decode cX2_zoneAt 23 = .ok (.iload_n 2, 1) := by decide +kernel
theorem dX2_zoneAt_24 : decode cX2_zoneAt 24 = .ok (.if_icmp .ge 5, 3) := by decide +kernel
theorem dX2_zoneAt_27 : decode cX2_zoneAt 27 = .ok (.iload_n 3, 1) := by decide +kernel
theorem dX2_zoneAt_28 : decode cX2_zoneAt 28 = .ok (.ireturn, 1) := by decide +kernel
theorem dX2_zoneAt_29 : decode cX2_zoneAt 29 = .ok (.iinc 3 1, 3) := by decide +kernel
theorem dX2_zoneAt_32 : decode cX2_zoneAt 32 = .ok (.goto (-28), 3) := by decide +kernel
theorem dX2_zoneAt_35 : decode cX2_zoneAt 35 = .ok (.iconst 5, 1) := by decide +kernel
theorem dX2_zoneAt_36 : decode cX2_zoneAt 36 = .ok (.ireturn, 1) := by decide +kernel
theorem dX2_boardsThatAre_0 : decode cX2_boardsThatAre 0 = .ok (.iconst 0, 1) := by decide +kernel
theorem dX2_boardsThatAre_1 : decode cX2_boardsThatAre 1 = .ok (.istore_n 2, 1) := by decide +kernel
theorem dX2_boardsThatAre_2 : decode cX2_boardsThatAre 2 = .ok (.iconst 0, 1) := by decide +kernel
theorem dX2_boardsThatAre_3 : decode cX2_boardsThatAre 3 = .ok (.istore_n 3, 1) := by decide +kernel
theorem dX2_boardsThatAre_4 : decode cX2_boardsThatAre 4 = .ok (.iload_n 3, 1) := by decide +kernel
theorem dX2_boardsThatAre_5 : decode cX2_boardsThatAre 5 = .ok (.aload_n 0, 1) := by decide +kernel
theorem dX2_boardsThatAre_6 : decode cX2_boardsThatAre 6 = .ok (.getfield 42, 3) := by decide +kernel
theorem dX2_boardsThatAre_9 : decode cX2_boardsThatAre 9 = .ok (.if_icmp .ge 27, 3) := by decide +kernel
theorem dX2_boardsThatAre_12 : decode cX2_boardsThatAre 12 = .ok (.aload_n 0, 1) := by decide +kernel
theorem dX2_boardsThatAre_13 : decode cX2_boardsThatAre 13 = .ok (.getfield 21, 3) := by decide +kernel
theorem dX2_boardsThatAre_16 : decode cX2_boardsThatAre 16 = .ok (.iload_n 3, 1) := by decide +kernel
theorem dX2_boardsThatAre_17 : decode cX2_boardsThatAre 17 = .ok (.bipush 22, 2) := by decide +kernel
theorem dX2_boardsThatAre_19 : decode cX2_boardsThatAre 19 = .ok (.imul, 1) := by decide +kernel
theorem dX2_boardsThatAre_20 : decode cX2_boardsThatAre 20 = .ok (.iconst 2, 1) := by decide +kernel
theorem dX2_boardsThatAre_21 : decode cX2_boardsThatAre 21 = .ok (.iadd, 1) := by decide +kernel
theorem dX2_boardsThatAre_22 : decode cX2_boardsThatAre 22 = .ok (.iaload, 1) := by decide +kernel
theorem dX2_boardsThatAre_23 : decode cX2_boardsThatAre 23 = .ok (.iload_n 1, 1) := by decide +kernel
theorem dX2_boardsThatAre_24 : decode cX2_boardsThatAre 24 = .ok (.if_icmp .ne 6, 3) := by decide +kernel
theorem dX2_boardsThatAre_27 : decode cX2_boardsThatAre 27 = .ok (.iinc 2 1, 3) := by decide +kernel
theorem dX2_boardsThatAre_30 : decode cX2_boardsThatAre 30 = .ok (.iinc 3 1, 3) := by decide +kernel
theorem dX2_boardsThatAre_33 : decode cX2_boardsThatAre 33 = .ok (.goto (-29), 3) := by decide +kernel
theorem dX2_boardsThatAre_36 : decode cX2_boardsThatAre 36 = .ok (.iload_n 2, 1) := by decide +kernel
theorem dX2_boardsThatAre_37 : decode cX2_boardsThatAre 37 = .ok (.ireturn, 1) := by decide +kernel
theorem dX2_boardsLeftFaultless_0 : decode cX2_boardsLeftFaultless 0 = .ok (.iconst 0, 1) := by decide +kernel
theorem dX2_boardsLeftFaultless_1 : decode cX2_boardsLeftFaultless 1 = .ok (.istore_n 1, 1) := by decide +kernel
theorem dX2_boardsLeftFaultless_2 : decode cX2_boardsLeftFaultless 2 = .ok (.iconst 0, 1) := by decide +kernel
theorem dX2_boardsLeftFaultless_3 : decode cX2_boardsLeftFaultless 3 = .ok (.istore_n 2, 1) := by decide +kernel
theorem dX2_boardsLeftFaultless_4 : decode cX2_boardsLeftFaultless 4 = .ok (.iload_n 2, 1) := by decide +kernel
theorem dX2_boardsLeftFaultless_5 : decode cX2_boardsLeftFaultless 5 = .ok (.aload_n 0, 1) := by decide +kernel
theorem dX2_boardsLeftFaultless_6 : decode cX2_boardsLeftFaultless 6 = .ok (.getfield 42, 3) := by decide +kernel
theorem dX2_boardsLeftFaultless_9 : decode cX2_boardsLeftFaultless 9 = .ok (.if_icmp .ge 41, 3) := by decide +kernel
theorem dX2_boardsLeftFaultless_12 : decode cX2_boardsLeftFaultless 12 = .ok (.iload_n 2, 1) := by decide +kernel
theorem dX2_boardsLeftFaultless_13 : decode cX2_boardsLeftFaultless 13 = .ok (.bipush 22, 2) := by decide +kernel
theorem dX2_boardsLeftFaultless_15 : decode cX2_boardsLeftFaultless 15 = .ok (.imul, 1) := by decide +kernel
theorem dX2_boardsLeftFaultless_16 : decode cX2_boardsLeftFaultless 16 = .ok (.istore_n 3, 1) := by decide +kernel
theorem dX2_boardsLeftFaultless_17 : decode cX2_boardsLeftFaultless 17 = .ok (.aload_n 0, 1) := by decide +kernel
theorem dX2_boardsLeftFaultless_18 : decode cX2_boardsLeftFaultless 18 = .ok (.getfield 21, 3) := by decide +kernel
theorem dX2_boardsLeftFaultless_21 : decode cX2_boardsLeftFaultless 21 = .ok (.iload_n 3, 1) := by decide +kernel
theorem dX2_boardsLeftFaultless_22 : decode cX2_boardsLeftFaultless 22 = .ok (.iconst 2, 1) := by decide +kernel
theorem dX2_boardsLeftFaultless_23 : decode cX2_boardsLeftFaultless 23 = .ok (.iadd, 1) := by decide +kernel
theorem dX2_boardsLeftFaultless_24 : decode cX2_boardsLeftFaultless 24 = .ok (.iaload, 1) := by decide +kernel
theorem dX2_boardsLeftFaultless_25 : decode cX2_boardsLeftFaultless 25 = .ok (.iconst 1, 1) := by decide +kernel
theorem dX2_boardsLeftFaultless_26 : decode cX2_boardsLeftFaultless 26 = .ok (.if_icmp .ne 18, 3) := by decide +kernel
theorem dX2_boardsLeftFaultless_29 : decode cX2_boardsLeftFaultless 29 = .ok (.aload_n 0, 1) := by decide +kernel
theorem dX2_boardsLeftFaultless_30 : decode cX2_boardsLeftFaultless 30 = .ok (.getfield 21, 3) := by decide +kernel
theorem dX2_boardsLeftFaultless_33 : decode cX2_boardsLeftFaultless 33 = .ok (.iload_n 3, 1) := by decide +kernel
theorem dX2_boardsLeftFaultless_34 : decode cX2_boardsLeftFaultless 34 = .ok (.bipush 8, 2) := by decide +kernel
theorem dX2_boardsLeftFaultless_36 : decode cX2_boardsLeftFaultless 36 = .ok (.iadd, 1) := by decide +kernel
theorem dX2_boardsLeftFaultless_37 : decode cX2_boardsLeftFaultless 37 = .ok (.iaload, 1) := by decide +kernel
theorem dX2_boardsLeftFaultless_38 : decode cX2_boardsLeftFaultless 38 = .ok (.ifCond .ne 6, 3) := by decide +kernel
theorem dX2_boardsLeftFaultless_41 : decode cX2_boardsLeftFaultless 41 = .ok (.iinc 1 1, 3) := by decide +kernel
theorem dX2_boardsLeftFaultless_44 : decode cX2_boardsLeftFaultless 44 = .ok (.iinc 2 1, 3) := by decide +kernel
theorem dX2_boardsLeftFaultless_47 : decode cX2_boardsLeftFaultless 47 = .ok (.goto (-43), 3) := by decide +kernel
theorem dX2_boardsLeftFaultless_50 : decode cX2_boardsLeftFaultless 50 = .ok (.iload_n 1, 1) := by decide +kernel
theorem dX2_boardsLeftFaultless_51 : decode cX2_boardsLeftFaultless 51 = .ok (.ireturn, 1) := by decide +kernel
theorem dX2_boardsIn_0 : decode cX2_boardsIn 0 = .ok (.iconst 0, 1) := by decide +kernel
theorem dX2_boardsIn_1 : decode cX2_boardsIn 1 = .ok (.istore_n 2, 1) := by decide +kernel
theorem dX2_boardsIn_2 : decode cX2_boardsIn 2 = .ok (.iconst 0, 1) := by decide +kernel
theorem dX2_boardsIn_3 : decode cX2_boardsIn 3 = .ok (.istore_n 3, 1) := by decide +kernel
theorem dX2_boardsIn_4 : decode cX2_boardsIn 4 = .ok (.iload_n 3, 1) := by decide +kernel
theorem dX2_boardsIn_5 : decode cX2_boardsIn 5 = .ok (.aload_n 0, 1) := by decide +kernel
theorem dX2_boardsIn_6 : decode cX2_boardsIn 6 = .ok (.getfield 42, 3) := by decide +kernel
theorem dX2_boardsIn_9 : decode cX2_boardsIn 9 = .ok (.if_icmp .ge 36, 3) := by decide +kernel
theorem dX2_boardsIn_12 : decode cX2_boardsIn 12 = .ok (.aload_n 0, 1) := by decide +kernel
theorem dX2_boardsIn_13 : decode cX2_boardsIn 13 = .ok (.iload_n 3, 1) := by decide +kernel
theorem dX2_boardsIn_14 : decode cX2_boardsIn 14 = .ok (.invokevirtual 91, 3) := by decide +kernel
theorem dX2_boardsIn_17 : decode cX2_boardsIn 17 = .ok (.ifCond .eq 22, 3) := by decide +kernel
theorem dX2_boardsIn_20 : decode cX2_boardsIn 20 = .ok (.aload_n 0, 1) := by decide +kernel
theorem dX2_boardsIn_21 : decode cX2_boardsIn 21 = .ok (.getfield 21, 3) := by decide +kernel
theorem dX2_boardsIn_24 : decode cX2_boardsIn 24 = .ok (.iload_n 3, 1) := by decide +kernel
theorem dX2_boardsIn_25 : decode cX2_boardsIn 25 = .ok (.bipush 22, 2) := by decide +kernel
theorem dX2_boardsIn_27 : decode cX2_boardsIn 27 = .ok (.imul, 1) := by decide +kernel
theorem dX2_boardsIn_28 : decode cX2_boardsIn 28 = .ok (.bipush 11, 2) := by decide +kernel
theorem dX2_boardsIn_30 : decode cX2_boardsIn 30 = .ok (.iadd, 1) := by decide +kernel
theorem dX2_boardsIn_31 : decode cX2_boardsIn 31 = .ok (.iaload, 1) := by decide +kernel
theorem dX2_boardsIn_32 : decode cX2_boardsIn 32 = .ok (.iload_n 1, 1) := by decide +kernel
theorem dX2_boardsIn_33 : decode cX2_boardsIn 33 = .ok (.if_icmp .ne 6, 3) := by decide +kernel
theorem dX2_boardsIn_36 : decode cX2_boardsIn 36 = .ok (.iinc 2 1, 3) := by decide +kernel
theorem dX2_boardsIn_39 : decode cX2_boardsIn 39 = .ok (.iinc 3 1, 3) := by decide +kernel
theorem dX2_boardsIn_42 : decode cX2_boardsIn 42 = .ok (.goto (-38), 3) := by decide +kernel
theorem dX2_boardsIn_45 : decode cX2_boardsIn 45 = .ok (.iload_n 2, 1) := by decide +kernel
theorem dX2_boardsIn_46 : decode cX2_boardsIn 46 = .ok (.ireturn, 1) := by decide +kernel
theorem dX2_weightIn_0 : decode cX2_weightIn 0 = .ok (.iconst 0, 1) := by decide +kernel
theorem dX2_weightIn_1 : decode cX2_weightIn 1 = .ok (.istore_n 2, 1) := by decide +kernel
theorem dX2_weightIn_2 : decode cX2_weightIn 2 = .ok (.iconst 0, 1) := by decide +kernel
theorem dX2_weightIn_3 : decode cX2_weightIn 3 = .ok (.istore_n 3, 1) := by decide +kernel
theorem dX2_weightIn_4 : decode cX2_weightIn 4 = .ok (.iload_n 3, 1) := by decide +kernel
theorem dX2_weightIn_5 : decode cX2_weightIn 5 = .ok (.aload_n 0, 1) := by decide +kernel
theorem dX2_weightIn_6 : decode cX2_weightIn 6 = .ok (.getfield 42, 3) := by decide +kernel
theorem dX2_weightIn_9 : decode cX2_weightIn 9 = .ok (.if_icmp .ge 47, 3) := by decide +kernel
theorem dX2_weightIn_12 : decode cX2_weightIn 12 = .ok (.aload_n 0, 1) := by decide +kernel
theorem dX2_weightIn_13 : decode cX2_weightIn 13 = .ok (.iload_n 3, 1) := by decide +kernel
theorem dX2_weightIn_14 : decode cX2_weightIn 14 = .ok (.invokevirtual 91, 3) := by decide +kernel
theorem dX2_weightIn_17 : decode cX2_weightIn 17 = .ok (.ifCond .eq 33, 3) := by decide +kernel
theorem dX2_weightIn_20 : decode cX2_weightIn 20 = .ok (.aload_n 0, 1) := by decide +kernel
theorem dX2_weightIn_21 : decode cX2_weightIn 21 = .ok (.getfield 21, 3) := by decide +kernel
theorem dX2_weightIn_24 : decode cX2_weightIn 24 = .ok (.iload_n 3, 1) := by decide +kernel
theorem dX2_weightIn_25 : decode cX2_weightIn 25 = .ok (.bipush 22, 2) := by decide +kernel
theorem dX2_weightIn_27 : decode cX2_weightIn 27 = .ok (.imul, 1) := by decide +kernel
theorem dX2_weightIn_28 : decode cX2_weightIn 28 = .ok (.bipush 11, 2) := by decide +kernel
theorem dX2_weightIn_30 : decode cX2_weightIn 30 = .ok (.iadd, 1) := by decide +kernel
theorem dX2_weightIn_31 : decode cX2_weightIn 31 = .ok (.iaload, 1) := by decide +kernel
theorem dX2_weightIn_32 : decode cX2_weightIn 32 = .ok (.iload_n 1, 1) := by decide +kernel
theorem dX2_weightIn_33 : decode cX2_weightIn 33 = .ok (.if_icmp .ne 17, 3) := by decide +kernel
theorem dX2_weightIn_36 : decode cX2_weightIn 36 = .ok (.iload_n 2, 1) := by decide +kernel
theorem dX2_weightIn_37 : decode cX2_weightIn 37 = .ok (.aload_n 0, 1) := by decide +kernel
theorem dX2_weightIn_38 : decode cX2_weightIn 38 = .ok (.getfield 21, 3) := by decide +kernel
theorem dX2_weightIn_41 : decode cX2_weightIn 41 = .ok (.iload_n 3, 1) := by decide +kernel
theorem dX2_weightIn_42 : decode cX2_weightIn 42 = .ok (.bipush 22, 2) := by decide +kernel
theorem dX2_weightIn_44 : decode cX2_weightIn 44 = .ok (.imul, 1) := by decide +kernel
theorem dX2_weightIn_45 : decode cX2_weightIn 45 = .ok (.iconst 1, 1) := by decide +kernel
theorem dX2_weightIn_46 : decode cX2_weightIn 46 = .ok (.iadd, 1) := by decide +kernel
theorem dX2_weightIn_47 : decode cX2_weightIn 47 = .ok (.iaload, 1) := by decide +kernel
theorem dX2_weightIn_48 : decode cX2_weightIn 48 = .ok (.iadd, 1) := by decide +kernel
theorem dX2_weightIn_49 : decode cX2_weightIn 49 = .ok (.istore_n 2, 1) := by decide +kernel
theorem dX2_weightIn_50 : decode cX2_weightIn 50 = .ok (.iinc 3 1, 3) := by decide +kernel
theorem dX2_weightIn_53 : decode cX2_weightIn 53 = .ok (.goto (-49), 3) := by decide +kernel
theorem dX2_weightIn_56 : decode cX2_weightIn 56 = .ok (.iload_n 2, 1) := by decide +kernel
theorem dX2_weightIn_57 : decode cX2_weightIn 57 = .ok (.ireturn, 1) := by decide +kernel
theorem dX2_boardsWithFault_0 : decode cX2_boardsWithFault 0 = .ok (.iconst 0, 1) := by decide +kernel
theorem dX2_boardsWithFault_1 : decode cX2_boardsWithFault 1 = .ok (.istore_n 3, 1) := by decide +kernel
theorem dX2_boardsWithFault_2 : decode cX2_boardsWithFault 2 = .ok (.iconst 0, 1) := by decide +kernel
theorem dX2_boardsWithFault_3 : decode cX2_boardsWithFault 3 = .ok (.istore 4, 2) := by decide +kernel
theorem dX2_boardsWithFault_5 : decode cX2_boardsWithFault 5 = .ok (.iload 4, 2) := by decide +kernel
theorem dX2_boardsWithFault_7 : decode cX2_boardsWithFault 7 = .ok (.aload_n 0, 1) := by decide +kernel
theorem dX2_boardsWithFault_8 : decode cX2_boardsWithFault 8 = .ok (.getfield 42, 3) := by decide +kernel
theorem dX2_boardsWithFault_11 : decode cX2_boardsWithFault 11 = .ok (.if_icmp .ge 31, 3) := by decide +kernel
theorem dX2_boardsWithFault_14 : decode cX2_boardsWithFault 14 = .ok (.aload_n 0, 1) := by decide +kernel
theorem dX2_boardsWithFault_15 : decode cX2_boardsWithFault 15 = .ok (.getfield 21, 3) := by decide +kernel
theorem dX2_boardsWithFault_18 : decode cX2_boardsWithFault 18 = .ok (.iload 4, 2) := by decide +kernel
theorem dX2_boardsWithFault_20 : decode cX2_boardsWithFault 20 = .ok (.bipush 22, 2) := by decide +kernel
theorem dX2_boardsWithFault_22 : decode cX2_boardsWithFault 22 = .ok (.imul, 1) := by decide +kernel
theorem dX2_boardsWithFault_23 : decode cX2_boardsWithFault 23 = .ok (.bipush 12, 2) := by decide +kernel
theorem dX2_boardsWithFault_25 : decode cX2_boardsWithFault 25 = .ok (.iadd, 1) := by decide +kernel
theorem dX2_boardsWithFault_26 : decode cX2_boardsWithFault 26 = .ok (.iload_n 1, 1) := by decide +kernel
theorem dX2_boardsWithFault_27 : decode cX2_boardsWithFault 27 = .ok (.iadd, 1) := by decide +kernel
theorem dX2_boardsWithFault_28 : decode cX2_boardsWithFault 28 = .ok (.iaload, 1) := by decide +kernel
theorem dX2_boardsWithFault_29 : decode cX2_boardsWithFault 29 = .ok (.iload_n 2, 1) := by decide +kernel
theorem dX2_boardsWithFault_30 : decode cX2_boardsWithFault 30 = .ok (.if_icmp .ne 6, 3) := by decide +kernel
theorem dX2_boardsWithFault_33 : decode cX2_boardsWithFault 33 = .ok (.iinc 3 1, 3) := by decide +kernel
theorem dX2_boardsWithFault_36 : decode cX2_boardsWithFault 36 = .ok (.iinc 4 1, 3) := by decide +kernel
theorem dX2_boardsWithFault_39 : decode cX2_boardsWithFault 39 = .ok (.goto (-34), 3) := by decide +kernel
theorem dX2_boardsWithFault_42 : decode cX2_boardsWithFault 42 = .ok (.iload_n 3, 1) := by decide +kernel
theorem dX2_boardsWithFault_43 : decode cX2_boardsWithFault 43 = .ok (.ireturn, 1) := by decide +kernel
theorem dX2_setOfFaultCells_0 : decode cX2_setOfFaultCells 0 = .ok (.lconst 0, 1) := by decide +kernel
theorem dX2_setOfFaultCells_1 : decode cX2_setOfFaultCells 1 = .ok (.lstore_n 1, 1) := by decide +kernel
theorem dX2_setOfFaultCells_2 : decode cX2_setOfFaultCells 2 = .ok (.iconst 0, 1) := by decide +kernel
theorem dX2_setOfFaultCells_3 : decode cX2_setOfFaultCells 3 = .ok (.istore_n 3, 1) := by decide +kernel
theorem dX2_setOfFaultCells_4 : decode cX2_setOfFaultCells 4 = .ok (.iload_n 3, 1) := by decide +kernel
theorem dX2_setOfFaultCells_5 : decode cX2_setOfFaultCells 5 = .ok (.aload_n 0, 1) := by decide +kernel
theorem dX2_setOfFaultCells_6 : decode cX2_setOfFaultCells 6 = .ok (.getfield 42, 3) := by decide +kernel
theorem dX2_setOfFaultCells_9 : decode cX2_setOfFaultCells 9 = .ok (.if_icmp .ge 56, 3) := by decide +kernel
theorem dX2_setOfFaultCells_12 : decode cX2_setOfFaultCells 12 = .ok (.iconst 0, 1) := by decide +kernel
theorem dX2_setOfFaultCells_13 : decode cX2_setOfFaultCells 13 = .ok (.istore 4, 2) := by decide +kernel
theorem dX2_setOfFaultCells_15 : decode cX2_setOfFaultCells 15 = .ok (.iload 4, 2) := by decide +kernel
theorem dX2_setOfFaultCells_17 : decode cX2_setOfFaultCells 17 = .ok (.iconst 5, 1) := by decide +kernel
theorem dX2_setOfFaultCells_18 : decode cX2_setOfFaultCells 18 = .ok (.if_icmp .ge 41, 3) := by decide +kernel
theorem dX2_setOfFaultCells_21 : decode cX2_setOfFaultCells 21 = .ok (.aload_n 0, 1) := by decide +kernel
theorem dX2_setOfFaultCells_22 : decode cX2_setOfFaultCells 22 = .ok (.getfield 21, 3) := by decide +kernel
theorem dX2_setOfFaultCells_25 : decode cX2_setOfFaultCells 25 = .ok (.iload_n 3, 1) := by decide +kernel
theorem dX2_setOfFaultCells_26 : decode cX2_setOfFaultCells 26 = .ok (.bipush 22, 2) := by decide +kernel
theorem dX2_setOfFaultCells_28 : decode cX2_setOfFaultCells 28 = .ok (.imul, 1) := by decide +kernel
theorem dX2_setOfFaultCells_29 : decode cX2_setOfFaultCells 29 = .ok (.bipush 12, 2) := by decide +kernel
theorem dX2_setOfFaultCells_31 : decode cX2_setOfFaultCells 31 = .ok (.iadd, 1) := by decide +kernel
theorem dX2_setOfFaultCells_32 : decode cX2_setOfFaultCells 32 = .ok (.iload 4, 2) := by decide +kernel
theorem dX2_setOfFaultCells_34 : decode cX2_setOfFaultCells 34 = .ok (.iadd, 1) := by decide +kernel
theorem dX2_setOfFaultCells_35 : decode cX2_setOfFaultCells 35 = .ok (.iaload, 1) := by decide +kernel
theorem dX2_setOfFaultCells_36 : decode cX2_setOfFaultCells 36 = .ok (.istore 5, 2) := by decide +kernel
theorem dX2_setOfFaultCells_38 : decode cX2_setOfFaultCells 38 = .ok (.iload 5, 2) := by decide +kernel
theorem dX2_setOfFaultCells_40 : decode cX2_setOfFaultCells 40 = .ok (.sipush (-1009), 3) := by decide +kernel
theorem dX2_setOfFaultCells_43 : decode cX2_setOfFaultCells 43 = .ok (.if_icmp .eq 10, 3) := by decide +kernel
theorem dX2_setOfFaultCells_46 : decode cX2_setOfFaultCells 46 = .ok (.lload_n 1, 1) := by decide +kernel
theorem dX2_setOfFaultCells_47 : decode cX2_setOfFaultCells 47 = .ok (.lconst 1, 1) := by decide +kernel
theorem dX2_setOfFaultCells_48 : decode cX2_setOfFaultCells 48 = .ok (.iload 5, 2) := by decide +kernel
theorem dX2_setOfFaultCells_50 : decode cX2_setOfFaultCells 50 = .ok (.lshl, 1) := by decide +kernel
theorem dX2_setOfFaultCells_51 : decode cX2_setOfFaultCells 51 = .ok (.lor, 1) := by decide +kernel
theorem dX2_setOfFaultCells_52 : decode cX2_setOfFaultCells 52 = .ok (.lstore_n 1, 1) := by decide +kernel
theorem dX2_setOfFaultCells_53 : decode cX2_setOfFaultCells 53 = .ok (.iinc 4 1, 3) := by decide +kernel
theorem dX2_setOfFaultCells_56 : decode cX2_setOfFaultCells 56 = .ok (.goto (-41), 3) := by decide +kernel
theorem dX2_setOfFaultCells_59 : decode cX2_setOfFaultCells 59 = .ok (.iinc 3 1, 3) := by decide +kernel
theorem dX2_setOfFaultCells_62 : decode cX2_setOfFaultCells 62 = .ok (.goto (-58), 3) := by decide +kernel
theorem dX2_setOfFaultCells_65 : decode cX2_setOfFaultCells 65 = .ok (.lload_n 1, 1) := by decide +kernel
theorem dX2_setOfFaultCells_66 : decode cX2_setOfFaultCells 66 = .ok (.lreturn, 1) := by decide +kernel
theorem dL_cell_0 : decode cL_cell 0 = .ok (.iload_n 1, 1) := by decide +kernel
theorem dL_cell_1 : decode cL_cell 1 = .ok (.aload_n 0, 1) := by decide +kernel
theorem dL_cell_2 : decode cL_cell 2 = .ok (.arraylength, 1) := by decide +kernel
theorem dL_cell_3 : decode cL_cell 3 = .ok (.if_icmp .ge 9, 3) := by decide +kernel
theorem dL_cell_6 : decode cL_cell 6 = .ok (.aload_n 0, 1) := by decide +kernel
theorem dL_cell_7 : decode cL_cell 7 = .ok (.iload_n 1, 1) := by decide +kernel
theorem dL_cell_8 : decode cL_cell 8 = .ok (.iaload, 1) := by decide +kernel
theorem dL_cell_9 : decode cL_cell 9 = .ok (.goto 16, 3) := by decide +kernel
theorem dL_cell_12 : decode cL_cell 12 = .ok (.sipush 7919, 3) := by decide +kernel
theorem dL_cell_15 : decode cL_cell 15 = .ok (.iload_n 1, 1) := by decide +kernel
theorem dL_cell_16 : decode cL_cell 16 = .ok (.bipush 19, 2) := by decide +kernel
theorem dL_cell_18 : decode cL_cell 18 = .ok (.iadd, 1) := by decide +kernel
theorem dL_cell_19 : decode cL_cell 19 = .ok (.imul, 1) := by decide +kernel
theorem dL_cell_20 : decode cL_cell 20 = .ok (.iload_n 1, 1) := by decide +kernel
theorem dL_cell_21 : decode cL_cell 21 = .ok (.bipush 47, 2) := by decide +kernel
theorem dL_cell_23 : decode cL_cell 23 = .ok (.iadd, 1) := by decide +kernel
theorem dL_cell_24 : decode cL_cell 24 = .ok (.imul, 1) := by decide +kernel
theorem dL_cell_25 : decode cL_cell 25 = .ok (.ireturn, 1) := by decide +kernel
theorem dL_low_0 : decode cL_low 0 = .ok (.iload_n 0, 1) := by decide +kernel
theorem dL_low_1 : decode cL_low 1 = .ok (.ldc 7, 2) := by decide +kernel
theorem dL_low_3 : decode cL_low 3 = .ok (.iand, 1) := by decide +kernel
theorem dL_low_4 : decode cL_low 4 = .ok (.iload_n 1, 1) := by decide +kernel
theorem dL_low_5 : decode cL_low 5 = .ok (.irem, 1) := by decide +kernel
theorem dL_low_6 : decode cL_low 6 = .ok (.ireturn, 1) := by decide +kernel
theorem dL_all_0 : decode cL_all 0 = .ok (.ldc2_w 8, 3) := by decide +kernel
theorem dL_all_3 : decode cL_all 3 = .ok (.lstore_n 1, 1) := by decide +kernel
theorem dL_all_4 : decode cL_all 4 = .ok (.iconst 0, 1) := by decide +kernel
theorem dL_all_5 : decode cL_all 5 = .ok (.istore_n 3, 1) := by decide +kernel
theorem dL_all_6 : decode cL_all 6 = .ok (.iload_n 3, 1) := by decide +kernel
theorem dL_all_7 : decode cL_all 7 = .ok (.bipush 14, 2) := by decide +kernel
theorem dL_all_9 : decode cL_all 9 = .ok (.if_icmp .ge 22, 3) := by decide +kernel
theorem dL_all_12 : decode cL_all 12 = .ok (.ldc2_w 10, 3) := by decide +kernel
theorem dL_all_15 : decode cL_all 15 = .ok (.lload_n 1, 1) := by decide +kernel
theorem dL_all_16 : decode cL_all 16 = .ok (.lmul, 1) := by decide +kernel
theorem dL_all_17 : decode cL_all 17 = .ok (.aload_n 0, 1) := by decide +kernel
theorem dL_all_18 : decode cL_all 18 = .ok (.iload_n 3, 1) := by decide +kernel
theorem dL_all_19 : decode cL_all 19 = .ok (.invokevirtual 12, 3) := by decide +kernel
theorem dL_all_22 : decode cL_all 22 = .ok (.i2l, 1) := by decide +kernel
theorem dL_all_23 : decode cL_all 23 = .ok (.ladd, 1) := by decide +kernel
theorem dL_all_24 : decode cL_all 24 = .ok (.lstore_n 1, 1) := by decide +kernel
theorem dL_all_25 : decode cL_all 25 = .ok (.iinc 3 1, 3) := by decide +kernel
theorem dL_all_28 : decode cL_all 28 = .ok (.goto (-22), 3) := by decide +kernel
theorem dL_all_31 : decode cL_all 31 = .ok (.iconst 0, 1) := by decide +kernel
theorem dL_all_32 : decode cL_all 32 = .ok (.istore_n 3, 1) := by decide +kernel
theorem dL_all_33 : decode cL_all 33 = .ok (.iload_n 3, 1) := by decide +kernel
theorem dL_all_34 : decode cL_all 34 = .ok (.bipush 6, 2) := by decide +kernel
theorem dL_all_36 : decode cL_all 36 = .ok (.if_icmp .ge 40, 3) := by decide +kernel
theorem dL_all_39 : decode cL_all 39 = .ok (.iconst 0, 1) := by decide +kernel
theorem dL_all_40 : decode cL_all 40 = .ok (.istore 4, 2) := by decide +kernel
theorem dL_all_42 : decode cL_all 42 = .ok (.iload 4, 2) := by decide +kernel
theorem dL_all_44 : decode cL_all 44 = .ok (.bipush 7, 2) := by decide +kernel
theorem dL_all_46 : decode cL_all 46 = .ok (.if_icmp .ge 24, 3) := by decide +kernel
theorem dL_all_49 : decode cL_all 49 = .ok (.ldc2_w 10, 3) := by decide +kernel
theorem dL_all_52 : decode cL_all 52 = .ok (.lload_n 1, 1) := by decide +kernel
theorem dL_all_53 : decode cL_all 53 = .ok (.lmul, 1) := by decide +kernel
theorem dL_all_54 : decode cL_all 54 = .ok (.aload_n 0, 1) := by decide +kernel
theorem dL_all_55 : decode cL_all 55 = .ok (.iload_n 3, 1) := by decide +kernel
theorem dL_all_56 : decode cL_all 56 = .ok (.iload 4, 2) := by decide +kernel
theorem dL_all_58 : decode cL_all 58 = .ok (.invokevirtual 18, 3) := by decide +kernel
theorem dL_all_61 : decode cL_all 61 = .ok (.i2l, 1) := by decide +kernel
theorem dL_all_62 : decode cL_all 62 = .ok (.ladd, 1) := by decide +kernel
theorem dL_all_63 : decode cL_all 63 = .ok (.lstore_n 1, 1) := by decide +kernel
theorem dL_all_64 : decode cL_all 64 = .ok (.iinc 4 1, 3) := by decide +kernel
theorem dL_all_67 : decode cL_all 67 = .ok (.goto (-25), 3) := by decide +kernel
theorem dL_all_70 : decode cL_all 70 = .ok (.iinc 3 1, 3) := by decide +kernel
theorem dL_all_73 : decode cL_all 73 = .ok (.goto (-40), 3) := by decide +kernel
theorem dL_all_76 : decode cL_all 76 = .ok (.iconst 0, 1) := by decide +kernel
theorem dL_all_77 : decode cL_all 77 = .ok (.istore_n 3, 1) := by decide +kernel
theorem dL_all_78 : decode cL_all 78 = .ok (.iload_n 3, 1) := by decide +kernel
theorem dL_all_79 : decode cL_all 79 = .ok (.bipush 24, 2) := by decide +kernel
theorem dL_all_81 : decode cL_all 81 = .ok (.if_icmp .ge 29, 3) := by decide +kernel
theorem dL_all_84 : decode cL_all 84 = .ok (.ldc2_w 10, 3) := by decide +kernel
theorem dL_all_87 : decode cL_all 87 = .ok (.lload_n 1, 1) := by decide +kernel
theorem dL_all_88 : decode cL_all 88 = .ok (.lmul, 1) := by decide +kernel
theorem dL_all_89 : decode cL_all 89 = .ok (.aload_n 0, 1) := by decide +kernel
theorem dL_all_90 : decode cL_all 90 = .ok (.iload_n 3, 1) := by decide +kernel
theorem dL_all_91 : decode cL_all 91 = .ok (.bipush 6, 2) := by decide +kernel
theorem dL_all_93 : decode cL_all 93 = .ok (.idiv, 1) := by decide +kernel
theorem dL_all_94 : decode cL_all 94 = .ok (.iload_n 3, 1) := by decide +kernel
theorem dL_all_95 : decode cL_all 95 = .ok (.bipush 6, 2) := by decide +kernel
theorem dL_all_97 : decode cL_all 97 = .ok (.irem, 1) := by decide +kernel
theorem dL_all_98 : decode cL_all 98 = .ok (.invokevirtual 22, 3) := by decide +kernel
theorem dL_all_101 : decode cL_all 101 = .ok (.i2l, 1) := by decide +kernel
theorem dL_all_102 : decode cL_all 102 = .ok (.ladd, 1) := by decide +kernel
theorem dL_all_103 : decode cL_all 103 = .ok (.lstore_n 1, 1) := by decide +kernel
theorem dL_all_104 : decode cL_all 104 = .ok (.iinc 3 1, 3) := by decide +kernel
theorem dL_all_107 : decode cL_all 107 = .ok (.goto (-29), 3) := by decide +kernel
theorem dL_all_110 : decode cL_all 110 = .ok (.iconst 0, 1) := by decide +kernel
theorem dL_all_111 : decode cL_all 111 = .ok (.istore_n 3, 1) := by decide +kernel
theorem dL_all_112 : decode cL_all 112 = .ok (.iload_n 3, 1) := by decide +kernel
theorem dL_all_113 : decode cL_all 113 = .ok (.aload_n 0, 1) := by decide +kernel
theorem dL_all_114 : decode cL_all 114 = .ok (.iconst 1, 1) := by decide +kernel
theorem dL_all_115 : decode cL_all 115 = .ok (.invokevirtual 12, 3) := by decide +kernel
theorem dL_all_118 : decode cL_all 118 = .ok (.if_icmp .ge 77, 3) := by decide +kernel
theorem dL_all_121 : decode cL_all 121 = .ok (.iconst 0, 1) := by decide +kernel
theorem dL_all_122 : decode cL_all 122 = .ok (.istore 4, 2) := by decide +kernel
theorem dL_all_124 : decode cL_all 124 = .ok (.iload 4, 2) := by decide +kernel
theorem dL_all_126 : decode cL_all 126 = .ok (.bipush 11, 2) := by decide +kernel
theorem dL_all_128 : decode cL_all 128 = .ok (.if_icmp .ge 24, 3) := by decide +kernel
theorem dL_all_131 : decode cL_all 131 = .ok (.ldc2_w 10, 3) := by decide +kernel
theorem dL_all_134 : decode cL_all 134 = .ok (.lload_n 1, 1) := by decide +kernel
theorem dL_all_135 : decode cL_all 135 = .ok (.lmul, 1) := by decide +kernel
theorem dL_all_136 : decode cL_all 136 = .ok (.aload_n 0, 1) := by decide +kernel
theorem dL_all_137 : decode cL_all 137 = .ok (.iload_n 3, 1) := by decide +kernel
theorem dL_all_138 : decode cL_all 138 = .ok (.iload 4, 2) := by decide +kernel
theorem dL_all_140 : decode cL_all 140 = .ok (.invokevirtual 25, 3) := by decide +kernel
theorem dL_all_143 : decode cL_all 143 = .ok (.i2l, 1) := by decide +kernel
theorem dL_all_144 : decode cL_all 144 = .ok (.ladd, 1) := by decide +kernel
theorem dL_all_145 : decode cL_all 145 = .ok (.lstore_n 1, 1) := by decide +kernel
theorem dL_all_146 : decode cL_all 146 = .ok (.iinc 4 1, 3) := by decide +kernel
theorem dL_all_149 : decode cL_all 149 = .ok (.goto (-25), 3) := by decide +kernel
theorem dL_all_152 : decode cL_all 152 = .ok (.iconst 0, 1) := by decide +kernel
theorem dL_all_153 : decode cL_all 153 = .ok (.istore 4, 2) := by decide +kernel
theorem dL_all_155 : decode cL_all 155 = .ok (.iload 4, 2) := by decide +kernel
theorem dL_all_157 : decode cL_all 157 = .ok (.bipush 10, 2) := by decide +kernel
theorem dL_all_159 : decode cL_all 159 = .ok (.if_icmp .ge 30, 3) := by decide +kernel
theorem dL_all_162 : decode cL_all 162 = .ok (.ldc2_w 10, 3) := by decide +kernel
theorem dL_all_165 : decode cL_all 165 = .ok (.lload_n 1, 1) := by decide +kernel
theorem dL_all_166 : decode cL_all 166 = .ok (.lmul, 1) := by decide +kernel
theorem dL_all_167 : decode cL_all 167 = .ok (.aload_n 0, 1) := by decide +kernel
theorem dL_all_168 : decode cL_all 168 = .ok (.iload_n 3, 1) := by decide +kernel
theorem dL_all_169 : decode cL_all 169 = .ok (.iload 4, 2) := by decide +kernel
theorem dL_all_171 : decode cL_all 171 = .ok (.iconst 2, 1) := by decide +kernel
theorem dL_all_172 : decode cL_all 172 = .ok (.idiv, 1) := by decide +kernel
theorem dL_all_173 : decode cL_all 173 = .ok (.iload 4, 2) := by decide +kernel
theorem dL_all_175 : decode cL_all 175 = .ok (.iconst 2, 1) := by decide +kernel
theorem dL_all_176 : decode cL_all 176 = .ok (.irem, 1) := by decide +kernel
theorem dL_all_177 : decode cL_all 177 = .ok (.invokevirtual 28, 3) := by decide +kernel
theorem dL_all_180 : decode cL_all 180 = .ok (.i2l, 1) := by decide +kernel
theorem dL_all_181 : decode cL_all 181 = .ok (.ladd, 1) := by decide +kernel
theorem dL_all_182 : decode cL_all 182 = .ok (.lstore_n 1, 1) := by decide +kernel
theorem dL_all_183 : decode cL_all 183 = .ok (.iinc 4 1, 3) := by decide +kernel
theorem dL_all_186 : decode cL_all 186 = .ok (.goto (-31), 3) := by decide +kernel
theorem dL_all_189 : decode cL_all 189 = .ok (.iinc 3 1, 3) := by decide +kernel
theorem dL_all_192 : decode cL_all 192 = .ok (.goto (-80), 3) := by decide +kernel
theorem dL_all_195 : decode cL_all 195 = .ok (.lload_n 1, 1) := by decide +kernel
theorem dL_all_196 : decode cL_all 196 = .ok (.lreturn, 1) := by decide +kernel
theorem dL_isBoardSound_0 : decode cL_isBoardSound 0 = .ok (.aload_n 0, 1) := by decide +kernel
theorem dL_isBoardSound_1 : decode cL_isBoardSound 1 = .ok (.iload_n 1, 1) := by decide +kernel
theorem dL_isBoardSound_2 : decode cL_isBoardSound 2 = .ok (.iconst 2, 1) := by decide +kernel
theorem dL_isBoardSound_3 : decode cL_isBoardSound 3 = .ok (.invokevirtual 25, 3) := by decide +kernel
theorem dL_isBoardSound_6 : decode cL_isBoardSound 6 = .ok (.istore_n 2, 1) := by decide +kernel
theorem dL_isBoardSound_7 : decode cL_isBoardSound 7 = .ok (.aload_n 0, 1) := by decide +kernel
theorem dL_isBoardSound_8 : decode cL_isBoardSound 8 = .ok (.iload_n 1, 1) := by decide +kernel
theorem dL_isBoardSound_9 : decode cL_isBoardSound 9 = .ok (.iconst 3, 1) := by decide +kernel
theorem dL_isBoardSound_10 : decode cL_isBoardSound 10 = .ok (.invokevirtual 25, 3) := by decide +kernel
theorem dL_isBoardSound_13 : decode cL_isBoardSound 13 = .ok (.istore_n 3, 1) := by decide +kernel
theorem dL_isBoardSound_14 : decode cL_isBoardSound 14 = .ok (.aload_n 0, 1) := by decide +kernel
theorem dL_isBoardSound_15 : decode cL_isBoardSound 15 = .ok (.iload_n 1, 1) := by decide +kernel
theorem dL_isBoardSound_16 : decode cL_isBoardSound 16 = .ok (.iconst 4, 1) := by decide +kernel
theorem dL_isBoardSound_17 : decode cL_isBoardSound 17 = .ok (.invokevirtual 25, 3) := by decide +kernel
theorem dL_isBoardSound_20 : decode cL_isBoardSound 20 = .ok (.istore 4, 2) := by decide +kernel
theorem dL_isBoardSound_22 : decode cL_isBoardSound 22 = .ok (.iload 4, 2) := by decide +kernel
theorem dL_isBoardSound_24 : decode cL_isBoardSound 24 = .ok (.bipush 20, 2) := by decide +kernel
theorem dL_isBoardSound_26 : decode cL_isBoardSound 26 = .ok (.if_icmp .lt 95, 3) := by decide +kernel
theorem dL_isBoardSound_29 : decode cL_isBoardSound 29 = .ok (.iload 4, 2) := by decide +kernel
theorem dL_isBoardSound_31 : decode cL_isBoardSound 31 = .ok (.sipush 300, 3) := by decide +kernel
theorem dL_isBoardSound_34 : decode cL_isBoardSound 34 = .ok (.if_icmp .gt 87, 3) := by decide +kernel
theorem dL_isBoardSound_37 : decode cL_isBoardSound 37 = .ok (.aload_n 0, 1) := by decide +kernel
theorem dL_isBoardSound_38 : decode cL_isBoardSound 38 = .ok (.iload_n 1, 1) := by decide +kernel
theorem dL_isBoardSound_39 : decode cL_isBoardSound 39 = .ok (.bipush 6, 2) := by decide +kernel
theorem dL_isBoardSound_41 : decode cL_isBoardSound 41 = .ok (.invokevirtual 25, 3) := by decide +kernel
theorem dL_isBoardSound_44 : decode cL_isBoardSound 44 = .ok (.iload 4, 2) := by decide +kernel
theorem dL_isBoardSound_46 : decode cL_isBoardSound 46 = .ok (.if_icmp .lt 75, 3) := by decide +kernel
theorem dL_isBoardSound_49 : decode cL_isBoardSound 49 = .ok (.aload_n 0, 1) := by decide +kernel
theorem dL_isBoardSound_50 : decode cL_isBoardSound 50 = .ok (.iload_n 1, 1) := by decide +kernel
theorem dL_isBoardSound_51 : decode cL_isBoardSound 51 = .ok (.bipush 6, 2) := by decide +kernel
theorem dL_isBoardSound_53 : decode cL_isBoardSound 53 = .ok (.invokevirtual 25, 3) := by decide +kernel
theorem dL_isBoardSound_56 : decode cL_isBoardSound 56 = .ok (.sipush 300, 3) := by decide +kernel
theorem dL_isBoardSound_59 : decode cL_isBoardSound 59 = .ok (.if_icmp .gt 62, 3) := by decide +kernel
theorem dL_isBoardSound_62 : decode cL_isBoardSound 62 = .ok (.iload_n 2, 1) := by decide +kernel
theorem dL_isBoardSound_63 : decode cL_isBoardSound 63 = .ok (.ifCond .ne 7, 3) := by decide +kernel
theorem dL_isBoardSound_66 : decode cL_isBoardSound 66 = .ok (.iconst 1, 1) := by decide +kernel
theorem dL_isBoardSound_67 : decode cL_isBoardSound 67 = .ok (.goto 4, 3) := by decide +kernel
theorem dL_isBoardSound_70 : decode cL_isBoardSound 70 = .ok (.iconst 0, 1) := by decide +kernel
theorem dL_isBoardSound_71 : decode cL_isBoardSound 71 = .ok (.iload_n 3, 1) := by decide +kernel
theorem dL_isBoardSound_72 : decode cL_isBoardSound 72 = .ok (.ifCond .lt 7, 3) := by decide +kernel
theorem dL_isBoardSound_75 : decode cL_isBoardSound 75 = .ok (.iconst 1, 1) := by decide +kernel
theorem dL_isBoardSound_76 : decode cL_isBoardSound 76 = .ok (.goto 4, 3) := by decide +kernel
theorem dL_isBoardSound_79 : decode cL_isBoardSound 79 = .ok (.iconst 0, 1) := by decide +kernel
theorem dL_isBoardSound_80 : decode cL_isBoardSound 80 = .ok (.if_icmp .ne 41, 3) := by decide +kernel
theorem dL_isBoardSound_83 : decode cL_isBoardSound 83 = .ok (.iload_n 3, 1) := by decide +kernel
theorem dL_isBoardSound_84 : decode cL_isBoardSound 84 = .ok (.aload_n 0, 1) := by decide +kernel
theorem dL_isBoardSound_85 : decode cL_isBoardSound 85 = .ok (.bipush 6, 2) := by decide +kernel
theorem dL_isBoardSound_87 : decode cL_isBoardSound 87 = .ok (.invokevirtual 12, 3) := by decide +kernel
theorem dL_isBoardSound_90 : decode cL_isBoardSound 90 = .ok (.if_icmp .ge 31, 3) := by decide +kernel
theorem dL_isBoardSound_93 : decode cL_isBoardSound 93 = .ok (.iload_n 2, 1) := by decide +kernel
theorem dL_isBoardSound_94 : decode cL_isBoardSound 94 = .ok (.iconst 1, 1) := by decide +kernel
theorem dL_isBoardSound_95 : decode cL_isBoardSound 95 = .ok (.if_icmp .ne 7, 3) := by decide +kernel
theorem dL_isBoardSound_98 : decode cL_isBoardSound 98 = .ok (.iconst 1, 1) := by decide +kernel
theorem dL_isBoardSound_99 : decode cL_isBoardSound 99 = .ok (.goto 4, 3) := by decide +kernel
theorem dL_isBoardSound_102 : decode cL_isBoardSound 102 = .ok (.iconst 0, 1) := by decide +kernel
theorem dL_isBoardSound_103 : decode cL_isBoardSound 103 = .ok (.aload_n 0, 1) := by decide +kernel
theorem dL_isBoardSound_104 : decode cL_isBoardSound 104 = .ok (.iload_n 1, 1) := by decide +kernel
theorem dL_isBoardSound_105 : decode cL_isBoardSound 105 = .ok (.bipush 10, 2) := by decide +kernel
theorem dL_isBoardSound_107 : decode cL_isBoardSound 107 = .ok (.invokevirtual 25, 3) := by decide +kernel
theorem dL_isBoardSound_110 : decode cL_isBoardSound 110 = .ok (.ifCond .lt 7, 3) := by decide +kernel
theorem dL_isBoardSound_113 : decode cL_isBoardSound 113 = .ok (.iconst 1, 1) := by decide +kernel
theorem dL_isBoardSound_114 : decode cL_isBoardSound 114 = .ok (.goto 4, 3) := by decide +kernel
theorem dL_isBoardSound_117 : decode cL_isBoardSound 117 = .ok (.iconst 0, 1) := by decide +kernel
theorem dL_isBoardSound_118 : decode cL_isBoardSound 118 = .ok (.if_icmp .eq 5, 3) := by decide +kernel
theorem dL_isBoardSound_121 : decode cL_isBoardSound 121 = .ok (.iconst 0, 1) := by decide +kernel
theorem dL_isBoardSound_122 : decode cL_isBoardSound 122 = .ok (.ireturn, 1) := by decide +kernel
theorem dL_isBoardSound_123 : decode cL_isBoardSound 123 = .ok (.iconst 0, 1) := by decide +kernel
theorem dL_isBoardSound_124 : decode cL_isBoardSound 124 = .ok (.istore 5, 2) := by decide +kernel
theorem dL_isBoardSound_126 : decode cL_isBoardSound 126 = .ok (.iload 5, 2) := by decide +kernel
theorem dL_isBoardSound_128 : decode cL_isBoardSound 128 = .ok (.iconst 5, 1) := by decide +kernel
theorem dL_isBoardSound_129 : decode cL_isBoardSound 129 = .ok (.if_icmp .ge 255, 3) := by decide +kernel
theorem dL_isBoardSound_132 : decode cL_isBoardSound 132 = .ok (.aload_n 0, 1) := by decide +kernel
theorem dL_isBoardSound_133 : decode cL_isBoardSound 133 = .ok (.iload_n 1, 1) := by decide +kernel
theorem dL_isBoardSound_134 : decode cL_isBoardSound 134 = .ok (.bipush 8, 2) := by decide +kernel
theorem dL_isBoardSound_136 : decode cL_isBoardSound 136 = .ok (.invokevirtual 25, 3) := by decide +kernel
theorem dL_isBoardSound_139 : decode cL_isBoardSound 139 = .ok (.iload 5, 2) := by decide +kernel
theorem dL_isBoardSound_141 : decode cL_isBoardSound 141 = .ok (.ishr, 1) := by decide +kernel
theorem dL_isBoardSound_142 : decode cL_isBoardSound 142 = .ok (.iconst 1, 1) := by decide +kernel
theorem dL_isBoardSound_143 : decode cL_isBoardSound 143 = .ok (.iand, 1) := by decide +kernel
theorem dL_isBoardSound_144 : decode cL_isBoardSound 144 = .ok (.iconst 1, 1) := by decide +kernel
theorem dL_isBoardSound_145 : decode cL_isBoardSound 145 = .ok (.if_icmp .ne 7, 3) := by decide +kernel
theorem dL_isBoardSound_148 : decode cL_isBoardSound 148 = .ok (.iconst 1, 1) := by decide +kernel
theorem dL_isBoardSound_149 : decode cL_isBoardSound 149 = .ok (.goto 4, 3) := by decide +kernel
theorem dL_isBoardSound_152 : decode cL_isBoardSound 152 = .ok (.iconst 0, 1) := by decide +kernel
theorem dL_isBoardSound_153 : decode cL_isBoardSound 153 = .ok (.istore 6, 2) := by decide +kernel
theorem dL_isBoardSound_155 : decode cL_isBoardSound 155 = .ok (.aload_n 0, 1) := by decide +kernel
theorem dL_isBoardSound_156 : decode cL_isBoardSound 156 = .ok (.iload_n 1, 1) := by decide +kernel
theorem dL_isBoardSound_157 : decode cL_isBoardSound 157 = .ok (.iload 5, 2) := by decide +kernel
theorem dL_isBoardSound_159 : decode cL_isBoardSound 159 = .ok (.iconst 0, 1) := by decide +kernel
theorem dL_isBoardSound_160 : decode cL_isBoardSound 160 = .ok (.invokevirtual 28, 3) := by decide +kernel
theorem dL_isBoardSound_163 : decode cL_isBoardSound 163 = .ok (.istore 7, 2) := by decide +kernel
theorem dL_isBoardSound_165 : decode cL_isBoardSound 165 = .ok (.aload_n 0, 1) := by decide +kernel
theorem dL_isBoardSound_166 : decode cL_isBoardSound 166 = .ok (.iload_n 1, 1) := by decide +kernel
theorem dL_isBoardSound_167 : decode cL_isBoardSound 167 = .ok (.iload 5, 2) := by decide +kernel
theorem dL_isBoardSound_169 : decode cL_isBoardSound 169 = .ok (.iconst 1, 1) := by decide +kernel
theorem dL_isBoardSound_170 : decode cL_isBoardSound 170 = .ok (.invokevirtual 28, 3) := by decide +kernel
theorem dL_isBoardSound_173 : decode cL_isBoardSound 173 = .ok (.istore 8, 2) := by decide +kernel
theorem dL_isBoardSound_175 : decode cL_isBoardSound 175 = .ok (.iload 6, 2) := by decide +kernel
theorem dL_isBoardSound_177 : decode cL_isBoardSound 177 = .ok (.iload 7, 2) := by decide +kernel
theorem dL_isBoardSound_179 : decode cL_isBoardSound 179 = .ok (.ifCond .lt 7, 3) := by decide +kernel
theorem dL_isBoardSound_182 : decode cL_isBoardSound 182 = .ok (.iconst 1, 1) := by decide +kernel
theorem dL_isBoardSound_183 : decode cL_isBoardSound 183 = .ok (.goto 4, 3) := by decide +kernel
theorem dL_isBoardSound_186 : decode cL_isBoardSound 186 = .ok (.iconst 0, 1) := by decide +kernel
theorem dL_isBoardSound_187 : decode cL_isBoardSound 187 = .ok (.if_icmp .ne 63, 3) := by decide +kernel
theorem dL_isBoardSound_190 : decode cL_isBoardSound 190 = .ok (.iload 6, 2) := by decide +kernel
theorem dL_isBoardSound_192 : decode cL_isBoardSound 192 = .ok (.iload 8, 2) := by decide +kernel
theorem dL_isBoardSound_194 : decode cL_isBoardSound 194 = .ok (.ifCond .lt 7, 3) := by decide +kernel
theorem dL_isBoardSound_197 : decode cL_isBoardSound 197 = .ok (.iconst 1, 1) := by decide +kernel
theorem dL_isBoardSound_198 : decode cL_isBoardSound 198 = .ok (.goto 4, 3) := by decide +kernel
theorem dL_isBoardSound_201 : decode cL_isBoardSound 201 = .ok (.iconst 0, 1) := by decide +kernel
theorem dL_isBoardSound_202 : decode cL_isBoardSound 202 = .ok (.if_icmp .ne 48, 3) := by decide +kernel
theorem dL_isBoardSound_205 : decode cL_isBoardSound 205 = .ok (.iload 8, 2) := by decide +kernel
theorem dL_isBoardSound_207 : decode cL_isBoardSound 207 = .ok (.aload_n 0, 1) := by decide +kernel
theorem dL_isBoardSound_208 : decode cL_isBoardSound 208 = .ok (.iconst 0, 1) := by decide +kernel
theorem dL_isBoardSound_209 : decode cL_isBoardSound 209 = .ok (.invokevirtual 12, 3) := by decide +kernel
theorem dL_isBoardSound_212 : decode cL_isBoardSound 212 = .ok (.if_icmp .ge 38, 3) := by decide +kernel
theorem dL_isBoardSound_215 : decode cL_isBoardSound 215 = .ok (.iload 7, 2) := by decide +kernel
theorem dL_isBoardSound_217 : decode cL_isBoardSound 217 = .ok (.bipush 48, 2) := by decide +kernel
theorem dL_isBoardSound_219 : decode cL_isBoardSound 219 = .ok (.if_icmp .gt 31, 3) := by decide +kernel
theorem dL_isBoardSound_222 : decode cL_isBoardSound 222 = .ok (.iload 5, 2) := by decide +kernel
theorem dL_isBoardSound_224 : decode cL_isBoardSound 224 = .ok (.iconst 2, 1) := by decide +kernel
theorem dL_isBoardSound_225 : decode cL_isBoardSound 225 = .ok (.if_icmp .le 27, 3) := by decide +kernel
theorem dL_isBoardSound_228 : decode cL_isBoardSound 228 = .ok (.iload 6, 2) := by decide +kernel
theorem dL_isBoardSound_230 : decode cL_isBoardSound 230 = .ok (.ifCond .eq 22, 3) := by decide +kernel
theorem dL_isBoardSound_233 : decode cL_isBoardSound 233 = .ok (.iload_n 2, 1) := by decide +kernel
theorem dL_isBoardSound_234 : decode cL_isBoardSound 234 = .ok (.iconst 1, 1) := by decide +kernel
theorem dL_isBoardSound_235 : decode cL_isBoardSound 235 = .ok (.if_icmp .ne 15, 3) := by decide +kernel
theorem dL_isBoardSound_238 : decode cL_isBoardSound 238 = .ok (.iload 8, 2) := by decide +kernel
theorem dL_isBoardSound_240 : decode cL_isBoardSound 240 = .ok (.aload_n 0, 1) := by decide +kernel
theorem dL_isBoardSound_241 : decode cL_isBoardSound 241 = .ok (.iload_n 1, 1) := by decide +kernel
theorem dL_isBoardSound_242 : decode cL_isBoardSound 242 = .ok (.bipush 10, 2) := by decide +kernel
theorem dL_isBoardSound_244 : decode cL_isBoardSound 244 = .ok (.invokevirtual 25, 3) := by decide +kernel
theorem dL_isBoardSound_247 : decode cL_isBoardSound 247 = .ok (.if_icmp .eq 5, 3) := by decide +kernel
theorem dL_isBoardSound_250 : decode cL_isBoardSound 250 = .ok (.iconst 0, 1) := by decide +kernel
theorem dL_isBoardSound_251 : decode cL_isBoardSound 251 = .ok (.ireturn, 1) := by decide +kernel
theorem dL_isBoardSound_252 : decode cL_isBoardSound 252 = .ok (.iconst 0, 1) := by decide +kernel
theorem dL_isBoardSound_253 : decode cL_isBoardSound 253 = .ok (.istore 9, 2) := by decide +kernel
theorem dL_isBoardSound_255 : decode cL_isBoardSound 255 = .ok (.iconst 0, 1) := by decide +kernel
theorem dL_isBoardSound_256 : decode cL_isBoardSound 256 = .ok (.istore 10, 2) := by decide +kernel
theorem dL_isBoardSound_258 : decode cL_isBoardSound 258 = .ok (.iload 10, 2) := by decide +kernel
theorem dL_isBoardSound_260 : decode cL_isBoardSound 260 = .ok (.aload_n 0, 1) := by decide +kernel
theorem dL_isBoardSound_261 : decode cL_isBoardSound 261 = .ok (.iconst 1, 1) := by decide +kernel
theorem dL_isBoardSound_262 : decode cL_isBoardSound 262 = .ok (.invokevirtual 12, 3) := by decide +kernel
theorem dL_isBoardSound_265 : decode cL_isBoardSound 265 = .ok (.if_icmp .ge 38, 3) := by decide +kernel
theorem dL_isBoardSound_268 : decode cL_isBoardSound 268 = .ok (.iload 9, 2) := by decide +kernel
theorem dL_isBoardSound_270 : decode cL_isBoardSound 270 = .ok (.iload 6, 2) := by decide +kernel
theorem dL_isBoardSound_272 : decode cL_isBoardSound 272 = .ok (.ifCond .eq 21, 3) := by decide +kernel
theorem dL_isBoardSound_275 : decode cL_isBoardSound 275 = .ok (.aload_n 0, 1) := by decide +kernel
theorem dL_isBoardSound_276 : decode cL_isBoardSound 276 = .ok (.iload 10, 2) := by decide +kernel
theorem dL_isBoardSound_278 : decode cL_isBoardSound 278 = .ok (.iload 5, 2) := by decide +kernel
theorem dL_isBoardSound_280 : decode cL_isBoardSound 280 = .ok (.iconst 0, 1) := by decide +kernel
theorem dL_isBoardSound_281 : decode cL_isBoardSound 281 = .ok (.invokevirtual 28, 3) := by decide +kernel
theorem dL_isBoardSound_284 : decode cL_isBoardSound 284 = .ok (.iload 7, 2) := by decide +kernel
theorem dL_isBoardSound_286 : decode cL_isBoardSound 286 = .ok (.if_icmp .ne 7, 3) := by decide +kernel
theorem dL_isBoardSound_289 : decode cL_isBoardSound 289 = .ok (.iconst 1, 1) := by decide +kernel
theorem dL_isBoardSound_290 : decode cL_isBoardSound 290 = .ok (.goto 4, 3) := by decide +kernel
theorem dL_isBoardSound_293 : decode cL_isBoardSound 293 = .ok (.iconst 0, 1) := by decide +kernel
theorem dL_isBoardSound_294 : decode cL_isBoardSound 294 = .ok (.iadd, 1) := by decide +kernel
theorem dL_isBoardSound_295 : decode cL_isBoardSound 295 = .ok (.istore 9, 2) := by decide +kernel
theorem dL_isBoardSound_297 : decode cL_isBoardSound 297 = .ok (.iinc 10 1, 3) := by decide +kernel
theorem dL_isBoardSound_300 : decode cL_isBoardSound 300 = .ok (.goto (-42), 3) := by decide +kernel
theorem dL_isBoardSound_303 : decode cL_isBoardSound 303 = .ok (.aload_n 0, 1) := by decide +kernel
theorem dL_isBoardSound_304 : decode cL_isBoardSound 304 = .ok (.iload 5, 2) := by decide +kernel
theorem dL_isBoardSound_306 : decode cL_isBoardSound 306 = .ok (.iconst 0, 1) := by decide +kernel
theorem dL_isBoardSound_307 : decode cL_isBoardSound 307 = .ok (.invokevirtual 32, 3) := by decide +kernel
theorem dL_isBoardSound_310 : decode cL_isBoardSound 310 = .ok (.istore 10, 2) := by decide +kernel
theorem dL_isBoardSound_312 : decode cL_isBoardSound 312 = .ok (.iload 9, 2) := by decide +kernel
theorem dL_isBoardSound_314 : decode cL_isBoardSound 314 = .ok (.aload_n 0, 1) := by decide +kernel
theorem dL_isBoardSound_315 : decode cL_isBoardSound 315 = .ok (.iload 5, 2) := by decide +kernel
theorem dL_isBoardSound_317 : decode cL_isBoardSound 317 = .ok (.iconst 1, 1) := by decide +kernel
theorem dL_isBoardSound_318 : decode cL_isBoardSound 318 = .ok (.invokevirtual 32, 3) := by decide +kernel
theorem dL_isBoardSound_321 : decode cL_isBoardSound 321 = .ok (.if_icmp .gt 55, 3) := by decide +kernel
theorem dL_isBoardSound_324 : decode cL_isBoardSound 324 = .ok (.iload 6, 2) := by decide +kernel
theorem dL_isBoardSound_326 : decode cL_isBoardSound 326 = .ok (.ifCond .eq 22, 3) := by decide +kernel
theorem dL_isBoardSound_329 : decode cL_isBoardSound 329 = .ok (.iload 9, 2) := by decide +kernel
theorem dL_isBoardSound_331 : decode cL_isBoardSound 331 = .ok (.aload_n 0, 1) := by decide +kernel
theorem dL_isBoardSound_332 : decode cL_isBoardSound 332 = .ok (.iload 5, 2) := by decide +kernel
theorem dL_isBoardSound_334 : decode cL_isBoardSound 334 = .ok (.iconst 1, 1) := by decide +kernel
theorem dL_isBoardSound_335 : decode cL_isBoardSound 335 = .ok (.invokevirtual 32, 3) := by decide +kernel
theorem dL_isBoardSound_338 : decode cL_isBoardSound 338 = .ok (.if_icmp .ne 10, 3) := by decide +kernel
theorem dL_isBoardSound_341 : decode cL_isBoardSound 341 = .ok (.iload 10, 2) := by decide +kernel
theorem dL_isBoardSound_343 : decode cL_isBoardSound 343 = .ok (.iload 7, 2) := by decide +kernel
theorem dL_isBoardSound_345 : decode cL_isBoardSound 345 = .ok (.if_icmp .gt 31, 3) := by decide +kernel
theorem dL_isBoardSound_348 : decode cL_isBoardSound 348 = .ok (.iload 10, 2) := by decide +kernel
theorem dL_isBoardSound_350 : decode cL_isBoardSound 350 = .ok (.ifCond .ge 7, 3) := by decide +kernel
