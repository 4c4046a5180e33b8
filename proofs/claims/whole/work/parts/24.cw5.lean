theorem dD_find_0 : decode cD_find 0 = .ok (.iload_n 1, 1) := by decide +kernel
theorem dD_find_1 : decode cD_find 1 = .ok (.ifCond .lt 9, 3) := by decide +kernel
theorem dD_find_4 : decode cD_find 4 = .ok (.iload_n 1, 1) := by decide +kernel
theorem dD_find_5 : decode cD_find 5 = .ok (.bipush 10, 2) := by decide +kernel
theorem dD_find_7 : decode cD_find 7 = .ok (.if_icmp .lt 7, 3) := by decide +kernel
theorem dD_find_10 : decode cD_find 10 = .ok (.aconst_null, 1) := by decide +kernel
theorem dD_find_11 : decode cD_find 11 = .ok (.goto 9, 3) := by decide +kernel
theorem dD_find_14 : decode cD_find 14 = .ok (.aload_n 0, 1) := by decide +kernel
theorem dD_find_15 : decode cD_find 15 = .ok (.getfield 18, 3) := by decide +kernel
theorem dD_find_18 : decode cD_find 18 = .ok (.iload_n 1, 1) := by decide +kernel
theorem dD_find_19 : decode cD_find 19 = .ok (.aaload, 1) := by decide +kernel
theorem dD_find_20 : decode cD_find 20 = .ok (.areturn, 1) := by decide +kernel
theorem dD_placesAhead_0 : decode cD_placesAhead 0 = .ok (.aload_n 0, 1) := by decide +kernel
theorem dD_placesAhead_1 : decode cD_placesAhead 1 = .ok (.invokevirtual 118, 3) := by decide +kernel
theorem dD_placesAhead_4 : decode cD_placesAhead 4 = .ok (.iconst 1, 1) := by decide +kernel
theorem dD_placesAhead_5 : decode cD_placesAhead 5 = .ok (.invokestatic 182, 3) := by decide +kernel
theorem dD_placesAhead_8 : decode cD_placesAhead 8 = .ok (.aload_n 0, 1) := by decide +kernel
theorem dD_placesAhead_9 : decode cD_placesAhead 9 = .ok (.getfield 103, 3) := by decide +kernel
theorem dD_placesAhead_12 : decode cD_placesAhead 12 = .ok (.ifCond .ge 7, 3) := by decide +kernel
theorem dD_placesAhead_15 : decode cD_placesAhead 15 = .ok (.iconst 1, 1) := by decide +kernel
theorem dD_placesAhead_16 : decode cD_placesAhead 16 = .ok (.goto 4, 3) := by decide +kernel
theorem dD_placesAhead_19 : decode cD_placesAhead 19 = .ok (.iconst 0, 1) := by decide +kernel
theorem dD_placesAhead_20 : decode cD_placesAhead 20 = .ok (.iadd, 1) := by decide +kernel
theorem dD_placesAhead_21 : decode cD_placesAhead 21 = .ok (.ireturn, 1) := by decide +kernel
theorem dD_standing_0 : decode cD_standing 0 = .ok (.iload_n 0, 1) := by decide +kernel
theorem dD_standing_1 : decode cD_standing 1 = .ok (.ifCond .ge 7, 3) := by decide +kernel
theorem dD_standing_4 : decode cD_standing 4 = .ok (.iconst 1, 1) := by decide +kernel
theorem dD_standing_5 : decode cD_standing 5 = .ok (.goto 12, 3) := by decide +kernel
theorem dD_standing_8 : decode cD_standing 8 = .ok (.iload_n 0, 1) := by decide +kernel
theorem dD_standing_9 : decode cD_standing 9 = .ok (.ifCond .le 7, 3) := by decide +kernel
theorem dD_standing_12 : decode cD_standing 12 = .ok (.iconst 4, 1) := by decide +kernel
theorem dD_standing_13 : decode cD_standing 13 = .ok (.goto 4, 3) := by decide +kernel
theorem dD_standing_16 : decode cD_standing 16 = .ok (.iconst 2, 1) := by decide +kernel
theorem dD_standing_17 : decode cD_standing 17 = .ok (.ireturn, 1) := by decide +kernel
theorem dD_strictOrder_0 : decode cD_strictOrder 0 = .ok (.aload_n 0, 1) := by decide +kernel
theorem dD_strictOrder_1 : decode cD_strictOrder 1 = .ok (.getfield 69, 3) := by decide +kernel
theorem dD_strictOrder_4 : decode cD_strictOrder 4 = .ok (.aload_n 1, 1) := by decide +kernel
theorem dD_strictOrder_5 : decode cD_strictOrder 5 = .ok (.getfield 69, 3) := by decide +kernel
theorem dD_strictOrder_8 : decode cD_strictOrder 8 = .ok (.invokestatic 182, 3) := by decide +kernel
theorem dD_strictOrder_11 : decode cD_strictOrder 11 = .ok (.istore_n 2, 1) := by decide +kernel
theorem dD_strictOrder_12 : decode cD_strictOrder 12 = .ok (.iconst 0, 1) := by decide +kernel
theorem dD_strictOrder_13 : decode cD_strictOrder 13 = .ok (.istore_n 3, 1) := by decide +kernel
theorem dD_strictOrder_14 : decode cD_strictOrder 14 = .ok (.iconst 0, 1) := by decide +kernel
theorem dD_strictOrder_15 : decode cD_strictOrder 15 = .ok (.istore 4, 2) := by decide +kernel
theorem dD_strictOrder_17 : decode cD_strictOrder 17 = .ok (.iload 4, 2) := by decide +kernel
theorem dD_strictOrder_19 : decode cD_strictOrder 19 = .ok (.iload_n 2, 1) := by decide +kernel
theorem dD_strictOrder_20 : decode cD_strictOrder 20 = .ok (.if_icmp .ge 27, 3) := by decide +kernel
theorem dD_strictOrder_23 : decode cD_strictOrder 23 = .ok (.iload_n 3, 1) := by decide +kernel
theorem dD_strictOrder_24 : decode cD_strictOrder 24 = .ok (.ifCond .ne 23, 3) := by decide +kernel
theorem dD_strictOrder_27 : decode cD_strictOrder 27 = .ok (.aload_n 0, 1) := by decide +kernel
theorem dD_strictOrder_28 : decode cD_strictOrder 28 = .ok (.iload 4, 2) := by decide +kernel
theorem dD_strictOrder_30 : decode cD_strictOrder 30 = .ok (.invokevirtual 83, 3) := by decide +kernel
theorem dD_strictOrder_33 : decode cD_strictOrder 33 = .ok (.aload_n 1, 1) := by decide +kernel
theorem dD_strictOrder_34 : decode cD_strictOrder 34 = .ok (.iload 4, 2) := by decide +kernel
theorem dD_strictOrder_36 : decode cD_strictOrder 36 = .ok (.invokevirtual 83, 3) := by decide +kernel
theorem dD_strictOrder_39 : decode cD_strictOrder 39 = .ok (.isub, 1) := by decide +kernel
theorem dD_strictOrder_40 : decode cD_strictOrder 40 = .ok (.istore_n 3, 1) := by decide +kernel
theorem dD_strictOrder_41 : decode cD_strictOrder 41 = .ok (.iinc 4 1, 3) := by decide +kernel
theorem dD_strictOrder_44 : decode cD_strictOrder 44 = .ok (.goto (-27), 3) := by decide +kernel
theorem dD_strictOrder_47 : decode cD_strictOrder 47 = .ok (.iload_n 3, 1) := by decide +kernel
theorem dD_strictOrder_48 : decode cD_strictOrder 48 = .ok (.ireturn, 1) := by decide +kernel
theorem dD_looseOrder_0 : decode cD_looseOrder 0 = .ok (.aload_n 0, 1) := by decide +kernel
theorem dD_looseOrder_1 : decode cD_looseOrder 1 = .ok (.invokevirtual 186, 3) := by decide +kernel
theorem dD_looseOrder_4 : decode cD_looseOrder 4 = .ok (.istore_n 2, 1) := by decide +kernel
theorem dD_looseOrder_5 : decode cD_looseOrder 5 = .ok (.aload_n 1, 1) := by decide +kernel
theorem dD_looseOrder_6 : decode cD_looseOrder 6 = .ok (.invokevirtual 186, 3) := by decide +kernel
theorem dD_looseOrder_9 : decode cD_looseOrder 9 = .ok (.istore_n 3, 1) := by decide +kernel
theorem dD_looseOrder_10 : decode cD_looseOrder 10 = .ok (.aload_n 0, 1) := by decide +kernel
theorem dD_looseOrder_11 : decode cD_looseOrder 11 = .ok (.getfield 69, 3) := by decide +kernel
theorem dD_looseOrder_14 : decode cD_looseOrder 14 = .ok (.iload_n 2, 1) := by decide +kernel
theorem dD_looseOrder_15 : decode cD_looseOrder 15 = .ok (.isub, 1) := by decide +kernel
theorem dD_looseOrder_16 : decode cD_looseOrder 16 = .ok (.aload_n 1, 1) := by decide +kernel
theorem dD_looseOrder_17 : decode cD_looseOrder 17 = .ok (.getfield 69, 3) := by decide +kernel
theorem dD_looseOrder_20 : decode cD_looseOrder 20 = .ok (.iload_n 3, 1) := by decide +kernel
theorem dD_looseOrder_21 : decode cD_looseOrder 21 = .ok (.isub, 1) := by decide +kernel
theorem dD_looseOrder_22 : decode cD_looseOrder 22 = .ok (.invokestatic 182, 3) := by decide +kernel
theorem dD_looseOrder_25 : decode cD_looseOrder 25 = .ok (.istore 4, 2) := by decide +kernel
theorem dD_looseOrder_27 : decode cD_looseOrder 27 = .ok (.iconst 0, 1) := by decide +kernel
theorem dD_looseOrder_28 : decode cD_looseOrder 28 = .ok (.istore 5, 2) := by decide +kernel
theorem dD_looseOrder_30 : decode cD_looseOrder 30 = .ok (.iconst 0, 1) := by decide +kernel
theorem dD_looseOrder_31 : decode cD_looseOrder 31 = .ok (.istore 6, 2) := by decide +kernel
theorem dD_looseOrder_33 : decode cD_looseOrder 33 = .ok (.iload 6, 2) := by decide +kernel
theorem dD_looseOrder_35 : decode cD_looseOrder 35 = .ok (.iload 4, 2) := by decide +kernel
theorem dD_looseOrder_37 : decode cD_looseOrder 37 = .ok (.if_icmp .ge 33, 3) := by decide +kernel
theorem dD_looseOrder_40 : decode cD_looseOrder 40 = .ok (.iload 5, 2) := by decide +kernel
theorem dD_looseOrder_42 : decode cD_looseOrder 42 = .ok (.ifCond .ne 28, 3) := by decide +kernel
theorem dD_looseOrder_45 : decode cD_looseOrder 45 = .ok (.aload_n 0, 1) := by decide +kernel
theorem dD_looseOrder_46 : decode cD_looseOrder 46 = .ok (.iload_n 2, 1) := by decide +kernel
theorem dD_looseOrder_47 : decode cD_looseOrder 47 = .ok (.iload 6, 2) := by decide +kernel
theorem dD_looseOrder_49 : decode cD_looseOrder 49 = .ok (.iadd, 1) := by decide +kernel
theorem dD_looseOrder_50 : decode cD_looseOrder 50 = .ok (.invokevirtual 189, 3) := by decide +kernel
theorem dD_looseOrder_53 : decode cD_looseOrder 53 = .ok (.aload_n 1, 1) := by decide +kernel
theorem dD_looseOrder_54 : decode cD_looseOrder 54 = .ok (.iload_n 3, 1) := by decide +kernel
theorem dD_looseOrder_55 : decode cD_looseOrder 55 = .ok (.iload 6, 2) := by decide +kernel
theorem dD_looseOrder_57 : decode cD_looseOrder 57 = .ok (.iadd, 1) := by decide +kernel
theorem dD_looseOrder_58 : decode cD_looseOrder 58 = .ok (.invokevirtual 189, 3) := by decide +kernel
theorem dD_looseOrder_61 : decode cD_looseOrder 61 = .ok (.isub, 1) := by decide +kernel
theorem dD_looseOrder_62 : decode cD_looseOrder 62 = .ok (.istore 5, 2) := by decide +kernel
theorem dD_looseOrder_64 : decode cD_looseOrder 64 = .ok (.iinc 6 1, 3) := by decide +kernel
theorem dD_looseOrder_67 : decode cD_looseOrder 67 = .ok (.goto (-34), 3) := by decide +kernel
theorem dD_looseOrder_70 : decode cD_looseOrder 70 = .ok (.iload 5, 2) := by decide +kernel
theorem dD_looseOrder_72 : decode cD_looseOrder 72 = .ok (.ireturn, 1) := by decide +kernel
theorem dD_load_0 : decode cD_load 0 = .ok (.aload_n 0, 1) := by decide +kernel
theorem dD_load_1 : decode cD_load 1 = .ok (.getfield 28, 3) := by decide +kernel
theorem dD_load_4 : decode cD_load 4 = .ok (.aload_n 1, 1) := by decide +kernel
theorem dD_load_5 : decode cD_load 5 = .ok (.aload_n 2, 1) := by decide +kernel
theorem dD_load_6 : decode cD_load 6 = .ok (.invokevirtual 154, 3) := by decide +kernel
theorem dD_load_9 : decode cD_load 9 = .ok (.ifCond .ne 5, 3) := by decide +kernel
theorem dD_load_12 : decode cD_load 12 = .ok (.iconst 0, 1) := by decide +kernel
theorem dD_load_13 : decode cD_load 13 = .ok (.ireturn, 1) := by decide +kernel
theorem dD_load_14 : decode cD_load 14 = .ok (.aload_n 2, 1) := by decide +kernel
theorem dD_load_15 : decode cD_load 15 = .ok (.iload_n 3, 1) := by decide +kernel
theorem dD_load_16 : decode cD_load 16 = .ok (.invokevirtual 164, 3) := by decide +kernel
theorem dD_load_19 : decode cD_load 19 = .ok (.iconst 1, 1) := by decide +kernel
theorem dD_load_20 : decode cD_load 20 = .ok (.ireturn, 1) := by decide +kernel
theorem dD_loadBoth_0 : decode cD_loadBoth 0 = .ok (.aload_n 0, 1) := by decide +kernel
theorem dD_loadBoth_1 : decode cD_loadBoth 1 = .ok (.aload_n 1, 1) := by decide +kernel
theorem dD_loadBoth_2 : decode cD_loadBoth 2 = .ok (.aload_n 0, 1) := by decide +kernel
theorem dD_loadBoth_3 : decode cD_loadBoth 3 = .ok (.getfield 49, 3) := by decide +kernel
theorem dD_loadBoth_6 : decode cD_loadBoth 6 = .ok (.iload_n 3, 1) := by decide +kernel
theorem dD_loadBoth_7 : decode cD_loadBoth 7 = .ok (.invokevirtual 99, 3) := by decide +kernel
theorem dD_loadBoth_10 : decode cD_loadBoth 10 = .ok (.ifCond .eq 20, 3) := by decide +kernel
theorem dD_loadBoth_13 : decode cD_loadBoth 13 = .ok (.aload_n 0, 1) := by decide +kernel
theorem dD_loadBoth_14 : decode cD_loadBoth 14 = .ok (.aload_n 2, 1) := by decide +kernel
theorem dD_loadBoth_15 : decode cD_loadBoth 15 = .ok (.aload_n 0, 1) := by decide +kernel
theorem dD_loadBoth_16 : decode cD_loadBoth 16 = .ok (.getfield 53, 3) := by decide +kernel
theorem dD_loadBoth_19 : decode cD_loadBoth 19 = .ok (.iload_n 3, 1) := by decide +kernel
theorem dD_loadBoth_20 : decode cD_loadBoth 20 = .ok (.invokevirtual 99, 3) := by decide +kernel
theorem dD_loadBoth_23 : decode cD_loadBoth 23 = .ok (.ifCond .eq 7, 3) := by decide +kernel
theorem dD_loadBoth_26 : decode cD_loadBoth 26 = .ok (.iconst 1, 1) := by decide +kernel
theorem dD_loadBoth_27 : decode cD_loadBoth 27 = .ok (.goto 4, 3) := by decide +kernel
theorem dD_loadBoth_30 : decode cD_loadBoth 30 = .ok (.iconst 0, 1) := by decide +kernel
theorem dD_loadBoth_31 : decode cD_loadBoth 31 = .ok (.ireturn, 1) := by decide +kernel
theorem dD_keepPage_0 : decode cD_keepPage 0 = .ok (.aload_n 1, 1) := by decide +kernel
theorem dD_keepPage_1 : decode cD_keepPage 1 = .ok (.aload_n 0, 1) := by decide +kernel
theorem dD_keepPage_2 : decode cD_keepPage 2 = .ok (.getfield 22, 3) := by decide +kernel
theorem dD_keepPage_5 : decode cD_keepPage 5 = .ok (.invokevirtual 79, 3) := by decide +kernel
theorem dD_keepPage_8 : decode cD_keepPage 8 = .ok (.aload_n 1, 1) := by decide +kernel
theorem dD_keepPage_9 : decode cD_keepPage 9 = .ok (.getfield 69, 3) := by decide +kernel
theorem dD_keepPage_12 : decode cD_keepPage 12 = .ok (.ireturn, 1) := by decide +kernel
theorem dD_write_0 : decode cD_write 0 = .ok (.aload_n 0, 1) := by decide +kernel
theorem dD_write_1 : decode cD_write 1 = .ok (.getfield 35, 3) := by decide +kernel
theorem dD_write_4 : decode cD_write 4 = .ok (.aload_n 1, 1) := by decide +kernel
theorem dD_write_5 : decode cD_write 5 = .ok (.aload_n 0, 1) := by decide +kernel
theorem dD_write_6 : decode cD_write 6 = .ok (.getfield 59, 3) := by decide +kernel
theorem dD_write_9 : decode cD_write 9 = .ok (.aload_n 0, 1) := by decide +kernel
theorem dD_write_10 : decode cD_write 10 = .ok (.getfield 66, 3) := by decide +kernel
theorem dD_write_13 : decode cD_write 13 = .ok (.aload_n 0, 1) := by decide +kernel
theorem dD_write_14 : decode cD_write 14 = .ok (.getfield 22, 3) := by decide +kernel
theorem dD_write_17 : decode cD_write 17 = .ok (.invokevirtual 167, 3) := by decide +kernel
theorem dD_write_20 : decode cD_write 20 = .ok (.istore_n 3, 1) := by decide +kernel
theorem dD_write_21 : decode cD_write 21 = .ok (.iload_n 3, 1) := by decide +kernel
theorem dD_write_22 : decode cD_write 22 = .ok (.ifCond .ne 11, 3) := by decide +kernel
theorem dD_write_25 : decode cD_write 25 = .ok (.aload_n 0, 1) := by decide +kernel
theorem dD_write_26 : decode cD_write 26 = .ok (.aload_n 2, 1) := by decide +kernel
theorem dD_write_27 : decode cD_write 27 = .ok (.invokevirtual 169, 3) := by decide +kernel
theorem dD_write_30 : decode cD_write 30 = .ok (.goto 5, 3) := by decide +kernel
theorem dD_write_33 : decode cD_write 33 = .ok (.iload_n 3, 1) := by decide +kernel
theorem dD_write_34 : decode cD_write 34 = .ok (.ineg, 1) := by decide +kernel
theorem dD_write_35 : decode cD_write 35 = .ok (.ireturn, 1) := by decide +kernel
theorem dD_layOut_0 : decode cD_layOut 0 = .ok (.iload_n 2, 1) := by decide +kernel
theorem dD_layOut_1 : decode cD_layOut 1 = .ok (.i2l, 1) := by decide +kernel
theorem dD_layOut_2 : decode cD_layOut 2 = .ok (.iload_n 3, 1) := by decide +kernel
theorem dD_layOut_3 : decode cD_layOut 3 = .ok (.ifCond .le 10, 3) := by decide +kernel
theorem dD_layOut_6 : decode cD_layOut 6 = .ok (.lconst 1, 1) := by decide +kernel
theorem dD_layOut_7 : decode cD_layOut 7 = .ok (.iload_n 3, 1) := by decide +kernel
theorem dD_layOut_8 : decode cD_layOut 8 = .ok (.i2l, 1) := by decide +kernel
theorem dD_layOut_9 : decode cD_layOut 9 = .ok (.ladd, 1) := by decide +kernel
theorem dD_layOut_10 : decode cD_layOut 10 = .ok (.goto 4, 3) := by decide +kernel
theorem dD_layOut_13 : decode cD_layOut 13 = .ok (.lconst 0, 1) := by decide +kernel
theorem dD_layOut_14 : decode cD_layOut 14 = .ok (.ladd, 1) := by decide +kernel
theorem dD_layOut_15 : decode cD_layOut 15 = .ok (.lstore 5, 2) := by decide +kernel
theorem dD_layOut_17 : decode cD_layOut 17 = .ok (.lload 5, 2) := by decide +kernel
theorem dD_layOut_19 : decode cD_layOut 19 = .ok (.ldc2_w 173, 3) := by decide +kernel
theorem dD_layOut_22 : decode cD_layOut 22 = .ok (.lcmp, 1) := by decide +kernel
theorem dD_layOut_23 : decode cD_layOut 23 = .ok (.ifCond .le 6, 3) := by decide +kernel
theorem dD_layOut_26 : decode cD_layOut 26 = .ok (.bipush (-5), 2) := by decide +kernel
theorem dD_layOut_28 : decode cD_layOut 28 = .ok (.ireturn, 1) := by decide +kernel
theorem dD_layOut_29 : decode cD_layOut 29 = .ok (.aload_n 0, 1) := by decide +kernel
theorem dD_layOut_30 : decode cD_layOut 30 = .ok (.getfield 22, 3) := by decide +kernel
theorem dD_layOut_33 : decode cD_layOut 33 = .ok (.iconst 0, 1) := by decide +kernel
theorem dD_layOut_34 : decode cD_layOut 34 = .ok (.putfield 69, 3) := by decide +kernel
theorem dD_layOut_37 : decode cD_layOut 37 = .ok (.iload_n 2, 1) := by decide +kernel
theorem dD_layOut_38 : decode cD_layOut 38 = .ok (.aload_n 1, 1) := by decide +kernel
theorem dD_layOut_39 : decode cD_layOut 39 = .ok (.invokestatic 125, 3) := by decide +kernel
theorem dD_layOut_42 : decode cD_layOut 42 = .ok (.isub, 1) := by decide +kernel
theorem dD_layOut_43 : decode cD_layOut 43 = .ok (.istore 7, 2) := by decide +kernel
theorem dD_layOut_45 : decode cD_layOut 45 = .ok (.iload 7, 2) := by decide +kernel
theorem dD_layOut_47 : decode cD_layOut 47 = .ok (.ifCond .le 18, 3) := by decide +kernel
theorem dD_layOut_50 : decode cD_layOut 50 = .ok (.aload_n 0, 1) := by decide +kernel
theorem dD_layOut_51 : decode cD_layOut 51 = .ok (.getfield 22, 3) := by decide +kernel
theorem dD_layOut_54 : decode cD_layOut 54 = .ok (.bipush 32, 2) := by decide +kernel
theorem dD_layOut_56 : decode cD_layOut 56 = .ok (.invokevirtual 175, 3) := by decide +kernel
theorem dD_layOut_59 : decode cD_layOut 59 = .ok (.iinc 7 (-1), 3) := by decide +kernel
theorem dD_layOut_62 : decode cD_layOut 62 = .ok (.goto (-17), 3) := by decide +kernel
theorem dD_layOut_65 : decode cD_layOut 65 = .ok (.aload_n 0, 1) := by decide +kernel
theorem dD_layOut_66 : decode cD_layOut 66 = .ok (.getfield 35, 3) := by decide +kernel
theorem dD_layOut_69 : decode cD_layOut 69 = .ok (.aload_n 1, 1) := by decide +kernel
theorem dD_layOut_70 : decode cD_layOut 70 = .ok (.iload_n 3, 1) := by decide +kernel
theorem dD_layOut_71 : decode cD_layOut 71 = .ok (.aload_n 0, 1) := by decide +kernel
theorem dD_layOut_72 : decode cD_layOut 72 = .ok (.getfield 22, 3) := by decide +kernel
theorem dD_layOut_75 : decode cD_layOut 75 = .ok (.invokevirtual 178, 3) := by decide +kernel
theorem dD_layOut_78 : decode cD_layOut 78 = .ok (.aload_n 0, 1) := by decide +kernel
theorem dD_layOut_79 : decode cD_layOut 79 = .ok (.aload 4, 2) := by decide +kernel
theorem dD_layOut_81 : decode cD_layOut 81 = .ok (.invokevirtual 169, 3) := by decide +kernel
theorem dD_layOut_84 : decode cD_layOut 84 = .ok (.ireturn, 1) := by decide +kernel
theorem dD_feed_0 : decode cD_feed 0 = .ok (.aload_n 0, 1) := by decide +kernel
theorem dD_feed_1 : decode cD_feed 1 = .ok (.getfield 14, 3) := by decide +kernel
theorem dD_feed_4 : decode cD_feed 4 = .ok (.getfield 69, 3) := by decide +kernel
theorem dD_feed_7 : decode cD_feed 7 = .ok (.bipush 20, 2) := by decide +kernel
theorem dD_feed_9 : decode cD_feed 9 = .ok (.iadd, 1) := by decide +kernel
theorem dD_feed_10 : decode cD_feed 10 = .ok (.sipush 240, 3) := by decide +kernel
theorem dD_feed_13 : decode cD_feed 13 = .ok (.if_icmp .le 5, 3) := by decide +kernel
theorem dD_feed_16 : decode cD_feed 16 = .ok (.iconst (-1), 1) := by decide +kernel
theorem dD_feed_17 : decode cD_feed 17 = .ok (.ireturn, 1) := by decide +kernel
theorem dD_feed_18 : decode cD_feed 18 = .ok (.aload_n 0, 1) := by decide +kernel
theorem dD_feed_19 : decode cD_feed 19 = .ok (.getfield 14, 3) := by decide +kernel
theorem dD_feed_22 : decode cD_feed 22 = .ok (.iload_n 1, 1) := by decide +kernel
theorem dD_feed_23 : decode cD_feed 23 = .ok (.invokevirtual 72, 3) := by decide +kernel
theorem dD_feed_26 : decode cD_feed 26 = .ok (.aload_n 0, 1) := by decide +kernel
theorem dD_feed_27 : decode cD_feed 27 = .ok (.getfield 14, 3) := by decide +kernel
theorem dD_feed_30 : decode cD_feed 30 = .ok (.iload_n 2, 1) := by decide +kernel
theorem dD_feed_31 : decode cD_feed 31 = .ok (.invokevirtual 72, 3) := by decide +kernel
theorem dD_feed_34 : decode cD_feed 34 = .ok (.aload_n 0, 1) := by decide +kernel
theorem dD_feed_35 : decode cD_feed 35 = .ok (.getfield 14, 3) := by decide +kernel
theorem dD_feed_38 : decode cD_feed 38 = .ok (.iload_n 3, 1) := by decide +kernel
theorem dD_feed_39 : decode cD_feed 39 = .ok (.invokevirtual 72, 3) := by decide +kernel
theorem dD_feed_42 : decode cD_feed 42 = .ok (.aload_n 0, 1) := by decide +kernel
theorem dD_feed_43 : decode cD_feed 43 = .ok (.getfield 14, 3) := by decide +kernel
theorem dD_feed_46 : decode cD_feed 46 = .ok (.iload 4, 2) := by decide +kernel
theorem dD_feed_48 : decode cD_feed 48 = .ok (.invokevirtual 72, 3) := by decide +kernel
theorem dD_feed_51 : decode cD_feed 51 = .ok (.aload_n 0, 1) := by decide +kernel
theorem dD_feed_52 : decode cD_feed 52 = .ok (.getfield 14, 3) := by decide +kernel
theorem dD_feed_55 : decode cD_feed 55 = .ok (.iload 5, 2) := by decide +kernel
theorem dD_feed_57 : decode cD_feed 57 = .ok (.invokevirtual 72, 3) := by decide +kernel
theorem dD_feed_60 : decode cD_feed 60 = .ok (.aload_n 0, 1) := by decide +kernel
theorem dD_feed_61 : decode cD_feed 61 = .ok (.getfield 14, 3) := by decide +kernel
theorem dD_feed_64 : decode cD_feed 64 = .ok (.getfield 69, 3) := by decide +kernel
theorem dD_feed_67 : decode cD_feed 67 = .ok (.ireturn, 1) := by decide +kernel
theorem dD_end_0 : decode cD_end 0 = .ok (.iload_n 1, 1) := by decide +kernel
theorem dD_end_1 : decode cD_end 1 = .ok (.ifCond .lt 14, 3) := by decide +kernel
theorem dD_end_4 : decode cD_end 4 = .ok (.iload_n 1, 1) := by decide +kernel
theorem dD_end_5 : decode cD_end 5 = .ok (.aload_n 0, 1) := by decide +kernel
theorem dD_end_6 : decode cD_end 6 = .ok (.getfield 14, 3) := by decide +kernel
theorem dD_end_9 : decode cD_end 9 = .ok (.getfield 69, 3) := by decide +kernel
theorem dD_end_12 : decode cD_end 12 = .ok (.if_icmp .le 5, 3) := by decide +kernel
theorem dD_end_15 : decode cD_end 15 = .ok (.iconst (-1), 1) := by decide +kernel
theorem dD_end_16 : decode cD_end 16 = .ok (.ireturn, 1) := by decide +kernel
theorem dD_end_17 : decode cD_end 17 = .ok (.aload_n 0, 1) := by decide +kernel
theorem dD_end_18 : decode cD_end 18 = .ok (.getfield 14, 3) := by decide +kernel
theorem dD_end_21 : decode cD_end 21 = .ok (.iload_n 1, 1) := by decide +kernel
theorem dD_end_22 : decode cD_end 22 = .ok (.putfield 69, 3) := by decide +kernel
theorem dD_end_25 : decode cD_end 25 = .ok (.iload_n 1, 1) := by decide +kernel
theorem dD_end_26 : decode cD_end 26 = .ok (.ireturn, 1) := by decide +kernel
theorem dD_put_0 : decode cD_put 0 = .ok (.aload_n 0, 1) := by decide +kernel
theorem dD_put_1 : decode cD_put 1 = .ok (.iload_n 1, 1) := by decide +kernel
theorem dD_put_2 : decode cD_put 2 = .ok (.invokevirtual 75, 3) := by decide +kernel
theorem dD_put_5 : decode cD_put 5 = .ok (.astore_n 2, 1) := by decide +kernel
theorem dD_put_6 : decode cD_put 6 = .ok (.aload_n 2, 1) := by decide +kernel
theorem dD_put_7 : decode cD_put 7 = .ok (.ifnull 16, 3) := by decide +kernel
theorem dD_put_10 : decode cD_put 10 = .ok (.aload_n 0, 1) := by decide +kernel
theorem dD_put_11 : decode cD_put 11 = .ok (.getfield 14, 3) := by decide +kernel
theorem dD_put_14 : decode cD_put 14 = .ok (.getfield 69, 3) := by decide +kernel
theorem dD_put_17 : decode cD_put 17 = .ok (.sipush 200, 3) := by decide +kernel
theorem dD_put_20 : decode cD_put 20 = .ok (.if_icmp .le 5, 3) := by decide +kernel
theorem dD_put_23 : decode cD_put 23 = .ok (.iconst (-1), 1) := by decide +kernel
theorem dD_put_24 : decode cD_put 24 = .ok (.ireturn, 1) := by decide +kernel
theorem dD_put_25 : decode cD_put 25 = .ok (.aload_n 2, 1) := by decide +kernel
theorem dD_put_26 : decode cD_put 26 = .ok (.aload_n 0, 1) := by decide +kernel
theorem dD_put_27 : decode cD_put 27 = .ok (.getfield 14, 3) := by decide +kernel
theorem dD_put_30 : decode cD_put 30 = .ok (.invokevirtual 79, 3) := by decide +kernel
theorem dD_put_33 : decode cD_put 33 = .ok (.aload_n 0, 1) := by decide +kernel
theorem dD_put_34 : decode cD_put 34 = .ok (.getfield 14, 3) := by decide +kernel
theorem dD_put_37 : decode cD_put 37 = .ok (.iconst 0, 1) := by decide +kernel
theorem dD_put_38 : decode cD_put 38 = .ok (.putfield 69, 3) := by decide +kernel
theorem dD_put_41 : decode cD_put 41 = .ok (.aload_n 2, 1) := by decide +kernel
theorem dD_put_42 : decode cD_put 42 = .ok (.getfield 69, 3) := by decide +kernel
theorem dD_put_45 : decode cD_put 45 = .ok (.ireturn, 1) := by decide +kernel
theorem dD_size_0 : decode cD_size 0 = .ok (.aload_n 0, 1) := by decide +kernel
theorem dD_size_1 : decode cD_size 1 = .ok (.iload_n 1, 1) := by decide +kernel
theorem dD_size_2 : decode cD_size 2 = .ok (.invokevirtual 75, 3) := by decide +kernel
theorem dD_size_5 : decode cD_size 5 = .ok (.astore_n 2, 1) := by decide +kernel
theorem dD_size_6 : decode cD_size 6 = .ok (.aload_n 2, 1) := by decide +kernel
theorem dD_size_7 : decode cD_size 7 = .ok (.ifnonnull 7, 3) := by decide +kernel
theorem dD_size_10 : decode cD_size 10 = .ok (.iconst (-1), 1) := by decide +kernel
theorem dD_size_11 : decode cD_size 11 = .ok (.goto 7, 3) := by decide +kernel
theorem dD_size_14 : decode cD_size 14 = .ok (.aload_n 2, 1) := by decide +kernel
theorem dD_size_15 : decode cD_size 15 = .ok (.getfield 69, 3) := by decide +kernel
theorem dD_size_18 : decode cD_size 18 = .ok (.ireturn, 1) := by decide +kernel
theorem dD_at_0 : decode cD_at 0 = .ok (.aload_n 0, 1) := by decide +kernel
theorem dD_at_1 : decode cD_at 1 = .ok (.iload_n 1, 1) := by decide +kernel
theorem dD_at_2 : decode cD_at 2 = .ok (.invokevirtual 75, 3) := by decide +kernel
theorem dD_at_5 : decode cD_at 5 = .ok (.astore_n 3, 1) := by decide +kernel
theorem dD_at_6 : decode cD_at 6 = .ok (.aload_n 3, 1) := by decide +kernel
theorem dD_at_7 : decode cD_at 7 = .ok (.ifnonnull 7, 3) := by decide +kernel
theorem dD_at_10 : decode cD_at 10 = .ok (.iconst (-1), 1) := by decide +kernel
theorem dD_at_11 : decode cD_at 11 = .ok (.goto 8, 3) := by decide +kernel
theorem dD_at_14 : decode cD_at 14 = .ok (.aload_n 3, 1) := by decide +kernel
theorem dD_at_15 : decode cD_at 15 = .ok (.iload_n 2, 1) := by decide +kernel
theorem dD_at_16 : decode cD_at 16 = .ok (.invokevirtual 83, 3) := by decide +kernel
theorem dD_at_19 : decode cD_at 19 = .ok (.ireturn, 1) := by decide +kernel
theorem dD_digits_0 : decode cD_digits 0 = .ok (.iload_n 1, 1) := by decide +kernel
theorem dD_digits_1 : decode cD_digits 1 = .ok (.iconst 1, 1) := by decide +kernel
theorem dD_digits_2 : decode cD_digits 2 = .ok (.if_icmp .lt 17, 3) := by decide +kernel
theorem dD_digits_5 : decode cD_digits 5 = .ok (.iload_n 1, 1) := by decide +kernel
theorem dD_digits_6 : decode cD_digits 6 = .ok (.bipush 20, 2) := by decide +kernel
theorem dD_digits_8 : decode cD_digits 8 = .ok (.if_icmp .gt 11, 3) := by decide +kernel
theorem dD_digits_11 : decode cD_digits 11 = .ok (.iload_n 1, 1) := by decide +kernel
theorem dD_digits_12 : decode cD_digits 12 = .ok (.aload_n 0, 1) := by decide +kernel
theorem dD_digits_13 : decode cD_digits 13 = .ok (.getfield 63, 3) := by decide +kernel
theorem dD_digits_16 : decode cD_digits 16 = .ok (.if_icmp .gt 5, 3) := by decide +kernel
theorem dD_digits_19 : decode cD_digits 19 = .ok (.iconst (-1), 1) := by decide +kernel
theorem dD_digits_20 : decode cD_digits 20 = .ok (.ireturn, 1) := by decide +kernel
theorem dD_digits_21 : decode cD_digits 21 = .ok (.aload_n 0, 1) := by decide +kernel
theorem dD_digits_22 : decode cD_digits 22 = .ok (.iload_n 1, 1) := by decide +kernel
theorem dD_digits_23 : decode cD_digits 23 = .ok (.putfield 59, 3) := by decide +kernel
theorem dD_digits_26 : decode cD_digits 26 = .ok (.iconst 1, 1) := by decide +kernel
theorem dD_digits_27 : decode cD_digits 27 = .ok (.ireturn, 1) := by decide +kernel
theorem dD_fuzz_0 : decode cD_fuzz 0 = .ok (.iload_n 1, 1) := by decide +kernel
theorem dD_fuzz_1 : decode cD_fuzz 1 = .ok (.ifCond .lt 11, 3) := by decide +kernel
theorem dD_fuzz_4 : decode cD_fuzz 4 = .ok (.iload_n 1, 1) := by decide +kernel
theorem dD_fuzz_5 : decode cD_fuzz 5 = .ok (.aload_n 0, 1) := by decide +kernel
theorem dD_fuzz_6 : decode cD_fuzz 6 = .ok (.getfield 59, 3) := by decide +kernel
theorem dD_fuzz_9 : decode cD_fuzz 9 = .ok (.if_icmp .lt 5, 3) := by decide +kernel
theorem dD_fuzz_12 : decode cD_fuzz 12 = .ok (.iconst (-1), 1) := by decide +kernel
theorem dD_fuzz_13 : decode cD_fuzz 13 = .ok (.ireturn, 1) := by decide +kernel
theorem dD_fuzz_14 : decode cD_fuzz 14 = .ok (.aload_n 0, 1) := by decide +kernel
theorem dD_fuzz_15 : decode cD_fuzz 15 = .ok (.iload_n 1, 1) := by decide +kernel
theorem dD_fuzz_16 : decode cD_fuzz 16 = .ok (.putfield 63, 3) := by decide +kernel
theorem dD_fuzz_19 : decode cD_fuzz 19 = .ok (.iconst 1, 1) := by decide +kernel
theorem dD_fuzz_20 : decode cD_fuzz 20 = .ok (.ireturn, 1) := by decide +kernel
theorem dD_form_0 : decode cD_form 0 = .ok (.iload_n 1, 1) := by decide +kernel
theorem dD_form_1 : decode cD_form 1 = .ok (.ifCond .eq 10, 3) := by decide +kernel
theorem dD_form_4 : decode cD_form 4 = .ok (.iload_n 1, 1) := by decide +kernel
theorem dD_form_5 : decode cD_form 5 = .ok (.iconst 1, 1) := by decide +kernel
theorem dD_form_6 : decode cD_form 6 = .ok (.if_icmp .eq 5, 3) := by decide +kernel
theorem dD_form_9 : decode cD_form 9 = .ok (.iconst (-1), 1) := by decide +kernel
theorem dD_form_10 : decode cD_form 10 = .ok (.ireturn, 1) := by decide +kernel
theorem dD_form_11 : decode cD_form 11 = .ok (.aload_n 0, 1) := by decide +kernel
theorem dD_form_12 : decode cD_form 12 = .ok (.iload_n 1, 1) := by decide +kernel
theorem dD_form_13 : decode cD_form 13 = .ok (.putfield 66, 3) := by decide +kernel
theorem dD_form_16 : decode cD_form 16 = .ok (.iconst 1, 1) := by decide +kernel
theorem dD_form_17 : decode cD_form 17 = .ok (.ireturn, 1) := by decide +kernel
theorem dD_work_0 : decode cD_work 0 = .ok (.aload_n 0, 1) := by decide +kernel
theorem dD_work_1 : decode cD_work 1 = .ok (.iload_n 2, 1) := by decide +kernel
theorem dD_work_2 : decode cD_work 2 = .ok (.invokevirtual 75, 3) := by decide +kernel
theorem dD_work_5 : decode cD_work 5 = .ok (.astore 5, 2) := by decide +kernel
theorem dD_work_7 : decode cD_work 7 = .ok (.aload_n 0, 1) := by decide +kernel
theorem dD_work_8 : decode cD_work 8 = .ok (.iload_n 3, 1) := by decide +kernel
theorem dD_work_9 : decode cD_work 9 = .ok (.invokevirtual 75, 3) := by decide +kernel
theorem dD_work_12 : decode cD_work 12 = .ok (.astore 6, 2) := by decide +kernel
theorem dD_work_14 : decode cD_work 14 = .ok (.aload_n 0, 1) := by decide +kernel
theorem dD_work_15 : decode cD_work 15 = .ok (.iload 4, 2) := by decide +kernel
theorem dD_work_17 : decode cD_work 17 = .ok (.invokevirtual 75, 3) := by decide +kernel
theorem dD_work_20 : decode cD_work 20 = .ok (.astore 7, 2) := by decide +kernel
theorem dD_work_22 : decode cD_work 22 = .ok (.iload_n 1, 1) := by decide +kernel
theorem dD_work_23 : decode cD_work 23 = .ok (.ifCond .lt 24, 3) := by decide +kernel
theorem dD_work_26 : decode cD_work 26 = .ok (.iload_n 1, 1) := by decide +kernel
theorem dD_work_27 : decode cD_work 27 = .ok (.bipush 6, 2) := by decide +kernel
theorem dD_work_29 : decode cD_work 29 = .ok (.if_icmp .gt 18, 3) := by decide +kernel
theorem dD_work_32 : decode cD_work 32 = .ok (.aload 5, 2) := by decide +kernel
theorem dD_work_34 : decode cD_work 34 = .ok (.ifnull 13, 3) := by decide +kernel
theorem dD_work_37 : decode cD_work 37 = .ok (.aload 6, 2) := by decide +kernel
theorem dD_work_39 : decode cD_work 39 = .ok (.ifnull 8, 3) := by decide +kernel
theorem dD_work_42 : decode cD_work 42 = .ok (.aload 7, 2) := by decide +kernel
theorem dD_work_44 : decode cD_work 44 = .ok (.ifnonnull 5, 3) := by decide +kernel
theorem dD_work_47 : decode cD_work 47 = .ok (.iconst (-1), 1) := by decide +kernel
theorem dD_work_48 : decode cD_work 48 = .ok (.ireturn, 1) := by decide +kernel
theorem dD_work_49 : decode cD_work 49 = .ok (.aload_n 0, 1) := by decide +kernel
theorem dD_work_50 : decode cD_work 50 = .ok (.aload 5, 2) := by decide +kernel
theorem dD_work_52 : decode cD_work 52 = .ok (.aload 6, 2) := by decide +kernel
theorem dD_work_54 : decode cD_work 54 = .ok (.aload_n 0, 1) := by decide +kernel
theorem dD_work_55 : decode cD_work 55 = .ok (.getfield 59, 3) := by decide +kernel
theorem dD_work_58 : decode cD_work 58 = .ok (.invokevirtual 87, 3) := by decide +kernel
theorem dD_work_61 : decode cD_work 61 = .ok (.ifCond .ne 6, 3) := by decide +kernel
theorem dD_work_64 : decode cD_work 64 = .ok (.bipush (-41), 2) := by decide +kernel
theorem dD_work_66 : decode cD_work 66 = .ok (.ireturn, 1) := by decide +kernel
theorem dD_work_67 : decode cD_work 67 = .ok (.aload_n 0, 1) := by decide +kernel
theorem dD_work_68 : decode cD_work 68 = .ok (.getfield 42, 3) := by decide +kernel
theorem dD_work_71 : decode cD_work 71 = .ok (.iload_n 1, 1) := by decide +kernel
theorem dD_work_72 : decode cD_work 72 = .ok (.aload_n 0, 1) := by decide +kernel
theorem dD_work_73 : decode cD_work 73 = .ok (.getfield 49, 3) := by decide +kernel
theorem dD_work_76 : decode cD_work 76 = .ok (.aload_n 0, 1) := by decide +kernel
theorem dD_work_77 : decode cD_work 77 = .ok (.getfield 53, 3) := by decide +kernel
theorem dD_work_80 : decode cD_work 80 = .ok (.aload_n 0, 1) := by decide +kernel
theorem dD_work_81 : decode cD_work 81 = .ok (.getfield 59, 3) := by decide +kernel
theorem dD_work_84 : decode cD_work 84 = .ok (.aload_n 0, 1) := by decide +kernel
theorem dD_work_85 : decode cD_work 85 = .ok (.getfield 56, 3) := by decide +kernel
theorem dD_work_88 : decode cD_work 88 = .ok (.invokevirtual 91, 3) := by decide +kernel
theorem dD_work_91 : decode cD_work 91 = .ok (.istore 8, 2) := by decide +kernel
theorem dD_work_93 : decode cD_work 93 = .ok (.iload 8, 2) := by decide +kernel
theorem dD_work_95 : decode cD_work 95 = .ok (.ifCond .ne 16, 3) := by decide +kernel
theorem dD_work_98 : decode cD_work 98 = .ok (.aload_n 0, 1) := by decide +kernel
theorem dD_work_99 : decode cD_work 99 = .ok (.aload_n 0, 1) := by decide +kernel
theorem dD_work_100 : decode cD_work 100 = .ok (.getfield 56, 3) := by decide +kernel
theorem dD_work_103 : decode cD_work 103 = .ok (.aload 7, 2) := by decide +kernel
theorem dD_work_105 : decode cD_work 105 = .ok (.invokevirtual 95, 3) := by decide +kernel
theorem dD_work_108 : decode cD_work 108 = .ok (.goto 6, 3) := by decide +kernel
theorem dD_work_111 : decode cD_work 111 = .ok (.iload 8, 2) := by decide +kernel
theorem dD_work_113 : decode cD_work 113 = .ok (.ineg, 1) := by decide +kernel
theorem dD_work_114 : decode cD_work 114 = .ok (.ireturn, 1) := by decide +kernel
theorem dD_turn_0 : decode cD_turn 0 = .ok (.aload_n 0, 1) := by decide +kernel
theorem dD_turn_1 : decode cD_turn 1 = .ok (.iload_n 2, 1) := by decide +kernel
theorem dD_turn_2 : decode cD_turn 2 = .ok (.invokevirtual 75, 3) := by decide +kernel
theorem dD_turn_5 : decode cD_turn 5 = .ok (.astore 4, 2) := by decide +kernel
theorem dD_turn_7 : decode cD_turn 7 = .ok (.aload_n 0, 1) := by decide +kernel
theorem dD_turn_8 : decode cD_turn 8 = .ok (.iload_n 3, 1) := by decide +kernel
theorem dD_turn_9 : decode cD_turn 9 = .ok (.invokevirtual 75, 3) := by decide +kernel
theorem dD_turn_12 : decode cD_turn 12 = .ok (.astore 5, 2) := by decide +kernel
theorem dD_turn_14 : decode cD_turn 14 = .ok (.iload_n 1, 1) := by decide +kernel
theorem dD_turn_15 : decode cD_turn 15 = .ok (.ifCond .lt 18, 3) := by decide +kernel
theorem dD_turn_18 : decode cD_turn 18 = .ok (.iload_n 1, 1) := by decide +kernel
theorem dD_turn_19 : decode cD_turn 19 = .ok (.iconst 3, 1) := by decide +kernel
theorem dD_turn_20 : decode cD_turn 20 = .ok (.if_icmp .gt 13, 3) := by decide +kernel
theorem dD_turn_23 : decode cD_turn 23 = .ok (.aload 4, 2) := by decide +kernel
theorem dD_turn_25 : decode cD_turn 25 = .ok (.ifnull 8, 3) := by decide +kernel
theorem dD_turn_28 : decode cD_turn 28 = .ok (.aload 5, 2) := by decide +kernel
theorem dD_turn_30 : decode cD_turn 30 = .ok (.ifnonnull 5, 3) := by decide +kernel
theorem dD_turn_33 : decode cD_turn 33 = .ok (.iconst (-1), 1) := by decide +kernel
theorem dD_turn_34 : decode cD_turn 34 = .ok (.ireturn, 1) := by decide +kernel
theorem dD_turn_35 : decode cD_turn 35 = .ok (.aload_n 0, 1) := by decide +kernel
theorem dD_turn_36 : decode cD_turn 36 = .ok (.aload 4, 2) := by decide +kernel
theorem dD_turn_38 : decode cD_turn 38 = .ok (.aload_n 0, 1) := by decide +kernel
theorem dD_turn_39 : decode cD_turn 39 = .ok (.getfield 49, 3) := by decide +kernel
theorem dD_turn_42 : decode cD_turn 42 = .ok (.aload_n 0, 1) := by decide +kernel
theorem dD_turn_43 : decode cD_turn 43 = .ok (.getfield 59, 3) := by decide +kernel
theorem dD_turn_46 : decode cD_turn 46 = .ok (.invokevirtual 99, 3) := by decide +kernel
theorem dD_turn_49 : decode cD_turn 49 = .ok (.ifCond .ne 6, 3) := by decide +kernel
theorem dD_turn_52 : decode cD_turn 52 = .ok (.bipush (-41), 2) := by decide +kernel
theorem dD_turn_54 : decode cD_turn 54 = .ok (.ireturn, 1) := by decide +kernel
theorem dD_turn_55 : decode cD_turn 55 = .ok (.iload_n 1, 1) := by decide +kernel
theorem dD_turn_56 : decode cD_turn 56 = .ok (.iconst 1, 1) := by decide +kernel
theorem dD_turn_57 : decode cD_turn 57 = .ok (.if_icmp .ne 21, 3) := by decide +kernel
theorem dD_turn_60 : decode cD_turn 60 = .ok (.aload_n 0, 1) := by decide +kernel
theorem dD_turn_61 : decode cD_turn 61 = .ok (.getfield 49, 3) := by decide +kernel
theorem dD_turn_64 : decode cD_turn 64 = .ok (.aload_n 0, 1) := by decide +kernel
theorem dD_turn_65 : decode cD_turn 65 = .ok (.getfield 49, 3) := by decide +kernel
theorem dD_turn_68 : decode cD_turn 68 = .ok (.getfield 103, 3) := by decide +kernel
theorem dD_turn_71 : decode cD_turn 71 = .ok (.ineg, 1) := by decide +kernel
theorem dD_turn_72 : decode cD_turn 72 = .ok (.putfield 103, 3) := by decide +kernel
theorem dD_turn_75 : decode cD_turn 75 = .ok (.goto 47, 3) := by decide +kernel
theorem dD_turn_78 : decode cD_turn 78 = .ok (.iload_n 1, 1) := by decide +kernel
theorem dD_turn_79 : decode cD_turn 79 = .ok (.iconst 2, 1) := by decide +kernel
theorem dD_turn_80 : decode cD_turn 80 = .ok (.if_icmp .ne 23, 3) := by decide +kernel
theorem dD_turn_83 : decode cD_turn 83 = .ok (.aload_n 0, 1) := by decide +kernel
theorem dD_turn_84 : decode cD_turn 84 = .ok (.getfield 49, 3) := by decide +kernel
theorem dD_turn_87 : decode cD_turn 87 = .ok (.aload_n 0, 1) := by decide +kernel
theorem dD_turn_88 : decode cD_turn 88 = .ok (.getfield 49, 3) := by decide +kernel
theorem dD_turn_91 : decode cD_turn 91 = .ok (.getfield 103, 3) := by decide +kernel
theorem dD_turn_94 : decode cD_turn 94 = .ok (.invokestatic 106, 3) := by decide +kernel
theorem dD_turn_97 : decode cD_turn 97 = .ok (.putfield 103, 3) := by decide +kernel
theorem dD_turn_100 : decode cD_turn 100 = .ok (.goto 22, 3) := by decide +kernel
theorem dD_turn_103 : decode cD_turn 103 = .ok (.iload_n 1, 1) := by decide +kernel
theorem dD_turn_104 : decode cD_turn 104 = .ok (.iconst 3, 1) := by decide +kernel
theorem dD_turn_105 : decode cD_turn 105 = .ok (.if_icmp .ne 17, 3) := by decide +kernel
theorem dD_turn_108 : decode cD_turn 108 = .ok (.aload_n 0, 1) := by decide +kernel
theorem dD_turn_109 : decode cD_turn 109 = .ok (.getfield 49, 3) := by decide +kernel
theorem dD_turn_112 : decode cD_turn 112 = .ok (.aload_n 0, 1) := by decide +kernel
theorem dD_turn_113 : decode cD_turn 113 = .ok (.getfield 49, 3) := by decide +kernel
theorem dD_turn_116 : decode cD_turn 116 = .ok (.getfield 103, 3) := by decide +kernel
theorem dD_turn_119 : decode cD_turn 119 = .ok (.invokevirtual 111, 3) := by decide +kernel
theorem dD_turn_122 : decode cD_turn 122 = .ok (.aload_n 0, 1) := by decide +kernel
theorem dD_turn_123 : decode cD_turn 123 = .ok (.aload_n 0, 1) := by decide +kernel
theorem dD_turn_124 : decode cD_turn 124 = .ok (.getfield 49, 3) := by decide +kernel
theorem dD_turn_127 : decode cD_turn 127 = .ok (.aload 5, 2) := by decide +kernel
theorem dD_turn_129 : decode cD_turn 129 = .ok (.invokevirtual 95, 3) := by decide +kernel
theorem dD_turn_132 : decode cD_turn 132 = .ok (.ireturn, 1) := by decide +kernel
theorem dD_most_0 : decode cD_most 0 = .ok (.aload_n 0, 1) := by decide +kernel
theorem dD_most_1 : decode cD_most 1 = .ok (.iload_n 1, 1) := by decide +kernel
theorem dD_most_2 : decode cD_most 2 = .ok (.invokevirtual 75, 3) := by decide +kernel
theorem dD_most_5 : decode cD_most 5 = .ok (.astore 5, 2) := by decide +kernel
theorem dD_most_7 : decode cD_most 7 = .ok (.aload_n 0, 1) := by decide +kernel
theorem dD_most_8 : decode cD_most 8 = .ok (.iload_n 2, 1) := by decide +kernel
theorem dD_most_9 : decode cD_most 9 = .ok (.invokevirtual 75, 3) := by decide +kernel
theorem dD_most_12 : decode cD_most 12 = .ok (.astore 6, 2) := by decide +kernel
theorem dD_most_14 : decode cD_most 14 = .ok (.aload_n 0, 1) := by decide +kernel
theorem dD_most_15 : decode cD_most 15 = .ok (.iload_n 3, 1) := by decide +kernel
theorem dD_most_16 : decode cD_most 16 = .ok (.invokevirtual 75, 3) := by decide +kernel
theorem dD_most_19 : decode cD_most 19 = .ok (.astore 7, 2) := by decide +kernel
theorem dD_most_21 : decode cD_most 21 = .ok (.aload 5, 2) := by decide +kernel
theorem dD_most_23 : decode cD_most 23 = .ok (.ifnull 13, 3) := by decide +kernel
theorem dD_most_26 : decode cD_most 26 = .ok (.aload 6, 2) := by decide +kernel
theorem dD_most_28 : decode cD_most 28 = .ok (.ifnull 8, 3) := by decide +kernel
theorem dD_most_31 : decode cD_most 31 = .ok (.aload 7, 2) := by decide +kernel
theorem dD_most_33 : decode cD_most 33 = .ok (.ifnonnull 5, 3) := by decide +kernel
theorem dD_most_36 : decode cD_most 36 = .ok (.iconst (-1), 1) := by decide +kernel
theorem dD_most_37 : decode cD_most 37 = .ok (.ireturn, 1) := by decide +kernel
theorem dD_most_38 : decode cD_most 38 = .ok (.aload_n 0, 1) := by decide +kernel
theorem dD_most_39 : decode cD_most 39 = .ok (.aload 5, 2) := by decide +kernel
theorem dD_most_41 : decode cD_most 41 = .ok (.aload 6, 2) := by decide +kernel
theorem dD_most_43 : decode cD_most 43 = .ok (.aload_n 0, 1) := by decide +kernel
theorem dD_most_44 : decode cD_most 44 = .ok (.getfield 59, 3) := by decide +kernel
theorem dD_most_47 : decode cD_most 47 = .ok (.invokevirtual 87, 3) := by decide +kernel
theorem dD_most_50 : decode cD_most 50 = .ok (.ifCond .ne 6, 3) := by decide +kernel
theorem dD_most_53 : decode cD_most 53 = .ok (.bipush (-41), 2) := by decide +kernel
theorem dD_most_55 : decode cD_most 55 = .ok (.ireturn, 1) := by decide +kernel
theorem dD_most_56 : decode cD_most 56 = .ok (.aload_n 0, 1) := by decide +kernel
theorem dD_most_57 : decode cD_most 57 = .ok (.getfield 42, 3) := by decide +kernel
theorem dD_most_60 : decode cD_most 60 = .ok (.aload_n 0, 1) := by decide +kernel
theorem dD_most_61 : decode cD_most 61 = .ok (.getfield 49, 3) := by decide +kernel
theorem dD_most_64 : decode cD_most 64 = .ok (.aload_n 0, 1) := by decide +kernel
theorem dD_most_65 : decode cD_most 65 = .ok (.getfield 53, 3) := by decide +kernel
theorem dD_most_68 : decode cD_most 68 = .ok (.iconst 1, 1) := by decide +kernel
theorem dD_most_69 : decode cD_most 69 = .ok (.aload_n 0, 1) := by decide +kernel
theorem dD_most_70 : decode cD_most 70 = .ok (.getfield 56, 3) := by decide +kernel
theorem dD_most_73 : decode cD_most 73 = .ok (.invokevirtual 114, 3) := by decide +kernel
theorem dD_most_76 : decode cD_most 76 = .ok (.iload 4, 2) := by decide +kernel
theorem dD_most_78 : decode cD_most 78 = .ok (.ifCond .eq 21, 3) := by decide +kernel
theorem dD_most_81 : decode cD_most 81 = .ok (.aload_n 0, 1) := by decide +kernel
theorem dD_most_82 : decode cD_most 82 = .ok (.getfield 56, 3) := by decide +kernel
theorem dD_most_85 : decode cD_most 85 = .ok (.getfield 103, 3) := by decide +kernel
theorem dD_most_88 : decode cD_most 88 = .ok (.ifCond .le 7, 3) := by decide +kernel
theorem dD_most_91 : decode cD_most 91 = .ok (.iconst 1, 1) := by decide +kernel
theorem dD_most_92 : decode cD_most 92 = .ok (.goto 22, 3) := by decide +kernel
theorem dD_most_95 : decode cD_most 95 = .ok (.iconst 0, 1) := by decide +kernel
theorem dD_most_96 : decode cD_most 96 = .ok (.goto 18, 3) := by decide +kernel
theorem dD_most_99 : decode cD_most 99 = .ok (.aload_n 0, 1) := by decide +kernel
theorem dD_most_100 : decode cD_most 100 = .ok (.getfield 56, 3) := by decide +kernel
theorem dD_most_103 : decode cD_most 103 = .ok (.getfield 103, 3) := by decide +kernel
theorem dD_most_106 : decode cD_most 106 = .ok (.ifCond .ge 7, 3) := by decide +kernel
theorem dD_most_109 : decode cD_most 109 = .ok (.iconst 1, 1) := by decide +kernel
theorem dD_most_110 : decode cD_most 110 = .ok (.goto 4, 3) := by decide +kernel
theorem dD_most_113 : decode cD_most 113 = .ok (.iconst 0, 1) := by decide +kernel
theorem dD_most_114 : decode cD_most 114 = .ok (.istore 8, 2) := by decide +kernel
theorem dD_most_116 : decode cD_most 116 = .ok (.aload_n 0, 1) := by decide +kernel
theorem dD_most_117 : decode cD_most 117 = .ok (.iload 8, 2) := by decide +kernel
theorem dD_most_119 : decode cD_most 119 = .ok (.ifCond .eq 10, 3) := by decide +kernel
theorem dD_most_122 : decode cD_most 122 = .ok (.aload_n 0, 1) := by decide +kernel
theorem dD_most_123 : decode cD_most 123 = .ok (.getfield 53, 3) := by decide +kernel
theorem dD_most_126 : decode cD_most 126 = .ok (.goto 7, 3) := by decide +kernel
theorem dD_most_129 : decode cD_most 129 = .ok (.aload_n 0, 1) := by decide +kernel
theorem dD_most_130 : decode cD_most 130 = .ok (.getfield 49, 3) := by decide +kernel
theorem dD_most_133 : decode cD_most 133 = .ok (.aload 7, 2) := by decide +kernel
theorem dD_most_135 : decode cD_most 135 = .ok (.invokevirtual 95, 3) := by decide +kernel
theorem dD_most_138 : decode cD_most 138 = .ok (.ireturn, 1) := by decide +kernel
theorem dD_cut_0 : decode cD_cut 0 = .ok (.aload_n 0, 1) := by decide +kernel
theorem dD_cut_1 : decode cD_cut 1 = .ok (.iload_n 1, 1) := by decide +kernel
theorem dD_cut_2 : decode cD_cut 2 = .ok (.invokevirtual 75, 3) := by decide +kernel
theorem dD_cut_5 : decode cD_cut 5 = .ok (.astore 4, 2) := by decide +kernel
theorem dD_cut_7 : decode cD_cut 7 = .ok (.aload_n 0, 1) := by decide +kernel
theorem dD_cut_8 : decode cD_cut 8 = .ok (.iload_n 3, 1) := by decide +kernel
theorem dD_cut_9 : decode cD_cut 9 = .ok (.invokevirtual 75, 3) := by decide +kernel
theorem dD_cut_12 : decode cD_cut 12 = .ok (.astore 5, 2) := by decide +kernel
theorem dD_cut_14 : decode cD_cut 14 = .ok (.aload 4, 2) := by decide +kernel
theorem dD_cut_16 : decode cD_cut 16 = .ok (.ifnull 12, 3) := by decide +kernel
theorem dD_cut_19 : decode cD_cut 19 = .ok (.aload 5, 2) := by decide +kernel
theorem dD_cut_21 : decode cD_cut 21 = .ok (.ifnull 7, 3) := by decide +kernel
theorem dD_cut_24 : decode cD_cut 24 = .ok (.iload_n 2, 1) := by decide +kernel
theorem dD_cut_25 : decode cD_cut 25 = .ok (.ifCond .ge 5, 3) := by decide +kernel
theorem dD_cut_28 : decode cD_cut 28 = .ok (.iconst (-1), 1) := by decide +kernel
theorem dD_cut_29 : decode cD_cut 29 = .ok (.ireturn, 1) := by decide +kernel
theorem dD_cut_30 : decode cD_cut 30 = .ok (.aload_n 0, 1) := by decide +kernel
theorem dD_cut_31 : decode cD_cut 31 = .ok (.aload 4, 2) := by decide +kernel
theorem dD_cut_33 : decode cD_cut 33 = .ok (.aload_n 0, 1) := by decide +kernel
theorem dD_cut_34 : decode cD_cut 34 = .ok (.getfield 49, 3) := by decide +kernel
theorem dD_cut_37 : decode cD_cut 37 = .ok (.aload_n 0, 1) := by decide +kernel
theorem dD_cut_38 : decode cD_cut 38 = .ok (.getfield 59, 3) := by decide +kernel
theorem dD_cut_41 : decode cD_cut 41 = .ok (.invokevirtual 99, 3) := by decide +kernel
theorem dD_cut_44 : decode cD_cut 44 = .ok (.ifCond .ne 6, 3) := by decide +kernel
theorem dD_cut_47 : decode cD_cut 47 = .ok (.bipush (-41), 2) := by decide +kernel
theorem dD_cut_49 : decode cD_cut 49 = .ok (.ireturn, 1) := by decide +kernel
theorem dD_cut_50 : decode cD_cut 50 = .ok (.aload_n 0, 1) := by decide +kernel
theorem dD_cut_51 : decode cD_cut 51 = .ok (.getfield 49, 3) := by decide +kernel
theorem dD_cut_54 : decode cD_cut 54 = .ok (.invokevirtual 118, 3) := by decide +kernel
theorem dD_cut_57 : decode cD_cut 57 = .ok (.iload_n 2, 1) := by decide +kernel
theorem dD_cut_58 : decode cD_cut 58 = .ok (.ineg, 1) := by decide +kernel
theorem dD_cut_59 : decode cD_cut 59 = .ok (.if_icmp .gt 10, 3) := by decide +kernel
theorem dD_cut_62 : decode cD_cut 62 = .ok (.aload_n 0, 1) := by decide +kernel
theorem dD_cut_63 : decode cD_cut 63 = .ok (.getfield 49, 3) := by decide +kernel
theorem dD_cut_66 : decode cD_cut 66 = .ok (.invokevirtual 122, 3) := by decide +kernel
theorem dD_cut_69 : decode cD_cut 69 = .ok (.aload_n 0, 1) := by decide +kernel
theorem dD_cut_70 : decode cD_cut 70 = .ok (.aload_n 0, 1) := by decide +kernel
theorem dD_cut_71 : decode cD_cut 71 = .ok (.getfield 49, 3) := by decide +kernel
theorem dD_cut_74 : decode cD_cut 74 = .ok (.aload_n 0, 1) := by decide +kernel
theorem dD_cut_75 : decode cD_cut 75 = .ok (.getfield 49, 3) := by decide +kernel
theorem dD_cut_78 : decode cD_cut 78 = .ok (.invokestatic 125, 3) := by decide +kernel
theorem dD_cut_81 : decode cD_cut 81 = .ok (.iload_n 2, 1) := by decide +kernel
theorem dD_cut_82 : decode cD_cut 82 = .ok (.aload 5, 2) := by decide +kernel
theorem dD_cut_84 : decode cD_cut 84 = .ok (.invokevirtual 129, 3) := by decide +kernel
theorem dD_cut_87 : decode cD_cut 87 = .ok (.ireturn, 1) := by decide +kernel
theorem dD_column_0 : decode cD_column 0 = .ok (.aload_n 0, 1) := by decide +kernel
theorem dD_column_1 : decode cD_column 1 = .ok (.iload_n 1, 1) := by decide +kernel
theorem dD_column_2 : decode cD_column 2 = .ok (.invokevirtual 75, 3) := by decide +kernel
theorem dD_column_5 : decode cD_column 5 = .ok (.astore 5, 2) := by decide +kernel
theorem dD_column_7 : decode cD_column 7 = .ok (.aload_n 0, 1) := by decide +kernel
theorem dD_column_8 : decode cD_column 8 = .ok (.iload 4, 2) := by decide +kernel
theorem dD_column_10 : decode cD_column 10 = .ok (.invokevirtual 75, 3) := by decide +kernel
theorem dD_column_13 : decode cD_column 13 = .ok (.astore 6, 2) := by decide +kernel
theorem dD_column_15 : decode cD_column 15 = .ok (.aload 5, 2) := by decide +kernel
theorem dD_column_17 : decode cD_column 17 = .ok (.ifnull 18, 3) := by decide +kernel
theorem dD_column_20 : decode cD_column 20 = .ok (.aload 6, 2) := by decide +kernel
theorem dD_column_22 : decode cD_column 22 = .ok (.ifnull 13, 3) := by decide +kernel
theorem dD_column_25 : decode cD_column 25 = .ok (.iload_n 2, 1) := by decide +kernel
theorem dD_column_26 : decode cD_column 26 = .ok (.iconst (-1), 1) := by decide +kernel
theorem dD_column_27 : decode cD_column 27 = .ok (.if_icmp .lt 8, 3) := by decide +kernel
theorem dD_column_30 : decode cD_column 30 = .ok (.iload_n 3, 1) := by decide +kernel
theorem dD_column_31 : decode cD_column 31 = .ok (.iconst (-1), 1) := by decide +kernel
theorem dD_column_32 : decode cD_column 32 = .ok (.if_icmp .ge 5, 3) := by decide +kernel
theorem dD_column_35 : decode cD_column 35 = .ok (.iconst (-1), 1) := by decide +kernel
theorem dD_column_36 : decode cD_column 36 = .ok (.ireturn, 1) := by decide +kernel
theorem dD_column_37 : decode cD_column 37 = .ok (.aload_n 0, 1) := by decide +kernel
theorem dD_column_38 : decode cD_column 38 = .ok (.aload 5, 2) := by decide +kernel
theorem dD_column_40 : decode cD_column 40 = .ok (.aload_n 0, 1) := by decide +kernel
theorem dD_column_41 : decode cD_column 41 = .ok (.getfield 49, 3) := by decide +kernel
theorem dD_column_44 : decode cD_column 44 = .ok (.aload_n 0, 1) := by decide +kernel
theorem dD_column_45 : decode cD_column 45 = .ok (.getfield 59, 3) := by decide +kernel
theorem dD_column_48 : decode cD_column 48 = .ok (.invokevirtual 99, 3) := by decide +kernel
theorem dD_column_51 : decode cD_column 51 = .ok (.ifCond .ne 6, 3) := by decide +kernel
theorem dD_column_54 : decode cD_column 54 = .ok (.bipush (-41), 2) := by decide +kernel
theorem dD_column_56 : decode cD_column 56 = .ok (.ireturn, 1) := by decide +kernel
theorem dD_column_57 : decode cD_column 57 = .ok (.iload_n 3, 1) := by decide +kernel
theorem dD_column_58 : decode cD_column 58 = .ok (.ifCond .ge 13, 3) := by decide +kernel
theorem dD_column_61 : decode cD_column 61 = .ok (.aload_n 0, 1) := by decide +kernel
theorem dD_column_62 : decode cD_column 62 = .ok (.getfield 49, 3) := by decide +kernel
theorem dD_column_65 : decode cD_column 65 = .ok (.invokevirtual 133, 3) := by decide +kernel
theorem dD_column_68 : decode cD_column 68 = .ok (.goto 4, 3) := by decide +kernel
theorem dD_column_71 : decode cD_column 71 = .ok (.iload_n 3, 1) := by decide +kernel
theorem dD_column_72 : decode cD_column 72 = .ok (.istore 7, 2) := by decide +kernel
theorem dD_column_74 : decode cD_column 74 = .ok (.aload_n 0, 1) := by decide +kernel
theorem dD_column_75 : decode cD_column 75 = .ok (.getfield 49, 3) := by decide +kernel
theorem dD_column_78 : decode cD_column 78 = .ok (.iload 7, 2) := by decide +kernel
theorem dD_column_80 : decode cD_column 80 = .ok (.invokevirtual 136, 3) := by decide +kernel
theorem dD_column_83 : decode cD_column 83 = .ok (.aload_n 0, 1) := by decide +kernel
theorem dD_column_84 : decode cD_column 84 = .ok (.getfield 49, 3) := by decide +kernel
theorem dD_column_87 : decode cD_column 87 = .ok (.invokestatic 125, 3) := by decide +kernel
theorem dD_column_90 : decode cD_column 90 = .ok (.istore 8, 2) := by decide +kernel
theorem dD_column_92 : decode cD_column 92 = .ok (.iload_n 2, 1) := by decide +kernel
theorem dD_column_93 : decode cD_column 93 = .ok (.ifCond .ge 8, 3) := by decide +kernel
theorem dD_column_96 : decode cD_column 96 = .ok (.iload 8, 2) := by decide +kernel
theorem dD_column_98 : decode cD_column 98 = .ok (.goto 4, 3) := by decide +kernel
theorem dD_column_101 : decode cD_column 101 = .ok (.iload_n 2, 1) := by decide +kernel
theorem dD_column_102 : decode cD_column 102 = .ok (.istore 9, 2) := by decide +kernel
theorem dD_column_104 : decode cD_column 104 = .ok (.iload 9, 2) := by decide +kernel
theorem dD_column_106 : decode cD_column 106 = .ok (.iload 8, 2) := by decide +kernel
theorem dD_column_108 : decode cD_column 108 = .ok (.if_icmp .ge 8, 3) := by decide +kernel
theorem dD_column_111 : decode cD_column 111 = .ok (.bipush (-40), 2) := by decide +kernel
theorem dD_column_113 : decode cD_column 113 = .ok (.goto 17, 3) := by decide +kernel
theorem dD_column_116 : decode cD_column 116 = .ok (.aload_n 0, 1) := by decide +kernel
theorem dD_column_117 : decode cD_column 117 = .ok (.aload_n 0, 1) := by decide +kernel
theorem dD_column_118 : decode cD_column 118 = .ok (.getfield 49, 3) := by decide +kernel
theorem dD_column_121 : decode cD_column 121 = .ok (.iload 9, 2) := by decide +kernel
theorem dD_column_123 : decode cD_column 123 = .ok (.iload 7, 2) := by decide +kernel
theorem dD_column_125 : decode cD_column 125 = .ok (.aload 6, 2) := by decide +kernel
theorem dD_column_127 : decode cD_column 127 = .ok (.invokevirtual 129, 3) := by decide +kernel
theorem dD_column_130 : decode cD_column 130 = .ok (.ireturn, 1) := by decide +kernel
theorem dD_compare_0 : decode cD_compare 0 = .ok (.aload_n 0, 1) := by decide +kernel
theorem dD_compare_1 : decode cD_compare 1 = .ok (.iload_n 1, 1) := by decide +kernel
theorem dD_compare_2 : decode cD_compare 2 = .ok (.invokevirtual 75, 3) := by decide +kernel
theorem dD_compare_5 : decode cD_compare 5 = .ok (.astore 4, 2) := by decide +kernel
theorem dD_compare_7 : decode cD_compare 7 = .ok (.aload_n 0, 1) := by decide +kernel
theorem dD_compare_8 : decode cD_compare 8 = .ok (.iload_n 2, 1) := by decide +kernel
theorem dD_compare_9 : decode cD_compare 9 = .ok (.invokevirtual 75, 3) := by decide +kernel
theorem dD_compare_12 : decode cD_compare 12 = .ok (.astore 5, 2) := by decide +kernel
theorem dD_compare_14 : decode cD_compare 14 = .ok (.aload 4, 2) := by decide +kernel
theorem dD_compare_16 : decode cD_compare 16 = .ok (.ifnull 8, 3) := by decide +kernel
theorem dD_compare_19 : decode cD_compare 19 = .ok (.aload 5, 2) := by decide +kernel
theorem dD_compare_21 : decode cD_compare 21 = .ok (.ifnonnull 5, 3) := by decide +kernel
theorem dD_compare_24 : decode cD_compare 24 = .ok (.iconst (-1), 1) := by decide +kernel
theorem dD_compare_25 : decode cD_compare 25 = .ok (.ireturn, 1) := by decide +kernel
theorem dD_compare_26 : decode cD_compare 26 = .ok (.iload_n 3, 1) := by decide +kernel
theorem dD_compare_27 : decode cD_compare 27 = .ok (.ifCond .ne 54, 3) := by decide +kernel
theorem dD_compare_30 : decode cD_compare 30 = .ok (.aload_n 0, 1) := by decide +kernel
theorem dD_compare_31 : decode cD_compare 31 = .ok (.aload 4, 2) := by decide +kernel
theorem dD_compare_33 : decode cD_compare 33 = .ok (.aload 5, 2) := by decide +kernel
theorem dD_compare_35 : decode cD_compare 35 = .ok (.aload_n 0, 1) := by decide +kernel
theorem dD_compare_36 : decode cD_compare 36 = .ok (.getfield 59, 3) := by decide +kernel
theorem dD_compare_39 : decode cD_compare 39 = .ok (.aload_n 0, 1) := by decide +kernel
theorem dD_compare_40 : decode cD_compare 40 = .ok (.getfield 63, 3) := by decide +kernel
theorem dD_compare_43 : decode cD_compare 43 = .ok (.isub, 1) := by decide +kernel
theorem dD_compare_44 : decode cD_compare 44 = .ok (.invokevirtual 87, 3) := by decide +kernel
theorem dD_compare_47 : decode cD_compare 47 = .ok (.ifCond .eq 34, 3) := by decide +kernel
theorem dD_compare_50 : decode cD_compare 50 = .ok (.aload_n 0, 1) := by decide +kernel
theorem dD_compare_51 : decode cD_compare 51 = .ok (.getfield 42, 3) := by decide +kernel
theorem dD_compare_54 : decode cD_compare 54 = .ok (.aload_n 0, 1) := by decide +kernel
theorem dD_compare_55 : decode cD_compare 55 = .ok (.getfield 49, 3) := by decide +kernel
theorem dD_compare_58 : decode cD_compare 58 = .ok (.aload_n 0, 1) := by decide +kernel
theorem dD_compare_59 : decode cD_compare 59 = .ok (.getfield 53, 3) := by decide +kernel
theorem dD_compare_62 : decode cD_compare 62 = .ok (.iconst 1, 1) := by decide +kernel
theorem dD_compare_63 : decode cD_compare 63 = .ok (.aload_n 0, 1) := by decide +kernel
theorem dD_compare_64 : decode cD_compare 64 = .ok (.getfield 56, 3) := by decide +kernel
theorem dD_compare_67 : decode cD_compare 67 = .ok (.invokevirtual 114, 3) := by decide +kernel
theorem dD_compare_70 : decode cD_compare 70 = .ok (.aload_n 0, 1) := by decide +kernel
theorem dD_compare_71 : decode cD_compare 71 = .ok (.getfield 56, 3) := by decide +kernel
theorem dD_compare_74 : decode cD_compare 74 = .ok (.getfield 103, 3) := by decide +kernel
theorem dD_compare_77 : decode cD_compare 77 = .ok (.invokestatic 139, 3) := by decide +kernel
theorem dD_compare_80 : decode cD_compare 80 = .ok (.ireturn, 1) := by decide +kernel
theorem dD_compare_81 : decode cD_compare 81 = .ok (.iload_n 3, 1) := by decide +kernel
theorem dD_compare_82 : decode cD_compare 82 = .ok (.ifCond .eq 13, 3) := by decide +kernel
theorem dD_compare_85 : decode cD_compare 85 = .ok (.aload 4, 2) := by decide +kernel
theorem dD_compare_87 : decode cD_compare 87 = .ok (.aload 5, 2) := by decide +kernel
theorem dD_compare_89 : decode cD_compare 89 = .ok (.invokestatic 142, 3) := by decide +kernel
theorem dD_compare_92 : decode cD_compare 92 = .ok (.goto 10, 3) := by decide +kernel
theorem dD_compare_95 : decode cD_compare 95 = .ok (.aload 4, 2) := by decide +kernel
theorem dD_compare_97 : decode cD_compare 97 = .ok (.aload 5, 2) := by decide +kernel
theorem dD_compare_99 : decode cD_compare 99 = .ok (.invokestatic 146, 3) := by decide +kernel
theorem dD_compare_102 : decode cD_compare 102 = .ok (.invokestatic 139, 3) := by decide +kernel
theorem dD_compare_105 : decode cD_compare 105 = .ok (.ireturn, 1) := by decide +kernel
theorem dD_whole_0 : decode cD_whole 0 = .ok (.aload_n 0, 1) := by decide +kernel
theorem dD_whole_1 : decode cD_whole 1 = .ok (.iload_n 1, 1) := by decide +kernel
theorem dD_whole_2 : decode cD_whole 2 = .ok (.invokevirtual 75, 3) := by decide +kernel
theorem dD_whole_5 : decode cD_whole 5 = .ok (.astore_n 2, 1) := by decide +kernel
theorem dD_whole_6 : decode cD_whole 6 = .ok (.aload_n 2, 1) := by decide +kernel
theorem dD_whole_7 : decode cD_whole 7 = .ok (.ifnonnull 6, 3) := by decide +kernel
theorem dD_whole_10 : decode cD_whole 10 = .ok (.ldc 149, 2) := by decide +kernel
theorem dD_whole_12 : decode cD_whole 12 = .ok (.ireturn, 1) := by decide +kernel
theorem dD_whole_13 : decode cD_whole 13 = .ok (.aload_n 0, 1) := by decide +kernel
theorem dD_whole_14 : decode cD_whole 14 = .ok (.aload_n 2, 1) := by decide +kernel
theorem dD_whole_15 : decode cD_whole 15 = .ok (.aload_n 0, 1) := by decide +kernel
theorem dD_whole_16 : decode cD_whole 16 = .ok (.getfield 49, 3) := by decide +kernel
theorem dD_whole_19 : decode cD_whole 19 = .ok (.aload_n 0, 1) := by decide +kernel
theorem dD_whole_20 : decode cD_whole 20 = .ok (.getfield 59, 3) := by decide +kernel
theorem dD_whole_23 : decode cD_whole 23 = .ok (.invokevirtual 99, 3) := by decide +kernel
theorem dD_whole_26 : decode cD_whole 26 = .ok (.ifCond .eq 13, 3) := by decide +kernel
theorem dD_whole_29 : decode cD_whole 29 = .ok (.aload_n 0, 1) := by decide +kernel
theorem dD_whole_30 : decode cD_whole 30 = .ok (.getfield 49, 3) := by decide +kernel
theorem dD_whole_33 : decode cD_whole 33 = .ok (.invokevirtual 150, 3) := by decide +kernel
theorem dD_whole_36 : decode cD_whole 36 = .ok (.goto 5, 3) := by decide +kernel
theorem dD_whole_39 : decode cD_whole 39 = .ok (.ldc 153, 2) := by decide +kernel
theorem dD_whole_41 : decode cD_whole 41 = .ok (.ireturn, 1) := by decide +kernel
theorem dD_about_0 : decode cD_about 0 = .ok (.aload_n 0, 1) := by decide +kernel
theorem dD_about_1 : decode cD_about 1 = .ok (.iload_n 1, 1) := by decide +kernel
theorem dD_about_2 : decode cD_about 2 = .ok (.invokevirtual 75, 3) := by decide +kernel
theorem dD_about_5 : decode cD_about 5 = .ok (.astore_n 3, 1) := by decide +kernel
theorem dD_about_6 : decode cD_about 6 = .ok (.aload_n 3, 1) := by decide +kernel
theorem dD_about_7 : decode cD_about 7 = .ok (.ifnull 12, 3) := by decide +kernel
theorem dD_about_10 : decode cD_about 10 = .ok (.iload_n 2, 1) := by decide +kernel
theorem dD_about_11 : decode cD_about 11 = .ok (.ifCond .lt 8, 3) := by decide +kernel
theorem dD_about_14 : decode cD_about 14 = .ok (.iload_n 2, 1) := by decide +kernel
theorem dD_about_15 : decode cD_about 15 = .ok (.iconst 3, 1) := by decide +kernel
theorem dD_about_16 : decode cD_about 16 = .ok (.if_icmp .le 5, 3) := by decide +kernel
theorem dD_about_19 : decode cD_about 19 = .ok (.iconst (-1), 1) := by decide +kernel
theorem dD_about_20 : decode cD_about 20 = .ok (.ireturn, 1) := by decide +kernel
theorem dD_about_21 : decode cD_about 21 = .ok (.aload_n 0, 1) := by decide +kernel
theorem dD_about_22 : decode cD_about 22 = .ok (.getfield 28, 3) := by decide +kernel
theorem dD_about_25 : decode cD_about 25 = .ok (.aload_n 3, 1) := by decide +kernel
theorem dD_about_26 : decode cD_about 26 = .ok (.aload_n 0, 1) := by decide +kernel
theorem dD_about_27 : decode cD_about 27 = .ok (.getfield 49, 3) := by decide +kernel
theorem dD_about_30 : decode cD_about 30 = .ok (.invokevirtual 154, 3) := by decide +kernel
theorem dD_about_33 : decode cD_about 33 = .ok (.ifCond .ne 5, 3) := by decide +kernel
theorem dD_about_36 : decode cD_about 36 = .ok (.iconst 0, 1) := by decide +kernel
theorem dD_about_37 : decode cD_about 37 = .ok (.ireturn, 1) := by decide +kernel
theorem dD_about_38 : decode cD_about 38 = .ok (.iload_n 2, 1) := by decide +kernel
theorem dD_about_39 : decode cD_about 39 = .ok (.iconst 1, 1) := by decide +kernel
theorem dD_about_40 : decode cD_about 40 = .ok (.if_icmp .ne 11, 3) := by decide +kernel
theorem dD_about_43 : decode cD_about 43 = .ok (.aload_n 0, 1) := by decide +kernel
theorem dD_about_44 : decode cD_about 44 = .ok (.getfield 49, 3) := by decide +kernel
theorem dD_about_47 : decode cD_about 47 = .ok (.getfield 158, 3) := by decide +kernel
theorem dD_about_50 : decode cD_about 50 = .ok (.ireturn, 1) := by decide +kernel
theorem dD_about_51 : decode cD_about 51 = .ok (.iload_n 2, 1) := by decide +kernel
theorem dD_about_52 : decode cD_about 52 = .ok (.iconst 2, 1) := by decide +kernel
theorem dD_about_53 : decode cD_about 53 = .ok (.if_icmp .ne 11, 3) := by decide +kernel
theorem dD_about_56 : decode cD_about 56 = .ok (.aload_n 0, 1) := by decide +kernel
theorem dD_about_57 : decode cD_about 57 = .ok (.getfield 49, 3) := by decide +kernel
theorem dD_about_60 : decode cD_about 60 = .ok (.invokevirtual 161, 3) := by decide +kernel
theorem dD_about_63 : decode cD_about 63 = .ok (.ireturn, 1) := by decide +kernel
theorem dD_about_64 : decode cD_about 64 = .ok (.iload_n 2, 1) := by decide +kernel
theorem dD_about_65 : decode cD_about 65 = .ok (.ifCond .eq 13, 3) := by decide +kernel
theorem dD_about_68 : decode cD_about 68 = .ok (.aload_n 0, 1) := by decide +kernel
theorem dD_about_69 : decode cD_about 69 = .ok (.getfield 49, 3) := by decide +kernel
theorem dD_about_72 : decode cD_about 72 = .ok (.getfield 103, 3) := by decide +kernel
theorem dD_about_75 : decode cD_about 75 = .ok (.ifCond .ge 7, 3) := by decide +kernel
theorem dD_about_78 : decode cD_about 78 = .ok (.iconst 1, 1) := by decide +kernel
theorem dD_about_79 : decode cD_about 79 = .ok (.goto 4, 3) := by decide +kernel
theorem dD_about_82 : decode cD_about 82 = .ok (.iconst 0, 1) := by decide +kernel
theorem dD_about_83 : decode cD_about 83 = .ok (.ireturn, 1) := by decide +kernel
set_option maxHeartbeats 4000000 in
set_option maxRecDepth 100000 in
theorem b_D_find {X : wk_X} {G : cGt} (hI : wd_inj (vC G)) (C : wk_C X (vC G) cD_find RD 2 0 0) {v1 : Int32} {h : Hp} {q : Option Nat × Hp}  (hf : f_D_find v1 h = some q) (hq : wk_Q X (vC G) (some (va_rf (Option.map (cad G) q.1))) q.2 (some (.object "NumberDesk$Line"))) : WW X (vC G) h 0 [(0, .ref (cad G 0)), (1, .int v1)] [] := by
  unfold f_D_find at hf
  refine wk_iload_n C 1 dD_find_0 rfl rfl ?_
  refine wk_if_lt (tgt := 10) C dD_find_1 rfl hf (fun c_1 hf => ?_) (fun c_1 hf => ?_)
  · refine wk_null C dD_find_10 ?_
    refine wk_goto (tgt := 20) C dD_find_11 rfl ?_
    cases hf
    exact wk_areturn C (o := none) hq dD_find_20
  · refine wk_iload_n C 1 dD_find_4 rfl rfl ?_
    refine wk_bipush C dD_find_5 kbipush_10 ?_
    refine wk_icmp_lt (tgt := 14) C dD_find_7 rfl hf (fun c_7 hf => ?_) (fun c_7 hf => ?_)
    · refine wk_aload_n C 0 dD_find_14 rfl rfl ?_
      refine gf_D_18 C dD_find_15 ?_
      refine wk_iload_n C 1 dD_find_18 rfl rfl ?_
      obtain ⟨c_19, hf⟩ := chk_some hf
      refine aa_regs C c_19 dD_find_19 ?_
      cases hf
      exact wk_areturn C (o := (some (cad G (4 + 2 * Int32.toNatClampNeg v1)))) hq dD_find_20
    · refine wk_null C dD_find_10 ?_
      refine wk_goto (tgt := 20) C dD_find_11 rfl ?_
      cases hf
      exact wk_areturn C (o := none) hq dD_find_20
theorem m_D_find {l : Launch} {G : cGt} (hI : wd_inj (vC G)) {v1 : Int32} {h h' : Hp} {r : Option Nat}  (hf : f_D_find v1 h = some (r, h')) : wk_M l (vC G) yD_find cD_find 2 (some (.object "NumberDesk$Line")) 0 0 [.ref (cad G 0), .int v1] h (some (va_rf (Option.map (cad G) r))) h' :=
  wk_met hI (by decide +kernel) rfl (Nat.le_of_ble_eq_true rfl) (wk_cat1 rfl) (fun X hX C hq => by subst hX; exact b_D_find hI C  hf hq)
set_option maxHeartbeats 4000000 in
set_option maxRecDepth 100000 in
theorem b_D_placesAhead {X : wk_X} {G : cGt} (hI : wd_inj (vC G)) (C : wk_C X (vC G) cD_placesAhead RD 1 1 20) {v0 : Nat} {h : Hp} {q : Int32 × Hp} (k_v0 : cNum v0) (hf : f_D_placesAhead v0 h = some q) (hq : wk_Q X (vC G) (some (.int q.1)) q.2 (some .int)) : WW X (vC G) h 0 [(0, .ref (cad G v0))] [] := by
  unfold f_D_placesAhead at hf
  refine wk_aload_n C 0 dD_placesAhead_0 rfl rfl ?_
  obtain ⟨r1, h1, e_1, hf⟩ := bd_some hf
  refine wk_callV (As := []) (rest := []) C lw_good cw_D_118 wi_N_ahead (m_N_ahead hI k_v0 e_1) (lz_cNum k_v0) (he_cNum k_v0) rfl rfl rfl (Nat.le_of_ble_eq_true rfl) (by decide) dD_placesAhead_1 ?_
  refine wk_iconst C dD_placesAhead_4 kiconst_1 ?_
  refine wk_mmax C mw_D_182 ⟨Nat.le_of_ble_eq_true rfl, Nat.le_of_ble_eq_true rfl⟩ dD_placesAhead_5 ?_
  refine wk_aload_n C 0 dD_placesAhead_8 rfl rfl ?_
  refine gf_D_103 C k_v0 dD_placesAhead_9 ?_
  refine wk_if_ge (tgt := 19) C dD_placesAhead_12 rfl hf (fun c_12 hf => ?_) (fun c_12 hf => ?_)
  · refine wk_iconst C dD_placesAhead_19 kiconst_0 ?_
    refine wk_iadd C dD_placesAhead_20 ?_
    cases hf
    exact wk_ireturn C hq dD_placesAhead_21
  · refine wk_iconst C dD_placesAhead_15 kiconst_1 ?_
    refine wk_goto (tgt := 20) C dD_placesAhead_16 rfl ?_
    refine wk_iadd C dD_placesAhead_20 ?_
    cases hf
    exact wk_ireturn C hq dD_placesAhead_21
theorem m_D_placesAhead {l : Launch} {G : cGt} (hI : wd_inj (vC G)) {v0 : Nat} {h h' : Hp} {r : Int32} (k_v0 : cNum v0) (hf : f_D_placesAhead v0 h = some (r, h')) : wk_M l (vC G) yD_placesAhead cD_placesAhead 1 (some .int) 1 20 [.ref (cad G v0)] h (some (.int r)) h' :=
  wk_met hI (by decide +kernel) rfl (Nat.le_of_ble_eq_true rfl) (wk_cat1 rfl) (fun X hX C hq => by subst hX; exact b_D_placesAhead hI C k_v0 hf hq)
set_option maxHeartbeats 4000000 in
set_option maxRecDepth 100000 in
theorem b_D_standing {X : wk_X} {G : cGt} (hI : wd_inj (vC G)) (C : wk_C X (vC G) cD_standing RD 1 0 0) {v0 : Int32} {h : Hp} {q : Int32 × Hp}  (hf : f_D_standing v0 h = some q) (hq : wk_Q X (vC G) (some (.int q.1)) q.2 (some .int)) : WW X (vC G) h 0 [(0, .int v0)] [] := by
  unfold f_D_standing at hf
  refine wk_iload_n C 0 dD_standing_0 rfl rfl ?_
  refine wk_if_ge (tgt := 8) C dD_standing_1 rfl hf (fun c_1 hf => ?_) (fun c_1 hf => ?_)
  · refine wk_iload_n C 0 dD_standing_8 rfl rfl ?_
    refine wk_if_le (tgt := 16) C dD_standing_9 rfl hf (fun c_9 hf => ?_) (fun c_9 hf => ?_)
    · refine wk_iconst C dD_standing_16 kiconst_2 ?_
      cases hf
      exact wk_ireturn C hq dD_standing_17
    · refine wk_iconst C dD_standing_12 kiconst_4 ?_
      refine wk_goto (tgt := 17) C dD_standing_13 rfl ?_
      cases hf
      exact wk_ireturn C hq dD_standing_17
  · refine wk_iconst C dD_standing_4 kiconst_1 ?_
    refine wk_goto (tgt := 17) C dD_standing_5 rfl ?_
    cases hf
    exact wk_ireturn C hq dD_standing_17
theorem m_D_standing {l : Launch} {G : cGt} (hI : wd_inj (vC G)) {v0 : Int32} {h h' : Hp} {r : Int32}  (hf : f_D_standing v0 h = some (r, h')) : wk_M l (vC G) yD_standing cD_standing 1 (some .int) 0 0 [.int v0] h (some (.int r)) h' :=
  wk_met hI (by decide +kernel) rfl (Nat.le_of_ble_eq_true rfl) (wk_cat1 rfl) (fun X hX C hq => by subst hX; exact b_D_standing hI C  hf hq)
set_option maxHeartbeats 4000000 in
set_option maxRecDepth 100000 in
theorem b_D_strictOrder_17 {X : wk_X} {G : cGt} (hI : wd_inj (vC G)) (C : wk_C X (vC G) cD_strictOrder RD 5 1 21) : ∀ (n : Nat) {v0 : Nat} {v1 : Nat} {v2 : Int32} {v3 : Int32} {v4 : Int32} {h : Hp} {q : Int32 × Hp} (k_v0 : cLine v0) (k_v1 : cLine v1) (hf : f_D_strictOrder_17 n v0 v1 v2 v3 v4 h = some q) (hq : wk_Q X (vC G) (some (.int q.1)) q.2 (some .int)), WW X (vC G) h 17 [(0, .ref (cad G v0)), (1, .ref (cad G v1)), (2, .int v2), (3, .int v3), (4, .int v4)] [] := by
  intro n
  induction n with
  | zero =>
    intros
    rename_i hf _
    cases hf
  | succ n ih =>
    intro v0 v1 v2 v3 v4 h q k_v0 k_v1 hf hq
    rw [f_D_strictOrder_17] at hf
    refine wk_iload C dD_strictOrder_17 rfl ?_
    refine wk_iload_n C 2 dD_strictOrder_19 rfl rfl ?_
    refine wk_icmp_ge (tgt := 47) C dD_strictOrder_20 rfl hf (fun c_20 hf => ?_) (fun c_20 hf => ?_)
    · refine wk_iload_n C 3 dD_strictOrder_47 rfl rfl ?_
      cases hf
      exact wk_ireturn C hq dD_strictOrder_48
    · refine wk_iload_n C 3 dD_strictOrder_23 rfl rfl ?_
      refine wk_if_ne (tgt := 47) C dD_strictOrder_24 rfl hf (fun c_24 hf => ?_) (fun c_24 hf => ?_)
      · refine wk_iload_n C 3 dD_strictOrder_47 rfl rfl ?_
        cases hf
        exact wk_ireturn C hq dD_strictOrder_48
      · refine wk_aload_n C 0 dD_strictOrder_27 rfl rfl ?_
        refine wk_iload C dD_strictOrder_28 rfl ?_
        obtain ⟨r30, h30, e_30, hf⟩ := bd_some hf
        refine wk_callV (As := [.int v4]) (rest := []) C lw_good cw_D_83 wi_L_byteAt (m_L_byteAt hI k_v0 e_30) (lz_cLine k_v0) (he_cLine k_v0) rfl rfl rfl (Nat.le_of_ble_eq_true rfl) (by decide) dD_strictOrder_30 ?_
        refine wk_aload_n C 1 dD_strictOrder_33 rfl rfl ?_
        refine wk_iload C dD_strictOrder_34 rfl ?_
        obtain ⟨r36, h36, e_36, hf⟩ := bd_some hf
        refine wk_callV (As := [.int v4]) (rest := [.int r30]) C lw_good cw_D_83 wi_L_byteAt (m_L_byteAt hI k_v1 e_36) (lz_cLine k_v1) (he_cLine k_v1) rfl rfl rfl (Nat.le_of_ble_eq_true rfl) (by decide) dD_strictOrder_36 ?_
        refine wk_isub C dD_strictOrder_39 ?_
        refine wk_istore_n C 3 dD_strictOrder_40 rfl (by decide) ?_
        refine wk_iinc C dD_strictOrder_41 rfl kiconst_1 (by decide) ?_
        refine wk_goto (tgt := 17) C dD_strictOrder_44 rfl ?_
        exact wk_go (ih k_v0 k_v1 hf hq) (And.intro rfl (And.intro rfl (And.intro rfl (And.intro rfl (And.intro rfl trivial)))))
set_option maxHeartbeats 4000000 in
set_option maxRecDepth 100000 in
theorem b_D_strictOrder {X : wk_X} {G : cGt} (hI : wd_inj (vC G)) (C : wk_C X (vC G) cD_strictOrder RD 5 1 21) {v0 : Nat} {v1 : Nat} {h : Hp} {q : Int32 × Hp} (k_v0 : cLine v0) (k_v1 : cLine v1) (hf : f_D_strictOrder v0 v1 h = some q) (hq : wk_Q X (vC G) (some (.int q.1)) q.2 (some .int)) : WW X (vC G) h 0 [(0, .ref (cad G v0)), (1, .ref (cad G v1))] [] := by
  unfold f_D_strictOrder at hf
  refine wk_aload_n C 0 dD_strictOrder_0 rfl rfl ?_
  refine gf_D_69 C k_v0 dD_strictOrder_1 ?_
  refine wk_aload_n C 1 dD_strictOrder_4 rfl rfl ?_
  refine gf_D_69 C k_v1 dD_strictOrder_5 ?_
  refine wk_mmax C mw_D_182 ⟨Nat.le_of_ble_eq_true rfl, Nat.le_of_ble_eq_true rfl⟩ dD_strictOrder_8 ?_
  refine wk_istore_n C 2 dD_strictOrder_11 rfl (by decide) ?_
  refine wk_iconst C dD_strictOrder_12 kiconst_0 ?_
  refine wk_istore_n C 3 dD_strictOrder_13 rfl (by decide) ?_
  refine wk_iconst C dD_strictOrder_14 kiconst_0 ?_
  refine wk_istore C dD_strictOrder_15 (by decide) ?_
  exact wk_go (b_D_strictOrder_17 hI C fuel k_v0 k_v1 hf hq) (And.intro rfl (And.intro rfl (And.intro rfl (And.intro rfl (And.intro rfl trivial)))))
theorem m_D_strictOrder {l : Launch} {G : cGt} (hI : wd_inj (vC G)) {v0 : Nat} {v1 : Nat} {h h' : Hp} {r : Int32} (k_v0 : cLine v0) (k_v1 : cLine v1) (hf : f_D_strictOrder v0 v1 h = some (r, h')) : wk_M l (vC G) yD_strictOrder cD_strictOrder 5 (some .int) 1 21 [.ref (cad G v0), .ref (cad G v1)] h (some (.int r)) h' :=
  wk_met hI (by decide +kernel) rfl (Nat.le_of_ble_eq_true rfl) (wk_cat1 rfl) (fun X hX C hq => by subst hX; exact b_D_strictOrder hI C k_v0 k_v1 hf hq)
set_option maxHeartbeats 4000000 in
set_option maxRecDepth 100000 in
theorem b_D_looseOrder_33 {X : wk_X} {G : cGt} (hI : wd_inj (vC G)) (C : wk_C X (vC G) cD_looseOrder RD 7 2 43) : ∀ (n : Nat) {v0 : Nat} {v1 : Nat} {v2 : Int32} {v3 : Int32} {v4 : Int32} {v5 : Int32} {v6 : Int32} {h : Hp} {q : Int32 × Hp} (k_v0 : cLine v0) (k_v1 : cLine v1) (hf : f_D_looseOrder_33 n v0 v1 v2 v3 v4 v5 v6 h = some q) (hq : wk_Q X (vC G) (some (.int q.1)) q.2 (some .int)), WW X (vC G) h 33 [(0, .ref (cad G v0)), (1, .ref (cad G v1)), (2, .int v2), (3, .int v3), (4, .int v4), (5, .int v5), (6, .int v6)] [] := by
  intro n
  induction n with
  | zero =>
    intros
    rename_i hf _
    cases hf
  | succ n ih =>
    intro v0 v1 v2 v3 v4 v5 v6 h q k_v0 k_v1 hf hq
    rw [f_D_looseOrder_33] at hf
    refine wk_iload C dD_looseOrder_33 rfl ?_
    refine wk_iload C dD_looseOrder_35 rfl ?_
    refine wk_icmp_ge (tgt := 70) C dD_looseOrder_37 rfl hf (fun c_37 hf => ?_) (fun c_37 hf => ?_)
    · refine wk_iload C dD_looseOrder_70 rfl ?_
      cases hf
      exact wk_ireturn C hq dD_looseOrder_72
    · refine wk_iload C dD_looseOrder_40 rfl ?_
      refine wk_if_ne (tgt := 70) C dD_looseOrder_42 rfl hf (fun c_42 hf => ?_) (fun c_42 hf => ?_)
      · refine wk_iload C dD_looseOrder_70 rfl ?_
        cases hf
        exact wk_ireturn C hq dD_looseOrder_72
      · refine wk_aload_n C 0 dD_looseOrder_45 rfl rfl ?_
        refine wk_iload_n C 2 dD_looseOrder_46 rfl rfl ?_
        refine wk_iload C dD_looseOrder_47 rfl ?_
        refine wk_iadd C dD_looseOrder_49 ?_
        obtain ⟨r50, h50, e_50, hf⟩ := bd_some hf
        refine wk_callV (As := [.int (v2 + v6)]) (rest := []) C lw_good cw_D_189 wi_L_byteOrBlank (m_L_byteOrBlank hI k_v0 e_50) (lz_cLine k_v0) (he_cLine k_v0) rfl rfl rfl (Nat.le_of_ble_eq_true rfl) (by decide) dD_looseOrder_50 ?_
        refine wk_aload_n C 1 dD_looseOrder_53 rfl rfl ?_
        refine wk_iload_n C 3 dD_looseOrder_54 rfl rfl ?_
        refine wk_iload C dD_looseOrder_55 rfl ?_
        refine wk_iadd C dD_looseOrder_57 ?_
        obtain ⟨r58, h58, e_58, hf⟩ := bd_some hf
        refine wk_callV (As := [.int (v3 + v6)]) (rest := [.int r50]) C lw_good cw_D_189 wi_L_byteOrBlank (m_L_byteOrBlank hI k_v1 e_58) (lz_cLine k_v1) (he_cLine k_v1) rfl rfl rfl (Nat.le_of_ble_eq_true rfl) (by decide) dD_looseOrder_58 ?_
        refine wk_isub C dD_looseOrder_61 ?_
        refine wk_istore C dD_looseOrder_62 (by decide) ?_
        refine wk_iinc C dD_looseOrder_64 rfl kiconst_1 (by decide) ?_
        refine wk_goto (tgt := 33) C dD_looseOrder_67 rfl ?_
        exact wk_go (ih k_v0 k_v1 hf hq) (And.intro rfl (And.intro rfl (And.intro rfl (And.intro rfl (And.intro rfl (And.intro rfl (And.intro rfl trivial)))))))
set_option maxHeartbeats 4000000 in
set_option maxRecDepth 100000 in
theorem b_D_looseOrder {X : wk_X} {G : cGt} (hI : wd_inj (vC G)) (C : wk_C X (vC G) cD_looseOrder RD 7 2 43) {v0 : Nat} {v1 : Nat} {h : Hp} {q : Int32 × Hp} (k_v0 : cLine v0) (k_v1 : cLine v1) (hf : f_D_looseOrder v0 v1 h = some q) (hq : wk_Q X (vC G) (some (.int q.1)) q.2 (some .int)) : WW X (vC G) h 0 [(0, .ref (cad G v0)), (1, .ref (cad G v1))] [] := by
  unfold f_D_looseOrder at hf
  refine wk_aload_n C 0 dD_looseOrder_0 rfl rfl ?_
  obtain ⟨r1, h1, e_1, hf⟩ := bd_some hf
  refine wk_callV (As := []) (rest := []) C lw_good cw_D_186 wi_L_firstInk (m_L_firstInk hI k_v0 e_1) (lz_cLine k_v0) (he_cLine k_v0) rfl rfl rfl (Nat.le_of_ble_eq_true rfl) (by decide) dD_looseOrder_1 ?_
  refine wk_istore_n C 2 dD_looseOrder_4 rfl (by decide) ?_
  refine wk_aload_n C 1 dD_looseOrder_5 rfl rfl ?_
  obtain ⟨r6, h6, e_6, hf⟩ := bd_some hf
  refine wk_callV (As := []) (rest := []) C lw_good cw_D_186 wi_L_firstInk (m_L_firstInk hI k_v1 e_6) (lz_cLine k_v1) (he_cLine k_v1) rfl rfl rfl (Nat.le_of_ble_eq_true rfl) (by decide) dD_looseOrder_6 ?_
  refine wk_istore_n C 3 dD_looseOrder_9 rfl (by decide) ?_
  refine wk_aload_n C 0 dD_looseOrder_10 rfl rfl ?_
  refine gf_D_69 C k_v0 dD_looseOrder_11 ?_
  refine wk_iload_n C 2 dD_looseOrder_14 rfl rfl ?_
  refine wk_isub C dD_looseOrder_15 ?_
  refine wk_aload_n C 1 dD_looseOrder_16 rfl rfl ?_
  refine gf_D_69 C k_v1 dD_looseOrder_17 ?_
  refine wk_iload_n C 3 dD_looseOrder_20 rfl rfl ?_
  refine wk_isub C dD_looseOrder_21 ?_
  refine wk_mmax C mw_D_182 ⟨Nat.le_of_ble_eq_true rfl, Nat.le_of_ble_eq_true rfl⟩ dD_looseOrder_22 ?_
  refine wk_istore C dD_looseOrder_25 (by decide) ?_
  refine wk_iconst C dD_looseOrder_27 kiconst_0 ?_
  refine wk_istore C dD_looseOrder_28 (by decide) ?_
  refine wk_iconst C dD_looseOrder_30 kiconst_0 ?_
  refine wk_istore C dD_looseOrder_31 (by decide) ?_
  exact wk_go (b_D_looseOrder_33 hI C fuel k_v0 k_v1 hf hq) (And.intro rfl (And.intro rfl (And.intro rfl (And.intro rfl (And.intro rfl (And.intro rfl (And.intro rfl trivial)))))))
theorem m_D_looseOrder {l : Launch} {G : cGt} (hI : wd_inj (vC G)) {v0 : Nat} {v1 : Nat} {h h' : Hp} {r : Int32} (k_v0 : cLine v0) (k_v1 : cLine v1) (hf : f_D_looseOrder v0 v1 h = some (r, h')) : wk_M l (vC G) yD_looseOrder cD_looseOrder 7 (some .int) 2 43 [.ref (cad G v0), .ref (cad G v1)] h (some (.int r)) h' :=
  wk_met hI (by decide +kernel) rfl (Nat.le_of_ble_eq_true rfl) (wk_cat1 rfl) (fun X hX C hq => by subst hX; exact b_D_looseOrder hI C k_v0 k_v1 hf hq)
set_option maxHeartbeats 4000000 in
set_option maxRecDepth 100000 in
theorem b_D_load {X : wk_X} {G : cGt} (hI : wd_inj (vC G)) (C : wk_C X (vC G) cD_load RD 4 4 92) {v1 : Nat} {v2 : Nat} {v3 : Int32} {h : Hp} {q : Int32 × Hp} (k_v1 : cLine v1) (k_v2 : cNum v2) (hf : f_D_load v1 v2 v3 h = some q) (hq : wk_Q X (vC G) (some (.int q.1)) q.2 (some .boolean)) : WW X (vC G) h 0 [(0, .ref (cad G 0)), (1, .ref (cad G v1)), (2, .ref (cad G v2)), (3, .int v3)] [] := by
  unfold f_D_load at hf
  refine wk_aload_n C 0 dD_load_0 rfl rfl ?_
  refine gf_D_28 C dD_load_1 ?_
  refine wk_aload_n C 1 dD_load_4 rfl rfl ?_
  refine wk_aload_n C 2 dD_load_5 rfl rfl ?_
  obtain ⟨r6, h6, e_6, hf⟩ := bd_some hf
  refine wk_callV (As := [.ref (cad G v1), .ref (cad G v2)]) (rest := []) C lw_good cw_D_154 wi_R_read (m_R_read hI k_v1 k_v2 e_6) lz_26 (he_26 G (h 26)) rfl rfl rfl (Nat.le_of_ble_eq_true rfl) (by decide) dD_load_6 ?_
  refine wk_if_ne (tgt := 14) C dD_load_9 rfl hf (fun c_9 hf => ?_) (fun c_9 hf => ?_)
  · refine wk_aload_n C 2 dD_load_14 rfl rfl ?_
    refine wk_iload_n C 3 dD_load_15 rfl rfl ?_
    obtain ⟨r16, h16, e_16, hf⟩ := bd_some hf
    refine wk_callV (As := [.int v3]) (rest := []) C lw_good cw_D_164 wi_N_roundTo (m_N_roundTo hI k_v2 e_16) (lz_cNum k_v2) (he_cNum k_v2) rfl rfl rfl (Nat.le_of_ble_eq_true rfl) (by decide) dD_load_16 ?_
    refine wk_iconst C dD_load_19 kiconst_1 ?_
    cases hf
    exact wk_zreturn C hq rfl dD_load_20
  · refine wk_iconst C dD_load_12 kiconst_0 ?_
    cases hf
    exact wk_zreturn C hq rfl dD_load_13
theorem m_D_load {l : Launch} {G : cGt} (hI : wd_inj (vC G)) {v1 : Nat} {v2 : Nat} {v3 : Int32} {h h' : Hp} {r : Int32} (k_v1 : cLine v1) (k_v2 : cNum v2) (hf : f_D_load v1 v2 v3 h = some (r, h')) : wk_M l (vC G) yD_load cD_load 4 (some .boolean) 4 92 [.ref (cad G 0), .ref (cad G v1), .ref (cad G v2), .int v3] h (some (.int r)) h' :=
  wk_met hI (by decide +kernel) rfl (Nat.le_of_ble_eq_true rfl) (wk_cat1 rfl) (fun X hX C hq => by subst hX; exact b_D_load hI C k_v1 k_v2 hf hq)
set_option maxHeartbeats 4000000 in
set_option maxRecDepth 100000 in
theorem b_D_loadBoth {X : wk_X} {G : cGt} (hI : wd_inj (vC G)) (C : wk_C X (vC G) cD_loadBoth RD 4 5 115) {v1 : Nat} {v2 : Nat} {v3 : Int32} {h : Hp} {q : Int32 × Hp} (k_v1 : cLine v1) (k_v2 : cLine v2) (hf : f_D_loadBoth v1 v2 v3 h = some q) (hq : wk_Q X (vC G) (some (.int q.1)) q.2 (some .boolean)) : WW X (vC G) h 0 [(0, .ref (cad G 0)), (1, .ref (cad G v1)), (2, .ref (cad G v2)), (3, .int v3)] [] := by
  unfold f_D_loadBoth at hf
  refine wk_aload_n C 0 dD_loadBoth_0 rfl rfl ?_
  refine wk_aload_n C 1 dD_loadBoth_1 rfl rfl ?_
  refine wk_aload_n C 0 dD_loadBoth_2 rfl rfl ?_
  refine gf_D_49 C dD_loadBoth_3 ?_
  refine wk_iload_n C 3 dD_loadBoth_6 rfl rfl ?_
  obtain ⟨r7, h7, e_7, hf⟩ := bd_some hf
  refine wk_callV (As := [.ref (cad G v1), .ref (cad G 29), .int v3]) (rest := []) C lw_good cw_D_99 wi_D_load (m_D_load hI k_v1 kd_29 e_7) lz_0 (he_0 G (h 0)) rfl rfl rfl (Nat.le_of_ble_eq_true rfl) (by decide) dD_loadBoth_7 ?_
  refine wk_if_eq (tgt := 30) C dD_loadBoth_10 rfl hf (fun c_10 hf => ?_) (fun c_10 hf => ?_)
  · refine wk_iconst C dD_loadBoth_30 kiconst_0 ?_
    cases hf
    exact wk_zreturn C hq rfl dD_loadBoth_31
  · refine wk_aload_n C 0 dD_loadBoth_13 rfl rfl ?_
    refine wk_aload_n C 2 dD_loadBoth_14 rfl rfl ?_
    refine wk_aload_n C 0 dD_loadBoth_15 rfl rfl ?_
    refine gf_D_53 C dD_loadBoth_16 ?_
    refine wk_iload_n C 3 dD_loadBoth_19 rfl rfl ?_
    obtain ⟨r20, h20, e_20, hf⟩ := bd_some hf
    refine wk_callV (As := [.ref (cad G v2), .ref (cad G 31), .int v3]) (rest := []) C lw_good cw_D_99 wi_D_load (m_D_load hI k_v2 kd_31 e_20) lz_0 (he_0 G (h7 0)) rfl rfl rfl (Nat.le_of_ble_eq_true rfl) (by decide) dD_loadBoth_20 ?_
    refine wk_if_eq (tgt := 30) C dD_loadBoth_23 rfl hf (fun c_23 hf => ?_) (fun c_23 hf => ?_)
    · refine wk_iconst C dD_loadBoth_30 kiconst_0 ?_
      cases hf
      exact wk_zreturn C hq rfl dD_loadBoth_31
    · refine wk_iconst C dD_loadBoth_26 kiconst_1 ?_
      refine wk_goto (tgt := 31) C dD_loadBoth_27 rfl ?_
      cases hf
      exact wk_zreturn C hq rfl dD_loadBoth_31
theorem m_D_loadBoth {l : Launch} {G : cGt} (hI : wd_inj (vC G)) {v1 : Nat} {v2 : Nat} {v3 : Int32} {h h' : Hp} {r : Int32} (k_v1 : cLine v1) (k_v2 : cLine v2) (hf : f_D_loadBoth v1 v2 v3 h = some (r, h')) : wk_M l (vC G) yD_loadBoth cD_loadBoth 4 (some .boolean) 5 115 [.ref (cad G 0), .ref (cad G v1), .ref (cad G v2), .int v3] h (some (.int r)) h' :=
  wk_met hI (by decide +kernel) rfl (Nat.le_of_ble_eq_true rfl) (wk_cat1 rfl) (fun X hX C hq => by subst hX; exact b_D_loadBoth hI C k_v1 k_v2 hf hq)
set_option maxHeartbeats 4000000 in
set_option maxRecDepth 100000 in
theorem b_D_keepPage {X : wk_X} {G : cGt} (hI : wd_inj (vC G)) (C : wk_C X (vC G) cD_keepPage RD 2 2 43) {v1 : Nat} {h : Hp} {q : Int32 × Hp} (k_v1 : cLine v1) (hf : f_D_keepPage v1 h = some q) (hq : wk_Q X (vC G) (some (.int q.1)) q.2 (some .int)) : WW X (vC G) h 0 [(0, .ref (cad G 0)), (1, .ref (cad G v1))] [] := by
  unfold f_D_keepPage at hf
  refine wk_aload_n C 1 dD_keepPage_0 rfl rfl ?_
  refine wk_aload_n C 0 dD_keepPage_1 rfl rfl ?_
  refine gf_D_22 C dD_keepPage_2 ?_
  obtain ⟨r5, h5, e_5, hf⟩ := bd_some hf
  refine wk_callV (As := [.ref (cad G 24)]) (rest := []) C lw_good cw_D_79 wi_L_copy (m_L_copy hI k_v1 kd_24 e_5) (lz_cLine k_v1) (he_cLine k_v1) rfl rfl rfl (Nat.le_of_ble_eq_true rfl) (by decide) dD_keepPage_5 ?_
  refine wk_aload_n C 1 dD_keepPage_8 rfl rfl ?_
  refine gf_D_69 C k_v1 dD_keepPage_9 ?_
  cases hf
  exact wk_ireturn C hq dD_keepPage_12
theorem m_D_keepPage {l : Launch} {G : cGt} (hI : wd_inj (vC G)) {v1 : Nat} {h h' : Hp} {r : Int32} (k_v1 : cLine v1) (hf : f_D_keepPage v1 h = some (r, h')) : wk_M l (vC G) yD_keepPage cD_keepPage 2 (some .int) 2 43 [.ref (cad G 0), .ref (cad G v1)] h (some (.int r)) h' :=
  wk_met hI (by decide +kernel) rfl (Nat.le_of_ble_eq_true rfl) (wk_cat1 rfl) (fun X hX C hq => by subst hX; exact b_D_keepPage hI C k_v1 hf hq)
set_option maxHeartbeats 4000000 in
set_option maxRecDepth 100000 in
theorem b_D_write {X : wk_X} {G : cGt} (hI : wd_inj (vC G)) (C : wk_C X (vC G) cD_write RD 4 4 95) {v1 : Nat} {v2 : Nat} {h : Hp} {q : Int32 × Hp} (k_v1 : cNum v1) (k_v2 : cLine v2) (hf : f_D_write v1 v2 h = some q) (hq : wk_Q X (vC G) (some (.int q.1)) q.2 (some .int)) : WW X (vC G) h 0 [(0, .ref (cad G 0)), (1, .ref (cad G v1)), (2, .ref (cad G v2))] [] := by
  unfold f_D_write at hf
  refine wk_aload_n C 0 dD_write_0 rfl rfl ?_
  refine gf_D_35 C dD_write_1 ?_
  refine wk_aload_n C 1 dD_write_4 rfl rfl ?_
  refine wk_aload_n C 0 dD_write_5 rfl rfl ?_
  refine gf_D_59 C dD_write_6 ?_
  refine wk_aload_n C 0 dD_write_9 rfl rfl ?_
  refine gf_D_66 C dD_write_10 ?_
  refine wk_aload_n C 0 dD_write_13 rfl rfl ?_
  refine gf_D_22 C dD_write_14 ?_
  obtain ⟨r17, h17, e_17, hf⟩ := bd_some hf
  refine wk_callV (As := [.ref (cad G v1), .int (h 0 9), .int (h 0 11), .ref (cad G 24)]) (rest := []) C lw_good cw_D_167 wi_T_write (m_T_write hI k_v1 kd_24 e_17) lz_27 (he_27 G (h 27)) rfl rfl rfl (Nat.le_of_ble_eq_true rfl) (by decide) dD_write_17 ?_
  refine wk_istore_n C 3 dD_write_20 rfl (by decide) ?_
  refine wk_iload_n C 3 dD_write_21 rfl rfl ?_
  refine wk_if_ne (tgt := 33) C dD_write_22 rfl hf (fun c_22 hf => ?_) (fun c_22 hf => ?_)
  · refine wk_iload_n C 3 dD_write_33 rfl rfl ?_
    refine wk_ineg C dD_write_34 ?_
    cases hf
    exact wk_ireturn C hq dD_write_35
  · refine wk_aload_n C 0 dD_write_25 rfl rfl ?_
    refine wk_aload_n C 2 dD_write_26 rfl rfl ?_
    obtain ⟨r27, h27, e_27, hf⟩ := bd_some hf
    refine wk_callV (As := [.ref (cad G v2)]) (rest := []) C lw_good cw_D_169 wi_D_keepPage (m_D_keepPage hI k_v2 e_27) lz_0 (he_0 G (h17 0)) rfl rfl rfl (Nat.le_of_ble_eq_true rfl) (by decide) dD_write_27 ?_
    refine wk_goto (tgt := 35) C dD_write_30 rfl ?_
    cases hf
    exact wk_ireturn C hq dD_write_35
theorem m_D_write {l : Launch} {G : cGt} (hI : wd_inj (vC G)) {v1 : Nat} {v2 : Nat} {h h' : Hp} {r : Int32} (k_v1 : cNum v1) (k_v2 : cLine v2) (hf : f_D_write v1 v2 h = some (r, h')) : wk_M l (vC G) yD_write cD_write 4 (some .int) 4 95 [.ref (cad G 0), .ref (cad G v1), .ref (cad G v2)] h (some (.int r)) h' :=
  wk_met hI (by decide +kernel) rfl (Nat.le_of_ble_eq_true rfl) (wk_cat1 rfl) (fun X hX C hq => by subst hX; exact b_D_write hI C k_v1 k_v2 hf hq)
set_option maxHeartbeats 4000000 in
set_option maxRecDepth 100000 in
theorem b_D_layOut_45 {X : wk_X} {G : cGt} (hI : wd_inj (vC G)) (C : wk_C X (vC G) cD_layOut RD 8 3 67) : ∀ (n : Nat) {v1 : Nat} {v3 : Int32} {v4 : Nat} {v7 : Int32} {h : Hp} {q : Int32 × Hp} (k_v1 : cNum v1) (k_v4 : cLine v4) (hf : f_D_layOut_45 n v1 v3 v4 v7 h = some q) (hq : wk_Q X (vC G) (some (.int q.1)) q.2 (some .int)), WW X (vC G) h 45 [(0, .ref (cad G 0)), (1, .ref (cad G v1)), (3, .int v3), (4, .ref (cad G v4)), (7, .int v7)] [] := by
  intro n
  induction n with
  | zero =>
    intros
    rename_i hf _
    cases hf
  | succ n ih =>
    intro v1 v3 v4 v7 h q k_v1 k_v4 hf hq
    rw [f_D_layOut_45] at hf
    refine wk_iload C dD_layOut_45 rfl ?_
    refine wk_if_le (tgt := 65) C dD_layOut_47 rfl hf (fun c_47 hf => ?_) (fun c_47 hf => ?_)
    · refine wk_aload_n C 0 dD_layOut_65 rfl rfl ?_
      refine gf_D_35 C dD_layOut_66 ?_
      refine wk_aload_n C 1 dD_layOut_69 rfl rfl ?_
      refine wk_iload_n C 3 dD_layOut_70 rfl rfl ?_
      refine wk_aload_n C 0 dD_layOut_71 rfl rfl ?_
      refine gf_D_22 C dD_layOut_72 ?_
      obtain ⟨r75, h75, e_75, hf⟩ := bd_some hf
      refine wk_callV (As := [.ref (cad G v1), .int v3, .ref (cad G 24)]) (rest := []) C lw_good cw_D_178 wi_T_addPlain (m_T_addPlain hI k_v1 kd_24 e_75) lz_27 (he_27 G (h 27)) rfl rfl rfl (Nat.le_of_ble_eq_true rfl) (by decide) dD_layOut_75 ?_
      refine wk_aload_n C 0 dD_layOut_78 rfl rfl ?_
      refine wk_aload C dD_layOut_79 rfl ?_
      obtain ⟨r81, h81, e_81, hf⟩ := bd_some hf
      refine wk_callV (As := [.ref (cad G v4)]) (rest := []) C lw_good cw_D_169 wi_D_keepPage (m_D_keepPage hI k_v4 e_81) lz_0 (he_0 G (h75 0)) rfl rfl rfl (Nat.le_of_ble_eq_true rfl) (by decide) dD_layOut_81 ?_
      cases hf
      exact wk_ireturn C hq dD_layOut_84
    · refine wk_aload_n C 0 dD_layOut_50 rfl rfl ?_
      refine gf_D_22 C dD_layOut_51 ?_
      refine wk_bipush C dD_layOut_54 kbipush_32 ?_
      obtain ⟨r56, h56, e_56, hf⟩ := bd_some hf
      refine wk_callV (As := [.int 32]) (rest := []) C lw_good cw_D_175 wi_L_add (m_L_add hI kd_24 e_56) (lz_cLine kd_24) (he_cLine kd_24) rfl rfl rfl (Nat.le_of_ble_eq_true rfl) (by decide) dD_layOut_56 ?_
      refine wk_iinc C dD_layOut_59 rfl kiconst_m1 (by decide) ?_
      refine wk_goto (tgt := 45) C dD_layOut_62 rfl ?_
      exact wk_go (ih k_v1 k_v4 hf hq) (And.intro rfl (And.intro rfl (And.intro rfl (And.intro rfl (And.intro rfl trivial)))))
set_option maxHeartbeats 4000000 in
set_option maxRecDepth 100000 in
theorem b_D_layOut_14 {X : wk_X} {G : cGt} (hI : wd_inj (vC G)) (C : wk_C X (vC G) cD_layOut RD 8 3 67) {v1 : Nat} {v2 : Int32} {v3 : Int32} {v4 : Nat} {s0 : Int64} {s1 : Int64} {h : Hp} {q : Int32 × Hp} (k_v1 : cNum v1) (k_v4 : cLine v4) (hf : f_D_layOut_14 v1 v2 v3 v4 s0 s1 h = some q) (hq : wk_Q X (vC G) (some (.int q.1)) q.2 (some .int)) : WW X (vC G) h 14 [(0, .ref (cad G 0)), (1, .ref (cad G v1)), (2, .int v2), (3, .int v3), (4, .ref (cad G v4))] [.long s1, .long s0] := by
  unfold f_D_layOut_14 at hf
  refine wk_ladd C dD_layOut_14 ?_
  refine wk_lstload C dD_layOut_15 dD_layOut_17 (by decide) rfl rfl ?_
  refine wk_ldc2 C dD_layOut_19 wc_D_173 ?_
  refine wk_lcmp C dD_layOut_22 ?_
  refine wk_if_le (tgt := 29) C dD_layOut_23 rfl hf (fun c_23 hf => ?_) (fun c_23 hf => ?_)
  · refine wk_aload_n C 0 dD_layOut_29 rfl rfl ?_
    refine gf_D_22 C dD_layOut_30 ?_
    refine wk_iconst C dD_layOut_33 kiconst_0 ?_
    refine pf_D_69 C kd_24 dD_layOut_34 ?_
    refine wk_iload_n C 2 dD_layOut_37 rfl rfl ?_
    refine wk_aload_n C 1 dD_layOut_38 rfl rfl ?_
    obtain ⟨r39, h39, e_39, hf⟩ := bd_some hf
    refine wk_callS (As := [.ref (cad G v1)]) (rest := [.int v2]) C lw_good cw_D_125 ws_D_placesAhead (m_D_placesAhead hI k_v1 e_39) rfl rfl (Nat.le_of_ble_eq_true rfl) (by decide) dD_layOut_39 ?_
    refine wk_isub C dD_layOut_42 ?_
    refine wk_istore C dD_layOut_43 (by decide) ?_
    exact wk_go (b_D_layOut_45 hI C fuel k_v1 k_v4 hf hq) (And.intro rfl (And.intro rfl (And.intro rfl (And.intro rfl (And.intro rfl trivial)))))
  · refine wk_bipush C dD_layOut_26 kbipush_m5 ?_
    cases hf
    exact wk_ireturn C hq dD_layOut_28
set_option maxHeartbeats 4000000 in
set_option maxRecDepth 100000 in
theorem b_D_layOut {X : wk_X} {G : cGt} (hI : wd_inj (vC G)) (C : wk_C X (vC G) cD_layOut RD 8 3 67) {v1 : Nat} {v2 : Int32} {v3 : Int32} {v4 : Nat} {h : Hp} {q : Int32 × Hp} (k_v1 : cNum v1) (k_v4 : cLine v4) (hf : f_D_layOut v1 v2 v3 v4 h = some q) (hq : wk_Q X (vC G) (some (.int q.1)) q.2 (some .int)) : WW X (vC G) h 0 [(0, .ref (cad G 0)), (1, .ref (cad G v1)), (2, .int v2), (3, .int v3), (4, .ref (cad G v4))] [] := by
  unfold f_D_layOut at hf
  refine wk_iload_n C 2 dD_layOut_0 rfl rfl ?_
  refine wk_i2l C dD_layOut_1 ?_
  refine wk_iload_n C 3 dD_layOut_2 rfl rfl ?_
  refine wk_if_le (tgt := 13) C dD_layOut_3 rfl hf (fun c_3 hf => ?_) (fun c_3 hf => ?_)
  · refine wk_lconst C dD_layOut_13 (v := 0) rfl ?_
    exact wk_go (b_D_layOut_14 hI C k_v1 k_v4 hf hq) (And.intro rfl (And.intro rfl (And.intro rfl (And.intro rfl (And.intro rfl trivial)))))
  · refine wk_lconst C dD_layOut_6 (v := 1) rfl ?_
    refine wk_iload_n C 3 dD_layOut_7 rfl rfl ?_
    refine wk_i2l C dD_layOut_8 ?_
    refine wk_ladd C dD_layOut_9 ?_
    refine wk_goto (tgt := 14) C dD_layOut_10 rfl ?_
    exact wk_go (b_D_layOut_14 hI C k_v1 k_v4 hf hq) (And.intro rfl (And.intro rfl (And.intro rfl (And.intro rfl (And.intro rfl trivial)))))
theorem m_D_layOut {l : Launch} {G : cGt} (hI : wd_inj (vC G)) {v1 : Nat} {v2 : Int32} {v3 : Int32} {v4 : Nat} {h h' : Hp} {r : Int32} (k_v1 : cNum v1) (k_v4 : cLine v4) (hf : f_D_layOut v1 v2 v3 v4 h = some (r, h')) : wk_M l (vC G) yD_layOut cD_layOut 8 (some .int) 3 67 [.ref (cad G 0), .ref (cad G v1), .int v2, .int v3, .ref (cad G v4)] h (some (.int r)) h' :=
  wk_met hI (by decide +kernel) rfl (Nat.le_of_ble_eq_true rfl) (wk_cat1 rfl) (fun X hX C hq => by subst hX; exact b_D_layOut hI C k_v1 k_v4 hf hq)
set_option maxHeartbeats 4000000 in
set_option maxRecDepth 100000 in
theorem b_D_feed {X : wk_X} {G : cGt} (hI : wd_inj (vC G)) (C : wk_C X (vC G) cD_feed RD 6 2 43) {v1 : Int32} {v2 : Int32} {v3 : Int32} {v4 : Int32} {v5 : Int32} {h : Hp} {q : Int32 × Hp}  (hf : f_D_feed v1 v2 v3 v4 v5 h = some q) (hq : wk_Q X (vC G) (some (.int q.1)) q.2 (some .int)) : WW X (vC G) h 0 [(0, .ref (cad G 0)), (1, .int v1), (2, .int v2), (3, .int v3), (4, .int v4), (5, .int v5)] [] := by
  unfold f_D_feed at hf
  refine wk_aload_n C 0 dD_feed_0 rfl rfl ?_
  refine gf_D_14 C dD_feed_1 ?_
  refine gf_D_69 C kd_1 dD_feed_4 ?_
  refine wk_bipush C dD_feed_7 kbipush_20 ?_
  refine wk_iadd C dD_feed_9 ?_
  refine wk_sipush C dD_feed_10 ksipush_240 ?_
  refine wk_icmp_le (tgt := 18) C dD_feed_13 rfl hf (fun c_13 hf => ?_) (fun c_13 hf => ?_)
  · refine wk_aload_n C 0 dD_feed_18 rfl rfl ?_
    refine gf_D_14 C dD_feed_19 ?_
    refine wk_iload_n C 1 dD_feed_22 rfl rfl ?_
    obtain ⟨r23, h23, e_23, hf⟩ := bd_some hf
    refine wk_callV (As := [.int v1]) (rest := []) C lw_good cw_D_72 wi_L_addInt (m_L_addInt hI kd_1 e_23) (lz_cLine kd_1) (he_cLine kd_1) rfl rfl rfl (Nat.le_of_ble_eq_true rfl) (by decide) dD_feed_23 ?_
    refine wk_aload_n C 0 dD_feed_26 rfl rfl ?_
    refine gf_D_14 C dD_feed_27 ?_
    refine wk_iload_n C 2 dD_feed_30 rfl rfl ?_
    obtain ⟨r31, h31, e_31, hf⟩ := bd_some hf
    refine wk_callV (As := [.int v2]) (rest := []) C lw_good cw_D_72 wi_L_addInt (m_L_addInt hI kd_1 e_31) (lz_cLine kd_1) (he_cLine kd_1) rfl rfl rfl (Nat.le_of_ble_eq_true rfl) (by decide) dD_feed_31 ?_
    refine wk_aload_n C 0 dD_feed_34 rfl rfl ?_
    refine gf_D_14 C dD_feed_35 ?_
    refine wk_iload_n C 3 dD_feed_38 rfl rfl ?_
    obtain ⟨r39, h39, e_39, hf⟩ := bd_some hf
    refine wk_callV (As := [.int v3]) (rest := []) C lw_good cw_D_72 wi_L_addInt (m_L_addInt hI kd_1 e_39) (lz_cLine kd_1) (he_cLine kd_1) rfl rfl rfl (Nat.le_of_ble_eq_true rfl) (by decide) dD_feed_39 ?_
    refine wk_aload_n C 0 dD_feed_42 rfl rfl ?_
    refine gf_D_14 C dD_feed_43 ?_
    refine wk_iload C dD_feed_46 rfl ?_
    obtain ⟨r48, h48, e_48, hf⟩ := bd_some hf
    refine wk_callV (As := [.int v4]) (rest := []) C lw_good cw_D_72 wi_L_addInt (m_L_addInt hI kd_1 e_48) (lz_cLine kd_1) (he_cLine kd_1) rfl rfl rfl (Nat.le_of_ble_eq_true rfl) (by decide) dD_feed_48 ?_
    refine wk_aload_n C 0 dD_feed_51 rfl rfl ?_
    refine gf_D_14 C dD_feed_52 ?_
    refine wk_iload C dD_feed_55 rfl ?_
    obtain ⟨r57, h57, e_57, hf⟩ := bd_some hf
    refine wk_callV (As := [.int v5]) (rest := []) C lw_good cw_D_72 wi_L_addInt (m_L_addInt hI kd_1 e_57) (lz_cLine kd_1) (he_cLine kd_1) rfl rfl rfl (Nat.le_of_ble_eq_true rfl) (by decide) dD_feed_57 ?_
    refine wk_aload_n C 0 dD_feed_60 rfl rfl ?_
    refine gf_D_14 C dD_feed_61 ?_
    refine gf_D_69 C kd_1 dD_feed_64 ?_
    cases hf
    exact wk_ireturn C hq dD_feed_67
  · refine wk_iconst C dD_feed_16 kiconst_m1 ?_
    cases hf
    exact wk_ireturn C hq dD_feed_17
theorem m_D_feed {l : Launch} {G : cGt} (hI : wd_inj (vC G)) {v1 : Int32} {v2 : Int32} {v3 : Int32} {v4 : Int32} {v5 : Int32} {h h' : Hp} {r : Int32}  (hf : f_D_feed v1 v2 v3 v4 v5 h = some (r, h')) : wk_M l (vC G) yD_feed cD_feed 6 (some .int) 2 43 [.ref (cad G 0), .int v1, .int v2, .int v3, .int v4, .int v5] h (some (.int r)) h' :=
  wk_met hI (by decide +kernel) rfl (Nat.le_of_ble_eq_true rfl) (wk_cat1 rfl) (fun X hX C hq => by subst hX; exact b_D_feed hI C  hf hq)
set_option maxHeartbeats 4000000 in
set_option maxRecDepth 100000 in
theorem b_D_end {X : wk_X} {G : cGt} (hI : wd_inj (vC G)) (C : wk_C X (vC G) cD_end RD 2 0 0) {v1 : Int32} {h : Hp} {q : Int32 × Hp}  (hf : f_D_end v1 h = some q) (hq : wk_Q X (vC G) (some (.int q.1)) q.2 (some .int)) : WW X (vC G) h 0 [(0, .ref (cad G 0)), (1, .int v1)] [] := by
  unfold f_D_end at hf
  refine wk_iload_n C 1 dD_end_0 rfl rfl ?_
  refine wk_if_lt (tgt := 15) C dD_end_1 rfl hf (fun c_1 hf => ?_) (fun c_1 hf => ?_)
  · refine wk_iconst C dD_end_15 kiconst_m1 ?_
    cases hf
    exact wk_ireturn C hq dD_end_16
  · refine wk_iload_n C 1 dD_end_4 rfl rfl ?_
    refine wk_aload_n C 0 dD_end_5 rfl rfl ?_
    refine gf_D_14 C dD_end_6 ?_
    refine gf_D_69 C kd_1 dD_end_9 ?_
    refine wk_icmp_le (tgt := 17) C dD_end_12 rfl hf (fun c_12 hf => ?_) (fun c_12 hf => ?_)
    · refine wk_aload_n C 0 dD_end_17 rfl rfl ?_
      refine gf_D_14 C dD_end_18 ?_
      refine wk_iload_n C 1 dD_end_21 rfl rfl ?_
      refine pf_D_69 C kd_1 dD_end_22 ?_
      refine wk_iload_n C 1 dD_end_25 rfl rfl ?_
      cases hf
      exact wk_ireturn C hq dD_end_26
    · refine wk_iconst C dD_end_15 kiconst_m1 ?_
      cases hf
      exact wk_ireturn C hq dD_end_16
theorem m_D_end {l : Launch} {G : cGt} (hI : wd_inj (vC G)) {v1 : Int32} {h h' : Hp} {r : Int32}  (hf : f_D_end v1 h = some (r, h')) : wk_M l (vC G) yD_end cD_end 2 (some .int) 0 0 [.ref (cad G 0), .int v1] h (some (.int r)) h' :=
  wk_met hI (by decide +kernel) rfl (Nat.le_of_ble_eq_true rfl) (wk_cat1 rfl) (fun X hX C hq => by subst hX; exact b_D_end hI C  hf hq)
set_option maxHeartbeats 4000000 in
set_option maxRecDepth 100000 in
theorem b_D_put {X : wk_X} {G : cGt} (hI : wd_inj (vC G)) (C : wk_C X (vC G) cD_put RD 3 2 43) {v1 : Int32} {h : Hp} {q : Int32 × Hp}  (hf : f_D_put v1 h = some q) (hq : wk_Q X (vC G) (some (.int q.1)) q.2 (some .int)) : WW X (vC G) h 0 [(0, .ref (cad G 0)), (1, .int v1)] [] := by
  unfold f_D_put at hf
  refine wk_aload_n C 0 dD_put_0 rfl rfl ?_
  refine wk_iload_n C 1 dD_put_1 rfl rfl ?_
  obtain ⟨r2, h2, e_2, hf⟩ := bd_some hf
  refine wk_callV (As := [.int v1]) (rest := []) C lw_good cw_D_75 wi_D_find (m_D_find hI e_2) lz_0 (he_0 G (h 0)) rfl rfl rfl (Nat.le_of_ble_eq_true rfl) (by decide) dD_put_2 ?_
  refine wk_astore_nq C 2 dD_put_5 rfl (by decide) ?_
  refine wk_aload_nq C 2 dD_put_6 rfl rfl ?_
  refine wk_ifnullq (tgt := 23) C dD_put_7 rfl hf (fun e_7 hf => ?_) (fun j7 e_7 hf => ?_)
  · subst e_7
    refine wk_iconst C dD_put_23 kiconst_m1 ?_
    cases hf
    exact wk_ireturn C hq dD_put_24
  · subst e_7
    obtain ⟨k_j7, hf⟩ := chk_some hf
    refine wk_aload_n C 0 dD_put_10 rfl rfl ?_
    refine gf_D_14 C dD_put_11 ?_
    refine gf_D_69 C kd_1 dD_put_14 ?_
    refine wk_sipush C dD_put_17 ksipush_200 ?_
    refine wk_icmp_le (tgt := 25) C dD_put_20 rfl hf (fun c_20 hf => ?_) (fun c_20 hf => ?_)
    · refine wk_aload_n C 2 dD_put_25 rfl rfl ?_
      refine wk_aload_n C 0 dD_put_26 rfl rfl ?_
      refine gf_D_14 C dD_put_27 ?_
      obtain ⟨r30, h30, e_30, hf⟩ := bd_some hf
      refine wk_callV (As := [.ref (cad G 1)]) (rest := []) C lw_good cw_D_79 wi_L_copy (m_L_copy hI k_j7 kd_1 e_30) (lz_cLine k_j7) (he_cLine k_j7) rfl rfl rfl (Nat.le_of_ble_eq_true rfl) (by decide) dD_put_30 ?_
      refine wk_aload_n C 0 dD_put_33 rfl rfl ?_
      refine gf_D_14 C dD_put_34 ?_
      refine wk_iconst C dD_put_37 kiconst_0 ?_
      refine pf_D_69 C kd_1 dD_put_38 ?_
      refine wk_aload_n C 2 dD_put_41 rfl rfl ?_
      refine gf_D_69 C k_j7 dD_put_42 ?_
      cases hf
      exact wk_ireturn C hq dD_put_45
    · refine wk_iconst C dD_put_23 kiconst_m1 ?_
      cases hf
      exact wk_ireturn C hq dD_put_24
theorem m_D_put {l : Launch} {G : cGt} (hI : wd_inj (vC G)) {v1 : Int32} {h h' : Hp} {r : Int32}  (hf : f_D_put v1 h = some (r, h')) : wk_M l (vC G) yD_put cD_put 3 (some .int) 2 43 [.ref (cad G 0), .int v1] h (some (.int r)) h' :=
  wk_met hI (by decide +kernel) rfl (Nat.le_of_ble_eq_true rfl) (wk_cat1 rfl) (fun X hX C hq => by subst hX; exact b_D_put hI C  hf hq)
set_option maxHeartbeats 4000000 in
set_option maxRecDepth 100000 in
theorem b_D_size {X : wk_X} {G : cGt} (hI : wd_inj (vC G)) (C : wk_C X (vC G) cD_size RD 3 1 21) {v1 : Int32} {h : Hp} {q : Int32 × Hp}  (hf : f_D_size v1 h = some q) (hq : wk_Q X (vC G) (some (.int q.1)) q.2 (some .int)) : WW X (vC G) h 0 [(0, .ref (cad G 0)), (1, .int v1)] [] := by
  unfold f_D_size at hf
  refine wk_aload_n C 0 dD_size_0 rfl rfl ?_
  refine wk_iload_n C 1 dD_size_1 rfl rfl ?_
  obtain ⟨r2, h2, e_2, hf⟩ := bd_some hf
  refine wk_callV (As := [.int v1]) (rest := []) C lw_good cw_D_75 wi_D_find (m_D_find hI e_2) lz_0 (he_0 G (h 0)) rfl rfl rfl (Nat.le_of_ble_eq_true rfl) (by decide) dD_size_2 ?_
  refine wk_astore_nq C 2 dD_size_5 rfl (by decide) ?_
  refine wk_aload_nq C 2 dD_size_6 rfl rfl ?_
  refine wk_ifnonnullq (tgt := 14) C dD_size_7 rfl hf (fun j7 e_7 hf => ?_) (fun e_7 hf => ?_)
  · subst e_7
    obtain ⟨k_j7, hf⟩ := chk_some hf
    refine wk_aload_n C 2 dD_size_14 rfl rfl ?_
    refine gf_D_69 C k_j7 dD_size_15 ?_
    cases hf
    exact wk_ireturn C hq dD_size_18
  · subst e_7
    refine wk_iconst C dD_size_10 kiconst_m1 ?_
    refine wk_goto (tgt := 18) C dD_size_11 rfl ?_
    cases hf
    exact wk_ireturn C hq dD_size_18
theorem m_D_size {l : Launch} {G : cGt} (hI : wd_inj (vC G)) {v1 : Int32} {h h' : Hp} {r : Int32}  (hf : f_D_size v1 h = some (r, h')) : wk_M l (vC G) yD_size cD_size 3 (some .int) 1 21 [.ref (cad G 0), .int v1] h (some (.int r)) h' :=
  wk_met hI (by decide +kernel) rfl (Nat.le_of_ble_eq_true rfl) (wk_cat1 rfl) (fun X hX C hq => by subst hX; exact b_D_size hI C  hf hq)
set_option maxHeartbeats 4000000 in
set_option maxRecDepth 100000 in
theorem b_D_at {X : wk_X} {G : cGt} (hI : wd_inj (vC G)) (C : wk_C X (vC G) cD_at RD 4 1 21) {v1 : Int32} {v2 : Int32} {h : Hp} {q : Int32 × Hp}  (hf : f_D_at v1 v2 h = some q) (hq : wk_Q X (vC G) (some (.int q.1)) q.2 (some .int)) : WW X (vC G) h 0 [(0, .ref (cad G 0)), (1, .int v1), (2, .int v2)] [] := by
  unfold f_D_at at hf
  refine wk_aload_n C 0 dD_at_0 rfl rfl ?_
  refine wk_iload_n C 1 dD_at_1 rfl rfl ?_
  obtain ⟨r2, h2, e_2, hf⟩ := bd_some hf
  refine wk_callV (As := [.int v1]) (rest := []) C lw_good cw_D_75 wi_D_find (m_D_find hI e_2) lz_0 (he_0 G (h 0)) rfl rfl rfl (Nat.le_of_ble_eq_true rfl) (by decide) dD_at_2 ?_
  refine wk_astore_nq C 3 dD_at_5 rfl (by decide) ?_
  refine wk_aload_nq C 3 dD_at_6 rfl rfl ?_
  refine wk_ifnonnullq (tgt := 14) C dD_at_7 rfl hf (fun j7 e_7 hf => ?_) (fun e_7 hf => ?_)
  · subst e_7
    obtain ⟨k_j7, hf⟩ := chk_some hf
    refine wk_aload_n C 3 dD_at_14 rfl rfl ?_
    refine wk_iload_n C 2 dD_at_15 rfl rfl ?_
    obtain ⟨r16, h16, e_16, hf⟩ := bd_some hf
    refine wk_callV (As := [.int v2]) (rest := []) C lw_good cw_D_83 wi_L_byteAt (m_L_byteAt hI k_j7 e_16) (lz_cLine k_j7) (he_cLine k_j7) rfl rfl rfl (Nat.le_of_ble_eq_true rfl) (by decide) dD_at_16 ?_
    cases hf
    exact wk_ireturn C hq dD_at_19
  · subst e_7
    refine wk_iconst C dD_at_10 kiconst_m1 ?_
    refine wk_goto (tgt := 19) C dD_at_11 rfl ?_
    cases hf
    exact wk_ireturn C hq dD_at_19
theorem m_D_at {l : Launch} {G : cGt} (hI : wd_inj (vC G)) {v1 : Int32} {v2 : Int32} {h h' : Hp} {r : Int32}  (hf : f_D_at v1 v2 h = some (r, h')) : wk_M l (vC G) yD_at cD_at 4 (some .int) 1 21 [.ref (cad G 0), .int v1, .int v2] h (some (.int r)) h' :=
  wk_met hI (by decide +kernel) rfl (Nat.le_of_ble_eq_true rfl) (wk_cat1 rfl) (fun X hX C hq => by subst hX; exact b_D_at hI C  hf hq)
set_option maxHeartbeats 4000000 in
set_option maxRecDepth 100000 in
theorem b_D_digits {X : wk_X} {G : cGt} (hI : wd_inj (vC G)) (C : wk_C X (vC G) cD_digits RD 2 0 0) {v1 : Int32} {h : Hp} {q : Int32 × Hp}  (hf : f_D_digits v1 h = some q) (hq : wk_Q X (vC G) (some (.int q.1)) q.2 (some .int)) : WW X (vC G) h 0 [(0, .ref (cad G 0)), (1, .int v1)] [] := by
  unfold f_D_digits at hf
  refine wk_iload_n C 1 dD_digits_0 rfl rfl ?_
  refine wk_iconst C dD_digits_1 kiconst_1 ?_
  refine wk_icmp_lt (tgt := 19) C dD_digits_2 rfl hf (fun c_2 hf => ?_) (fun c_2 hf => ?_)
  · refine wk_iconst C dD_digits_19 kiconst_m1 ?_
    cases hf
    exact wk_ireturn C hq dD_digits_20
  · refine wk_iload_n C 1 dD_digits_5 rfl rfl ?_
    refine wk_bipush C dD_digits_6 kbipush_20 ?_
    refine wk_icmp_gt (tgt := 19) C dD_digits_8 rfl hf (fun c_8 hf => ?_) (fun c_8 hf => ?_)
    · refine wk_iconst C dD_digits_19 kiconst_m1 ?_
      cases hf
      exact wk_ireturn C hq dD_digits_20
    · refine wk_iload_n C 1 dD_digits_11 rfl rfl ?_
      refine wk_aload_n C 0 dD_digits_12 rfl rfl ?_
      refine gf_D_63 C dD_digits_13 ?_
      refine wk_icmp_gt (tgt := 21) C dD_digits_16 rfl hf (fun c_16 hf => ?_) (fun c_16 hf => ?_)
      · refine wk_aload_n C 0 dD_digits_21 rfl rfl ?_
        refine wk_iload_n C 1 dD_digits_22 rfl rfl ?_
        refine pf_D_59 C dD_digits_23 ?_
        refine wk_iconst C dD_digits_26 kiconst_1 ?_
        cases hf
        exact wk_ireturn C hq dD_digits_27
      · refine wk_iconst C dD_digits_19 kiconst_m1 ?_
        cases hf
        exact wk_ireturn C hq dD_digits_20
theorem m_D_digits {l : Launch} {G : cGt} (hI : wd_inj (vC G)) {v1 : Int32} {h h' : Hp} {r : Int32}  (hf : f_D_digits v1 h = some (r, h')) : wk_M l (vC G) yD_digits cD_digits 2 (some .int) 0 0 [.ref (cad G 0), .int v1] h (some (.int r)) h' :=
  wk_met hI (by decide +kernel) rfl (Nat.le_of_ble_eq_true rfl) (wk_cat1 rfl) (fun X hX C hq => by subst hX; exact b_D_digits hI C  hf hq)
set_option maxHeartbeats 4000000 in
set_option maxRecDepth 100000 in
theorem b_D_fuzz {X : wk_X} {G : cGt} (hI : wd_inj (vC G)) (C : wk_C X (vC G) cD_fuzz RD 2 0 0) {v1 : Int32} {h : Hp} {q : Int32 × Hp}  (hf : f_D_fuzz v1 h = some q) (hq : wk_Q X (vC G) (some (.int q.1)) q.2 (some .int)) : WW X (vC G) h 0 [(0, .ref (cad G 0)), (1, .int v1)] [] := by
  unfold f_D_fuzz at hf
  refine wk_iload_n C 1 dD_fuzz_0 rfl rfl ?_
  refine wk_if_lt (tgt := 12) C dD_fuzz_1 rfl hf (fun c_1 hf => ?_) (fun c_1 hf => ?_)
  · refine wk_iconst C dD_fuzz_12 kiconst_m1 ?_
    cases hf
    exact wk_ireturn C hq dD_fuzz_13
  · refine wk_iload_n C 1 dD_fuzz_4 rfl rfl ?_
    refine wk_aload_n C 0 dD_fuzz_5 rfl rfl ?_
    refine gf_D_59 C dD_fuzz_6 ?_
    refine wk_icmp_lt (tgt := 14) C dD_fuzz_9 rfl hf (fun c_9 hf => ?_) (fun c_9 hf => ?_)
    · refine wk_aload_n C 0 dD_fuzz_14 rfl rfl ?_
      refine wk_iload_n C 1 dD_fuzz_15 rfl rfl ?_
      refine pf_D_63 C dD_fuzz_16 ?_
      refine wk_iconst C dD_fuzz_19 kiconst_1 ?_
      cases hf
      exact wk_ireturn C hq dD_fuzz_20
    · refine wk_iconst C dD_fuzz_12 kiconst_m1 ?_
      cases hf
      exact wk_ireturn C hq dD_fuzz_13
theorem m_D_fuzz {l : Launch} {G : cGt} (hI : wd_inj (vC G)) {v1 : Int32} {h h' : Hp} {r : Int32}  (hf : f_D_fuzz v1 h = some (r, h')) : wk_M l (vC G) yD_fuzz cD_fuzz 2 (some .int) 0 0 [.ref (cad G 0), .int v1] h (some (.int r)) h' :=
  wk_met hI (by decide +kernel) rfl (Nat.le_of_ble_eq_true rfl) (wk_cat1 rfl) (fun X hX C hq => by subst hX; exact b_D_fuzz hI C  hf hq)
set_option maxHeartbeats 4000000 in
set_option maxRecDepth 100000 in
theorem b_D_form {X : wk_X} {G : cGt} (hI : wd_inj (vC G)) (C : wk_C X (vC G) cD_form RD 2 0 0) {v1 : Int32} {h : Hp} {q : Int32 × Hp}  (hf : f_D_form v1 h = some q) (hq : wk_Q X (vC G) (some (.int q.1)) q.2 (some .int)) : WW X (vC G) h 0 [(0, .ref (cad G 0)), (1, .int v1)] [] := by
  unfold f_D_form at hf
  refine wk_iload_n C 1 dD_form_0 rfl rfl ?_
  refine wk_if_eq (tgt := 11) C dD_form_1 rfl hf (fun c_1 hf => ?_) (fun c_1 hf => ?_)
  · refine wk_aload_n C 0 dD_form_11 rfl rfl ?_
    refine wk_iload_n C 1 dD_form_12 rfl rfl ?_
    refine pf_D_66 C dD_form_13 ?_
    refine wk_iconst C dD_form_16 kiconst_1 ?_
    cases hf
    exact wk_ireturn C hq dD_form_17
  · refine wk_iload_n C 1 dD_form_4 rfl rfl ?_
    refine wk_iconst C dD_form_5 kiconst_1 ?_
    refine wk_icmp_eq (tgt := 11) C dD_form_6 rfl hf (fun c_6 hf => ?_) (fun c_6 hf => ?_)
    · refine wk_aload_n C 0 dD_form_11 rfl rfl ?_
      refine wk_iload_n C 1 dD_form_12 rfl rfl ?_
      refine pf_D_66 C dD_form_13 ?_
      refine wk_iconst C dD_form_16 kiconst_1 ?_
      cases hf
      exact wk_ireturn C hq dD_form_17
    · refine wk_iconst C dD_form_9 kiconst_m1 ?_
      cases hf
      exact wk_ireturn C hq dD_form_10
theorem m_D_form {l : Launch} {G : cGt} (hI : wd_inj (vC G)) {v1 : Int32} {h h' : Hp} {r : Int32}  (hf : f_D_form v1 h = some (r, h')) : wk_M l (vC G) yD_form cD_form 2 (some .int) 0 0 [.ref (cad G 0), .int v1] h (some (.int r)) h' :=
  wk_met hI (by decide +kernel) rfl (Nat.le_of_ble_eq_true rfl) (wk_cat1 rfl) (fun X hX C hq => by subst hX; exact b_D_form hI C  hf hq)
set_option maxHeartbeats 4000000 in
set_option maxRecDepth 100000 in
theorem b_D_work {X : wk_X} {G : cGt} (hI : wd_inj (vC G)) (C : wk_C X (vC G) cD_work RD 9 6 152) {v1 : Int32} {v2 : Int32} {v3 : Int32} {v4 : Int32} {h : Hp} {q : Int32 × Hp}  (hf : f_D_work v1 v2 v3 v4 h = some q) (hq : wk_Q X (vC G) (some (.int q.1)) q.2 (some .int)) : WW X (vC G) h 0 [(0, .ref (cad G 0)), (1, .int v1), (2, .int v2), (3, .int v3), (4, .int v4)] [] := by
  unfold f_D_work at hf
  refine wk_aload_n C 0 dD_work_0 rfl rfl ?_
  refine wk_iload_n C 2 dD_work_1 rfl rfl ?_
  obtain ⟨r2, h2, e_2, hf⟩ := bd_some hf
  refine wk_callV (As := [.int v2]) (rest := []) C lw_good cw_D_75 wi_D_find (m_D_find hI e_2) lz_0 (he_0 G (h 0)) rfl rfl rfl (Nat.le_of_ble_eq_true rfl) (by decide) dD_work_2 ?_
  refine wk_astoreq C dD_work_5 (by decide) ?_
  refine wk_aload_n C 0 dD_work_7 rfl rfl ?_
  refine wk_iload_n C 3 dD_work_8 rfl rfl ?_
  obtain ⟨r9, h9, e_9, hf⟩ := bd_some hf
  refine wk_callV (As := [.int v3]) (rest := []) C lw_good cw_D_75 wi_D_find (m_D_find hI e_9) lz_0 (he_0 G (h2 0)) rfl rfl rfl (Nat.le_of_ble_eq_true rfl) (by decide) dD_work_9 ?_
  refine wk_astoreq C dD_work_12 (by decide) ?_
  refine wk_aload_n C 0 dD_work_14 rfl rfl ?_
  refine wk_iload C dD_work_15 rfl ?_
  obtain ⟨r17, h17, e_17, hf⟩ := bd_some hf
  refine wk_callV (As := [.int v4]) (rest := []) C lw_good cw_D_75 wi_D_find (m_D_find hI e_17) lz_0 (he_0 G (h9 0)) rfl rfl rfl (Nat.le_of_ble_eq_true rfl) (by decide) dD_work_17 ?_
  refine wk_astoreq C dD_work_20 (by decide) ?_
  refine wk_iload_n C 1 dD_work_22 rfl rfl ?_
  refine wk_if_lt (tgt := 47) C dD_work_23 rfl hf (fun c_23 hf => ?_) (fun c_23 hf => ?_)
  · refine wk_iconst C dD_work_47 kiconst_m1 ?_
    cases hf
    exact wk_ireturn C hq dD_work_48
  · refine wk_iload_n C 1 dD_work_26 rfl rfl ?_
    refine wk_bipush C dD_work_27 kbipush_6 ?_
    refine wk_icmp_gt (tgt := 47) C dD_work_29 rfl hf (fun c_29 hf => ?_) (fun c_29 hf => ?_)
    · refine wk_iconst C dD_work_47 kiconst_m1 ?_
      cases hf
      exact wk_ireturn C hq dD_work_48
    · refine wk_aloadq C dD_work_32 rfl ?_
      refine wk_ifnullq (tgt := 47) C dD_work_34 rfl hf (fun e_34 hf => ?_) (fun j34 e_34 hf => ?_)
      · subst e_34
        refine wk_iconst C dD_work_47 kiconst_m1 ?_
        cases hf
        exact wk_ireturn C hq dD_work_48
      · subst e_34
        obtain ⟨k_j34, hf⟩ := chk_some hf
        refine wk_aloadq C dD_work_37 rfl ?_
        refine wk_ifnullq (tgt := 47) C dD_work_39 rfl hf (fun e_39 hf => ?_) (fun j39 e_39 hf => ?_)
        · subst e_39
          refine wk_iconst C dD_work_47 kiconst_m1 ?_
          cases hf
          exact wk_ireturn C hq dD_work_48
        · subst e_39
          obtain ⟨k_j39, hf⟩ := chk_some hf
          refine wk_aloadq C dD_work_42 rfl ?_
          refine wk_ifnonnullq (tgt := 49) C dD_work_44 rfl hf (fun j44 e_44 hf => ?_) (fun e_44 hf => ?_)
          · subst e_44
            obtain ⟨k_j44, hf⟩ := chk_some hf
            refine wk_aload_n C 0 dD_work_49 rfl rfl ?_
            refine wk_aload C dD_work_50 rfl ?_
            refine wk_aload C dD_work_52 rfl ?_
            refine wk_aload_n C 0 dD_work_54 rfl rfl ?_
            refine gf_D_59 C dD_work_55 ?_
            obtain ⟨r58, h58, e_58, hf⟩ := bd_some hf
            refine wk_callV (As := [.ref (cad G j34), .ref (cad G j39), .int (h17 0 9)]) (rest := []) C lw_good cw_D_87 wi_D_loadBoth (m_D_loadBoth hI k_j34 k_j39 e_58) lz_0 (he_0 G (h17 0)) rfl rfl rfl (Nat.le_of_ble_eq_true rfl) (by decide) dD_work_58 ?_
            refine wk_if_ne (tgt := 67) C dD_work_61 rfl hf (fun c_61 hf => ?_) (fun c_61 hf => ?_)
            · refine wk_aload_n C 0 dD_work_67 rfl rfl ?_
              refine gf_D_42 C dD_work_68 ?_
              refine wk_iload_n C 1 dD_work_71 rfl rfl ?_
              refine wk_aload_n C 0 dD_work_72 rfl rfl ?_
              refine gf_D_49 C dD_work_73 ?_
              refine wk_aload_n C 0 dD_work_76 rfl rfl ?_
              refine gf_D_53 C dD_work_77 ?_
              refine wk_aload_n C 0 dD_work_80 rfl rfl ?_
              refine gf_D_59 C dD_work_81 ?_
              refine wk_aload_n C 0 dD_work_84 rfl rfl ?_
              refine gf_D_56 C dD_work_85 ?_
              obtain ⟨r88, h88, e_88, hf⟩ := bd_some hf
              refine wk_callV (As := [.int v1, .ref (cad G 29), .ref (cad G 31), .int (h58 0 9), .ref (cad G 33)]) (rest := []) C lw_good cw_D_91 wi_K_reckon (m_K_reckon hI kd_29 kd_31 kd_33 e_88) lz_28 (he_28 G (h58 28)) rfl rfl rfl (Nat.le_of_ble_eq_true rfl) (by decide) dD_work_88 ?_
              refine wk_istore C dD_work_91 (by decide) ?_
              refine wk_iload C dD_work_93 rfl ?_
              refine wk_if_ne (tgt := 111) C dD_work_95 rfl hf (fun c_95 hf => ?_) (fun c_95 hf => ?_)
              · refine wk_iload C dD_work_111 rfl ?_
                refine wk_ineg C dD_work_113 ?_
                cases hf
                exact wk_ireturn C hq dD_work_114
              · refine wk_aload_n C 0 dD_work_98 rfl rfl ?_
                refine wk_aload_n C 0 dD_work_99 rfl rfl ?_
                refine gf_D_56 C dD_work_100 ?_
                refine wk_aload C dD_work_103 rfl ?_
                obtain ⟨r105, h105, e_105, hf⟩ := bd_some hf
                refine wk_callV (As := [.ref (cad G 33), .ref (cad G j44)]) (rest := []) C lw_good cw_D_95 wi_D_write (m_D_write hI kd_33 k_j44 e_105) lz_0 (he_0 G (h88 0)) rfl rfl rfl (Nat.le_of_ble_eq_true rfl) (by decide) dD_work_105 ?_
                refine wk_goto (tgt := 114) C dD_work_108 rfl ?_
                cases hf
                exact wk_ireturn C hq dD_work_114
            · refine wk_bipush C dD_work_64 kbipush_m41 ?_
              cases hf
              exact wk_ireturn C hq dD_work_66
          · subst e_44
            refine wk_iconst C dD_work_47 kiconst_m1 ?_
            cases hf
            exact wk_ireturn C hq dD_work_48
theorem m_D_work {l : Launch} {G : cGt} (hI : wd_inj (vC G)) {v1 : Int32} {v2 : Int32} {v3 : Int32} {v4 : Int32} {h h' : Hp} {r : Int32}  (hf : f_D_work v1 v2 v3 v4 h = some (r, h')) : wk_M l (vC G) yD_work cD_work 9 (some .int) 6 152 [.ref (cad G 0), .int v1, .int v2, .int v3, .int v4] h (some (.int r)) h' :=
  wk_met hI (by decide +kernel) rfl (Nat.le_of_ble_eq_true rfl) (wk_cat1 rfl) (fun X hX C hq => by subst hX; exact b_D_work hI C  hf hq)
set_option maxHeartbeats 4000000 in
set_option maxRecDepth 100000 in
theorem b_D_turn {X : wk_X} {G : cGt} (hI : wd_inj (vC G)) (C : wk_C X (vC G) cD_turn RD 6 5 118) {v1 : Int32} {v2 : Int32} {v3 : Int32} {h : Hp} {q : Int32 × Hp}  (hf : f_D_turn v1 v2 v3 h = some q) (hq : wk_Q X (vC G) (some (.int q.1)) q.2 (some .int)) : WW X (vC G) h 0 [(0, .ref (cad G 0)), (1, .int v1), (2, .int v2), (3, .int v3)] [] := by
  unfold f_D_turn at hf
  refine wk_aload_n C 0 dD_turn_0 rfl rfl ?_
  refine wk_iload_n C 2 dD_turn_1 rfl rfl ?_
  obtain ⟨r2, h2, e_2, hf⟩ := bd_some hf
  refine wk_callV (As := [.int v2]) (rest := []) C lw_good cw_D_75 wi_D_find (m_D_find hI e_2) lz_0 (he_0 G (h 0)) rfl rfl rfl (Nat.le_of_ble_eq_true rfl) (by decide) dD_turn_2 ?_
  refine wk_astoreq C dD_turn_5 (by decide) ?_
  refine wk_aload_n C 0 dD_turn_7 rfl rfl ?_
  refine wk_iload_n C 3 dD_turn_8 rfl rfl ?_
  obtain ⟨r9, h9, e_9, hf⟩ := bd_some hf
  refine wk_callV (As := [.int v3]) (rest := []) C lw_good cw_D_75 wi_D_find (m_D_find hI e_9) lz_0 (he_0 G (h2 0)) rfl rfl rfl (Nat.le_of_ble_eq_true rfl) (by decide) dD_turn_9 ?_
  refine wk_astoreq C dD_turn_12 (by decide) ?_
  refine wk_iload_n C 1 dD_turn_14 rfl rfl ?_
  refine wk_if_lt (tgt := 33) C dD_turn_15 rfl hf (fun c_15 hf => ?_) (fun c_15 hf => ?_)
  · refine wk_iconst C dD_turn_33 kiconst_m1 ?_
    cases hf
    exact wk_ireturn C hq dD_turn_34
  · refine wk_iload_n C 1 dD_turn_18 rfl rfl ?_
    refine wk_iconst C dD_turn_19 kiconst_3 ?_
    refine wk_icmp_gt (tgt := 33) C dD_turn_20 rfl hf (fun c_20 hf => ?_) (fun c_20 hf => ?_)
    · refine wk_iconst C dD_turn_33 kiconst_m1 ?_
      cases hf
      exact wk_ireturn C hq dD_turn_34
    · refine wk_aloadq C dD_turn_23 rfl ?_
      refine wk_ifnullq (tgt := 33) C dD_turn_25 rfl hf (fun e_25 hf => ?_) (fun j25 e_25 hf => ?_)
      · subst e_25
        refine wk_iconst C dD_turn_33 kiconst_m1 ?_
        cases hf
        exact wk_ireturn C hq dD_turn_34
      · subst e_25
        obtain ⟨k_j25, hf⟩ := chk_some hf
        refine wk_aloadq C dD_turn_28 rfl ?_
        refine wk_ifnonnullq (tgt := 35) C dD_turn_30 rfl hf (fun j30 e_30 hf => ?_) (fun e_30 hf => ?_)
        · subst e_30
          obtain ⟨k_j30, hf⟩ := chk_some hf
          refine wk_aload_n C 0 dD_turn_35 rfl rfl ?_
          refine wk_aload C dD_turn_36 rfl ?_
          refine wk_aload_n C 0 dD_turn_38 rfl rfl ?_
          refine gf_D_49 C dD_turn_39 ?_
          refine wk_aload_n C 0 dD_turn_42 rfl rfl ?_
          refine gf_D_59 C dD_turn_43 ?_
          obtain ⟨r46, h46, e_46, hf⟩ := bd_some hf
          refine wk_callV (As := [.ref (cad G j25), .ref (cad G 29), .int (h9 0 9)]) (rest := []) C lw_good cw_D_99 wi_D_load (m_D_load hI k_j25 kd_29 e_46) lz_0 (he_0 G (h9 0)) rfl rfl rfl (Nat.le_of_ble_eq_true rfl) (by decide) dD_turn_46 ?_
          refine wk_if_ne (tgt := 55) C dD_turn_49 rfl hf (fun c_49 hf => ?_) (fun c_49 hf => ?_)
          · refine wk_iload_n C 1 dD_turn_55 rfl rfl ?_
            refine wk_iconst C dD_turn_56 kiconst_1 ?_
            refine wk_icmp_ne (tgt := 78) C dD_turn_57 rfl hf (fun c_57 hf => ?_) (fun c_57 hf => ?_)
            · refine wk_iload_n C 1 dD_turn_78 rfl rfl ?_
              refine wk_iconst C dD_turn_79 kiconst_2 ?_
              refine wk_icmp_ne (tgt := 103) C dD_turn_80 rfl hf (fun c_80 hf => ?_) (fun c_80 hf => ?_)
              · refine wk_iload_n C 1 dD_turn_103 rfl rfl ?_
                refine wk_iconst C dD_turn_104 kiconst_3 ?_
                refine wk_icmp_ne (tgt := 122) C dD_turn_105 rfl hf (fun c_105 hf => ?_) (fun c_105 hf => ?_)
                · refine wk_aload_n C 0 dD_turn_122 rfl rfl ?_
                  refine wk_aload_n C 0 dD_turn_123 rfl rfl ?_
                  refine gf_D_49 C dD_turn_124 ?_
                  refine wk_aload C dD_turn_127 rfl ?_
                  obtain ⟨r129, h129, e_129, hf⟩ := bd_some hf
                  refine wk_callV (As := [.ref (cad G 29), .ref (cad G j30)]) (rest := []) C lw_good cw_D_95 wi_D_write (m_D_write hI kd_29 k_j30 e_129) lz_0 (he_0 G (h46 0)) rfl rfl rfl (Nat.le_of_ble_eq_true rfl) (by decide) dD_turn_129 ?_
                  cases hf
                  exact wk_ireturn C hq dD_turn_132
                · refine wk_aload_n C 0 dD_turn_108 rfl rfl ?_
                  refine gf_D_49 C dD_turn_109 ?_
                  refine wk_aload_n C 0 dD_turn_112 rfl rfl ?_
                  refine gf_D_49 C dD_turn_113 ?_
                  refine gf_D_103 C kd_29 dD_turn_116 ?_
                  obtain ⟨r119, h119, e_119, hf⟩ := bd_some hf
                  refine wk_callV (As := [.int (h46 29 3)]) (rest := []) C lw_good cw_D_111 wi_N_becomeUnit (m_N_becomeUnit hI kd_29 e_119) (lz_cNum kd_29) (he_cNum kd_29) rfl rfl rfl (Nat.le_of_ble_eq_true rfl) (by decide) dD_turn_119 ?_
                  refine wk_aload_n C 0 dD_turn_122 rfl rfl ?_
                  refine wk_aload_n C 0 dD_turn_123 rfl rfl ?_
                  refine gf_D_49 C dD_turn_124 ?_
                  refine wk_aload C dD_turn_127 rfl ?_
                  obtain ⟨r129, h129, e_129, hf⟩ := bd_some hf
                  refine wk_callV (As := [.ref (cad G 29), .ref (cad G j30)]) (rest := []) C lw_good cw_D_95 wi_D_write (m_D_write hI kd_29 k_j30 e_129) lz_0 (he_0 G (h119 0)) rfl rfl rfl (Nat.le_of_ble_eq_true rfl) (by decide) dD_turn_129 ?_
                  cases hf
                  exact wk_ireturn C hq dD_turn_132
              · refine wk_aload_n C 0 dD_turn_83 rfl rfl ?_
                refine gf_D_49 C dD_turn_84 ?_
                refine wk_aload_n C 0 dD_turn_87 rfl rfl ?_
                refine gf_D_49 C dD_turn_88 ?_
                refine gf_D_103 C kd_29 dD_turn_91 ?_
                refine wk_mabs C mw_D_106 ⟨Nat.le_of_ble_eq_true rfl, Nat.le_of_ble_eq_true rfl⟩ dD_turn_94 ?_
                refine pf_D_103 C kd_29 dD_turn_97 ?_
                refine wk_goto (tgt := 122) C dD_turn_100 rfl ?_
                refine wk_aload_n C 0 dD_turn_122 rfl rfl ?_
                refine wk_aload_n C 0 dD_turn_123 rfl rfl ?_
                refine gf_D_49 C dD_turn_124 ?_
                refine wk_aload C dD_turn_127 rfl ?_
                obtain ⟨r129, h129, e_129, hf⟩ := bd_some hf
                refine wk_callV (As := [.ref (cad G 29), .ref (cad G j30)]) (rest := []) C lw_good cw_D_95 wi_D_write (m_D_write hI kd_29 k_j30 e_129) lz_0 (he_0 G ((up2 h46 29 3 (if 0 ≤ (h46 29 3) then (h46 29 3) else 0 - (h46 29 3))) 0)) rfl rfl rfl (Nat.le_of_ble_eq_true rfl) (by decide) dD_turn_129 ?_
                cases hf
                exact wk_ireturn C hq dD_turn_132
            · refine wk_aload_n C 0 dD_turn_60 rfl rfl ?_
              refine gf_D_49 C dD_turn_61 ?_
              refine wk_aload_n C 0 dD_turn_64 rfl rfl ?_
              refine gf_D_49 C dD_turn_65 ?_
              refine gf_D_103 C kd_29 dD_turn_68 ?_
              refine wk_ineg C dD_turn_71 ?_
              refine pf_D_103 C kd_29 dD_turn_72 ?_
              refine wk_goto (tgt := 122) C dD_turn_75 rfl ?_
              refine wk_aload_n C 0 dD_turn_122 rfl rfl ?_
              refine wk_aload_n C 0 dD_turn_123 rfl rfl ?_
              refine gf_D_49 C dD_turn_124 ?_
              refine wk_aload C dD_turn_127 rfl ?_
              obtain ⟨r129, h129, e_129, hf⟩ := bd_some hf
              refine wk_callV (As := [.ref (cad G 29), .ref (cad G j30)]) (rest := []) C lw_good cw_D_95 wi_D_write (m_D_write hI kd_29 k_j30 e_129) lz_0 (he_0 G ((up2 h46 29 3 (-(h46 29 3))) 0)) rfl rfl rfl (Nat.le_of_ble_eq_true rfl) (by decide) dD_turn_129 ?_
              cases hf
              exact wk_ireturn C hq dD_turn_132
          · refine wk_bipush C dD_turn_52 kbipush_m41 ?_
            cases hf
            exact wk_ireturn C hq dD_turn_54
        · subst e_30
          refine wk_iconst C dD_turn_33 kiconst_m1 ?_
          cases hf
          exact wk_ireturn C hq dD_turn_34
theorem m_D_turn {l : Launch} {G : cGt} (hI : wd_inj (vC G)) {v1 : Int32} {v2 : Int32} {v3 : Int32} {h h' : Hp} {r : Int32}  (hf : f_D_turn v1 v2 v3 h = some (r, h')) : wk_M l (vC G) yD_turn cD_turn 6 (some .int) 5 118 [.ref (cad G 0), .int v1, .int v2, .int v3] h (some (.int r)) h' :=
  wk_met hI (by decide +kernel) rfl (Nat.le_of_ble_eq_true rfl) (wk_cat1 rfl) (fun X hX C hq => by subst hX; exact b_D_turn hI C  hf hq)
set_option maxHeartbeats 4000000 in
set_option maxRecDepth 100000 in
theorem b_D_most_114 {X : wk_X} {G : cGt} (hI : wd_inj (vC G)) (C : wk_C X (vC G) cD_most RD 9 6 138) {v7 : Nat} {s0 : Int32} {h : Hp} {q : Int32 × Hp} (k_v7 : cLine v7) (hf : f_D_most_114 v7 s0 h = some q) (hq : wk_Q X (vC G) (some (.int q.1)) q.2 (some .int)) : WW X (vC G) h 114 [(0, .ref (cad G 0)), (7, .ref (cad G v7))] [.int s0] := by
  unfold f_D_most_114 at hf
  refine wk_istore C dD_most_114 (by decide) ?_
  refine wk_aload_n C 0 dD_most_116 rfl rfl ?_
  refine wk_iload C dD_most_117 rfl ?_
  refine wk_if_eq (tgt := 129) C dD_most_119 rfl hf (fun c_119 hf => ?_) (fun c_119 hf => ?_)
  · refine wk_aload_n C 0 dD_most_129 rfl rfl ?_
    refine gf_D_49 C dD_most_130 ?_
    refine wk_aload C dD_most_133 rfl ?_
    obtain ⟨r135, h135, e_135, hf⟩ := bd_some hf
    refine wk_callV (As := [.ref (cad G 29), .ref (cad G v7)]) (rest := []) C lw_good cw_D_95 wi_D_write (m_D_write hI kd_29 k_v7 e_135) lz_0 (he_0 G (h 0)) rfl rfl rfl (Nat.le_of_ble_eq_true rfl) (by decide) dD_most_135 ?_
    cases hf
    exact wk_ireturn C hq dD_most_138
  · refine wk_aload_n C 0 dD_most_122 rfl rfl ?_
    refine gf_D_53 C dD_most_123 ?_
    refine wk_goto (tgt := 133) C dD_most_126 rfl ?_
    refine wk_aload C dD_most_133 rfl ?_
    obtain ⟨r135, h135, e_135, hf⟩ := bd_some hf
    refine wk_callV (As := [.ref (cad G 31), .ref (cad G v7)]) (rest := []) C lw_good cw_D_95 wi_D_write (m_D_write hI kd_31 k_v7 e_135) lz_0 (he_0 G (h 0)) rfl rfl rfl (Nat.le_of_ble_eq_true rfl) (by decide) dD_most_135 ?_
    cases hf
    exact wk_ireturn C hq dD_most_138
set_option maxHeartbeats 4000000 in
set_option maxRecDepth 100000 in
theorem b_D_most {X : wk_X} {G : cGt} (hI : wd_inj (vC G)) (C : wk_C X (vC G) cD_most RD 9 6 138) {v1 : Int32} {v2 : Int32} {v3 : Int32} {v4 : Int32} {h : Hp} {q : Int32 × Hp}  (hf : f_D_most v1 v2 v3 v4 h = some q) (hq : wk_Q X (vC G) (some (.int q.1)) q.2 (some .int)) : WW X (vC G) h 0 [(0, .ref (cad G 0)), (1, .int v1), (2, .int v2), (3, .int v3), (4, .int v4)] [] := by
  unfold f_D_most at hf
  refine wk_aload_n C 0 dD_most_0 rfl rfl ?_
  refine wk_iload_n C 1 dD_most_1 rfl rfl ?_
  obtain ⟨r2, h2, e_2, hf⟩ := bd_some hf
  refine wk_callV (As := [.int v1]) (rest := []) C lw_good cw_D_75 wi_D_find (m_D_find hI e_2) lz_0 (he_0 G (h 0)) rfl rfl rfl (Nat.le_of_ble_eq_true rfl) (by decide) dD_most_2 ?_
  refine wk_astoreq C dD_most_5 (by decide) ?_
  refine wk_aload_n C 0 dD_most_7 rfl rfl ?_
  refine wk_iload_n C 2 dD_most_8 rfl rfl ?_
  obtain ⟨r9, h9, e_9, hf⟩ := bd_some hf
  refine wk_callV (As := [.int v2]) (rest := []) C lw_good cw_D_75 wi_D_find (m_D_find hI e_9) lz_0 (he_0 G (h2 0)) rfl rfl rfl (Nat.le_of_ble_eq_true rfl) (by decide) dD_most_9 ?_
  refine wk_astoreq C dD_most_12 (by decide) ?_
  refine wk_aload_n C 0 dD_most_14 rfl rfl ?_
  refine wk_iload_n C 3 dD_most_15 rfl rfl ?_
  obtain ⟨r16, h16, e_16, hf⟩ := bd_some hf
  refine wk_callV (As := [.int v3]) (rest := []) C lw_good cw_D_75 wi_D_find (m_D_find hI e_16) lz_0 (he_0 G (h9 0)) rfl rfl rfl (Nat.le_of_ble_eq_true rfl) (by decide) dD_most_16 ?_
  refine wk_astoreq C dD_most_19 (by decide) ?_
  refine wk_aloadq C dD_most_21 rfl ?_
  refine wk_ifnullq (tgt := 36) C dD_most_23 rfl hf (fun e_23 hf => ?_) (fun j23 e_23 hf => ?_)
  · subst e_23
    refine wk_iconst C dD_most_36 kiconst_m1 ?_
    cases hf
    exact wk_ireturn C hq dD_most_37
  · subst e_23
    obtain ⟨k_j23, hf⟩ := chk_some hf
    refine wk_aloadq C dD_most_26 rfl ?_
    refine wk_ifnullq (tgt := 36) C dD_most_28 rfl hf (fun e_28 hf => ?_) (fun j28 e_28 hf => ?_)
    · subst e_28
      refine wk_iconst C dD_most_36 kiconst_m1 ?_
      cases hf
      exact wk_ireturn C hq dD_most_37
    · subst e_28
      obtain ⟨k_j28, hf⟩ := chk_some hf
      refine wk_aloadq C dD_most_31 rfl ?_
      refine wk_ifnonnullq (tgt := 38) C dD_most_33 rfl hf (fun j33 e_33 hf => ?_) (fun e_33 hf => ?_)
      · subst e_33
        obtain ⟨k_j33, hf⟩ := chk_some hf
        refine wk_aload_n C 0 dD_most_38 rfl rfl ?_
        refine wk_aload C dD_most_39 rfl ?_
        refine wk_aload C dD_most_41 rfl ?_
        refine wk_aload_n C 0 dD_most_43 rfl rfl ?_
        refine gf_D_59 C dD_most_44 ?_
        obtain ⟨r47, h47, e_47, hf⟩ := bd_some hf
        refine wk_callV (As := [.ref (cad G j23), .ref (cad G j28), .int (h16 0 9)]) (rest := []) C lw_good cw_D_87 wi_D_loadBoth (m_D_loadBoth hI k_j23 k_j28 e_47) lz_0 (he_0 G (h16 0)) rfl rfl rfl (Nat.le_of_ble_eq_true rfl) (by decide) dD_most_47 ?_
        refine wk_if_ne (tgt := 56) C dD_most_50 rfl hf (fun c_50 hf => ?_) (fun c_50 hf => ?_)
        · refine wk_aload_n C 0 dD_most_56 rfl rfl ?_
          refine gf_D_42 C dD_most_57 ?_
          refine wk_aload_n C 0 dD_most_60 rfl rfl ?_
          refine gf_D_49 C dD_most_61 ?_
          refine wk_aload_n C 0 dD_most_64 rfl rfl ?_
          refine gf_D_53 C dD_most_65 ?_
          refine wk_iconst C dD_most_68 kiconst_1 ?_
          refine wk_aload_n C 0 dD_most_69 rfl rfl ?_
          refine gf_D_56 C dD_most_70 ?_
          obtain ⟨r73, h73, e_73, hf⟩ := bd_some hf
          refine wk_callV (As := [.ref (cad G 29), .ref (cad G 31), .int 1, .ref (cad G 33)]) (rest := []) C lw_good cw_D_114 wi_K_sum (m_K_sum hI kd_29 kd_31 kd_33 e_73) lz_28 (he_28 G (h47 28)) rfl rfl rfl (Nat.le_of_ble_eq_true rfl) (by decide) dD_most_73 ?_
          refine wk_iload C dD_most_76 rfl ?_
          refine wk_if_eq (tgt := 99) C dD_most_78 rfl hf (fun c_78 hf => ?_) (fun c_78 hf => ?_)
          · refine wk_aload_n C 0 dD_most_99 rfl rfl ?_
            refine gf_D_56 C dD_most_100 ?_
            refine gf_D_103 C kd_33 dD_most_103 ?_
            refine wk_if_ge (tgt := 113) C dD_most_106 rfl hf (fun c_106 hf => ?_) (fun c_106 hf => ?_)
            · refine wk_iconst C dD_most_113 kiconst_0 ?_
              exact wk_go (b_D_most_114 hI C k_j33 hf hq) (And.intro rfl (And.intro rfl trivial))
            · refine wk_iconst C dD_most_109 kiconst_1 ?_
              refine wk_goto (tgt := 114) C dD_most_110 rfl ?_
              exact wk_go (b_D_most_114 hI C k_j33 hf hq) (And.intro rfl (And.intro rfl trivial))
          · refine wk_aload_n C 0 dD_most_81 rfl rfl ?_
            refine gf_D_56 C dD_most_82 ?_
            refine gf_D_103 C kd_33 dD_most_85 ?_
            refine wk_if_le (tgt := 95) C dD_most_88 rfl hf (fun c_88 hf => ?_) (fun c_88 hf => ?_)
            · refine wk_iconst C dD_most_95 kiconst_0 ?_
              refine wk_goto (tgt := 114) C dD_most_96 rfl ?_
              exact wk_go (b_D_most_114 hI C k_j33 hf hq) (And.intro rfl (And.intro rfl trivial))
            · refine wk_iconst C dD_most_91 kiconst_1 ?_
              refine wk_goto (tgt := 114) C dD_most_92 rfl ?_
              exact wk_go (b_D_most_114 hI C k_j33 hf hq) (And.intro rfl (And.intro rfl trivial))
        · refine wk_bipush C dD_most_53 kbipush_m41 ?_
          cases hf
          exact wk_ireturn C hq dD_most_55
      · subst e_33
        refine wk_iconst C dD_most_36 kiconst_m1 ?_
        cases hf
        exact wk_ireturn C hq dD_most_37
theorem m_D_most {l : Launch} {G : cGt} (hI : wd_inj (vC G)) {v1 : Int32} {v2 : Int32} {v3 : Int32} {v4 : Int32} {h h' : Hp} {r : Int32}  (hf : f_D_most v1 v2 v3 v4 h = some (r, h')) : wk_M l (vC G) yD_most cD_most 9 (some .int) 6 138 [.ref (cad G 0), .int v1, .int v2, .int v3, .int v4] h (some (.int r)) h' :=
  wk_met hI (by decide +kernel) rfl (Nat.le_of_ble_eq_true rfl) (wk_cat1 rfl) (fun X hX C hq => by subst hX; exact b_D_most hI C  hf hq)
set_option maxHeartbeats 4000000 in
set_option maxRecDepth 100000 in
theorem b_D_cut_69 {X : wk_X} {G : cGt} (hI : wd_inj (vC G)) (C : wk_C X (vC G) cD_cut RD 6 5 115) {v2 : Int32} {v5 : Nat} {h : Hp} {q : Int32 × Hp} (k_v5 : cLine v5) (hf : f_D_cut_69 v2 v5 h = some q) (hq : wk_Q X (vC G) (some (.int q.1)) q.2 (some .int)) : WW X (vC G) h 69 [(0, .ref (cad G 0)), (2, .int v2), (5, .ref (cad G v5))] [] := by
  unfold f_D_cut_69 at hf
  refine wk_aload_n C 0 dD_cut_69 rfl rfl ?_
  refine wk_aload_n C 0 dD_cut_70 rfl rfl ?_
  refine gf_D_49 C dD_cut_71 ?_
  refine wk_aload_n C 0 dD_cut_74 rfl rfl ?_
  refine gf_D_49 C dD_cut_75 ?_
  obtain ⟨r78, h78, e_78, hf⟩ := bd_some hf
  refine wk_callS (As := [.ref (cad G 29)]) (rest := [.ref (cad G 29), .ref (cad G 0)]) C lw_good cw_D_125 ws_D_placesAhead (m_D_placesAhead hI kd_29 e_78) rfl rfl (Nat.le_of_ble_eq_true rfl) (by decide) dD_cut_78 ?_
  refine wk_iload_n C 2 dD_cut_81 rfl rfl ?_
  refine wk_aload C dD_cut_82 rfl ?_
  obtain ⟨r84, h84, e_84, hf⟩ := bd_some hf
  refine wk_callV (As := [.ref (cad G 29), .int r78, .int v2, .ref (cad G v5)]) (rest := []) C lw_good cw_D_129 wi_D_layOut (m_D_layOut hI kd_29 k_v5 e_84) lz_0 (he_0 G (h78 0)) rfl rfl rfl (Nat.le_of_ble_eq_true rfl) (by decide) dD_cut_84 ?_
  cases hf
  exact wk_ireturn C hq dD_cut_87
set_option maxHeartbeats 4000000 in
set_option maxRecDepth 100000 in
theorem b_D_cut {X : wk_X} {G : cGt} (hI : wd_inj (vC G)) (C : wk_C X (vC G) cD_cut RD 6 5 115) {v1 : Int32} {v2 : Int32} {v3 : Int32} {h : Hp} {q : Int32 × Hp}  (hf : f_D_cut v1 v2 v3 h = some q) (hq : wk_Q X (vC G) (some (.int q.1)) q.2 (some .int)) : WW X (vC G) h 0 [(0, .ref (cad G 0)), (1, .int v1), (2, .int v2), (3, .int v3)] [] := by
  unfold f_D_cut at hf
  refine wk_aload_n C 0 dD_cut_0 rfl rfl ?_
  refine wk_iload_n C 1 dD_cut_1 rfl rfl ?_
  obtain ⟨r2, h2, e_2, hf⟩ := bd_some hf
  refine wk_callV (As := [.int v1]) (rest := []) C lw_good cw_D_75 wi_D_find (m_D_find hI e_2) lz_0 (he_0 G (h 0)) rfl rfl rfl (Nat.le_of_ble_eq_true rfl) (by decide) dD_cut_2 ?_
  refine wk_astoreq C dD_cut_5 (by decide) ?_
  refine wk_aload_n C 0 dD_cut_7 rfl rfl ?_
  refine wk_iload_n C 3 dD_cut_8 rfl rfl ?_
  obtain ⟨r9, h9, e_9, hf⟩ := bd_some hf
  refine wk_callV (As := [.int v3]) (rest := []) C lw_good cw_D_75 wi_D_find (m_D_find hI e_9) lz_0 (he_0 G (h2 0)) rfl rfl rfl (Nat.le_of_ble_eq_true rfl) (by decide) dD_cut_9 ?_
  refine wk_astoreq C dD_cut_12 (by decide) ?_
  refine wk_aloadq C dD_cut_14 rfl ?_
  refine wk_ifnullq (tgt := 28) C dD_cut_16 rfl hf (fun e_16 hf => ?_) (fun j16 e_16 hf => ?_)
  · subst e_16
    refine wk_iconst C dD_cut_28 kiconst_m1 ?_
    cases hf
    exact wk_ireturn C hq dD_cut_29
  · subst e_16
    obtain ⟨k_j16, hf⟩ := chk_some hf
    refine wk_aloadq C dD_cut_19 rfl ?_
    refine wk_ifnullq (tgt := 28) C dD_cut_21 rfl hf (fun e_21 hf => ?_) (fun j21 e_21 hf => ?_)
    · subst e_21
      refine wk_iconst C dD_cut_28 kiconst_m1 ?_
      cases hf
      exact wk_ireturn C hq dD_cut_29
    · subst e_21
      obtain ⟨k_j21, hf⟩ := chk_some hf
      refine wk_iload_n C 2 dD_cut_24 rfl rfl ?_
      refine wk_if_ge (tgt := 30) C dD_cut_25 rfl hf (fun c_25 hf => ?_) (fun c_25 hf => ?_)
      · refine wk_aload_n C 0 dD_cut_30 rfl rfl ?_
        refine wk_aload C dD_cut_31 rfl ?_
        refine wk_aload_n C 0 dD_cut_33 rfl rfl ?_
        refine gf_D_49 C dD_cut_34 ?_
        refine wk_aload_n C 0 dD_cut_37 rfl rfl ?_
        refine gf_D_59 C dD_cut_38 ?_
        obtain ⟨r41, h41, e_41, hf⟩ := bd_some hf
        refine wk_callV (As := [.ref (cad G j16), .ref (cad G 29), .int (h9 0 9)]) (rest := []) C lw_good cw_D_99 wi_D_load (m_D_load hI k_j16 kd_29 e_41) lz_0 (he_0 G (h9 0)) rfl rfl rfl (Nat.le_of_ble_eq_true rfl) (by decide) dD_cut_41 ?_
        refine wk_if_ne (tgt := 50) C dD_cut_44 rfl hf (fun c_44 hf => ?_) (fun c_44 hf => ?_)
        · refine wk_aload_n C 0 dD_cut_50 rfl rfl ?_
          refine gf_D_49 C dD_cut_51 ?_
          obtain ⟨r54, h54, e_54, hf⟩ := bd_some hf
          refine wk_callV (As := []) (rest := []) C lw_good cw_D_118 wi_N_ahead (m_N_ahead hI kd_29 e_54) (lz_cNum kd_29) (he_cNum kd_29) rfl rfl rfl (Nat.le_of_ble_eq_true rfl) (by decide) dD_cut_54 ?_
          refine wk_iload_n C 2 dD_cut_57 rfl rfl ?_
          refine wk_ineg C dD_cut_58 ?_
          refine wk_icmp_gt (tgt := 69) C dD_cut_59 rfl hf (fun c_59 hf => ?_) (fun c_59 hf => ?_)
          · exact wk_go (b_D_cut_69 hI C k_j21 hf hq) (And.intro rfl (And.intro rfl (And.intro rfl trivial)))
          · refine wk_aload_n C 0 dD_cut_62 rfl rfl ?_
            refine gf_D_49 C dD_cut_63 ?_
            obtain ⟨r66, h66, e_66, hf⟩ := bd_some hf
            refine wk_callV (As := []) (rest := []) C lw_good cw_D_122 wi_N_clear (m_N_clear hI kd_29 e_66) (lz_cNum kd_29) (he_cNum kd_29) rfl rfl rfl (Nat.le_of_ble_eq_true rfl) (by decide) dD_cut_66 ?_
            exact wk_go (b_D_cut_69 hI C k_j21 hf hq) (And.intro rfl (And.intro rfl (And.intro rfl trivial)))
        · refine wk_bipush C dD_cut_47 kbipush_m41 ?_
          cases hf
          exact wk_ireturn C hq dD_cut_49
      · refine wk_iconst C dD_cut_28 kiconst_m1 ?_
        cases hf
        exact wk_ireturn C hq dD_cut_29
theorem m_D_cut {l : Launch} {G : cGt} (hI : wd_inj (vC G)) {v1 : Int32} {v2 : Int32} {v3 : Int32} {h h' : Hp} {r : Int32}  (hf : f_D_cut v1 v2 v3 h = some (r, h')) : wk_M l (vC G) yD_cut cD_cut 6 (some .int) 5 115 [.ref (cad G 0), .int v1, .int v2, .int v3] h (some (.int r)) h' :=
  wk_met hI (by decide +kernel) rfl (Nat.le_of_ble_eq_true rfl) (wk_cat1 rfl) (fun X hX C hq => by subst hX; exact b_D_cut hI C  hf hq)
set_option maxHeartbeats 4000000 in
set_option maxRecDepth 100000 in
theorem b_D_column_102 {X : wk_X} {G : cGt} (hI : wd_inj (vC G)) (C : wk_C X (vC G) cD_column RD 10 5 115) {v6 : Nat} {v7 : Int32} {v8 : Int32} {s0 : Int32} {h : Hp} {q : Int32 × Hp} (k_v6 : cLine v6) (hf : f_D_column_102 v6 v7 v8 s0 h = some q) (hq : wk_Q X (vC G) (some (.int q.1)) q.2 (some .int)) : WW X (vC G) h 102 [(0, .ref (cad G 0)), (6, .ref (cad G v6)), (7, .int v7), (8, .int v8)] [.int s0] := by
  unfold f_D_column_102 at hf
  refine wk_istore C dD_column_102 (by decide) ?_
  refine wk_iload C dD_column_104 rfl ?_
  refine wk_iload C dD_column_106 rfl ?_
  refine wk_icmp_ge (tgt := 116) C dD_column_108 rfl hf (fun c_108 hf => ?_) (fun c_108 hf => ?_)
  · refine wk_aload_n C 0 dD_column_116 rfl rfl ?_
    refine wk_aload_n C 0 dD_column_117 rfl rfl ?_
    refine gf_D_49 C dD_column_118 ?_
    refine wk_iload C dD_column_121 rfl ?_
    refine wk_iload C dD_column_123 rfl ?_
    refine wk_aload C dD_column_125 rfl ?_
    obtain ⟨r127, h127, e_127, hf⟩ := bd_some hf
    refine wk_callV (As := [.ref (cad G 29), .int s0, .int v7, .ref (cad G v6)]) (rest := []) C lw_good cw_D_129 wi_D_layOut (m_D_layOut hI kd_29 k_v6 e_127) lz_0 (he_0 G (h 0)) rfl rfl rfl (Nat.le_of_ble_eq_true rfl) (by decide) dD_column_127 ?_
    cases hf
    exact wk_ireturn C hq dD_column_130
  · refine wk_bipush C dD_column_111 kbipush_m40 ?_
    refine wk_goto (tgt := 130) C dD_column_113 rfl ?_
    cases hf
    exact wk_ireturn C hq dD_column_130
set_option maxHeartbeats 4000000 in
set_option maxRecDepth 100000 in
theorem b_D_column_72 {X : wk_X} {G : cGt} (hI : wd_inj (vC G)) (C : wk_C X (vC G) cD_column RD 10 5 115) {v2 : Int32} {v6 : Nat} {s0 : Int32} {h : Hp} {q : Int32 × Hp} (k_v6 : cLine v6) (hf : f_D_column_72 v2 v6 s0 h = some q) (hq : wk_Q X (vC G) (some (.int q.1)) q.2 (some .int)) : WW X (vC G) h 72 [(0, .ref (cad G 0)), (2, .int v2), (6, .ref (cad G v6))] [.int s0] := by
  unfold f_D_column_72 at hf
  refine wk_istore C dD_column_72 (by decide) ?_
  refine wk_aload_n C 0 dD_column_74 rfl rfl ?_
  refine gf_D_49 C dD_column_75 ?_
  refine wk_iload C dD_column_78 rfl ?_
  obtain ⟨r80, h80, e_80, hf⟩ := bd_some hf
  refine wk_callV (As := [.int s0]) (rest := []) C lw_good cw_D_136 wi_N_roundToPlaces (m_N_roundToPlaces hI kd_29 e_80) (lz_cNum kd_29) (he_cNum kd_29) rfl rfl rfl (Nat.le_of_ble_eq_true rfl) (by decide) dD_column_80 ?_
  refine wk_aload_n C 0 dD_column_83 rfl rfl ?_
  refine gf_D_49 C dD_column_84 ?_
  obtain ⟨r87, h87, e_87, hf⟩ := bd_some hf
  refine wk_callS (As := [.ref (cad G 29)]) (rest := []) C lw_good cw_D_125 ws_D_placesAhead (m_D_placesAhead hI kd_29 e_87) rfl rfl (Nat.le_of_ble_eq_true rfl) (by decide) dD_column_87 ?_
  refine wk_istore C dD_column_90 (by decide) ?_
  refine wk_iload_n C 2 dD_column_92 rfl rfl ?_
  refine wk_if_ge (tgt := 101) C dD_column_93 rfl hf (fun c_93 hf => ?_) (fun c_93 hf => ?_)
  · refine wk_iload_n C 2 dD_column_101 rfl rfl ?_
    exact wk_go (b_D_column_102 hI C k_v6 hf hq) (And.intro rfl (And.intro rfl (And.intro rfl (And.intro rfl trivial))))
  · refine wk_iload C dD_column_96 rfl ?_
    refine wk_goto (tgt := 102) C dD_column_98 rfl ?_
    exact wk_go (b_D_column_102 hI C k_v6 hf hq) (And.intro rfl (And.intro rfl (And.intro rfl (And.intro rfl trivial))))
set_option maxHeartbeats 4000000 in
set_option maxRecDepth 100000 in
theorem b_D_column {X : wk_X} {G : cGt} (hI : wd_inj (vC G)) (C : wk_C X (vC G) cD_column RD 10 5 115) {v1 : Int32} {v2 : Int32} {v3 : Int32} {v4 : Int32} {h : Hp} {q : Int32 × Hp}  (hf : f_D_column v1 v2 v3 v4 h = some q) (hq : wk_Q X (vC G) (some (.int q.1)) q.2 (some .int)) : WW X (vC G) h 0 [(0, .ref (cad G 0)), (1, .int v1), (2, .int v2), (3, .int v3), (4, .int v4)] [] := by
  unfold f_D_column at hf
  refine wk_aload_n C 0 dD_column_0 rfl rfl ?_
  refine wk_iload_n C 1 dD_column_1 rfl rfl ?_
  obtain ⟨r2, h2, e_2, hf⟩ := bd_some hf
  refine wk_callV (As := [.int v1]) (rest := []) C lw_good cw_D_75 wi_D_find (m_D_find hI e_2) lz_0 (he_0 G (h 0)) rfl rfl rfl (Nat.le_of_ble_eq_true rfl) (by decide) dD_column_2 ?_
  refine wk_astoreq C dD_column_5 (by decide) ?_
  refine wk_aload_n C 0 dD_column_7 rfl rfl ?_
  refine wk_iload C dD_column_8 rfl ?_
  obtain ⟨r10, h10, e_10, hf⟩ := bd_some hf
  refine wk_callV (As := [.int v4]) (rest := []) C lw_good cw_D_75 wi_D_find (m_D_find hI e_10) lz_0 (he_0 G (h2 0)) rfl rfl rfl (Nat.le_of_ble_eq_true rfl) (by decide) dD_column_10 ?_
  refine wk_astoreq C dD_column_13 (by decide) ?_
  refine wk_aloadq C dD_column_15 rfl ?_
  refine wk_ifnullq (tgt := 35) C dD_column_17 rfl hf (fun e_17 hf => ?_) (fun j17 e_17 hf => ?_)
  · subst e_17
    refine wk_iconst C dD_column_35 kiconst_m1 ?_
    cases hf
    exact wk_ireturn C hq dD_column_36
  · subst e_17
    obtain ⟨k_j17, hf⟩ := chk_some hf
    refine wk_aloadq C dD_column_20 rfl ?_
    refine wk_ifnullq (tgt := 35) C dD_column_22 rfl hf (fun e_22 hf => ?_) (fun j22 e_22 hf => ?_)
    · subst e_22
      refine wk_iconst C dD_column_35 kiconst_m1 ?_
      cases hf
      exact wk_ireturn C hq dD_column_36
    · subst e_22
      obtain ⟨k_j22, hf⟩ := chk_some hf
      refine wk_iload_n C 2 dD_column_25 rfl rfl ?_
      refine wk_iconst C dD_column_26 kiconst_m1 ?_
      refine wk_icmp_lt (tgt := 35) C dD_column_27 rfl hf (fun c_27 hf => ?_) (fun c_27 hf => ?_)
      · refine wk_iconst C dD_column_35 kiconst_m1 ?_
        cases hf
        exact wk_ireturn C hq dD_column_36
      · refine wk_iload_n C 3 dD_column_30 rfl rfl ?_
        refine wk_iconst C dD_column_31 kiconst_m1 ?_
        refine wk_icmp_ge (tgt := 37) C dD_column_32 rfl hf (fun c_32 hf => ?_) (fun c_32 hf => ?_)
        · refine wk_aload_n C 0 dD_column_37 rfl rfl ?_
          refine wk_aload C dD_column_38 rfl ?_
          refine wk_aload_n C 0 dD_column_40 rfl rfl ?_
          refine gf_D_49 C dD_column_41 ?_
          refine wk_aload_n C 0 dD_column_44 rfl rfl ?_
          refine gf_D_59 C dD_column_45 ?_
          obtain ⟨r48, h48, e_48, hf⟩ := bd_some hf
          refine wk_callV (As := [.ref (cad G j17), .ref (cad G 29), .int (h10 0 9)]) (rest := []) C lw_good cw_D_99 wi_D_load (m_D_load hI k_j17 kd_29 e_48) lz_0 (he_0 G (h10 0)) rfl rfl rfl (Nat.le_of_ble_eq_true rfl) (by decide) dD_column_48 ?_
          refine wk_if_ne (tgt := 57) C dD_column_51 rfl hf (fun c_51 hf => ?_) (fun c_51 hf => ?_)
          · refine wk_iload_n C 3 dD_column_57 rfl rfl ?_
            refine wk_if_ge (tgt := 71) C dD_column_58 rfl hf (fun c_58 hf => ?_) (fun c_58 hf => ?_)
            · refine wk_iload_n C 3 dD_column_71 rfl rfl ?_
              exact wk_go (b_D_column_72 hI C k_j22 hf hq) (And.intro rfl (And.intro rfl (And.intro rfl trivial)))
            · refine wk_aload_n C 0 dD_column_61 rfl rfl ?_
              refine gf_D_49 C dD_column_62 ?_
              obtain ⟨r65, h65, e_65, hf⟩ := bd_some hf
              refine wk_callV (As := []) (rest := []) C lw_good cw_D_133 wi_N_places (m_N_places hI kd_29 e_65) (lz_cNum kd_29) (he_cNum kd_29) rfl rfl rfl (Nat.le_of_ble_eq_true rfl) (by decide) dD_column_65 ?_
              refine wk_goto (tgt := 72) C dD_column_68 rfl ?_
              exact wk_go (b_D_column_72 hI C k_j22 hf hq) (And.intro rfl (And.intro rfl (And.intro rfl trivial)))
          · refine wk_bipush C dD_column_54 kbipush_m41 ?_
            cases hf
            exact wk_ireturn C hq dD_column_56
        · refine wk_iconst C dD_column_35 kiconst_m1 ?_
          cases hf
          exact wk_ireturn C hq dD_column_36
theorem m_D_column {l : Launch} {G : cGt} (hI : wd_inj (vC G)) {v1 : Int32} {v2 : Int32} {v3 : Int32} {v4 : Int32} {h h' : Hp} {r : Int32}  (hf : f_D_column v1 v2 v3 v4 h = some (r, h')) : wk_M l (vC G) yD_column cD_column 10 (some .int) 5 115 [.ref (cad G 0), .int v1, .int v2, .int v3, .int v4] h (some (.int r)) h' :=
  wk_met hI (by decide +kernel) rfl (Nat.le_of_ble_eq_true rfl) (wk_cat1 rfl) (fun X hX C hq => by subst hX; exact b_D_column hI C  hf hq)
set_option maxHeartbeats 4000000 in
set_option maxRecDepth 100000 in
theorem b_D_compare_81 {X : wk_X} {G : cGt} (hI : wd_inj (vC G)) (C : wk_C X (vC G) cD_compare RD 6 6 138) {v3 : Int32} {v4 : Nat} {v5 : Nat} {h : Hp} {q : Int32 × Hp} (k_v4 : cLine v4) (k_v5 : cLine v5) (hf : f_D_compare_81 v3 v4 v5 h = some q) (hq : wk_Q X (vC G) (some (.int q.1)) q.2 (some .int)) : WW X (vC G) h 81 [(3, .int v3), (4, .ref (cad G v4)), (5, .ref (cad G v5))] [] := by
  unfold f_D_compare_81 at hf
  refine wk_iload_n C 3 dD_compare_81 rfl rfl ?_
  refine wk_if_eq (tgt := 95) C dD_compare_82 rfl hf (fun c_82 hf => ?_) (fun c_82 hf => ?_)
  · refine wk_aload C dD_compare_95 rfl ?_
    refine wk_aload C dD_compare_97 rfl ?_
    obtain ⟨r99, h99, e_99, hf⟩ := bd_some hf
    refine wk_callS (As := [.ref (cad G v4), .ref (cad G v5)]) (rest := []) C lw_good cw_D_146 ws_D_looseOrder (m_D_looseOrder hI k_v4 k_v5 e_99) rfl rfl (Nat.le_of_ble_eq_true rfl) (by decide) dD_compare_99 ?_
    obtain ⟨r102, h102, e_102, hf⟩ := bd_some hf
    refine wk_callS (As := [.int r99]) (rest := []) C lw_good cw_D_139 ws_D_standing (m_D_standing hI e_102) rfl rfl (Nat.le_of_ble_eq_true rfl) (by decide) dD_compare_102 ?_
    cases hf
    exact wk_ireturn C hq dD_compare_105
  · refine wk_aload C dD_compare_85 rfl ?_
    refine wk_aload C dD_compare_87 rfl ?_
    obtain ⟨r89, h89, e_89, hf⟩ := bd_some hf
    refine wk_callS (As := [.ref (cad G v4), .ref (cad G v5)]) (rest := []) C lw_good cw_D_142 ws_D_strictOrder (m_D_strictOrder hI k_v4 k_v5 e_89) rfl rfl (Nat.le_of_ble_eq_true rfl) (by decide) dD_compare_89 ?_
    refine wk_goto (tgt := 102) C dD_compare_92 rfl ?_
    obtain ⟨r102, h102, e_102, hf⟩ := bd_some hf
    refine wk_callS (As := [.int r89]) (rest := []) C lw_good cw_D_139 ws_D_standing (m_D_standing hI e_102) rfl rfl (Nat.le_of_ble_eq_true rfl) (by decide) dD_compare_102 ?_
    cases hf
    exact wk_ireturn C hq dD_compare_105
set_option maxHeartbeats 4000000 in
set_option maxRecDepth 100000 in
theorem b_D_compare {X : wk_X} {G : cGt} (hI : wd_inj (vC G)) (C : wk_C X (vC G) cD_compare RD 6 6 138) {v1 : Int32} {v2 : Int32} {v3 : Int32} {h : Hp} {q : Int32 × Hp}  (hf : f_D_compare v1 v2 v3 h = some q) (hq : wk_Q X (vC G) (some (.int q.1)) q.2 (some .int)) : WW X (vC G) h 0 [(0, .ref (cad G 0)), (1, .int v1), (2, .int v2), (3, .int v3)] [] := by
  unfold f_D_compare at hf
  refine wk_aload_n C 0 dD_compare_0 rfl rfl ?_
  refine wk_iload_n C 1 dD_compare_1 rfl rfl ?_
  obtain ⟨r2, h2, e_2, hf⟩ := bd_some hf
  refine wk_callV (As := [.int v1]) (rest := []) C lw_good cw_D_75 wi_D_find (m_D_find hI e_2) lz_0 (he_0 G (h 0)) rfl rfl rfl (Nat.le_of_ble_eq_true rfl) (by decide) dD_compare_2 ?_
  refine wk_astoreq C dD_compare_5 (by decide) ?_
  refine wk_aload_n C 0 dD_compare_7 rfl rfl ?_
  refine wk_iload_n C 2 dD_compare_8 rfl rfl ?_
  obtain ⟨r9, h9, e_9, hf⟩ := bd_some hf
  refine wk_callV (As := [.int v2]) (rest := []) C lw_good cw_D_75 wi_D_find (m_D_find hI e_9) lz_0 (he_0 G (h2 0)) rfl rfl rfl (Nat.le_of_ble_eq_true rfl) (by decide) dD_compare_9 ?_
  refine wk_astoreq C dD_compare_12 (by decide) ?_
  refine wk_aloadq C dD_compare_14 rfl ?_
  refine wk_ifnullq (tgt := 24) C dD_compare_16 rfl hf (fun e_16 hf => ?_) (fun j16 e_16 hf => ?_)
  · subst e_16
    refine wk_iconst C dD_compare_24 kiconst_m1 ?_
    cases hf
    exact wk_ireturn C hq dD_compare_25
  · subst e_16
    obtain ⟨k_j16, hf⟩ := chk_some hf
    refine wk_aloadq C dD_compare_19 rfl ?_
    refine wk_ifnonnullq (tgt := 26) C dD_compare_21 rfl hf (fun j21 e_21 hf => ?_) (fun e_21 hf => ?_)
    · subst e_21
      obtain ⟨k_j21, hf⟩ := chk_some hf
      refine wk_iload_n C 3 dD_compare_26 rfl rfl ?_
      refine wk_if_ne (tgt := 81) C dD_compare_27 rfl hf (fun c_27 hf => ?_) (fun c_27 hf => ?_)
      · exact wk_go (b_D_compare_81 hI C k_j16 k_j21 hf hq) (And.intro rfl (And.intro rfl (And.intro rfl trivial)))
      · refine wk_aload_n C 0 dD_compare_30 rfl rfl ?_
        refine wk_aload C dD_compare_31 rfl ?_
        refine wk_aload C dD_compare_33 rfl ?_
        refine wk_aload_n C 0 dD_compare_35 rfl rfl ?_
        refine gf_D_59 C dD_compare_36 ?_
        refine wk_aload_n C 0 dD_compare_39 rfl rfl ?_
        refine gf_D_63 C dD_compare_40 ?_
        refine wk_isub C dD_compare_43 ?_
        obtain ⟨r44, h44, e_44, hf⟩ := bd_some hf
        refine wk_callV (As := [.ref (cad G j16), .ref (cad G j21), .int ((h9 0 9) - (h9 0 10))]) (rest := []) C lw_good cw_D_87 wi_D_loadBoth (m_D_loadBoth hI k_j16 k_j21 e_44) lz_0 (he_0 G (h9 0)) rfl rfl rfl (Nat.le_of_ble_eq_true rfl) (by decide) dD_compare_44 ?_
        refine wk_if_eq (tgt := 81) C dD_compare_47 rfl hf (fun c_47 hf => ?_) (fun c_47 hf => ?_)
        · exact wk_go (b_D_compare_81 hI C k_j16 k_j21 hf hq) (And.intro rfl (And.intro rfl (And.intro rfl trivial)))
        · refine wk_aload_n C 0 dD_compare_50 rfl rfl ?_
          refine gf_D_42 C dD_compare_51 ?_
          refine wk_aload_n C 0 dD_compare_54 rfl rfl ?_
          refine gf_D_49 C dD_compare_55 ?_
          refine wk_aload_n C 0 dD_compare_58 rfl rfl ?_
          refine gf_D_53 C dD_compare_59 ?_
          refine wk_iconst C dD_compare_62 kiconst_1 ?_
          refine wk_aload_n C 0 dD_compare_63 rfl rfl ?_
          refine gf_D_56 C dD_compare_64 ?_
          obtain ⟨r67, h67, e_67, hf⟩ := bd_some hf
          refine wk_callV (As := [.ref (cad G 29), .ref (cad G 31), .int 1, .ref (cad G 33)]) (rest := []) C lw_good cw_D_114 wi_K_sum (m_K_sum hI kd_29 kd_31 kd_33 e_67) lz_28 (he_28 G (h44 28)) rfl rfl rfl (Nat.le_of_ble_eq_true rfl) (by decide) dD_compare_67 ?_
          refine wk_aload_n C 0 dD_compare_70 rfl rfl ?_
          refine gf_D_56 C dD_compare_71 ?_
          refine gf_D_103 C kd_33 dD_compare_74 ?_
          obtain ⟨r77, h77, e_77, hf⟩ := bd_some hf
          refine wk_callS (As := [.int (h67 33 3)]) (rest := []) C lw_good cw_D_139 ws_D_standing (m_D_standing hI e_77) rfl rfl (Nat.le_of_ble_eq_true rfl) (by decide) dD_compare_77 ?_
          cases hf
          exact wk_ireturn C hq dD_compare_80
    · subst e_21
      refine wk_iconst C dD_compare_24 kiconst_m1 ?_
      cases hf
      exact wk_ireturn C hq dD_compare_25
theorem m_D_compare {l : Launch} {G : cGt} (hI : wd_inj (vC G)) {v1 : Int32} {v2 : Int32} {v3 : Int32} {h h' : Hp} {r : Int32}  (hf : f_D_compare v1 v2 v3 h = some (r, h')) : wk_M l (vC G) yD_compare cD_compare 6 (some .int) 6 138 [.ref (cad G 0), .int v1, .int v2, .int v3] h (some (.int r)) h' :=
  wk_met hI (by decide +kernel) rfl (Nat.le_of_ble_eq_true rfl) (wk_cat1 rfl) (fun X hX C hq => by subst hX; exact b_D_compare hI C  hf hq)
set_option maxHeartbeats 4000000 in
set_option maxRecDepth 100000 in
theorem b_D_whole {X : wk_X} {G : cGt} (hI : wd_inj (vC G)) (C : wk_C X (vC G) cD_whole RD 3 5 115) {v1 : Int32} {h : Hp} {q : Int32 × Hp}  (hf : f_D_whole v1 h = some q) (hq : wk_Q X (vC G) (some (.int q.1)) q.2 (some .int)) : WW X (vC G) h 0 [(0, .ref (cad G 0)), (1, .int v1)] [] := by
  unfold f_D_whole at hf
  refine wk_aload_n C 0 dD_whole_0 rfl rfl ?_
  refine wk_iload_n C 1 dD_whole_1 rfl rfl ?_
  obtain ⟨r2, h2, e_2, hf⟩ := bd_some hf
  refine wk_callV (As := [.int v1]) (rest := []) C lw_good cw_D_75 wi_D_find (m_D_find hI e_2) lz_0 (he_0 G (h 0)) rfl rfl rfl (Nat.le_of_ble_eq_true rfl) (by decide) dD_whole_2 ?_
  refine wk_astore_nq C 2 dD_whole_5 rfl (by decide) ?_
  refine wk_aload_nq C 2 dD_whole_6 rfl rfl ?_
  refine wk_ifnonnullq (tgt := 13) C dD_whole_7 rfl hf (fun j7 e_7 hf => ?_) (fun e_7 hf => ?_)
  · subst e_7
    obtain ⟨k_j7, hf⟩ := chk_some hf
    refine wk_aload_n C 0 dD_whole_13 rfl rfl ?_
    refine wk_aload_n C 2 dD_whole_14 rfl rfl ?_
    refine wk_aload_n C 0 dD_whole_15 rfl rfl ?_
    refine gf_D_49 C dD_whole_16 ?_
    refine wk_aload_n C 0 dD_whole_19 rfl rfl ?_
    refine gf_D_59 C dD_whole_20 ?_
    obtain ⟨r23, h23, e_23, hf⟩ := bd_some hf
    refine wk_callV (As := [.ref (cad G j7), .ref (cad G 29), .int (h2 0 9)]) (rest := []) C lw_good cw_D_99 wi_D_load (m_D_load hI k_j7 kd_29 e_23) lz_0 (he_0 G (h2 0)) rfl rfl rfl (Nat.le_of_ble_eq_true rfl) (by decide) dD_whole_23 ?_
    refine wk_if_eq (tgt := 39) C dD_whole_26 rfl hf (fun c_26 hf => ?_) (fun c_26 hf => ?_)
    · refine wk_ldc C dD_whole_39 wc_D_153 ?_
      cases hf
      exact wk_ireturn C hq dD_whole_41
    · refine wk_aload_n C 0 dD_whole_29 rfl rfl ?_
      refine gf_D_49 C dD_whole_30 ?_
      obtain ⟨r33, h33, e_33, hf⟩ := bd_some hf
      refine wk_callV (As := []) (rest := []) C lw_good cw_D_150 wi_N_wholeValue (m_N_wholeValue hI kd_29 e_33) (lz_cNum kd_29) (he_cNum kd_29) rfl rfl rfl (Nat.le_of_ble_eq_true rfl) (by decide) dD_whole_33 ?_
      refine wk_goto (tgt := 41) C dD_whole_36 rfl ?_
      cases hf
      exact wk_ireturn C hq dD_whole_41
  · subst e_7
    refine wk_ldc C dD_whole_10 wc_D_149 ?_
    cases hf
    exact wk_ireturn C hq dD_whole_12
theorem m_D_whole {l : Launch} {G : cGt} (hI : wd_inj (vC G)) {v1 : Int32} {h h' : Hp} {r : Int32}  (hf : f_D_whole v1 h = some (r, h')) : wk_M l (vC G) yD_whole cD_whole 3 (some .int) 5 115 [.ref (cad G 0), .int v1] h (some (.int r)) h' :=
  wk_met hI (by decide +kernel) rfl (Nat.le_of_ble_eq_true rfl) (wk_cat1 rfl) (fun X hX C hq => by subst hX; exact b_D_whole hI C  hf hq)
set_option maxHeartbeats 4000000 in
set_option maxRecDepth 100000 in
theorem b_D_about {X : wk_X} {G : cGt} (hI : wd_inj (vC G)) (C : wk_C X (vC G) cD_about RD 4 4 92) {v1 : Int32} {v2 : Int32} {h : Hp} {q : Int32 × Hp}  (hf : f_D_about v1 v2 h = some q) (hq : wk_Q X (vC G) (some (.int q.1)) q.2 (some .int)) : WW X (vC G) h 0 [(0, .ref (cad G 0)), (1, .int v1), (2, .int v2)] [] := by
  unfold f_D_about at hf
  refine wk_aload_n C 0 dD_about_0 rfl rfl ?_
  refine wk_iload_n C 1 dD_about_1 rfl rfl ?_
  obtain ⟨r2, h2, e_2, hf⟩ := bd_some hf
  refine wk_callV (As := [.int v1]) (rest := []) C lw_good cw_D_75 wi_D_find (m_D_find hI e_2) lz_0 (he_0 G (h 0)) rfl rfl rfl (Nat.le_of_ble_eq_true rfl) (by decide) dD_about_2 ?_
  refine wk_astore_nq C 3 dD_about_5 rfl (by decide) ?_
  refine wk_aload_nq C 3 dD_about_6 rfl rfl ?_
  refine wk_ifnullq (tgt := 19) C dD_about_7 rfl hf (fun e_7 hf => ?_) (fun j7 e_7 hf => ?_)
  · subst e_7
    refine wk_iconst C dD_about_19 kiconst_m1 ?_
    cases hf
    exact wk_ireturn C hq dD_about_20
  · subst e_7
    obtain ⟨k_j7, hf⟩ := chk_some hf
    refine wk_iload_n C 2 dD_about_10 rfl rfl ?_
    refine wk_if_lt (tgt := 19) C dD_about_11 rfl hf (fun c_11 hf => ?_) (fun c_11 hf => ?_)
    · refine wk_iconst C dD_about_19 kiconst_m1 ?_
      cases hf
      exact wk_ireturn C hq dD_about_20
    · refine wk_iload_n C 2 dD_about_14 rfl rfl ?_
      refine wk_iconst C dD_about_15 kiconst_3 ?_
      refine wk_icmp_le (tgt := 21) C dD_about_16 rfl hf (fun c_16 hf => ?_) (fun c_16 hf => ?_)
      · refine wk_aload_n C 0 dD_about_21 rfl rfl ?_
        refine gf_D_28 C dD_about_22 ?_
        refine wk_aload_n C 3 dD_about_25 rfl rfl ?_
        refine wk_aload_n C 0 dD_about_26 rfl rfl ?_
        refine gf_D_49 C dD_about_27 ?_
        obtain ⟨r30, h30, e_30, hf⟩ := bd_some hf
        refine wk_callV (As := [.ref (cad G j7), .ref (cad G 29)]) (rest := []) C lw_good cw_D_154 wi_R_read (m_R_read hI k_j7 kd_29 e_30) lz_26 (he_26 G (h2 26)) rfl rfl rfl (Nat.le_of_ble_eq_true rfl) (by decide) dD_about_30 ?_
        refine wk_if_ne (tgt := 38) C dD_about_33 rfl hf (fun c_33 hf => ?_) (fun c_33 hf => ?_)
        · refine wk_iload_n C 2 dD_about_38 rfl rfl ?_
          refine wk_iconst C dD_about_39 kiconst_1 ?_
          refine wk_icmp_ne (tgt := 51) C dD_about_40 rfl hf (fun c_40 hf => ?_) (fun c_40 hf => ?_)
          · refine wk_iload_n C 2 dD_about_51 rfl rfl ?_
            refine wk_iconst C dD_about_52 kiconst_2 ?_
            refine wk_icmp_ne (tgt := 64) C dD_about_53 rfl hf (fun c_53 hf => ?_) (fun c_53 hf => ?_)
            · refine wk_iload_n C 2 dD_about_64 rfl rfl ?_
              refine wk_if_eq (tgt := 78) C dD_about_65 rfl hf (fun c_65 hf => ?_) (fun c_65 hf => ?_)
              · refine wk_iconst C dD_about_78 kiconst_1 ?_
                refine wk_goto (tgt := 83) C dD_about_79 rfl ?_
                cases hf
                exact wk_ireturn C hq dD_about_83
              · refine wk_aload_n C 0 dD_about_68 rfl rfl ?_
                refine gf_D_49 C dD_about_69 ?_
                refine gf_D_103 C kd_29 dD_about_72 ?_
                refine wk_if_ge (tgt := 82) C dD_about_75 rfl hf (fun c_75 hf => ?_) (fun c_75 hf => ?_)
                · refine wk_iconst C dD_about_82 kiconst_0 ?_
                  cases hf
                  exact wk_ireturn C hq dD_about_83
                · refine wk_iconst C dD_about_78 kiconst_1 ?_
                  refine wk_goto (tgt := 83) C dD_about_79 rfl ?_
                  cases hf
                  exact wk_ireturn C hq dD_about_83
            · refine wk_aload_n C 0 dD_about_56 rfl rfl ?_
              refine gf_D_49 C dD_about_57 ?_
              obtain ⟨r60, h60, e_60, hf⟩ := bd_some hf
              refine wk_callV (As := []) (rest := []) C lw_good cw_D_161 wi_N_firstPower (m_N_firstPower hI kd_29 e_60) (lz_cNum kd_29) (he_cNum kd_29) rfl rfl rfl (Nat.le_of_ble_eq_true rfl) (by decide) dD_about_60 ?_
              cases hf
              exact wk_ireturn C hq dD_about_63
          · refine wk_aload_n C 0 dD_about_43 rfl rfl ?_
            refine gf_D_49 C dD_about_44 ?_
            refine gf_D_158 C kd_29 dD_about_47 ?_
            cases hf
            exact wk_ireturn C hq dD_about_50
        · refine wk_iconst C dD_about_36 kiconst_0 ?_
          cases hf
          exact wk_ireturn C hq dD_about_37
      · refine wk_iconst C dD_about_19 kiconst_m1 ?_
        cases hf
        exact wk_ireturn C hq dD_about_20
theorem m_D_about {l : Launch} {G : cGt} (hI : wd_inj (vC G)) {v1 : Int32} {v2 : Int32} {h h' : Hp} {r : Int32}  (hf : f_D_about v1 v2 h = some (r, h')) : wk_M l (vC G) yD_about cD_about 4 (some .int) 4 92 [.ref (cad G 0), .int v1, .int v2] h (some (.int r)) h' :=
  wk_met hI (by decide +kernel) rfl (Nat.le_of_ble_eq_true rfl) (wk_cat1 rfl) (fun X hX C hq => by subst hX; exact b_D_about hI C  hf hq)
