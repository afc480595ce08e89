theorem dX4_init_0 : decode cX4_init 0 = .ok (.aload_n 0, 1) := by decide +kernel
theorem dX4_init_1 : decode cX4_init 1 = .ok (.invokespecial 3, 3) := by decide +kernel
theorem dX4_init_4 : decode cX4_init 4 = .ok (.aload_n 0, 1) := by decide +kernel
theorem dX4_init_5 : decode cX4_init 5 = .ok (.sipush 600, 3) := by decide +kernel
theorem dX4_init_8 : decode cX4_init 8 = .ok (.newarray .byte, 2) := by decide +kernel
theorem dX4_init_10 : decode cX4_init 10 = .ok (.putfield 9, 3) := by decide +kernel
theorem dX4_init_13 : decode cX4_init 13 = .ok (.aload_n 0, 1) := by decide +kernel
theorem dX4_init_14 : decode cX4_init 14 = .ok (.iconst 0, 1) := by decide +kernel
theorem dX4_init_15 : decode cX4_init 15 = .ok (.putfield 13, 3) := by decide +kernel
theorem dX4_init_18 : decode cX4_init 18 = .ok (.aload_n 0, 1) := by decide +kernel
theorem dX4_init_19 : decode cX4_init 19 = .ok (.new 17, 3) := by decide +kernel
theorem dX4_init_22 : decode cX4_init 22 = .ok (.dup, 1) := by decide +kernel
theorem dX4_init_23 : decode cX4_init 23 = .ok (.invokespecial 19, 3) := by decide +kernel
theorem dX4_init_26 : decode cX4_init 26 = .ok (.putfield 20, 3) := by decide +kernel
theorem dX4_init_29 : decode cX4_init 29 = .ok (.aload_n 0, 1) := by decide +kernel
theorem dX4_init_30 : decode cX4_init 30 = .ok (.new 24, 3) := by decide +kernel
theorem dX4_init_33 : decode cX4_init 33 = .ok (.dup, 1) := by decide +kernel
theorem dX4_init_34 : decode cX4_init 34 = .ok (.invokespecial 26, 3) := by decide +kernel
theorem dX4_init_37 : decode cX4_init 37 = .ok (.putfield 27, 3) := by decide +kernel
theorem dX4_init_40 : decode cX4_init 40 = .ok (.aload_n 0, 1) := by decide +kernel
theorem dX4_init_41 : decode cX4_init 41 = .ok (.new 24, 3) := by decide +kernel
theorem dX4_init_44 : decode cX4_init 44 = .ok (.dup, 1) := by decide +kernel
theorem dX4_init_45 : decode cX4_init 45 = .ok (.invokespecial 26, 3) := by decide +kernel
theorem dX4_init_48 : decode cX4_init 48 = .ok (.putfield 31, 3) := by decide +kernel
theorem dX4_init_51 : decode cX4_init 51 = .ok (.aload_n 0, 1) := by decide +kernel
theorem dX4_init_52 : decode cX4_init 52 = .ok (.new 34, 3) := by decide +kernel
theorem dX4_init_55 : decode cX4_init 55 = .ok (.dup, 1) := by decide +kernel
theorem dX4_init_56 : decode cX4_init 56 = .ok (.invokespecial 36, 3) := by decide +kernel
theorem dX4_init_59 : decode cX4_init 59 = .ok (.putfield 37, 3) := by decide +kernel
theorem dX4_init_62 : decode cX4_init 62 = .ok (.aload_n 0, 1) := by decide +kernel
theorem dX4_init_63 : decode cX4_init 63 = .ok (.new 41, 3) := by decide +kernel
theorem dX4_init_66 : decode cX4_init 66 = .ok (.dup, 1) := by decide +kernel
theorem dX4_init_67 : decode cX4_init 67 = .ok (.invokespecial 43, 3) := by decide +kernel
theorem dX4_init_70 : decode cX4_init 70 = .ok (.putfield 44, 3) := by decide +kernel
theorem dX4_init_73 : decode cX4_init 73 = .ok (.aload_n 0, 1) := by decide +kernel
theorem dX4_init_74 : decode cX4_init 74 = .ok (.bipush 12, 2) := by decide +kernel
theorem dX4_init_76 : decode cX4_init 76 = .ok (.anewarray 34, 3) := by decide +kernel
theorem dX4_init_79 : decode cX4_init 79 = .ok (.putfield 48, 3) := by decide +kernel
theorem dX4_init_82 : decode cX4_init 82 = .ok (.aload_n 0, 1) := by decide +kernel
theorem dX4_init_83 : decode cX4_init 83 = .ok (.iconst 0, 1) := by decide +kernel
theorem dX4_init_84 : decode cX4_init 84 = .ok (.putfield 52, 3) := by decide +kernel
theorem dX4_init_87 : decode cX4_init 87 = .ok (.aload_n 0, 1) := by decide +kernel
theorem dX4_init_88 : decode cX4_init 88 = .ok (.iconst 0, 1) := by decide +kernel
theorem dX4_init_89 : decode cX4_init 89 = .ok (.putfield 55, 3) := by decide +kernel
theorem dX4_init_92 : decode cX4_init 92 = .ok (.aload_n 0, 1) := by decide +kernel
theorem dX4_init_93 : decode cX4_init 93 = .ok (.iconst 2, 1) := by decide +kernel
theorem dX4_init_94 : decode cX4_init 94 = .ok (.anewarray 34, 3) := by decide +kernel
theorem dX4_init_97 : decode cX4_init 97 = .ok (.putfield 58, 3) := by decide +kernel
theorem dX4_init_100 : decode cX4_init 100 = .ok (.aload_n 0, 1) := by decide +kernel
theorem dX4_init_101 : decode cX4_init 101 = .ok (.iconst 2, 1) := by decide +kernel
theorem dX4_init_102 : decode cX4_init 102 = .ok (.newarray .boolean, 2) := by decide +kernel
theorem dX4_init_104 : decode cX4_init 104 = .ok (.putfield 61, 3) := by decide +kernel
theorem dX4_init_107 : decode cX4_init 107 = .ok (.aload_n 0, 1) := by decide +kernel
theorem dX4_init_108 : decode cX4_init 108 = .ok (.aconst_null, 1) := by decide +kernel
theorem dX4_init_109 : decode cX4_init 109 = .ok (.putfield 65, 3) := by decide +kernel
theorem dX4_init_112 : decode cX4_init 112 = .ok (.return_, 1) := by decide +kernel
theorem dX4_feed_0 : decode cX4_feed 0 = .ok (.aload_n 0, 1) := by decide +kernel
theorem dX4_feed_1 : decode cX4_feed 1 = .ok (.getfield 13, 3) := by decide +kernel
theorem dX4_feed_4 : decode cX4_feed 4 = .ok (.sipush 580, 3) := by decide +kernel
theorem dX4_feed_7 : decode cX4_feed 7 = .ok (.if_icmp .le 5, 3) := by decide +kernel
theorem dX4_feed_10 : decode cX4_feed 10 = .ok (.iconst (-1), 1) := by decide +kernel
theorem dX4_feed_11 : decode cX4_feed 11 = .ok (.ireturn, 1) := by decide +kernel
theorem dX4_feed_12 : decode cX4_feed 12 = .ok (.aload_n 0, 1) := by decide +kernel
theorem dX4_feed_13 : decode cX4_feed 13 = .ok (.iload_n 1, 1) := by decide +kernel
theorem dX4_feed_14 : decode cX4_feed 14 = .ok (.invokevirtual 68, 3) := by decide +kernel
theorem dX4_feed_17 : decode cX4_feed 17 = .ok (.aload_n 0, 1) := by decide +kernel
theorem dX4_feed_18 : decode cX4_feed 18 = .ok (.iload_n 2, 1) := by decide +kernel
theorem dX4_feed_19 : decode cX4_feed 19 = .ok (.invokevirtual 68, 3) := by decide +kernel
theorem dX4_feed_22 : decode cX4_feed 22 = .ok (.aload_n 0, 1) := by decide +kernel
theorem dX4_feed_23 : decode cX4_feed 23 = .ok (.iload_n 3, 1) := by decide +kernel
theorem dX4_feed_24 : decode cX4_feed 24 = .ok (.invokevirtual 68, 3) := by decide +kernel
theorem dX4_feed_27 : decode cX4_feed 27 = .ok (.aload_n 0, 1) := by decide +kernel
theorem dX4_feed_28 : decode cX4_feed 28 = .ok (.iload 4, 2) := by decide +kernel
theorem dX4_feed_30 : decode cX4_feed 30 = .ok (.invokevirtual 68, 3) := by decide +kernel
theorem dX4_feed_33 : decode cX4_feed 33 = .ok (.aload_n 0, 1) := by decide +kernel
theorem dX4_feed_34 : decode cX4_feed 34 = .ok (.iload 5, 2) := by decide +kernel
theorem dX4_feed_36 : decode cX4_feed 36 = .ok (.invokevirtual 68, 3) := by decide +kernel
theorem dX4_feed_39 : decode cX4_feed 39 = .ok (.aload_n 0, 1) := by decide +kernel
theorem dX4_feed_40 : decode cX4_feed 40 = .ok (.getfield 13, 3) := by decide +kernel
theorem dX4_feed_43 : decode cX4_feed 43 = .ok (.ireturn, 1) := by decide +kernel
theorem dX4_wall_0 : decode cX4_wall 0 = .ok (.iload_n 1, 1) := by decide +kernel
theorem dX4_wall_1 : decode cX4_wall 1 = .ok (.ifCond .lt 11, 3) := by decide +kernel
theorem dX4_wall_4 : decode cX4_wall 4 = .ok (.iload_n 1, 1) := by decide +kernel
theorem dX4_wall_5 : decode cX4_wall 5 = .ok (.aload_n 0, 1) := by decide +kernel
theorem dX4_wall_6 : decode cX4_wall 6 = .ok (.getfield 13, 3) := by decide +kernel
theorem dX4_wall_9 : decode cX4_wall 9 = .ok (.if_icmp .le 5, 3) := by decide +kernel
theorem dX4_wall_12 : decode cX4_wall 12 = .ok (.iconst (-1), 1) := by decide +kernel
theorem dX4_wall_13 : decode cX4_wall 13 = .ok (.ireturn, 1) := by decide +kernel
theorem dX4_wall_14 : decode cX4_wall 14 = .ok (.aload_n 0, 1) := by decide +kernel
theorem dX4_wall_15 : decode cX4_wall 15 = .ok (.iconst 0, 1) := by decide +kernel
theorem dX4_wall_16 : decode cX4_wall 16 = .ok (.putfield 13, 3) := by decide +kernel
theorem dX4_wall_19 : decode cX4_wall 19 = .ok (.aload_n 0, 1) := by decide +kernel
theorem dX4_wall_20 : decode cX4_wall 20 = .ok (.getfield 20, 3) := by decide +kernel
theorem dX4_wall_23 : decode cX4_wall 23 = .ok (.aload_n 0, 1) := by decide +kernel
theorem dX4_wall_24 : decode cX4_wall 24 = .ok (.getfield 9, 3) := by decide +kernel
theorem dX4_wall_27 : decode cX4_wall 27 = .ok (.iload_n 1, 1) := by decide +kernel
theorem dX4_wall_28 : decode cX4_wall 28 = .ok (.aload_n 0, 1) := by decide +kernel
theorem dX4_wall_29 : decode cX4_wall 29 = .ok (.getfield 31, 3) := by decide +kernel
theorem dX4_wall_32 : decode cX4_wall 32 = .ok (.invokevirtual 72, 3) := by decide +kernel
theorem dX4_wall_35 : decode cX4_wall 35 = .ok (.istore_n 2, 1) := by decide +kernel
theorem dX4_wall_36 : decode cX4_wall 36 = .ok (.iload_n 2, 1) := by decide +kernel
theorem dX4_wall_37 : decode cX4_wall 37 = .ok (.ifCond .eq 8, 3) := by decide +kernel
theorem dX4_wall_40 : decode cX4_wall 40 = .ok (.bipush (-2), 2) := by decide +kernel
theorem dX4_wall_42 : decode cX4_wall 42 = .ok (.iload_n 2, 1) := by decide +kernel
theorem dX4_wall_43 : decode cX4_wall 43 = .ok (.isub, 1) := by decide +kernel
theorem dX4_wall_44 : decode cX4_wall 44 = .ok (.ireturn, 1) := by decide +kernel
theorem dX4_wall_45 : decode cX4_wall 45 = .ok (.aload_n 0, 1) := by decide +kernel
theorem dX4_wall_46 : decode cX4_wall 46 = .ok (.getfield 31, 3) := by decide +kernel
theorem dX4_wall_49 : decode cX4_wall 49 = .ok (.astore_n 3, 1) := by decide +kernel
theorem dX4_wall_50 : decode cX4_wall 50 = .ok (.aload_n 0, 1) := by decide +kernel
theorem dX4_wall_51 : decode cX4_wall 51 = .ok (.aload_n 0, 1) := by decide +kernel
theorem dX4_wall_52 : decode cX4_wall 52 = .ok (.getfield 27, 3) := by decide +kernel
theorem dX4_wall_55 : decode cX4_wall 55 = .ok (.putfield 31, 3) := by decide +kernel
theorem dX4_wall_58 : decode cX4_wall 58 = .ok (.aload_n 0, 1) := by decide +kernel
theorem dX4_wall_59 : decode cX4_wall 59 = .ok (.aload_n 3, 1) := by decide +kernel
theorem dX4_wall_60 : decode cX4_wall 60 = .ok (.putfield 27, 3) := by decide +kernel
theorem dX4_wall_63 : decode cX4_wall 63 = .ok (.aload_n 0, 1) := by decide +kernel
theorem dX4_wall_64 : decode cX4_wall 64 = .ok (.getfield 37, 3) := by decide +kernel
theorem dX4_wall_67 : decode cX4_wall 67 = .ok (.aload_n 0, 1) := by decide +kernel
theorem dX4_wall_68 : decode cX4_wall 68 = .ok (.getfield 27, 3) := by decide +kernel
theorem dX4_wall_71 : decode cX4_wall 71 = .ok (.invokevirtual 76, 3) := by decide +kernel
theorem dX4_wall_74 : decode cX4_wall 74 = .ok (.aload_n 0, 1) := by decide +kernel
theorem dX4_wall_75 : decode cX4_wall 75 = .ok (.iconst 0, 1) := by decide +kernel
theorem dX4_wall_76 : decode cX4_wall 76 = .ok (.putfield 55, 3) := by decide +kernel
theorem dX4_wall_79 : decode cX4_wall 79 = .ok (.iconst 0, 1) := by decide +kernel
theorem dX4_wall_80 : decode cX4_wall 80 = .ok (.istore 4, 2) := by decide +kernel
theorem dX4_wall_82 : decode cX4_wall 82 = .ok (.iload 4, 2) := by decide +kernel
theorem dX4_wall_84 : decode cX4_wall 84 = .ok (.iconst 2, 1) := by decide +kernel
theorem dX4_wall_85 : decode cX4_wall 85 = .ok (.if_icmp .ge 17, 3) := by decide +kernel
theorem dX4_wall_88 : decode cX4_wall 88 = .ok (.aload_n 0, 1) := by decide +kernel
theorem dX4_wall_89 : decode cX4_wall 89 = .ok (.getfield 61, 3) := by decide +kernel
theorem dX4_wall_92 : decode cX4_wall 92 = .ok (.iload 4, 2) := by decide +kernel
theorem dX4_wall_94 : decode cX4_wall 94 = .ok (.iconst 0, 1) := by decide +kernel
theorem dX4_wall_95 : decode cX4_wall 95 = .ok (.bastore, 1) := by decide +kernel
theorem dX4_wall_96 : decode cX4_wall 96 = .ok (.iinc 4 1, 3) := by decide +kernel
theorem dX4_wall_99 : decode cX4_wall 99 = .ok (.goto (-17), 3) := by decide +kernel
theorem dX4_wall_102 : decode cX4_wall 102 = .ok (.aload_n 0, 1) := by decide +kernel
theorem dX4_wall_103 : decode cX4_wall 103 = .ok (.getfield 27, 3) := by decide +kernel
theorem dX4_wall_106 : decode cX4_wall 106 = .ok (.getfield 80, 3) := by decide +kernel
theorem dX4_wall_109 : decode cX4_wall 109 = .ok (.ireturn, 1) := by decide +kernel
theorem dX4_item_0 : decode cX4_item 0 = .ok (.aload_n 0, 1) := by decide +kernel
theorem dX4_item_1 : decode cX4_item 1 = .ok (.getfield 27, 3) := by decide +kernel
theorem dX4_item_4 : decode cX4_item 4 = .ok (.iload_n 1, 1) := by decide +kernel
theorem dX4_item_5 : decode cX4_item 5 = .ok (.invokevirtual 83, 3) := by decide +kernel
theorem dX4_item_8 : decode cX4_item 8 = .ok (.ifCond .ne 5, 3) := by decide +kernel
theorem dX4_item_11 : decode cX4_item 11 = .ok (.iconst (-1), 1) := by decide +kernel
theorem dX4_item_12 : decode cX4_item 12 = .ok (.ireturn, 1) := by decide +kernel
theorem dX4_item_13 : decode cX4_item 13 = .ok (.iload_n 2, 1) := by decide +kernel
theorem dX4_item_14 : decode cX4_item 14 = .ok (.tableswitch 55 0 2 #[26, 36, 46], 26) := by decide +kernel
theorem dX4_item_40 : decode cX4_item 40 = .ok (.aload_n 0, 1) := by decide +kernel
theorem dX4_item_41 : decode cX4_item 41 = .ok (.getfield 27, 3) := by decide +kernel
theorem dX4_item_44 : decode cX4_item 44 = .ok (.getfield 87, 3) := by decide +kernel
theorem dX4_item_47 : decode cX4_item 47 = .ok (.iload_n 1, 1) := by decide +kernel
theorem dX4_item_48 : decode cX4_item 48 = .ok (.iaload, 1) := by decide +kernel
theorem dX4_item_49 : decode cX4_item 49 = .ok (.ireturn, 1) := by decide +kernel
theorem dX4_item_50 : decode cX4_item 50 = .ok (.aload_n 0, 1) := by decide +kernel
theorem dX4_item_51 : decode cX4_item 51 = .ok (.getfield 37, 3) := by decide +kernel
theorem dX4_item_54 : decode cX4_item 54 = .ok (.getfield 91, 3) := by decide +kernel
theorem dX4_item_57 : decode cX4_item 57 = .ok (.iload_n 1, 1) := by decide +kernel
theorem dX4_item_58 : decode cX4_item 58 = .ok (.iaload, 1) := by decide +kernel
theorem dX4_item_59 : decode cX4_item 59 = .ok (.ireturn, 1) := by decide +kernel
theorem dX4_item_60 : decode cX4_item 60 = .ok (.aload_n 0, 1) := by decide +kernel
theorem dX4_item_61 : decode cX4_item 61 = .ok (.getfield 37, 3) := by decide +kernel
theorem dX4_item_64 : decode cX4_item 64 = .ok (.iload_n 1, 1) := by decide +kernel
theorem dX4_item_65 : decode cX4_item 65 = .ok (.invokevirtual 94, 3) := by decide +kernel
theorem dX4_item_68 : decode cX4_item 68 = .ok (.ireturn, 1) := by decide +kernel
theorem dX4_item_69 : decode cX4_item 69 = .ok (.iconst (-1), 1) := by decide +kernel
theorem dX4_item_70 : decode cX4_item 70 = .ok (.ireturn, 1) := by decide +kernel
theorem dX4_order_0 : decode cX4_order 0 = .ok (.aload_n 0, 1) := by decide +kernel
theorem dX4_order_1 : decode cX4_order 1 = .ok (.getfield 27, 3) := by decide +kernel
theorem dX4_order_4 : decode cX4_order 4 = .ok (.iload_n 1, 1) := by decide +kernel
theorem dX4_order_5 : decode cX4_order 5 = .ok (.invokevirtual 98, 3) := by decide +kernel
theorem dX4_order_8 : decode cX4_order 8 = .ok (.ifCond .ne 13, 3) := by decide +kernel
theorem dX4_order_11 : decode cX4_order 11 = .ok (.new 101, 3) := by decide +kernel
theorem dX4_order_14 : decode cX4_order 14 = .ok (.dup, 1) := by decide +kernel
theorem dX4_order_15 : decode cX4_order 15 = .ok (.ldc 103, 2) := by decide +kernel
theorem dX4_order_17 : decode cX4_order 17 = .ok (.invokespecial 105, 3) := by decide +kernel
theorem dX4_order_20 : decode cX4_order 20 = .ok (.athrow, 1) := by decide +kernel
theorem dX4_order_21 : decode cX4_order 21 = .ok (.iload_n 2, 1) := by decide +kernel
theorem dX4_order_22 : decode cX4_order 22 = .ok (.tableswitch 102 0 5 #[38, 48, 58, 70, 82, 92], 38) := by decide +kernel
theorem dX4_order_60 : decode cX4_order 60 = .ok (.aload_n 0, 1) := by decide +kernel
theorem dX4_order_61 : decode cX4_order 61 = .ok (.getfield 27, 3) := by decide +kernel
theorem dX4_order_64 : decode cX4_order 64 = .ok (.getfield 108, 3) := by decide +kernel
theorem dX4_order_67 : decode cX4_order 67 = .ok (.iload_n 1, 1) := by decide +kernel
theorem dX4_order_68 : decode cX4_order 68 = .ok (.iaload, 1) := by decide +kernel
theorem dX4_order_69 : decode cX4_order 69 = .ok (.ireturn, 1) := by decide +kernel
theorem dX4_order_70 : decode cX4_order 70 = .ok (.aload_n 0, 1) := by decide +kernel
theorem dX4_order_71 : decode cX4_order 71 = .ok (.getfield 27, 3) := by decide +kernel
theorem dX4_order_74 : decode cX4_order 74 = .ok (.getfield 111, 3) := by decide +kernel
theorem dX4_order_77 : decode cX4_order 77 = .ok (.iload_n 1, 1) := by decide +kernel
theorem dX4_order_78 : decode cX4_order 78 = .ok (.iaload, 1) := by decide +kernel
theorem dX4_order_79 : decode cX4_order 79 = .ok (.ireturn, 1) := by decide +kernel
theorem dX4_order_80 : decode cX4_order 80 = .ok (.aload_n 0, 1) := by decide +kernel
theorem dX4_order_81 : decode cX4_order 81 = .ok (.getfield 37, 3) := by decide +kernel
theorem dX4_order_84 : decode cX4_order 84 = .ok (.getfield 114, 3) := by decide +kernel
theorem dX4_order_87 : decode cX4_order 87 = .ok (.iload_n 1, 1) := by decide +kernel
theorem dX4_order_88 : decode cX4_order 88 = .ok (.invokestatic 117, 3) := by decide +kernel
theorem dX4_order_91 : decode cX4_order 91 = .ok (.ireturn, 1) := by decide +kernel
theorem dX4_order_92 : decode cX4_order 92 = .ok (.aload_n 0, 1) := by decide +kernel
theorem dX4_order_93 : decode cX4_order 93 = .ok (.getfield 37, 3) := by decide +kernel
theorem dX4_order_96 : decode cX4_order 96 = .ok (.getfield 121, 3) := by decide +kernel
theorem dX4_order_99 : decode cX4_order 99 = .ok (.iload_n 1, 1) := by decide +kernel
theorem dX4_order_100 : decode cX4_order 100 = .ok (.invokestatic 117, 3) := by decide +kernel
theorem dX4_order_103 : decode cX4_order 103 = .ok (.ireturn, 1) := by decide +kernel
theorem dX4_order_104 : decode cX4_order 104 = .ok (.aload_n 0, 1) := by decide +kernel
theorem dX4_order_105 : decode cX4_order 105 = .ok (.getfield 37, 3) := by decide +kernel
theorem dX4_order_108 : decode cX4_order 108 = .ok (.getfield 124, 3) := by decide +kernel
theorem dX4_order_111 : decode cX4_order 111 = .ok (.iload_n 1, 1) := by decide +kernel
theorem dX4_order_112 : decode cX4_order 112 = .ok (.iaload, 1) := by decide +kernel
theorem dX4_order_113 : decode cX4_order 113 = .ok (.ireturn, 1) := by decide +kernel
theorem dX4_order_114 : decode cX4_order 114 = .ok (.aload_n 0, 1) := by decide +kernel
theorem dX4_order_115 : decode cX4_order 115 = .ok (.getfield 37, 3) := by decide +kernel
theorem dX4_order_118 : decode cX4_order 118 = .ok (.getfield 127, 3) := by decide +kernel
theorem dX4_order_121 : decode cX4_order 121 = .ok (.iload_n 1, 1) := by decide +kernel
theorem dX4_order_122 : decode cX4_order 122 = .ok (.iaload, 1) := by decide +kernel
theorem dX4_order_123 : decode cX4_order 123 = .ok (.ireturn, 1) := by decide +kernel
theorem dX4_order_124 : decode cX4_order 124 = .ok (.new 101, 3) := by decide +kernel
theorem dX4_order_127 : decode cX4_order 127 = .ok (.dup, 1) := by decide +kernel
theorem dX4_order_128 : decode cX4_order 128 = .ok (.ldc 130, 2) := by decide +kernel
theorem dX4_order_130 : decode cX4_order 130 = .ok (.invokespecial 105, 3) := by decide +kernel
theorem dX4_order_133 : decode cX4_order 133 = .ok (.athrow, 1) := by decide +kernel
theorem dX4_units_0 : decode cX4_units 0 = .ok (.aload_n 0, 1) := by decide +kernel
theorem dX4_units_1 : decode cX4_units 1 = .ok (.getfield 27, 3) := by decide +kernel
theorem dX4_units_4 : decode cX4_units 4 = .ok (.iload_n 1, 1) := by decide +kernel
theorem dX4_units_5 : decode cX4_units 5 = .ok (.invokevirtual 98, 3) := by decide +kernel
theorem dX4_units_8 : decode cX4_units 8 = .ok (.ifCond .eq 14, 3) := by decide +kernel
theorem dX4_units_11 : decode cX4_units 11 = .ok (.aload_n 0, 1) := by decide +kernel
theorem dX4_units_12 : decode cX4_units 12 = .ok (.getfield 27, 3) := by decide +kernel
theorem dX4_units_15 : decode cX4_units 15 = .ok (.iload_n 2, 1) := by decide +kernel
theorem dX4_units_16 : decode cX4_units 16 = .ok (.invokevirtual 83, 3) := by decide +kernel
theorem dX4_units_19 : decode cX4_units 19 = .ok (.ifCond .ne 5, 3) := by decide +kernel
theorem dX4_units_22 : decode cX4_units 22 = .ok (.iconst (-1), 1) := by decide +kernel
theorem dX4_units_23 : decode cX4_units 23 = .ok (.ireturn, 1) := by decide +kernel
theorem dX4_units_24 : decode cX4_units 24 = .ok (.iload_n 3, 1) := by decide +kernel
theorem dX4_units_25 : decode cX4_units 25 = .ok (.tableswitch 69 0 2 #[27, 41, 55], 27) := by decide +kernel
theorem dX4_units_52 : decode cX4_units 52 = .ok (.aload_n 0, 1) := by decide +kernel
theorem dX4_units_53 : decode cX4_units 53 = .ok (.getfield 27, 3) := by decide +kernel
theorem dX4_units_56 : decode cX4_units 56 = .ok (.getfield 132, 3) := by decide +kernel
theorem dX4_units_59 : decode cX4_units 59 = .ok (.iload_n 1, 1) := by decide +kernel
theorem dX4_units_60 : decode cX4_units 60 = .ok (.iload_n 2, 1) := by decide +kernel
theorem dX4_units_61 : decode cX4_units 61 = .ok (.invokestatic 135, 3) := by decide +kernel
theorem dX4_units_64 : decode cX4_units 64 = .ok (.iaload, 1) := by decide +kernel
theorem dX4_units_65 : decode cX4_units 65 = .ok (.ireturn, 1) := by decide +kernel
theorem dX4_units_66 : decode cX4_units 66 = .ok (.aload_n 0, 1) := by decide +kernel
theorem dX4_units_67 : decode cX4_units 67 = .ok (.getfield 37, 3) := by decide +kernel
theorem dX4_units_70 : decode cX4_units 70 = .ok (.getfield 114, 3) := by decide +kernel
theorem dX4_units_73 : decode cX4_units 73 = .ok (.iload_n 1, 1) := by decide +kernel
theorem dX4_units_74 : decode cX4_units 74 = .ok (.iload_n 2, 1) := by decide +kernel
theorem dX4_units_75 : decode cX4_units 75 = .ok (.invokestatic 135, 3) := by decide +kernel
theorem dX4_units_78 : decode cX4_units 78 = .ok (.iaload, 1) := by decide +kernel
theorem dX4_units_79 : decode cX4_units 79 = .ok (.ireturn, 1) := by decide +kernel
theorem dX4_units_80 : decode cX4_units 80 = .ok (.aload_n 0, 1) := by decide +kernel
theorem dX4_units_81 : decode cX4_units 81 = .ok (.getfield 37, 3) := by decide +kernel
theorem dX4_units_84 : decode cX4_units 84 = .ok (.getfield 121, 3) := by decide +kernel
theorem dX4_units_87 : decode cX4_units 87 = .ok (.iload_n 1, 1) := by decide +kernel
theorem dX4_units_88 : decode cX4_units 88 = .ok (.iload_n 2, 1) := by decide +kernel
theorem dX4_units_89 : decode cX4_units 89 = .ok (.invokestatic 135, 3) := by decide +kernel
theorem dX4_units_92 : decode cX4_units 92 = .ok (.iaload, 1) := by decide +kernel
theorem dX4_units_93 : decode cX4_units 93 = .ok (.ireturn, 1) := by decide +kernel
theorem dX4_units_94 : decode cX4_units 94 = .ok (.iconst (-1), 1) := by decide +kernel
theorem dX4_units_95 : decode cX4_units 95 = .ok (.ireturn, 1) := by decide +kernel
theorem dX4_alike_0 : decode cX4_alike 0 = .ok (.aload_n 0, 1) := by decide +kernel
theorem dX4_alike_1 : decode cX4_alike 1 = .ok (.getfield 27, 3) := by decide +kernel
theorem dX4_alike_4 : decode cX4_alike 4 = .ok (.iload_n 1, 1) := by decide +kernel
theorem dX4_alike_5 : decode cX4_alike 5 = .ok (.invokevirtual 98, 3) := by decide +kernel
theorem dX4_alike_8 : decode cX4_alike 8 = .ok (.ifCond .eq 14, 3) := by decide +kernel
theorem dX4_alike_11 : decode cX4_alike 11 = .ok (.aload_n 0, 1) := by decide +kernel
theorem dX4_alike_12 : decode cX4_alike 12 = .ok (.getfield 27, 3) := by decide +kernel
theorem dX4_alike_15 : decode cX4_alike 15 = .ok (.iload_n 2, 1) := by decide +kernel
theorem dX4_alike_16 : decode cX4_alike 16 = .ok (.invokevirtual 98, 3) := by decide +kernel
theorem dX4_alike_19 : decode cX4_alike 19 = .ok (.ifCond .ne 5, 3) := by decide +kernel
theorem dX4_alike_22 : decode cX4_alike 22 = .ok (.iconst (-1), 1) := by decide +kernel
theorem dX4_alike_23 : decode cX4_alike 23 = .ok (.ireturn, 1) := by decide +kernel
theorem dX4_alike_24 : decode cX4_alike 24 = .ok (.aload_n 0, 1) := by decide +kernel
theorem dX4_alike_25 : decode cX4_alike 25 = .ok (.getfield 27, 3) := by decide +kernel
theorem dX4_alike_28 : decode cX4_alike 28 = .ok (.getfield 139, 3) := by decide +kernel
theorem dX4_alike_31 : decode cX4_alike 31 = .ok (.iload_n 1, 1) := by decide +kernel
theorem dX4_alike_32 : decode cX4_alike 32 = .ok (.iaload, 1) := by decide +kernel
theorem dX4_alike_33 : decode cX4_alike 33 = .ok (.aload_n 0, 1) := by decide +kernel
theorem dX4_alike_34 : decode cX4_alike 34 = .ok (.getfield 27, 3) := by decide +kernel
theorem dX4_alike_37 : decode cX4_alike 37 = .ok (.getfield 139, 3) := by decide +kernel
theorem dX4_alike_40 : decode cX4_alike 40 = .ok (.iload_n 2, 1) := by decide +kernel
theorem dX4_alike_41 : decode cX4_alike 41 = .ok (.iaload, 1) := by decide +kernel
theorem dX4_alike_42 : decode cX4_alike 42 = .ok (.iand, 1) := by decide +kernel
theorem dX4_alike_43 : decode cX4_alike 43 = .ok (.invokestatic 142, 3) := by decide +kernel
theorem dX4_alike_46 : decode cX4_alike 46 = .ok (.ireturn, 1) := by decide +kernel
theorem dX4_wave_0 : decode cX4_wave 0 = .ok (.aload_n 0, 1) := by decide +kernel
theorem dX4_wave_1 : decode cX4_wave 1 = .ok (.getfield 44, 3) := by decide +kernel
theorem dX4_wave_4 : decode cX4_wave 4 = .ok (.aload_n 0, 1) := by decide +kernel
theorem dX4_wave_5 : decode cX4_wave 5 = .ok (.getfield 27, 3) := by decide +kernel
theorem dX4_wave_8 : decode cX4_wave 8 = .ok (.aload_n 0, 1) := by decide +kernel
theorem dX4_wave_9 : decode cX4_wave 9 = .ok (.getfield 37, 3) := by decide +kernel
theorem dX4_wave_12 : decode cX4_wave 12 = .ok (.invokevirtual 147, 3) := by decide +kernel
theorem dX4_wave_15 : decode cX4_wave 15 = .ok (.aload_n 0, 1) := by decide +kernel
theorem dX4_wave_16 : decode cX4_wave 16 = .ok (.getfield 44, 3) := by decide +kernel
theorem dX4_wave_19 : decode cX4_wave 19 = .ok (.getfield 151, 3) := by decide +kernel
theorem dX4_wave_22 : decode cX4_wave 22 = .ok (.ireturn, 1) := by decide +kernel
theorem dX4_pick_0 : decode cX4_pick 0 = .ok (.aload_n 0, 1) := by decide +kernel
theorem dX4_pick_1 : decode cX4_pick 1 = .ok (.getfield 44, 3) := by decide +kernel
theorem dX4_pick_4 : decode cX4_pick 4 = .ok (.aload_n 0, 1) := by decide +kernel
theorem dX4_pick_5 : decode cX4_pick 5 = .ok (.getfield 27, 3) := by decide +kernel
theorem dX4_pick_8 : decode cX4_pick 8 = .ok (.aload_n 0, 1) := by decide +kernel
theorem dX4_pick_9 : decode cX4_pick 9 = .ok (.getfield 37, 3) := by decide +kernel
theorem dX4_pick_12 : decode cX4_pick 12 = .ok (.invokevirtual 147, 3) := by decide +kernel
theorem dX4_pick_15 : decode cX4_pick 15 = .ok (.iload_n 1, 1) := by decide +kernel
theorem dX4_pick_16 : decode cX4_pick 16 = .ok (.iconst (-1), 1) := by decide +kernel
theorem dX4_pick_17 : decode cX4_pick 17 = .ok (.if_icmp .ne 11, 3) := by decide +kernel
theorem dX4_pick_20 : decode cX4_pick 20 = .ok (.aload_n 0, 1) := by decide +kernel
theorem dX4_pick_21 : decode cX4_pick 21 = .ok (.getfield 44, 3) := by decide +kernel
theorem dX4_pick_24 : decode cX4_pick 24 = .ok (.getfield 154, 3) := by decide +kernel
theorem dX4_pick_27 : decode cX4_pick 27 = .ok (.ireturn, 1) := by decide +kernel
theorem dX4_pick_28 : decode cX4_pick 28 = .ok (.iload_n 1, 1) := by decide +kernel
theorem dX4_pick_29 : decode cX4_pick 29 = .ok (.ifCond .lt 23, 3) := by decide +kernel
theorem dX4_pick_32 : decode cX4_pick 32 = .ok (.iload_n 1, 1) := by decide +kernel
theorem dX4_pick_33 : decode cX4_pick 33 = .ok (.aload_n 0, 1) := by decide +kernel
theorem dX4_pick_34 : decode cX4_pick 34 = .ok (.getfield 44, 3) := by decide +kernel
theorem dX4_pick_37 : decode cX4_pick 37 = .ok (.getfield 154, 3) := by decide +kernel
theorem dX4_pick_40 : decode cX4_pick 40 = .ok (.if_icmp .ge 12, 3) := by decide +kernel
theorem dX4_pick_43 : decode cX4_pick 43 = .ok (.iload_n 2, 1) := by decide +kernel
theorem dX4_pick_44 : decode cX4_pick 44 = .ok (.ifCond .lt 8, 3) := by decide +kernel
theorem dX4_pick_47 : decode cX4_pick 47 = .ok (.iload_n 2, 1) := by decide +kernel
theorem dX4_pick_48 : decode cX4_pick 48 = .ok (.iconst 1, 1) := by decide +kernel
theorem dX4_pick_49 : decode cX4_pick 49 = .ok (.if_icmp .le 6, 3) := by decide +kernel
theorem dX4_pick_52 : decode cX4_pick 52 = .ok (.bipush (-2), 2) := by decide +kernel
theorem dX4_pick_54 : decode cX4_pick 54 = .ok (.ireturn, 1) := by decide +kernel
theorem dX4_pick_55 : decode cX4_pick 55 = .ok (.iload_n 2, 1) := by decide +kernel
theorem dX4_pick_56 : decode cX4_pick 56 = .ok (.ifCond .ne 15, 3) := by decide +kernel
theorem dX4_pick_59 : decode cX4_pick 59 = .ok (.aload_n 0, 1) := by decide +kernel
theorem dX4_pick_60 : decode cX4_pick 60 = .ok (.getfield 44, 3) := by decide +kernel
theorem dX4_pick_63 : decode cX4_pick 63 = .ok (.getfield 157, 3) := by decide +kernel
theorem dX4_pick_66 : decode cX4_pick 66 = .ok (.iload_n 1, 1) := by decide +kernel
theorem dX4_pick_67 : decode cX4_pick 67 = .ok (.iaload, 1) := by decide +kernel
theorem dX4_pick_68 : decode cX4_pick 68 = .ok (.goto 12, 3) := by decide +kernel
theorem dX4_pick_71 : decode cX4_pick 71 = .ok (.aload_n 0, 1) := by decide +kernel
theorem dX4_pick_72 : decode cX4_pick 72 = .ok (.getfield 44, 3) := by decide +kernel
theorem dX4_pick_75 : decode cX4_pick 75 = .ok (.getfield 160, 3) := by decide +kernel
theorem dX4_pick_78 : decode cX4_pick 78 = .ok (.iload_n 1, 1) := by decide +kernel
theorem dX4_pick_79 : decode cX4_pick 79 = .ok (.iaload, 1) := by decide +kernel
theorem dX4_pick_80 : decode cX4_pick 80 = .ok (.ireturn, 1) := by decide +kernel
theorem dX4_walk_0 : decode cX4_walk 0 = .ok (.aload_n 0, 1) := by decide +kernel
theorem dX4_walk_1 : decode cX4_walk 1 = .ok (.getfield 44, 3) := by decide +kernel
theorem dX4_walk_4 : decode cX4_walk 4 = .ok (.aload_n 0, 1) := by decide +kernel
theorem dX4_walk_5 : decode cX4_walk 5 = .ok (.getfield 27, 3) := by decide +kernel
theorem dX4_walk_8 : decode cX4_walk 8 = .ok (.aload_n 0, 1) := by decide +kernel
theorem dX4_walk_9 : decode cX4_walk 9 = .ok (.getfield 37, 3) := by decide +kernel
theorem dX4_walk_12 : decode cX4_walk 12 = .ok (.invokevirtual 147, 3) := by decide +kernel
theorem dX4_walk_15 : decode cX4_walk 15 = .ok (.aload_n 0, 1) := by decide +kernel
theorem dX4_walk_16 : decode cX4_walk 16 = .ok (.getfield 44, 3) := by decide +kernel
theorem dX4_walk_19 : decode cX4_walk 19 = .ok (.aload_n 0, 1) := by decide +kernel
theorem dX4_walk_20 : decode cX4_walk 20 = .ok (.getfield 27, 3) := by decide +kernel
theorem dX4_walk_23 : decode cX4_walk 23 = .ok (.invokevirtual 163, 3) := by decide +kernel
theorem dX4_walk_26 : decode cX4_walk 26 = .ok (.ireturn, 1) := by decide +kernel
theorem dX4_cost_0 : decode cX4_cost 0 = .ok (.aload_n 0, 1) := by decide +kernel
theorem dX4_cost_1 : decode cX4_cost 1 = .ok (.getfield 44, 3) := by decide +kernel
theorem dX4_cost_4 : decode cX4_cost 4 = .ok (.aload_n 0, 1) := by decide +kernel
theorem dX4_cost_5 : decode cX4_cost 5 = .ok (.getfield 27, 3) := by decide +kernel
theorem dX4_cost_8 : decode cX4_cost 8 = .ok (.aload_n 0, 1) := by decide +kernel
theorem dX4_cost_9 : decode cX4_cost 9 = .ok (.getfield 37, 3) := by decide +kernel
theorem dX4_cost_12 : decode cX4_cost 12 = .ok (.invokevirtual 147, 3) := by decide +kernel
theorem dX4_cost_15 : decode cX4_cost 15 = .ok (.iload_n 1, 1) := by decide +kernel
theorem dX4_cost_16 : decode cX4_cost 16 = .ok (.i2l, 1) := by decide +kernel
theorem dX4_cost_17 : decode cX4_cost 17 = .ok (.aload_n 0, 1) := by decide +kernel
theorem dX4_cost_18 : decode cX4_cost 18 = .ok (.getfield 44, 3) := by decide +kernel
theorem dX4_cost_21 : decode cX4_cost 21 = .ok (.getfield 154, 3) := by decide +kernel
theorem dX4_cost_24 : decode cX4_cost 24 = .ok (.i2l, 1) := by decide +kernel
theorem dX4_cost_25 : decode cX4_cost 25 = .ok (.lmul, 1) := by decide +kernel
theorem dX4_cost_26 : decode cX4_cost 26 = .ok (.lstore_n 3, 1) := by decide +kernel
theorem dX4_cost_27 : decode cX4_cost 27 = .ok (.iload_n 2, 1) := by decide +kernel
theorem dX4_cost_28 : decode cX4_cost 28 = .ok (.i2l, 1) := by decide +kernel
theorem dX4_cost_29 : decode cX4_cost 29 = .ok (.aload_n 0, 1) := by decide +kernel
theorem dX4_cost_30 : decode cX4_cost 30 = .ok (.getfield 44, 3) := by decide +kernel
theorem dX4_cost_33 : decode cX4_cost 33 = .ok (.aload_n 0, 1) := by decide +kernel
theorem dX4_cost_34 : decode cX4_cost 34 = .ok (.getfield 27, 3) := by decide +kernel
theorem dX4_cost_37 : decode cX4_cost 37 = .ok (.invokevirtual 163, 3) := by decide +kernel
theorem dX4_cost_40 : decode cX4_cost 40 = .ok (.i2l, 1) := by decide +kernel
theorem dX4_cost_41 : decode cX4_cost 41 = .ok (.lmul, 1) := by decide +kernel
theorem dX4_cost_42 : decode cX4_cost 42 = .ok (.lstore 5, 2) := by decide +kernel
theorem dX4_cost_44 : decode cX4_cost 44 = .ok (.lload_n 3, 1) := by decide +kernel
theorem dX4_cost_45 : decode cX4_cost 45 = .ok (.invokestatic 167, 3) := by decide +kernel
theorem dX4_cost_48 : decode cX4_cost 48 = .ok (.ifCond .eq 21, 3) := by decide +kernel
theorem dX4_cost_51 : decode cX4_cost 51 = .ok (.lload 5, 2) := by decide +kernel
theorem dX4_cost_53 : decode cX4_cost 53 = .ok (.invokestatic 167, 3) := by decide +kernel
theorem dX4_cost_56 : decode cX4_cost 56 = .ok (.ifCond .eq 13, 3) := by decide +kernel
theorem dX4_cost_59 : decode cX4_cost 59 = .ok (.lload_n 3, 1) := by decide +kernel
theorem dX4_cost_60 : decode cX4_cost 60 = .ok (.lload 5, 2) := by decide +kernel
theorem dX4_cost_62 : decode cX4_cost 62 = .ok (.ladd, 1) := by decide +kernel
theorem dX4_cost_63 : decode cX4_cost 63 = .ok (.invokestatic 167, 3) := by decide +kernel
theorem dX4_cost_66 : decode cX4_cost 66 = .ok (.ifCond .ne 6, 3) := by decide +kernel
theorem dX4_cost_69 : decode cX4_cost 69 = .ok (.ldc 171, 2) := by decide +kernel
theorem dX4_cost_71 : decode cX4_cost 71 = .ok (.ireturn, 1) := by decide +kernel
theorem dX4_cost_72 : decode cX4_cost 72 = .ok (.lload_n 3, 1) := by decide +kernel
theorem dX4_cost_73 : decode cX4_cost 73 = .ok (.lload 5, 2) := by decide +kernel
theorem dX4_cost_75 : decode cX4_cost 75 = .ok (.ladd, 1) := by decide +kernel
theorem dX4_cost_76 : decode cX4_cost 76 = .ok (.l2i, 1) := by decide +kernel
theorem dX4_cost_77 : decode cX4_cost 77 = .ok (.ireturn, 1) := by decide +kernel
theorem dX4_release_0 : decode cX4_release 0 = .ok (.aload_n 0, 1) := by decide +kernel
theorem dX4_release_1 : decode cX4_release 1 = .ok (.getfield 44, 3) := by decide +kernel
theorem dX4_release_4 : decode cX4_release 4 = .ok (.aload_n 0, 1) := by decide +kernel
theorem dX4_release_5 : decode cX4_release 5 = .ok (.getfield 27, 3) := by decide +kernel
theorem dX4_release_8 : decode cX4_release 8 = .ok (.aload_n 0, 1) := by decide +kernel
theorem dX4_release_9 : decode cX4_release 9 = .ok (.getfield 37, 3) := by decide +kernel
theorem dX4_release_12 : decode cX4_release 12 = .ok (.invokevirtual 147, 3) := by decide +kernel
theorem dX4_release_15 : decode cX4_release 15 = .ok (.aload_n 0, 1) := by decide +kernel
theorem dX4_release_16 : decode cX4_release 16 = .ok (.getfield 44, 3) := by decide +kernel
theorem dX4_release_19 : decode cX4_release 19 = .ok (.getfield 151, 3) := by decide +kernel
theorem dX4_release_22 : decode cX4_release 22 = .ok (.ifCond .ne 5, 3) := by decide +kernel
theorem dX4_release_25 : decode cX4_release 25 = .ok (.iconst (-1), 1) := by decide +kernel
theorem dX4_release_26 : decode cX4_release 26 = .ok (.ireturn, 1) := by decide +kernel
theorem dX4_release_27 : decode cX4_release 27 = .ok (.aload_n 0, 1) := by decide +kernel
theorem dX4_release_28 : decode cX4_release 28 = .ok (.invokevirtual 172, 3) := by decide +kernel
theorem dX4_release_31 : decode cX4_release 31 = .ok (.aload_n 0, 1) := by decide +kernel
theorem dX4_release_32 : decode cX4_release 32 = .ok (.getfield 37, 3) := by decide +kernel
theorem dX4_release_35 : decode cX4_release 35 = .ok (.aload_n 0, 1) := by decide +kernel
theorem dX4_release_36 : decode cX4_release 36 = .ok (.getfield 27, 3) := by decide +kernel
theorem dX4_release_39 : decode cX4_release 39 = .ok (.aload_n 0, 1) := by decide +kernel
theorem dX4_release_40 : decode cX4_release 40 = .ok (.getfield 44, 3) := by decide +kernel
theorem dX4_release_43 : decode cX4_release 43 = .ok (.invokevirtual 175, 3) := by decide +kernel
theorem dX4_release_46 : decode cX4_release 46 = .ok (.aload_n 0, 1) := by decide +kernel
theorem dX4_release_47 : decode cX4_release 47 = .ok (.getfield 44, 3) := by decide +kernel
theorem dX4_release_50 : decode cX4_release 50 = .ok (.getfield 151, 3) := by decide +kernel
theorem dX4_release_53 : decode cX4_release 53 = .ok (.invokestatic 142, 3) := by decide +kernel
theorem dX4_release_56 : decode cX4_release 56 = .ok (.ireturn, 1) := by decide +kernel
theorem dX4_step_0 : decode cX4_step 0 = .ok (.iload_n 1, 1) := by decide +kernel
theorem dX4_step_1 : decode cX4_step 1 = .ok (.iconst 1, 1) := by decide +kernel
theorem dX4_step_2 : decode cX4_step 2 = .ok (.if_icmp .lt 20, 3) := by decide +kernel
theorem dX4_step_5 : decode cX4_step 5 = .ok (.iload_n 1, 1) := by decide +kernel
theorem dX4_step_6 : decode cX4_step 6 = .ok (.sipush 200, 3) := by decide +kernel
theorem dX4_step_9 : decode cX4_step 9 = .ok (.if_icmp .gt 13, 3) := by decide +kernel
theorem dX4_step_12 : decode cX4_step 12 = .ok (.aload_n 0, 1) := by decide +kernel
theorem dX4_step_13 : decode cX4_step 13 = .ok (.getfield 37, 3) := by decide +kernel
theorem dX4_step_16 : decode cX4_step 16 = .ok (.invokevirtual 179, 3) := by decide +kernel
theorem dX4_step_19 : decode cX4_step 19 = .ok (.ifCond .ne 5, 3) := by decide +kernel
theorem dX4_step_22 : decode cX4_step 22 = .ok (.iconst (-1), 1) := by decide +kernel
theorem dX4_step_23 : decode cX4_step 23 = .ok (.ireturn, 1) := by decide +kernel
theorem dX4_step_24 : decode cX4_step 24 = .ok (.aload_n 0, 1) := by decide +kernel
theorem dX4_step_25 : decode cX4_step 25 = .ok (.invokevirtual 172, 3) := by decide +kernel
theorem dX4_step_28 : decode cX4_step 28 = .ok (.aload_n 0, 1) := by decide +kernel
theorem dX4_step_29 : decode cX4_step 29 = .ok (.getfield 37, 3) := by decide +kernel
theorem dX4_step_32 : decode cX4_step 32 = .ok (.aload_n 0, 1) := by decide +kernel
theorem dX4_step_33 : decode cX4_step 33 = .ok (.getfield 27, 3) := by decide +kernel
theorem dX4_step_36 : decode cX4_step 36 = .ok (.iload_n 1, 1) := by decide +kernel
theorem dX4_step_37 : decode cX4_step 37 = .ok (.invokevirtual 183, 3) := by decide +kernel
theorem dX4_step_40 : decode cX4_step 40 = .ok (.ireturn, 1) := by decide +kernel
theorem dX4_stock_0 : decode cX4_stock 0 = .ok (.aload_n 0, 1) := by decide +kernel
theorem dX4_stock_1 : decode cX4_stock 1 = .ok (.getfield 27, 3) := by decide +kernel
theorem dX4_stock_4 : decode cX4_stock 4 = .ok (.iload_n 1, 1) := by decide +kernel
theorem dX4_stock_5 : decode cX4_stock 5 = .ok (.invokevirtual 83, 3) := by decide +kernel
theorem dX4_stock_8 : decode cX4_stock 8 = .ok (.ifCond .eq 14, 3) := by decide +kernel
theorem dX4_stock_11 : decode cX4_stock 11 = .ok (.iload_n 2, 1) := by decide +kernel
theorem dX4_stock_12 : decode cX4_stock 12 = .ok (.iconst 1, 1) := by decide +kernel
theorem dX4_stock_13 : decode cX4_stock 13 = .ok (.if_icmp .lt 9, 3) := by decide +kernel
theorem dX4_stock_16 : decode cX4_stock 16 = .ok (.iload_n 2, 1) := by decide +kernel
theorem dX4_stock_17 : decode cX4_stock 17 = .ok (.bipush 99, 2) := by decide +kernel
theorem dX4_stock_19 : decode cX4_stock 19 = .ok (.if_icmp .le 5, 3) := by decide +kernel
theorem dX4_stock_22 : decode cX4_stock 22 = .ok (.iconst (-1), 1) := by decide +kernel
theorem dX4_stock_23 : decode cX4_stock 23 = .ok (.ireturn, 1) := by decide +kernel
theorem dX4_stock_24 : decode cX4_stock 24 = .ok (.aload_n 0, 1) := by decide +kernel
theorem dX4_stock_25 : decode cX4_stock 25 = .ok (.invokevirtual 172, 3) := by decide +kernel
theorem dX4_stock_28 : decode cX4_stock 28 = .ok (.aload_n 0, 1) := by decide +kernel
theorem dX4_stock_29 : decode cX4_stock 29 = .ok (.getfield 37, 3) := by decide +kernel
theorem dX4_stock_32 : decode cX4_stock 32 = .ok (.aload_n 0, 1) := by decide +kernel
theorem dX4_stock_33 : decode cX4_stock 33 = .ok (.getfield 27, 3) := by decide +kernel
theorem dX4_stock_36 : decode cX4_stock 36 = .ok (.iload_n 1, 1) := by decide +kernel
theorem dX4_stock_37 : decode cX4_stock 37 = .ok (.iload_n 2, 1) := by decide +kernel
theorem dX4_stock_38 : decode cX4_stock 38 = .ok (.invokevirtual 187, 3) := by decide +kernel
theorem dX4_stock_41 : decode cX4_stock 41 = .ok (.ireturn, 1) := by decide +kernel
theorem dX4_by_0 : decode cX4_by 0 = .ok (.aload_n 0, 1) := by decide +kernel
theorem dX4_by_1 : decode cX4_by 1 = .ok (.getfield 27, 3) := by decide +kernel
theorem dX4_by_4 : decode cX4_by 4 = .ok (.iload_n 1, 1) := by decide +kernel
theorem dX4_by_5 : decode cX4_by 5 = .ok (.invokevirtual 98, 3) := by decide +kernel
theorem dX4_by_8 : decode cX4_by 8 = .ok (.ifCond .eq 16, 3) := by decide +kernel
theorem dX4_by_11 : decode cX4_by 11 = .ok (.aload_n 0, 1) := by decide +kernel
theorem dX4_by_12 : decode cX4_by 12 = .ok (.getfield 37, 3) := by decide +kernel
theorem dX4_by_15 : decode cX4_by 15 = .ok (.getfield 124, 3) := by decide +kernel
theorem dX4_by_18 : decode cX4_by 18 = .ok (.iload_n 1, 1) := by decide +kernel
theorem dX4_by_19 : decode cX4_by 19 = .ok (.iaload, 1) := by decide +kernel
theorem dX4_by_20 : decode cX4_by 20 = .ok (.iconst 2, 1) := by decide +kernel
theorem dX4_by_21 : decode cX4_by 21 = .ok (.if_icmp .eq 5, 3) := by decide +kernel
theorem dX4_by_24 : decode cX4_by 24 = .ok (.iconst (-1), 1) := by decide +kernel
theorem dX4_by_25 : decode cX4_by 25 = .ok (.ireturn, 1) := by decide +kernel
theorem dX4_by_26 : decode cX4_by 26 = .ok (.aload_n 0, 1) := by decide +kernel
theorem dX4_by_27 : decode cX4_by 27 = .ok (.invokevirtual 172, 3) := by decide +kernel
theorem dX4_by_30 : decode cX4_by 30 = .ok (.aload_n 0, 1) := by decide +kernel
theorem dX4_by_31 : decode cX4_by 31 = .ok (.getfield 37, 3) := by decide +kernel
theorem dX4_by_34 : decode cX4_by 34 = .ok (.aload_n 0, 1) := by decide +kernel
theorem dX4_by_35 : decode cX4_by 35 = .ok (.getfield 27, 3) := by decide +kernel
theorem dX4_by_38 : decode cX4_by 38 = .ok (.iload_n 1, 1) := by decide +kernel
theorem dX4_by_39 : decode cX4_by 39 = .ok (.invokevirtual 191, 3) := by decide +kernel
theorem dX4_by_42 : decode cX4_by 42 = .ok (.ireturn, 1) := by decide +kernel
theorem dX4_belt_0 : decode cX4_belt 0 = .ok (.iload_n 1, 1) := by decide +kernel
theorem dX4_belt_1 : decode cX4_belt 1 = .ok (.iconst (-1), 1) := by decide +kernel
theorem dX4_belt_2 : decode cX4_belt 2 = .ok (.if_icmp .ne 11, 3) := by decide +kernel
theorem dX4_belt_5 : decode cX4_belt 5 = .ok (.aload_n 0, 1) := by decide +kernel
theorem dX4_belt_6 : decode cX4_belt 6 = .ok (.getfield 37, 3) := by decide +kernel
theorem dX4_belt_9 : decode cX4_belt 9 = .ok (.invokevirtual 179, 3) := by decide +kernel
theorem dX4_belt_12 : decode cX4_belt 12 = .ok (.ireturn, 1) := by decide +kernel
theorem dX4_belt_13 : decode cX4_belt 13 = .ok (.iload_n 1, 1) := by decide +kernel
theorem dX4_belt_14 : decode cX4_belt 14 = .ok (.ifCond .lt 14, 3) := by decide +kernel
theorem dX4_belt_17 : decode cX4_belt 17 = .ok (.iload_n 1, 1) := by decide +kernel
theorem dX4_belt_18 : decode cX4_belt 18 = .ok (.aload_n 0, 1) := by decide +kernel
theorem dX4_belt_19 : decode cX4_belt 19 = .ok (.getfield 37, 3) := by decide +kernel
theorem dX4_belt_22 : decode cX4_belt 22 = .ok (.invokevirtual 179, 3) := by decide +kernel
theorem dX4_belt_25 : decode cX4_belt 25 = .ok (.if_icmp .lt 6, 3) := by decide +kernel
theorem dX4_belt_28 : decode cX4_belt 28 = .ok (.bipush (-2), 2) := by decide +kernel
theorem dX4_belt_30 : decode cX4_belt 30 = .ok (.ireturn, 1) := by decide +kernel
theorem dX4_belt_31 : decode cX4_belt 31 = .ok (.aload_n 0, 1) := by decide +kernel
theorem dX4_belt_32 : decode cX4_belt 32 = .ok (.getfield 37, 3) := by decide +kernel
theorem dX4_belt_35 : decode cX4_belt 35 = .ok (.getfield 194, 3) := by decide +kernel
theorem dX4_belt_38 : decode cX4_belt 38 = .ok (.aload_n 0, 1) := by decide +kernel
theorem dX4_belt_39 : decode cX4_belt 39 = .ok (.getfield 37, 3) := by decide +kernel
theorem dX4_belt_42 : decode cX4_belt 42 = .ok (.getfield 197, 3) := by decide +kernel
theorem dX4_belt_45 : decode cX4_belt 45 = .ok (.iload_n 1, 1) := by decide +kernel
theorem dX4_belt_46 : decode cX4_belt 46 = .ok (.iadd, 1) := by decide +kernel
theorem dX4_belt_47 : decode cX4_belt 47 = .ok (.iaload, 1) := by decide +kernel
theorem dX4_belt_48 : decode cX4_belt 48 = .ok (.iload_n 2, 1) := by decide +kernel
theorem dX4_belt_49 : decode cX4_belt 49 = .ok (.invokestatic 200, 3) := by decide +kernel
theorem dX4_belt_52 : decode cX4_belt 52 = .ok (.ireturn, 1) := by decide +kernel
theorem dX4_aside_0 : decode cX4_aside 0 = .ok (.iload_n 1, 1) := by decide +kernel
theorem dX4_aside_1 : decode cX4_aside 1 = .ok (.iconst (-1), 1) := by decide +kernel
theorem dX4_aside_2 : decode cX4_aside 2 = .ok (.if_icmp .ne 11, 3) := by decide +kernel
theorem dX4_aside_5 : decode cX4_aside 5 = .ok (.aload_n 0, 1) := by decide +kernel
theorem dX4_aside_6 : decode cX4_aside 6 = .ok (.getfield 37, 3) := by decide +kernel
theorem dX4_aside_9 : decode cX4_aside 9 = .ok (.getfield 203, 3) := by decide +kernel
theorem dX4_aside_12 : decode cX4_aside 12 = .ok (.ireturn, 1) := by decide +kernel
theorem dX4_aside_13 : decode cX4_aside 13 = .ok (.iload_n 1, 1) := by decide +kernel
theorem dX4_aside_14 : decode cX4_aside 14 = .ok (.ifCond .lt 14, 3) := by decide +kernel
theorem dX4_aside_17 : decode cX4_aside 17 = .ok (.iload_n 1, 1) := by decide +kernel
theorem dX4_aside_18 : decode cX4_aside 18 = .ok (.aload_n 0, 1) := by decide +kernel
theorem dX4_aside_19 : decode cX4_aside 19 = .ok (.getfield 37, 3) := by decide +kernel
theorem dX4_aside_22 : decode cX4_aside 22 = .ok (.getfield 203, 3) := by decide +kernel
theorem dX4_aside_25 : decode cX4_aside 25 = .ok (.if_icmp .lt 6, 3) := by decide +kernel
theorem dX4_aside_28 : decode cX4_aside 28 = .ok (.bipush (-2), 2) := by decide +kernel
theorem dX4_aside_30 : decode cX4_aside 30 = .ok (.ireturn, 1) := by decide +kernel
theorem dX4_aside_31 : decode cX4_aside 31 = .ok (.aload_n 0, 1) := by decide +kernel
theorem dX4_aside_32 : decode cX4_aside 32 = .ok (.getfield 37, 3) := by decide +kernel
theorem dX4_aside_35 : decode cX4_aside 35 = .ok (.getfield 206, 3) := by decide +kernel
theorem dX4_aside_38 : decode cX4_aside 38 = .ok (.iload_n 1, 1) := by decide +kernel
theorem dX4_aside_39 : decode cX4_aside 39 = .ok (.iaload, 1) := by decide +kernel
theorem dX4_aside_40 : decode cX4_aside 40 = .ok (.iload_n 2, 1) := by decide +kernel
theorem dX4_aside_41 : decode cX4_aside 41 = .ok (.invokestatic 200, 3) := by decide +kernel
theorem dX4_aside_44 : decode cX4_aside 44 = .ok (.ireturn, 1) := by decide +kernel
theorem dX4_hole_0 : decode cX4_hole 0 = .ok (.iload_n 1, 1) := by decide +kernel
theorem dX4_hole_1 : decode cX4_hole 1 = .ok (.ifCond .lt 14, 3) := by decide +kernel
theorem dX4_hole_4 : decode cX4_hole 4 = .ok (.iload_n 1, 1) := by decide +kernel
theorem dX4_hole_5 : decode cX4_hole 5 = .ok (.aload_n 0, 1) := by decide +kernel
theorem dX4_hole_6 : decode cX4_hole 6 = .ok (.getfield 27, 3) := by decide +kernel
theorem dX4_hole_9 : decode cX4_hole 9 = .ok (.getfield 209, 3) := by decide +kernel
theorem dX4_hole_12 : decode cX4_hole 12 = .ok (.if_icmp .lt 6, 3) := by decide +kernel
theorem dX4_hole_15 : decode cX4_hole 15 = .ok (.bipush (-2), 2) := by decide +kernel
theorem dX4_hole_17 : decode cX4_hole 17 = .ok (.ireturn, 1) := by decide +kernel
theorem dX4_hole_18 : decode cX4_hole 18 = .ok (.aload_n 0, 1) := by decide +kernel
theorem dX4_hole_19 : decode cX4_hole 19 = .ok (.getfield 37, 3) := by decide +kernel
theorem dX4_hole_22 : decode cX4_hole 22 = .ok (.getfield 212, 3) := by decide +kernel
theorem dX4_hole_25 : decode cX4_hole 25 = .ok (.iload_n 1, 1) := by decide +kernel
theorem dX4_hole_26 : decode cX4_hole 26 = .ok (.iaload, 1) := by decide +kernel
theorem dX4_hole_27 : decode cX4_hole 27 = .ok (.ireturn, 1) := by decide +kernel
theorem dX4_whole_0 : decode cX4_whole 0 = .ok (.iload_n 1, 1) := by decide +kernel
theorem dX4_whole_1 : decode cX4_whole 1 = .ok (.iconst (-1), 1) := by decide +kernel
theorem dX4_whole_2 : decode cX4_whole 2 = .ok (.if_icmp .ne 11, 3) := by decide +kernel
theorem dX4_whole_5 : decode cX4_whole 5 = .ok (.aload_n 0, 1) := by decide +kernel
theorem dX4_whole_6 : decode cX4_whole 6 = .ok (.getfield 37, 3) := by decide +kernel
theorem dX4_whole_9 : decode cX4_whole 9 = .ok (.getfield 215, 3) := by decide +kernel
theorem dX4_whole_12 : decode cX4_whole 12 = .ok (.ireturn, 1) := by decide +kernel
theorem dX4_whole_13 : decode cX4_whole 13 = .ok (.iload_n 1, 1) := by decide +kernel
theorem dX4_whole_14 : decode cX4_whole 14 = .ok (.ifCond .lt 14, 3) := by decide +kernel
theorem dX4_whole_17 : decode cX4_whole 17 = .ok (.iload_n 1, 1) := by decide +kernel
theorem dX4_whole_18 : decode cX4_whole 18 = .ok (.aload_n 0, 1) := by decide +kernel
theorem dX4_whole_19 : decode cX4_whole 19 = .ok (.getfield 37, 3) := by decide +kernel
theorem dX4_whole_22 : decode cX4_whole 22 = .ok (.getfield 215, 3) := by decide +kernel
theorem dX4_whole_25 : decode cX4_whole 25 = .ok (.if_icmp .lt 6, 3) := by decide +kernel
theorem dX4_whole_28 : decode cX4_whole 28 = .ok (.bipush (-2), 2) := by decide +kernel
theorem dX4_whole_30 : decode cX4_whole 30 = .ok (.ireturn, 1) := by decide +kernel
theorem dX4_whole_31 : decode cX4_whole 31 = .ok (.aload_n 0, 1) := by decide +kernel
theorem dX4_whole_32 : decode cX4_whole 32 = .ok (.getfield 37, 3) := by decide +kernel
theorem dX4_whole_35 : decode cX4_whole 35 = .ok (.getfield 218, 3) := by decide +kernel
theorem dX4_whole_38 : decode cX4_whole 38 = .ok (.iload_n 1, 1) := by decide +kernel
theorem dX4_whole_39 : decode cX4_whole 39 = .ok (.iaload, 1) := by decide +kernel
theorem dX4_whole_40 : decode cX4_whole 40 = .ok (.ireturn, 1) := by decide +kernel
theorem dX4_stuck_0 : decode cX4_stuck 0 = .ok (.iconst 0, 1) := by decide +kernel
theorem dX4_stuck_1 : decode cX4_stuck 1 = .ok (.istore_n 1, 1) := by decide +kernel
theorem dX4_stuck_2 : decode cX4_stuck 2 = .ok (.iconst 0, 1) := by decide +kernel
theorem dX4_stuck_3 : decode cX4_stuck 3 = .ok (.istore_n 2, 1) := by decide +kernel
theorem dX4_stuck_4 : decode cX4_stuck 4 = .ok (.iload_n 2, 1) := by decide +kernel
theorem dX4_stuck_5 : decode cX4_stuck 5 = .ok (.aload_n 0, 1) := by decide +kernel
theorem dX4_stuck_6 : decode cX4_stuck 6 = .ok (.getfield 27, 3) := by decide +kernel
theorem dX4_stuck_9 : decode cX4_stuck 9 = .ok (.getfield 221, 3) := by decide +kernel
theorem dX4_stuck_12 : decode cX4_stuck 12 = .ok (.if_icmp .ge 30, 3) := by decide +kernel
theorem dX4_stuck_15 : decode cX4_stuck 15 = .ok (.aload_n 0, 1) := by decide +kernel
theorem dX4_stuck_16 : decode cX4_stuck 16 = .ok (.getfield 37, 3) := by decide +kernel
theorem dX4_stuck_19 : decode cX4_stuck 19 = .ok (.aload_n 0, 1) := by decide +kernel
theorem dX4_stuck_20 : decode cX4_stuck 20 = .ok (.getfield 27, 3) := by decide +kernel
theorem dX4_stuck_23 : decode cX4_stuck 23 = .ok (.iload_n 2, 1) := by decide +kernel
theorem dX4_stuck_24 : decode cX4_stuck 24 = .ok (.invokevirtual 222, 3) := by decide +kernel
theorem dX4_stuck_27 : decode cX4_stuck 27 = .ok (.ifCond .eq 9, 3) := by decide +kernel
theorem dX4_stuck_30 : decode cX4_stuck 30 = .ok (.iload_n 1, 1) := by decide +kernel
theorem dX4_stuck_31 : decode cX4_stuck 31 = .ok (.iconst 1, 1) := by decide +kernel
theorem dX4_stuck_32 : decode cX4_stuck 32 = .ok (.iload_n 2, 1) := by decide +kernel
theorem dX4_stuck_33 : decode cX4_stuck 33 = .ok (.ishl, 1) := by decide +kernel
theorem dX4_stuck_34 : decode cX4_stuck 34 = .ok (.ior, 1) := by decide +kernel
theorem dX4_stuck_35 : decode cX4_stuck 35 = .ok (.istore_n 1, 1) := by decide +kernel
theorem dX4_stuck_36 : decode cX4_stuck 36 = .ok (.iinc 2 1, 3) := by decide +kernel
theorem dX4_stuck_39 : decode cX4_stuck 39 = .ok (.goto (-35), 3) := by decide +kernel
theorem dX4_stuck_42 : decode cX4_stuck 42 = .ok (.iload_n 1, 1) := by decide +kernel
theorem dX4_stuck_43 : decode cX4_stuck 43 = .ok (.ireturn, 1) := by decide +kernel
theorem dX4_needs_0 : decode cX4_needs 0 = .ok (.aload_n 0, 1) := by decide +kernel
theorem dX4_needs_1 : decode cX4_needs 1 = .ok (.getfield 44, 3) := by decide +kernel
theorem dX4_needs_4 : decode cX4_needs 4 = .ok (.aload_n 0, 1) := by decide +kernel
theorem dX4_needs_5 : decode cX4_needs 5 = .ok (.getfield 27, 3) := by decide +kernel
theorem dX4_needs_8 : decode cX4_needs 8 = .ok (.aload_n 0, 1) := by decide +kernel
theorem dX4_needs_9 : decode cX4_needs 9 = .ok (.getfield 37, 3) := by decide +kernel
theorem dX4_needs_12 : decode cX4_needs 12 = .ok (.invokevirtual 147, 3) := by decide +kernel
theorem dX4_needs_15 : decode cX4_needs 15 = .ok (.aload_n 0, 1) := by decide +kernel
theorem dX4_needs_16 : decode cX4_needs 16 = .ok (.getfield 44, 3) := by decide +kernel
theorem dX4_needs_19 : decode cX4_needs 19 = .ok (.aload_n 0, 1) := by decide +kernel
theorem dX4_needs_20 : decode cX4_needs 20 = .ok (.getfield 27, 3) := by decide +kernel
theorem dX4_needs_23 : decode cX4_needs 23 = .ok (.invokevirtual 226, 3) := by decide +kernel
theorem dX4_needs_26 : decode cX4_needs 26 = .ok (.ireturn, 1) := by decide +kernel
theorem dX4_best_0 : decode cX4_best 0 = .ok (.aload_n 0, 1) := by decide +kernel
theorem dX4_best_1 : decode cX4_best 1 = .ok (.getfield 44, 3) := by decide +kernel
theorem dX4_best_4 : decode cX4_best 4 = .ok (.aload_n 0, 1) := by decide +kernel
theorem dX4_best_5 : decode cX4_best 5 = .ok (.getfield 27, 3) := by decide +kernel
theorem dX4_best_8 : decode cX4_best 8 = .ok (.aload_n 0, 1) := by decide +kernel
theorem dX4_best_9 : decode cX4_best 9 = .ok (.getfield 37, 3) := by decide +kernel
theorem dX4_best_12 : decode cX4_best 12 = .ok (.invokevirtual 147, 3) := by decide +kernel
theorem dX4_best_15 : decode cX4_best 15 = .ok (.aload_n 0, 1) := by decide +kernel
theorem dX4_best_16 : decode cX4_best 16 = .ok (.getfield 44, 3) := by decide +kernel
theorem dX4_best_19 : decode cX4_best 19 = .ok (.getfield 154, 3) := by decide +kernel
theorem dX4_best_22 : decode cX4_best 22 = .ok (.bipush 6, 2) := by decide +kernel
theorem dX4_best_24 : decode cX4_best 24 = .ok (.if_icmp .le 6, 3) := by decide +kernel
theorem dX4_best_27 : decode cX4_best 27 = .ok (.bipush (-2), 2) := by decide +kernel
theorem dX4_best_29 : decode cX4_best 29 = .ok (.ireturn, 1) := by decide +kernel
theorem dX4_best_30 : decode cX4_best 30 = .ok (.aload_n 0, 1) := by decide +kernel
theorem dX4_best_31 : decode cX4_best 31 = .ok (.getfield 44, 3) := by decide +kernel
theorem dX4_best_34 : decode cX4_best 34 = .ok (.getfield 154, 3) := by decide +kernel
theorem dX4_best_37 : decode cX4_best 37 = .ok (.ifCond .eq 18, 3) := by decide +kernel
theorem dX4_best_40 : decode cX4_best 40 = .ok (.iload_n 1, 1) := by decide +kernel
theorem dX4_best_41 : decode cX4_best 41 = .ok (.ifCond .lt 14, 3) := by decide +kernel
theorem dX4_best_44 : decode cX4_best 44 = .ok (.iload_n 1, 1) := by decide +kernel
theorem dX4_best_45 : decode cX4_best 45 = .ok (.aload_n 0, 1) := by decide +kernel
theorem dX4_best_46 : decode cX4_best 46 = .ok (.getfield 44, 3) := by decide +kernel
theorem dX4_best_49 : decode cX4_best 49 = .ok (.getfield 154, 3) := by decide +kernel
theorem dX4_best_52 : decode cX4_best 52 = .ok (.if_icmp .le 5, 3) := by decide +kernel
theorem dX4_best_55 : decode cX4_best 55 = .ok (.iconst (-1), 1) := by decide +kernel
theorem dX4_best_56 : decode cX4_best 56 = .ok (.ireturn, 1) := by decide +kernel
theorem dX4_best_57 : decode cX4_best 57 = .ok (.aload_n 0, 1) := by decide +kernel
theorem dX4_best_58 : decode cX4_best 58 = .ok (.getfield 44, 3) := by decide +kernel
theorem dX4_best_61 : decode cX4_best 61 = .ok (.aload_n 0, 1) := by decide +kernel
theorem dX4_best_62 : decode cX4_best 62 = .ok (.getfield 27, 3) := by decide +kernel
theorem dX4_best_65 : decode cX4_best 65 = .ok (.invokevirtual 229, 3) := by decide +kernel
theorem dX4_best_68 : decode cX4_best 68 = .ok (.istore_n 2, 1) := by decide +kernel
theorem dX4_best_69 : decode cX4_best 69 = .ok (.iload_n 1, 1) := by decide +kernel
theorem dX4_best_70 : decode cX4_best 70 = .ok (.ifCond .ne 7, 3) := by decide +kernel
theorem dX4_best_73 : decode cX4_best 73 = .ok (.iload_n 2, 1) := by decide +kernel
theorem dX4_best_74 : decode cX4_best 74 = .ok (.goto 14, 3) := by decide +kernel
theorem dX4_best_77 : decode cX4_best 77 = .ok (.aload_n 0, 1) := by decide +kernel
theorem dX4_best_78 : decode cX4_best 78 = .ok (.getfield 44, 3) := by decide +kernel
theorem dX4_best_81 : decode cX4_best 81 = .ok (.getfield 232, 3) := by decide +kernel
theorem dX4_best_84 : decode cX4_best 84 = .ok (.iload_n 1, 1) := by decide +kernel
theorem dX4_best_85 : decode cX4_best 85 = .ok (.iconst 1, 1) := by decide +kernel
theorem dX4_best_86 : decode cX4_best 86 = .ok (.isub, 1) := by decide +kernel
theorem dX4_best_87 : decode cX4_best 87 = .ok (.iaload, 1) := by decide +kernel
theorem dX4_best_88 : decode cX4_best 88 = .ok (.ireturn, 1) := by decide +kernel
theorem dX4_sizes_0 : decode cX4_sizes 0 = .ok (.iload_n 1, 1) := by decide +kernel
theorem dX4_sizes_1 : decode cX4_sizes 1 = .ok (.iconst 1, 1) := by decide +kernel
theorem dX4_sizes_2 : decode cX4_sizes 2 = .ok (.if_icmp .lt 18, 3) := by decide +kernel
theorem dX4_sizes_5 : decode cX4_sizes 5 = .ok (.iload_n 1, 1) := by decide +kernel
theorem dX4_sizes_6 : decode cX4_sizes 6 = .ok (.bipush 8, 2) := by decide +kernel
theorem dX4_sizes_8 : decode cX4_sizes 8 = .ok (.if_icmp .gt 12, 3) := by decide +kernel
theorem dX4_sizes_11 : decode cX4_sizes 11 = .ok (.iload_n 2, 1) := by decide +kernel
theorem dX4_sizes_12 : decode cX4_sizes 12 = .ok (.ifCond .lt 8, 3) := by decide +kernel
theorem dX4_sizes_15 : decode cX4_sizes 15 = .ok (.iload_n 2, 1) := by decide +kernel
theorem dX4_sizes_16 : decode cX4_sizes 16 = .ok (.iconst 1, 1) := by decide +kernel
theorem dX4_sizes_17 : decode cX4_sizes 17 = .ok (.if_icmp .le 5, 3) := by decide +kernel
theorem dX4_sizes_20 : decode cX4_sizes 20 = .ok (.iconst (-1), 1) := by decide +kernel
theorem dX4_sizes_21 : decode cX4_sizes 21 = .ok (.ireturn, 1) := by decide +kernel
theorem dX4_sizes_22 : decode cX4_sizes 22 = .ok (.iload_n 2, 1) := by decide +kernel
theorem dX4_sizes_23 : decode cX4_sizes 23 = .ok (.ifCond .ne 11, 3) := by decide +kernel
theorem dX4_sizes_26 : decode cX4_sizes 26 = .ok (.aload_n 0, 1) := by decide +kernel
theorem dX4_sizes_27 : decode cX4_sizes 27 = .ok (.iload_n 1, 1) := by decide +kernel
theorem dX4_sizes_28 : decode cX4_sizes 28 = .ok (.invokevirtual 235, 3) := by decide +kernel
theorem dX4_sizes_31 : decode cX4_sizes 31 = .ok (.goto 8, 3) := by decide +kernel
theorem dX4_sizes_34 : decode cX4_sizes 34 = .ok (.aload_n 0, 1) := by decide +kernel
theorem dX4_sizes_35 : decode cX4_sizes 35 = .ok (.iload_n 1, 1) := by decide +kernel
theorem dX4_sizes_36 : decode cX4_sizes 36 = .ok (.invokevirtual 238, 3) := by decide +kernel
theorem dX4_sizes_39 : decode cX4_sizes 39 = .ok (.ireturn, 1) := by decide +kernel
theorem dX4_bestSize_0 : decode cX4_bestSize 0 = .ok (.iconst 1, 1) := by decide +kernel
theorem dX4_bestSize_1 : decode cX4_bestSize 1 = .ok (.istore_n 1, 1) := by decide +kernel
theorem dX4_bestSize_2 : decode cX4_bestSize 2 = .ok (.aload_n 0, 1) := by decide +kernel
theorem dX4_bestSize_3 : decode cX4_bestSize 3 = .ok (.iload_n 1, 1) := by decide +kernel
theorem dX4_bestSize_4 : decode cX4_bestSize 4 = .ok (.invokevirtual 238, 3) := by decide +kernel
theorem dX4_bestSize_7 : decode cX4_bestSize 7 = .ok (.istore_n 2, 1) := by decide +kernel
theorem dX4_bestSize_8 : decode cX4_bestSize 8 = .ok (.iconst 2, 1) := by decide +kernel
theorem dX4_bestSize_9 : decode cX4_bestSize 9 = .ok (.istore_n 3, 1) := by decide +kernel
theorem dX4_bestSize_10 : decode cX4_bestSize 10 = .ok (.iload_n 3, 1) := by decide +kernel
theorem dX4_bestSize_11 : decode cX4_bestSize 11 = .ok (.bipush 8, 2) := by decide +kernel
theorem dX4_bestSize_13 : decode cX4_bestSize 13 = .ok (.if_icmp .gt 27, 3) := by decide +kernel
theorem dX4_bestSize_16 : decode cX4_bestSize 16 = .ok (.aload_n 0, 1) := by decide +kernel
theorem dX4_bestSize_17 : decode cX4_bestSize 17 = .ok (.iload_n 3, 1) := by decide +kernel
theorem dX4_bestSize_18 : decode cX4_bestSize 18 = .ok (.invokevirtual 238, 3) := by decide +kernel
theorem dX4_bestSize_21 : decode cX4_bestSize 21 = .ok (.istore 4, 2) := by decide +kernel
theorem dX4_bestSize_23 : decode cX4_bestSize 23 = .ok (.iload 4, 2) := by decide +kernel
theorem dX4_bestSize_25 : decode cX4_bestSize 25 = .ok (.iload_n 2, 1) := by decide +kernel
theorem dX4_bestSize_26 : decode cX4_bestSize 26 = .ok (.if_icmp .ge 8, 3) := by decide +kernel
theorem dX4_bestSize_29 : decode cX4_bestSize 29 = .ok (.iload 4, 2) := by decide +kernel
theorem dX4_bestSize_31 : decode cX4_bestSize 31 = .ok (.istore_n 2, 1) := by decide +kernel
theorem dX4_bestSize_32 : decode cX4_bestSize 32 = .ok (.iload_n 3, 1) := by decide +kernel
theorem dX4_bestSize_33 : decode cX4_bestSize 33 = .ok (.istore_n 1, 1) := by decide +kernel
theorem dX4_bestSize_34 : decode cX4_bestSize 34 = .ok (.iinc 3 1, 3) := by decide +kernel
theorem dX4_bestSize_37 : decode cX4_bestSize 37 = .ok (.goto (-27), 3) := by decide +kernel
theorem dX4_bestSize_40 : decode cX4_bestSize 40 = .ok (.iload_n 1, 1) := by decide +kernel
theorem dX4_bestSize_41 : decode cX4_bestSize 41 = .ok (.ireturn, 1) := by decide +kernel
theorem dX4_wouldBe_0 : decode cX4_wouldBe 0 = .ok (.aload_n 0, 1) := by decide +kernel
theorem dX4_wouldBe_1 : decode cX4_wouldBe 1 = .ok (.getfield 65, 3) := by decide +kernel
theorem dX4_wouldBe_4 : decode cX4_wouldBe 4 = .ok (.ifnonnull 14, 3) := by decide +kernel
theorem dX4_wouldBe_7 : decode cX4_wouldBe 7 = .ok (.aload_n 0, 1) := by decide +kernel
theorem dX4_wouldBe_8 : decode cX4_wouldBe 8 = .ok (.new 34, 3) := by decide +kernel
theorem dX4_wouldBe_11 : decode cX4_wouldBe 11 = .ok (.dup, 1) := by decide +kernel
theorem dX4_wouldBe_12 : decode cX4_wouldBe 12 = .ok (.invokespecial 36, 3) := by decide +kernel
theorem dX4_wouldBe_15 : decode cX4_wouldBe 15 = .ok (.putfield 65, 3) := by decide +kernel
theorem dX4_wouldBe_18 : decode cX4_wouldBe 18 = .ok (.aload_n 0, 1) := by decide +kernel
theorem dX4_wouldBe_19 : decode cX4_wouldBe 19 = .ok (.getfield 65, 3) := by decide +kernel
theorem dX4_wouldBe_22 : decode cX4_wouldBe 22 = .ok (.aload_n 0, 1) := by decide +kernel
theorem dX4_wouldBe_23 : decode cX4_wouldBe 23 = .ok (.getfield 37, 3) := by decide +kernel
theorem dX4_wouldBe_26 : decode cX4_wouldBe 26 = .ok (.invokevirtual 241, 3) := by decide +kernel
theorem dX4_wouldBe_29 : decode cX4_wouldBe 29 = .ok (.aload_n 0, 1) := by decide +kernel
theorem dX4_wouldBe_30 : decode cX4_wouldBe 30 = .ok (.getfield 65, 3) := by decide +kernel
theorem dX4_wouldBe_33 : decode cX4_wouldBe 33 = .ok (.aload_n 0, 1) := by decide +kernel
theorem dX4_wouldBe_34 : decode cX4_wouldBe 34 = .ok (.getfield 27, 3) := by decide +kernel
theorem dX4_wouldBe_37 : decode cX4_wouldBe 37 = .ok (.sipush 864, 3) := by decide +kernel
theorem dX4_wouldBe_40 : decode cX4_wouldBe 40 = .ok (.invokevirtual 183, 3) := by decide +kernel
theorem dX4_wouldBe_43 : decode cX4_wouldBe 43 = .ok (.pop, 1) := by decide +kernel
theorem dX4_wouldBe_44 : decode cX4_wouldBe 44 = .ok (.aload_n 0, 1) := by decide +kernel
theorem dX4_wouldBe_45 : decode cX4_wouldBe 45 = .ok (.getfield 65, 3) := by decide +kernel
theorem dX4_wouldBe_48 : decode cX4_wouldBe 48 = .ok (.getfield 215, 3) := by decide +kernel
theorem dX4_wouldBe_51 : decode cX4_wouldBe 51 = .ok (.ireturn, 1) := by decide +kernel
theorem dX4_undo_0 : decode cX4_undo 0 = .ok (.aload_n 0, 1) := by decide +kernel
theorem dX4_undo_1 : decode cX4_undo 1 = .ok (.getfield 55, 3) := by decide +kernel
theorem dX4_undo_4 : decode cX4_undo 4 = .ok (.ifCond .ne 5, 3) := by decide +kernel
theorem dX4_undo_7 : decode cX4_undo 7 = .ok (.iconst (-1), 1) := by decide +kernel
theorem dX4_undo_8 : decode cX4_undo 8 = .ok (.ireturn, 1) := by decide +kernel
theorem dX4_undo_9 : decode cX4_undo 9 = .ok (.aload_n 0, 1) := by decide +kernel
theorem dX4_undo_10 : decode cX4_undo 10 = .ok (.aload_n 0, 1) := by decide +kernel
theorem dX4_undo_11 : decode cX4_undo 11 = .ok (.getfield 52, 3) := by decide +kernel
theorem dX4_undo_14 : decode cX4_undo 14 = .ok (.bipush 12, 2) := by decide +kernel
theorem dX4_undo_16 : decode cX4_undo 16 = .ok (.iadd, 1) := by decide +kernel
theorem dX4_undo_17 : decode cX4_undo 17 = .ok (.iconst 1, 1) := by decide +kernel
theorem dX4_undo_18 : decode cX4_undo 18 = .ok (.isub, 1) := by decide +kernel
theorem dX4_undo_19 : decode cX4_undo 19 = .ok (.bipush 12, 2) := by decide +kernel
theorem dX4_undo_21 : decode cX4_undo 21 = .ok (.irem, 1) := by decide +kernel
theorem dX4_undo_22 : decode cX4_undo 22 = .ok (.putfield 52, 3) := by decide +kernel
theorem dX4_undo_25 : decode cX4_undo 25 = .ok (.aload_n 0, 1) := by decide +kernel
theorem dX4_undo_26 : decode cX4_undo 26 = .ok (.getfield 48, 3) := by decide +kernel
theorem dX4_undo_29 : decode cX4_undo 29 = .ok (.aload_n 0, 1) := by decide +kernel
theorem dX4_undo_30 : decode cX4_undo 30 = .ok (.getfield 52, 3) := by decide +kernel
theorem dX4_undo_33 : decode cX4_undo 33 = .ok (.aaload, 1) := by decide +kernel
theorem dX4_undo_34 : decode cX4_undo 34 = .ok (.astore_n 1, 1) := by decide +kernel
theorem dX4_undo_35 : decode cX4_undo 35 = .ok (.aload_n 1, 1) := by decide +kernel
theorem dX4_undo_36 : decode cX4_undo 36 = .ok (.ifnull 11, 3) := by decide +kernel
theorem dX4_undo_39 : decode cX4_undo 39 = .ok (.aload_n 0, 1) := by decide +kernel
theorem dX4_undo_40 : decode cX4_undo 40 = .ok (.getfield 37, 3) := by decide +kernel
theorem dX4_undo_43 : decode cX4_undo 43 = .ok (.aload_n 1, 1) := by decide +kernel
theorem dX4_undo_44 : decode cX4_undo 44 = .ok (.invokevirtual 241, 3) := by decide +kernel
theorem dX4_undo_47 : decode cX4_undo 47 = .ok (.aload_n 0, 1) := by decide +kernel
theorem dX4_undo_48 : decode cX4_undo 48 = .ok (.dup, 1) := by decide +kernel
theorem dX4_undo_49 : decode cX4_undo 49 = .ok (.getfield 55, 3) := by decide +kernel
theorem dX4_undo_52 : decode cX4_undo 52 = .ok (.iconst 1, 1) := by decide +kernel
theorem dX4_undo_53 : decode cX4_undo 53 = .ok (.isub, 1) := by decide +kernel
theorem dX4_undo_54 : decode cX4_undo 54 = .ok (.putfield 55, 3) := by decide +kernel
theorem dX4_undo_57 : decode cX4_undo 57 = .ok (.aload_n 0, 1) := by decide +kernel
theorem dX4_undo_58 : decode cX4_undo 58 = .ok (.getfield 55, 3) := by decide +kernel
theorem dX4_undo_61 : decode cX4_undo 61 = .ok (.ireturn, 1) := by decide +kernel
theorem dX4_keep_0 : decode cX4_keep 0 = .ok (.iload_n 1, 1) := by decide +kernel
theorem dX4_keep_1 : decode cX4_keep 1 = .ok (.ifCond .lt 8, 3) := by decide +kernel
theorem dX4_keep_4 : decode cX4_keep 4 = .ok (.iload_n 1, 1) := by decide +kernel
theorem dX4_keep_5 : decode cX4_keep 5 = .ok (.iconst 2, 1) := by decide +kernel
theorem dX4_keep_6 : decode cX4_keep 6 = .ok (.if_icmp .lt 5, 3) := by decide +kernel
theorem dX4_keep_9 : decode cX4_keep 9 = .ok (.iconst 0, 1) := by decide +kernel
theorem dX4_keep_10 : decode cX4_keep 10 = .ok (.ireturn, 1) := by decide +kernel
theorem dX4_keep_11 : decode cX4_keep 11 = .ok (.iload_n 2, 1) := by decide +kernel
theorem dX4_keep_12 : decode cX4_keep 12 = .ok (.ifCond .eq 9, 3) := by decide +kernel
theorem dX4_keep_15 : decode cX4_keep 15 = .ok (.aload_n 0, 1) := by decide +kernel
theorem dX4_keep_16 : decode cX4_keep 16 = .ok (.iload_n 1, 1) := by decide +kernel
theorem dX4_keep_17 : decode cX4_keep 17 = .ok (.invokevirtual 245, 3) := by decide +kernel
theorem dX4_keep_20 : decode cX4_keep 20 = .ok (.ireturn, 1) := by decide +kernel
theorem dX4_keep_21 : decode cX4_keep 21 = .ok (.aload_n 0, 1) := by decide +kernel
theorem dX4_keep_22 : decode cX4_keep 22 = .ok (.getfield 58, 3) := by decide +kernel
theorem dX4_keep_25 : decode cX4_keep 25 = .ok (.iload_n 1, 1) := by decide +kernel
theorem dX4_keep_26 : decode cX4_keep 26 = .ok (.aaload, 1) := by decide +kernel
theorem dX4_keep_27 : decode cX4_keep 27 = .ok (.astore_n 3, 1) := by decide +kernel
theorem dX4_keep_28 : decode cX4_keep 28 = .ok (.aload_n 3, 1) := by decide +kernel
theorem dX4_keep_29 : decode cX4_keep 29 = .ok (.ifnonnull 18, 3) := by decide +kernel
theorem dX4_keep_32 : decode cX4_keep 32 = .ok (.new 34, 3) := by decide +kernel
theorem dX4_keep_35 : decode cX4_keep 35 = .ok (.dup, 1) := by decide +kernel
theorem dX4_keep_36 : decode cX4_keep 36 = .ok (.invokespecial 36, 3) := by decide +kernel
theorem dX4_keep_39 : decode cX4_keep 39 = .ok (.astore_n 3, 1) := by decide +kernel
theorem dX4_keep_40 : decode cX4_keep 40 = .ok (.aload_n 0, 1) := by decide +kernel
theorem dX4_keep_41 : decode cX4_keep 41 = .ok (.getfield 58, 3) := by decide +kernel
theorem dX4_keep_44 : decode cX4_keep 44 = .ok (.iload_n 1, 1) := by decide +kernel
theorem dX4_keep_45 : decode cX4_keep 45 = .ok (.aload_n 3, 1) := by decide +kernel
theorem dX4_keep_46 : decode cX4_keep 46 = .ok (.aastore, 1) := by decide +kernel
theorem dX4_keep_47 : decode cX4_keep 47 = .ok (.aload_n 3, 1) := by decide +kernel
theorem dX4_keep_48 : decode cX4_keep 48 = .ok (.aload_n 0, 1) := by decide +kernel
theorem dX4_keep_49 : decode cX4_keep 49 = .ok (.getfield 37, 3) := by decide +kernel
theorem dX4_keep_52 : decode cX4_keep 52 = .ok (.invokevirtual 241, 3) := by decide +kernel
theorem dX4_keep_55 : decode cX4_keep 55 = .ok (.aload_n 0, 1) := by decide +kernel
theorem dX4_keep_56 : decode cX4_keep 56 = .ok (.getfield 61, 3) := by decide +kernel
theorem dX4_keep_59 : decode cX4_keep 59 = .ok (.iload_n 1, 1) := by decide +kernel
theorem dX4_keep_60 : decode cX4_keep 60 = .ok (.iconst 1, 1) := by decide +kernel
theorem dX4_keep_61 : decode cX4_keep 61 = .ok (.bastore, 1) := by decide +kernel
theorem dX4_keep_62 : decode cX4_keep 62 = .ok (.iconst 1, 1) := by decide +kernel
theorem dX4_keep_63 : decode cX4_keep 63 = .ok (.ireturn, 1) := by decide +kernel
theorem dX4_count_0 : decode cX4_count 0 = .ok (.iload_n 1, 1) := by decide +kernel
theorem dX4_count_1 : decode cX4_count 1 = .ok (.tableswitch 140 0 9 #[55, 63, 71, 79, 91, 106, 114, 119, 124, 132], 55) := by decide +kernel
theorem dX4_count_56 : decode cX4_count 56 = .ok (.aload_n 0, 1) := by decide +kernel
theorem dX4_count_57 : decode cX4_count 57 = .ok (.getfield 27, 3) := by decide +kernel
theorem dX4_count_60 : decode cX4_count 60 = .ok (.getfield 248, 3) := by decide +kernel
theorem dX4_count_63 : decode cX4_count 63 = .ok (.ireturn, 1) := by decide +kernel
theorem dX4_count_64 : decode cX4_count 64 = .ok (.aload_n 0, 1) := by decide +kernel
theorem dX4_count_65 : decode cX4_count 65 = .ok (.getfield 27, 3) := by decide +kernel
theorem dX4_count_68 : decode cX4_count 68 = .ok (.getfield 221, 3) := by decide +kernel
theorem dX4_count_71 : decode cX4_count 71 = .ok (.ireturn, 1) := by decide +kernel
theorem dX4_count_72 : decode cX4_count 72 = .ok (.aload_n 0, 1) := by decide +kernel
theorem dX4_count_73 : decode cX4_count 73 = .ok (.getfield 27, 3) := by decide +kernel
theorem dX4_count_76 : decode cX4_count 76 = .ok (.getfield 209, 3) := by decide +kernel
theorem dX4_count_79 : decode cX4_count 79 = .ok (.ireturn, 1) := by decide +kernel
theorem dX4_count_80 : decode cX4_count 80 = .ok (.aload_n 0, 1) := by decide +kernel
theorem dX4_count_81 : decode cX4_count 81 = .ok (.getfield 37, 3) := by decide +kernel
theorem dX4_count_84 : decode cX4_count 84 = .ok (.aload_n 0, 1) := by decide +kernel
theorem dX4_count_85 : decode cX4_count 85 = .ok (.getfield 27, 3) := by decide +kernel
theorem dX4_count_88 : decode cX4_count 88 = .ok (.invokevirtual 251, 3) := by decide +kernel
theorem dX4_count_91 : decode cX4_count 91 = .ok (.ireturn, 1) := by decide +kernel
theorem dX4_count_92 : decode cX4_count 92 = .ok (.aload_n 0, 1) := by decide +kernel
theorem dX4_count_93 : decode cX4_count 93 = .ok (.getfield 37, 3) := by decide +kernel
theorem dX4_count_96 : decode cX4_count 96 = .ok (.aload_n 0, 1) := by decide +kernel
theorem dX4_count_97 : decode cX4_count 97 = .ok (.getfield 27, 3) := by decide +kernel
theorem dX4_count_100 : decode cX4_count 100 = .ok (.invokevirtual 254, 3) := by decide +kernel
theorem dX4_count_103 : decode cX4_count 103 = .ok (.invokestatic 142, 3) := by decide +kernel
theorem dX4_count_106 : decode cX4_count 106 = .ok (.ireturn, 1) := by decide +kernel
theorem dX4_count_107 : decode cX4_count 107 = .ok (.aload_n 0, 1) := by decide +kernel
theorem dX4_count_108 : decode cX4_count 108 = .ok (.getfield 37, 3) := by decide +kernel
theorem dX4_count_111 : decode cX4_count 111 = .ok (.invokevirtual 257, 3) := by decide +kernel
theorem dX4_count_114 : decode cX4_count 114 = .ok (.ireturn, 1) := by decide +kernel
theorem dX4_count_115 : decode cX4_count 115 = .ok (.aload_n 0, 1) := by decide +kernel
theorem dX4_count_116 : decode cX4_count 116 = .ok (.getfield 55, 3) := by decide +kernel
theorem dX4_count_119 : decode cX4_count 119 = .ok (.ireturn, 1) := by decide +kernel
theorem dX4_count_120 : decode cX4_count 120 = .ok (.aload_n 0, 1) := by decide +kernel
theorem dX4_count_121 : decode cX4_count 121 = .ok (.getfield 13, 3) := by decide +kernel
theorem dX4_count_124 : decode cX4_count 124 = .ok (.ireturn, 1) := by decide +kernel
theorem dX4_count_125 : decode cX4_count 125 = .ok (.aload_n 0, 1) := by decide +kernel
theorem dX4_count_126 : decode cX4_count 126 = .ok (.getfield 27, 3) := by decide +kernel
theorem dX4_count_129 : decode cX4_count 129 = .ok (.getfield 260, 3) := by decide +kernel
theorem dX4_count_132 : decode cX4_count 132 = .ok (.ireturn, 1) := by decide +kernel
theorem dX4_count_133 : decode cX4_count 133 = .ok (.aload_n 0, 1) := by decide +kernel
theorem dX4_count_134 : decode cX4_count 134 = .ok (.getfield 27, 3) := by decide +kernel
theorem dX4_count_137 : decode cX4_count 137 = .ok (.getfield 263, 3) := by decide +kernel
theorem dX4_count_140 : decode cX4_count 140 = .ok (.ireturn, 1) := by decide +kernel
theorem dX4_count_141 : decode cX4_count 141 = .ok (.iconst (-1), 1) := by decide +kernel
theorem dX4_count_142 : decode cX4_count 142 = .ok (.ireturn, 1) := by decide +kernel
theorem dX4_putOnTape_0 : decode cX4_putOnTape 0 = .ok (.bipush 24, 2) := by decide +kernel
theorem dX4_putOnTape_2 : decode cX4_putOnTape 2 = .ok (.istore_n 2, 1) := by decide +kernel
theorem dX4_putOnTape_3 : decode cX4_putOnTape 3 = .ok (.iload_n 2, 1) := by decide +kernel
theorem dX4_putOnTape_4 : decode cX4_putOnTape 4 = .ok (.ifCond .lt 42, 3) := by decide +kernel
theorem dX4_putOnTape_7 : decode cX4_putOnTape 7 = .ok (.aload_n 0, 1) := by decide +kernel
theorem dX4_putOnTape_8 : decode cX4_putOnTape 8 = .ok (.getfield 13, 3) := by decide +kernel
theorem dX4_putOnTape_11 : decode cX4_putOnTape 11 = .ok (.sipush 600, 3) := by decide +kernel
theorem dX4_putOnTape_14 : decode cX4_putOnTape 14 = .ok (.if_icmp .ge 26, 3) := by decide +kernel
theorem dX4_putOnTape_17 : decode cX4_putOnTape 17 = .ok (.aload_n 0, 1) := by decide +kernel
theorem dX4_putOnTape_18 : decode cX4_putOnTape 18 = .ok (.getfield 9, 3) := by decide +kernel
theorem dX4_putOnTape_21 : decode cX4_putOnTape 21 = .ok (.aload_n 0, 1) := by decide +kernel
theorem dX4_putOnTape_22 : decode cX4_putOnTape 22 = .ok (.getfield 13, 3) := by decide +kernel
theorem dX4_putOnTape_25 : decode cX4_putOnTape 25 = .ok (.iload_n 1, 1) := by decide +kernel
theorem dX4_putOnTape_26 : decode cX4_putOnTape 26 = .ok (.iload_n 2, 1) := by decide +kernel
theorem dX4_putOnTape_27 : decode cX4_putOnTape 27 = .ok (.ishr, 1) := by decide +kernel
theorem dX4_putOnTape_28 : decode cX4_putOnTape 28 = .ok (.i2b, 1) := by decide +kernel
theorem dX4_putOnTape_29 : decode cX4_putOnTape 29 = .ok (.bastore, 1) := by decide +kernel
theorem dX4_putOnTape_30 : decode cX4_putOnTape 30 = .ok (.aload_n 0, 1) := by decide +kernel
theorem dX4_putOnTape_31 : decode cX4_putOnTape 31 = .ok (.dup, 1) := by decide +kernel
theorem dX4_putOnTape_32 : decode cX4_putOnTape 32 = .ok (.getfield 13, 3) := by decide +kernel
theorem dX4_putOnTape_35 : decode cX4_putOnTape 35 = .ok (.iconst 1, 1) := by decide +kernel
theorem dX4_putOnTape_36 : decode cX4_putOnTape 36 = .ok (.iadd, 1) := by decide +kernel
theorem dX4_putOnTape_37 : decode cX4_putOnTape 37 = .ok (.putfield 13, 3) := by decide +kernel
theorem dX4_putOnTape_40 : decode cX4_putOnTape 40 = .ok (.iinc 2 (-8), 3) := by decide +kernel
theorem dX4_putOnTape_43 : decode cX4_putOnTape 43 = .ok (.goto (-40), 3) := by decide +kernel
theorem dX4_putOnTape_46 : decode cX4_putOnTape 46 = .ok (.return_, 1) := by decide +kernel
theorem dX4_remember_0 : decode cX4_remember 0 = .ok (.aload_n 0, 1) := by decide +kernel
theorem dX4_remember_1 : decode cX4_remember 1 = .ok (.getfield 48, 3) := by decide +kernel
theorem dX4_remember_4 : decode cX4_remember 4 = .ok (.aload_n 0, 1) := by decide +kernel
theorem dX4_remember_5 : decode cX4_remember 5 = .ok (.getfield 52, 3) := by decide +kernel
theorem dX4_remember_8 : decode cX4_remember 8 = .ok (.aaload, 1) := by decide +kernel
theorem dX4_remember_9 : decode cX4_remember 9 = .ok (.astore_n 1, 1) := by decide +kernel
theorem dX4_remember_10 : decode cX4_remember 10 = .ok (.aload_n 1, 1) := by decide +kernel
theorem dX4_remember_11 : decode cX4_remember 11 = .ok (.ifnonnull 21, 3) := by decide +kernel
theorem dX4_remember_14 : decode cX4_remember 14 = .ok (.new 34, 3) := by decide +kernel
theorem dX4_remember_17 : decode cX4_remember 17 = .ok (.dup, 1) := by decide +kernel
theorem dX4_remember_18 : decode cX4_remember 18 = .ok (.invokespecial 36, 3) := by decide +kernel
theorem dX4_remember_21 : decode cX4_remember 21 = .ok (.astore_n 1, 1) := by decide +kernel
theorem dX4_remember_22 : decode cX4_remember 22 = .ok (.aload_n 0, 1) := by decide +kernel
theorem dX4_remember_23 : decode cX4_remember 23 = .ok (.getfield 48, 3) := by decide +kernel
theorem dX4_remember_26 : decode cX4_remember 26 = .ok (.aload_n 0, 1) := by decide +kernel
theorem dX4_remember_27 : decode cX4_remember 27 = .ok (.getfield 52, 3) := by decide +kernel
theorem dX4_remember_30 : decode cX4_remember 30 = .ok (.aload_n 1, 1) := by decide +kernel
theorem dX4_remember_31 : decode cX4_remember 31 = .ok (.aastore, 1) := by decide +kernel
theorem dX4_remember_32 : decode cX4_remember 32 = .ok (.aload_n 1, 1) := by decide +kernel
theorem dX4_remember_33 : decode cX4_remember 33 = .ok (.aload_n 0, 1) := by decide +kernel
theorem dX4_remember_34 : decode cX4_remember 34 = .ok (.getfield 37, 3) := by decide +kernel
theorem dX4_remember_37 : decode cX4_remember 37 = .ok (.invokevirtual 241, 3) := by decide +kernel
theorem dX4_remember_40 : decode cX4_remember 40 = .ok (.aload_n 0, 1) := by decide +kernel
theorem dX4_remember_41 : decode cX4_remember 41 = .ok (.aload_n 0, 1) := by decide +kernel
theorem dX4_remember_42 : decode cX4_remember 42 = .ok (.getfield 52, 3) := by decide +kernel
theorem dX4_remember_45 : decode cX4_remember 45 = .ok (.iconst 1, 1) := by decide +kernel
theorem dX4_remember_46 : decode cX4_remember 46 = .ok (.iadd, 1) := by decide +kernel
theorem dX4_remember_47 : decode cX4_remember 47 = .ok (.bipush 12, 2) := by decide +kernel
theorem dX4_remember_49 : decode cX4_remember 49 = .ok (.irem, 1) := by decide +kernel
theorem dX4_remember_50 : decode cX4_remember 50 = .ok (.putfield 52, 3) := by decide +kernel
theorem dX4_remember_53 : decode cX4_remember 53 = .ok (.aload_n 0, 1) := by decide +kernel
theorem dX4_remember_54 : decode cX4_remember 54 = .ok (.aload_n 0, 1) := by decide +kernel
theorem dX4_remember_55 : decode cX4_remember 55 = .ok (.getfield 55, 3) := by decide +kernel
theorem dX4_remember_58 : decode cX4_remember 58 = .ok (.iconst 1, 1) := by decide +kernel
theorem dX4_remember_59 : decode cX4_remember 59 = .ok (.iadd, 1) := by decide +kernel
theorem dX4_remember_60 : decode cX4_remember 60 = .ok (.bipush 12, 2) := by decide +kernel
theorem dX4_remember_62 : decode cX4_remember 62 = .ok (.invokestatic 266, 3) := by decide +kernel
theorem dX4_remember_65 : decode cX4_remember 65 = .ok (.putfield 55, 3) := by decide +kernel
theorem dX4_remember_68 : decode cX4_remember 68 = .ok (.return_, 1) := by decide +kernel
theorem dX4_goBackTo_0 : decode cX4_goBackTo 0 = .ok (.aload_n 0, 1) := by decide +kernel
theorem dX4_goBackTo_1 : decode cX4_goBackTo 1 = .ok (.getfield 58, 3) := by decide +kernel
theorem dX4_goBackTo_4 : decode cX4_goBackTo 4 = .ok (.iload_n 1, 1) := by decide +kernel
theorem dX4_goBackTo_5 : decode cX4_goBackTo 5 = .ok (.aaload, 1) := by decide +kernel
theorem dX4_goBackTo_6 : decode cX4_goBackTo 6 = .ok (.astore_n 2, 1) := by decide +kernel
theorem dX4_goBackTo_7 : decode cX4_goBackTo 7 = .ok (.aload_n 0, 1) := by decide +kernel
theorem dX4_goBackTo_8 : decode cX4_goBackTo 8 = .ok (.getfield 61, 3) := by decide +kernel
theorem dX4_goBackTo_11 : decode cX4_goBackTo 11 = .ok (.iload_n 1, 1) := by decide +kernel
theorem dX4_goBackTo_12 : decode cX4_goBackTo 12 = .ok (.baload, 1) := by decide +kernel
theorem dX4_goBackTo_13 : decode cX4_goBackTo 13 = .ok (.ifCond .eq 7, 3) := by decide +kernel
theorem dX4_goBackTo_16 : decode cX4_goBackTo 16 = .ok (.aload_n 2, 1) := by decide +kernel
theorem dX4_goBackTo_17 : decode cX4_goBackTo 17 = .ok (.ifnonnull 5, 3) := by decide +kernel
theorem dX4_goBackTo_20 : decode cX4_goBackTo 20 = .ok (.iconst 0, 1) := by decide +kernel
theorem dX4_goBackTo_21 : decode cX4_goBackTo 21 = .ok (.ireturn, 1) := by decide +kernel
theorem dX4_goBackTo_22 : decode cX4_goBackTo 22 = .ok (.aload_n 0, 1) := by decide +kernel
theorem dX4_goBackTo_23 : decode cX4_goBackTo 23 = .ok (.getfield 37, 3) := by decide +kernel
theorem dX4_goBackTo_26 : decode cX4_goBackTo 26 = .ok (.aload_n 2, 1) := by decide +kernel
theorem dX4_goBackTo_27 : decode cX4_goBackTo 27 = .ok (.invokevirtual 241, 3) := by decide +kernel
theorem dX4_goBackTo_30 : decode cX4_goBackTo 30 = .ok (.aload_n 0, 1) := by decide +kernel
theorem dX4_goBackTo_31 : decode cX4_goBackTo 31 = .ok (.iconst 0, 1) := by decide +kernel
theorem dX4_goBackTo_32 : decode cX4_goBackTo 32 = .ok (.putfield 55, 3) := by decide +kernel
theorem dX4_goBackTo_35 : decode cX4_goBackTo 35 = .ok (.iconst 1, 1) := by decide +kernel
theorem dX4_goBackTo_36 : decode cX4_goBackTo 36 = .ok (.ireturn, 1) := by decide +kernel
theorem dX4_wavesOfSize_0 : decode cX4_wavesOfSize 0 = .ok (.aload_n 0, 1) := by decide +kernel
theorem dX4_wavesOfSize_1 : decode cX4_wavesOfSize 1 = .ok (.getfield 37, 3) := by decide +kernel
theorem dX4_wavesOfSize_4 : decode cX4_wavesOfSize 4 = .ok (.aload_n 0, 1) := by decide +kernel
theorem dX4_wavesOfSize_5 : decode cX4_wavesOfSize 5 = .ok (.getfield 27, 3) := by decide +kernel
theorem dX4_wavesOfSize_8 : decode cX4_wavesOfSize 8 = .ok (.invokevirtual 254, 3) := by decide +kernel
theorem dX4_wavesOfSize_11 : decode cX4_wavesOfSize 11 = .ok (.istore_n 2, 1) := by decide +kernel
theorem dX4_wavesOfSize_12 : decode cX4_wavesOfSize 12 = .ok (.iconst 0, 1) := by decide +kernel
theorem dX4_wavesOfSize_13 : decode cX4_wavesOfSize 13 = .ok (.istore_n 3, 1) := by decide +kernel
theorem dX4_wavesOfSize_14 : decode cX4_wavesOfSize 14 = .ok (.iconst 0, 1) := by decide +kernel
theorem dX4_wavesOfSize_15 : decode cX4_wavesOfSize 15 = .ok (.istore 4, 2) := by decide +kernel
theorem dX4_wavesOfSize_17 : decode cX4_wavesOfSize 17 = .ok (.iload 4, 2) := by decide +kernel
theorem dX4_wavesOfSize_19 : decode cX4_wavesOfSize 19 = .ok (.bipush 16, 2) := by decide +kernel
theorem dX4_wavesOfSize_21 : decode cX4_wavesOfSize 21 = .ok (.if_icmp .ge 30, 3) := by decide +kernel
theorem dX4_wavesOfSize_24 : decode cX4_wavesOfSize 24 = .ok (.iload_n 2, 1) := by decide +kernel
theorem dX4_wavesOfSize_25 : decode cX4_wavesOfSize 25 = .ok (.ifCond .eq 26, 3) := by decide +kernel
theorem dX4_wavesOfSize_28 : decode cX4_wavesOfSize 28 = .ok (.iload_n 2, 1) := by decide +kernel
theorem dX4_wavesOfSize_29 : decode cX4_wavesOfSize 29 = .ok (.aload_n 0, 1) := by decide +kernel
theorem dX4_wavesOfSize_30 : decode cX4_wavesOfSize 30 = .ok (.getfield 27, 3) := by decide +kernel
theorem dX4_wavesOfSize_33 : decode cX4_wavesOfSize 33 = .ok (.iload_n 2, 1) := by decide +kernel
theorem dX4_wavesOfSize_34 : decode cX4_wavesOfSize 34 = .ok (.iload_n 1, 1) := by decide +kernel
theorem dX4_wavesOfSize_35 : decode cX4_wavesOfSize 35 = .ok (.invokevirtual 271, 3) := by decide +kernel
theorem dX4_wavesOfSize_38 : decode cX4_wavesOfSize 38 = .ok (.iconst (-1), 1) := by decide +kernel
theorem dX4_wavesOfSize_39 : decode cX4_wavesOfSize 39 = .ok (.ixor, 1) := by decide +kernel
theorem dX4_wavesOfSize_40 : decode cX4_wavesOfSize 40 = .ok (.iand, 1) := by decide +kernel
theorem dX4_wavesOfSize_41 : decode cX4_wavesOfSize 41 = .ok (.istore_n 2, 1) := by decide +kernel
theorem dX4_wavesOfSize_42 : decode cX4_wavesOfSize 42 = .ok (.iinc 3 1, 3) := by decide +kernel
theorem dX4_wavesOfSize_45 : decode cX4_wavesOfSize 45 = .ok (.iinc 4 1, 3) := by decide +kernel
theorem dX4_wavesOfSize_48 : decode cX4_wavesOfSize 48 = .ok (.goto (-31), 3) := by decide +kernel
theorem dX4_wavesOfSize_51 : decode cX4_wavesOfSize 51 = .ok (.iload_n 3, 1) := by decide +kernel
theorem dX4_wavesOfSize_52 : decode cX4_wavesOfSize 52 = .ok (.ireturn, 1) := by decide +kernel
theorem dX4_picksOfSize_0 : decode cX4_picksOfSize 0 = .ok (.aload_n 0, 1) := by decide +kernel
theorem dX4_picksOfSize_1 : decode cX4_picksOfSize 1 = .ok (.getfield 37, 3) := by decide +kernel
theorem dX4_picksOfSize_4 : decode cX4_picksOfSize 4 = .ok (.aload_n 0, 1) := by decide +kernel
theorem dX4_picksOfSize_5 : decode cX4_picksOfSize 5 = .ok (.getfield 27, 3) := by decide +kernel
theorem dX4_picksOfSize_8 : decode cX4_picksOfSize 8 = .ok (.invokevirtual 254, 3) := by decide +kernel
theorem dX4_picksOfSize_11 : decode cX4_picksOfSize 11 = .ok (.istore_n 2, 1) := by decide +kernel
theorem dX4_picksOfSize_12 : decode cX4_picksOfSize 12 = .ok (.iconst 0, 1) := by decide +kernel
theorem dX4_picksOfSize_13 : decode cX4_picksOfSize 13 = .ok (.istore_n 3, 1) := by decide +kernel
theorem dX4_picksOfSize_14 : decode cX4_picksOfSize 14 = .ok (.iconst 0, 1) := by decide +kernel
theorem dX4_picksOfSize_15 : decode cX4_picksOfSize 15 = .ok (.istore 4, 2) := by decide +kernel
theorem dX4_picksOfSize_17 : decode cX4_picksOfSize 17 = .ok (.iload 4, 2) := by decide +kernel
theorem dX4_picksOfSize_19 : decode cX4_picksOfSize 19 = .ok (.bipush 16, 2) := by decide +kernel
theorem dX4_picksOfSize_21 : decode cX4_picksOfSize 21 = .ok (.if_icmp .ge 46, 3) := by decide +kernel
theorem dX4_picksOfSize_24 : decode cX4_picksOfSize 24 = .ok (.iload_n 2, 1) := by decide +kernel
theorem dX4_picksOfSize_25 : decode cX4_picksOfSize 25 = .ok (.ifCond .eq 42, 3) := by decide +kernel
theorem dX4_picksOfSize_28 : decode cX4_picksOfSize 28 = .ok (.aload_n 0, 1) := by decide +kernel
theorem dX4_picksOfSize_29 : decode cX4_picksOfSize 29 = .ok (.getfield 27, 3) := by decide +kernel
theorem dX4_picksOfSize_32 : decode cX4_picksOfSize 32 = .ok (.iload_n 2, 1) := by decide +kernel
theorem dX4_picksOfSize_33 : decode cX4_picksOfSize 33 = .ok (.iload_n 1, 1) := by decide +kernel
theorem dX4_picksOfSize_34 : decode cX4_picksOfSize 34 = .ok (.invokevirtual 271, 3) := by decide +kernel
theorem dX4_picksOfSize_37 : decode cX4_picksOfSize 37 = .ok (.istore 5, 2) := by decide +kernel
theorem dX4_picksOfSize_39 : decode cX4_picksOfSize 39 = .ok (.iload_n 3, 1) := by decide +kernel
theorem dX4_picksOfSize_40 : decode cX4_picksOfSize 40 = .ok (.aload_n 0, 1) := by decide +kernel
theorem dX4_picksOfSize_41 : decode cX4_picksOfSize 41 = .ok (.getfield 27, 3) := by decide +kernel
theorem dX4_picksOfSize_44 : decode cX4_picksOfSize 44 = .ok (.iload 5, 2) := by decide +kernel
theorem dX4_picksOfSize_46 : decode cX4_picksOfSize 46 = .ok (.invokevirtual 274, 3) := by decide +kernel
theorem dX4_picksOfSize_49 : decode cX4_picksOfSize 49 = .ok (.invokestatic 142, 3) := by decide +kernel
theorem dX4_picksOfSize_52 : decode cX4_picksOfSize 52 = .ok (.iadd, 1) := by decide +kernel
theorem dX4_picksOfSize_53 : decode cX4_picksOfSize 53 = .ok (.istore_n 3, 1) := by decide +kernel
theorem dX4_picksOfSize_54 : decode cX4_picksOfSize 54 = .ok (.iload_n 2, 1) := by decide +kernel
theorem dX4_picksOfSize_55 : decode cX4_picksOfSize 55 = .ok (.iload 5, 2) := by decide +kernel
theorem dX4_picksOfSize_57 : decode cX4_picksOfSize 57 = .ok (.iconst (-1), 1) := by decide +kernel
theorem dX4_picksOfSize_58 : decode cX4_picksOfSize 58 = .ok (.ixor, 1) := by decide +kernel
theorem dX4_picksOfSize_59 : decode cX4_picksOfSize 59 = .ok (.iand, 1) := by decide +kernel
theorem dX4_picksOfSize_60 : decode cX4_picksOfSize 60 = .ok (.istore_n 2, 1) := by decide +kernel
theorem dX4_picksOfSize_61 : decode cX4_picksOfSize 61 = .ok (.iinc 4 1, 3) := by decide +kernel
theorem dX4_picksOfSize_64 : decode cX4_picksOfSize 64 = .ok (.goto (-47), 3) := by decide +kernel
theorem dX4_picksOfSize_67 : decode cX4_picksOfSize 67 = .ok (.iload_n 3, 1) := by decide +kernel
theorem dX4_picksOfSize_68 : decode cX4_picksOfSize 68 = .ok (.ireturn, 1) := by decide +kernel
theorem dX4_isInt_0 : decode cX4_isInt 0 = .ok (.lload_n 0, 1) := by decide +kernel
theorem dX4_isInt_1 : decode cX4_isInt 1 = .ok (.ldc2_w 277, 3) := by decide +kernel
theorem dX4_isInt_4 : decode cX4_isInt 4 = .ok (.lcmp, 1) := by decide +kernel
theorem dX4_isInt_5 : decode cX4_isInt 5 = .ok (.ifCond .lt 15, 3) := by decide +kernel
theorem dX4_isInt_8 : decode cX4_isInt 8 = .ok (.lload_n 0, 1) := by decide +kernel
theorem dX4_isInt_9 : decode cX4_isInt 9 = .ok (.ldc2_w 279, 3) := by decide +kernel
theorem dX4_isInt_12 : decode cX4_isInt 12 = .ok (.lcmp, 1) := by decide +kernel
theorem dX4_isInt_13 : decode cX4_isInt 13 = .ok (.ifCond .gt 7, 3) := by decide +kernel
theorem dX4_isInt_16 : decode cX4_isInt 16 = .ok (.iconst 1, 1) := by decide +kernel
theorem dX4_isInt_17 : decode cX4_isInt 17 = .ok (.goto 4, 3) := by decide +kernel
theorem dX4_isInt_20 : decode cX4_isInt 20 = .ok (.iconst 0, 1) := by decide +kernel
theorem dX4_isInt_21 : decode cX4_isInt 21 = .ok (.ireturn, 1) := by decide +kernel
theorem dX4_hasBit_0 : decode cX4_hasBit 0 = .ok (.iload_n 0, 1) := by decide +kernel
theorem dX4_hasBit_1 : decode cX4_hasBit 1 = .ok (.iload_n 1, 1) := by decide +kernel
theorem dX4_hasBit_2 : decode cX4_hasBit 2 = .ok (.ishr, 1) := by decide +kernel
theorem dX4_hasBit_3 : decode cX4_hasBit 3 = .ok (.iconst 1, 1) := by decide +kernel
theorem dX4_hasBit_4 : decode cX4_hasBit 4 = .ok (.iand, 1) := by decide +kernel
theorem dX4_hasBit_5 : decode cX4_hasBit 5 = .ok (.ifCond .eq 7, 3) := by decide +kernel
theorem dX4_hasBit_8 : decode cX4_hasBit 8 = .ok (.iconst 1, 1) := by decide +kernel
theorem dX4_hasBit_9 : decode cX4_hasBit 9 = .ok (.goto 4, 3) := by decide +kernel
theorem dX4_hasBit_12 : decode cX4_hasBit 12 = .ok (.iconst 0, 1) := by decide +kernel
theorem dX4_hasBit_13 : decode cX4_hasBit 13 = .ok (.ireturn, 1) := by decide +kernel
theorem dX4_cell_0 : decode cX4_cell 0 = .ok (.iload_n 0, 1) := by decide +kernel
theorem dX4_cell_1 : decode cX4_cell 1 = .ok (.bipush 10, 2) := by decide +kernel
theorem dX4_cell_3 : decode cX4_cell 3 = .ok (.imul, 1) := by decide +kernel
theorem dX4_cell_4 : decode cX4_cell 4 = .ok (.iload_n 1, 1) := by decide +kernel
theorem dX4_cell_5 : decode cX4_cell 5 = .ok (.iadd, 1) := by decide +kernel
theorem dX4_cell_6 : decode cX4_cell 6 = .ok (.ireturn, 1) := by decide +kernel
theorem dX4_orderOfUnit_0 : decode cX4_orderOfUnit 0 = .ok (.iload_n 0, 1) := by decide +kernel
theorem dX4_orderOfUnit_1 : decode cX4_orderOfUnit 1 = .ok (.bipush 10, 2) := by decide +kernel
theorem dX4_orderOfUnit_3 : decode cX4_orderOfUnit 3 = .ok (.idiv, 1) := by decide +kernel
theorem dX4_orderOfUnit_4 : decode cX4_orderOfUnit 4 = .ok (.ireturn, 1) := by decide +kernel
theorem dX4_itemOfUnit_0 : decode cX4_itemOfUnit 0 = .ok (.iload_n 0, 1) := by decide +kernel
theorem dX4_itemOfUnit_1 : decode cX4_itemOfUnit 1 = .ok (.bipush 10, 2) := by decide +kernel
theorem dX4_itemOfUnit_3 : decode cX4_itemOfUnit 3 = .ok (.irem, 1) := by decide +kernel
theorem dX4_itemOfUnit_4 : decode cX4_itemOfUnit 4 = .ok (.ireturn, 1) := by decide +kernel
theorem dX4_partOfUnit_0 : decode cX4_partOfUnit 0 = .ok (.iload_n 1, 1) := by decide +kernel
theorem dX4_partOfUnit_1 : decode cX4_partOfUnit 1 = .ok (.lookupswitch 37 #[(0, 27), (1, 32)], 27) := by decide +kernel
theorem dX4_partOfUnit_28 : decode cX4_partOfUnit 28 = .ok (.iload_n 0, 1) := by decide +kernel
theorem dX4_partOfUnit_29 : decode cX4_partOfUnit 29 = .ok (.invokestatic 281, 3) := by decide +kernel
theorem dX4_partOfUnit_32 : decode cX4_partOfUnit 32 = .ok (.ireturn, 1) := by decide +kernel
theorem dX4_partOfUnit_33 : decode cX4_partOfUnit 33 = .ok (.iload_n 0, 1) := by decide +kernel
theorem dX4_partOfUnit_34 : decode cX4_partOfUnit 34 = .ok (.invokestatic 284, 3) := by decide +kernel
theorem dX4_partOfUnit_37 : decode cX4_partOfUnit 37 = .ok (.ireturn, 1) := by decide +kernel
theorem dX4_partOfUnit_38 : decode cX4_partOfUnit 38 = .ok (.bipush (-2), 2) := by decide +kernel
theorem dX4_partOfUnit_40 : decode cX4_partOfUnit 40 = .ok (.ireturn, 1) := by decide +kernel
theorem dX4_sumOfOrder_0 : decode cX4_sumOfOrder 0 = .ok (.iconst 0, 1) := by decide +kernel
theorem dX4_sumOfOrder_1 : decode cX4_sumOfOrder 1 = .ok (.istore_n 2, 1) := by decide +kernel
theorem dX4_sumOfOrder_2 : decode cX4_sumOfOrder 2 = .ok (.iconst 0, 1) := by decide +kernel
theorem dX4_sumOfOrder_3 : decode cX4_sumOfOrder 3 = .ok (.istore_n 3, 1) := by decide +kernel
theorem dX4_sumOfOrder_4 : decode cX4_sumOfOrder 4 = .ok (.iload_n 3, 1) := by decide +kernel
theorem dX4_sumOfOrder_5 : decode cX4_sumOfOrder 5 = .ok (.bipush 10, 2) := by decide +kernel
theorem dX4_sumOfOrder_7 : decode cX4_sumOfOrder 7 = .ok (.if_icmp .ge 19, 3) := by decide +kernel
theorem dX4_sumOfOrder_10 : decode cX4_sumOfOrder 10 = .ok (.iload_n 2, 1) := by decide +kernel
theorem dX4_sumOfOrder_11 : decode cX4_sumOfOrder 11 = .ok (.aload_n 0, 1) := by decide +kernel
theorem dX4_sumOfOrder_12 : decode cX4_sumOfOrder 12 = .ok (.iload_n 1, 1) := by decide +kernel
theorem dX4_sumOfOrder_13 : decode cX4_sumOfOrder 13 = .ok (.iload_n 3, 1) := by decide +kernel
theorem dX4_sumOfOrder_14 : decode cX4_sumOfOrder 14 = .ok (.invokestatic 135, 3) := by decide +kernel
theorem dX4_sumOfOrder_17 : decode cX4_sumOfOrder 17 = .ok (.iaload, 1) := by decide +kernel
theorem dX4_sumOfOrder_18 : decode cX4_sumOfOrder 18 = .ok (.iadd, 1) := by decide +kernel
theorem dX4_sumOfOrder_19 : decode cX4_sumOfOrder 19 = .ok (.istore_n 2, 1) := by decide +kernel
theorem dX4_sumOfOrder_20 : decode cX4_sumOfOrder 20 = .ok (.iinc 3 1, 3) := by decide +kernel
theorem dX4_sumOfOrder_23 : decode cX4_sumOfOrder 23 = .ok (.goto (-19), 3) := by decide +kernel
theorem dX4_sumOfOrder_26 : decode cX4_sumOfOrder 26 = .ok (.iload_n 2, 1) := by decide +kernel
theorem dX4_sumOfOrder_27 : decode cX4_sumOfOrder 27 = .ok (.ireturn, 1) := by decide +kernel
