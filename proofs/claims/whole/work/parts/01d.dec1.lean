theorem dX2_init_0 : decode cX2_init 0 = .ok (.aload_n 0, 1) := by decide +kernel
theorem dX2_init_1 : decode cX2_init 1 = .ok (.invokespecial 3, 3) := by decide +kernel
theorem dX2_init_4 : decode cX2_init 4 = .ok (.aload_n 0, 1) := by decide +kernel
theorem dX2_init_5 : decode cX2_init 5 = .ok (.iconst 0, 1) := by decide +kernel
theorem dX2_init_6 : decode cX2_init 6 = .ok (.newarray .byte, 2) := by decide +kernel
theorem dX2_init_8 : decode cX2_init 8 = .ok (.putfield 9, 3) := by decide +kernel
theorem dX2_init_11 : decode cX2_init 11 = .ok (.aload_n 0, 1) := by decide +kernel
theorem dX2_init_12 : decode cX2_init 12 = .ok (.iconst 0, 1) := by decide +kernel
theorem dX2_init_13 : decode cX2_init 13 = .ok (.putfield 15, 3) := by decide +kernel
theorem dX2_init_16 : decode cX2_init 16 = .ok (.aload_n 0, 1) := by decide +kernel
theorem dX2_init_17 : decode cX2_init 17 = .ok (.iconst 0, 1) := by decide +kernel
theorem dX2_init_18 : decode cX2_init 18 = .ok (.putfield 19, 3) := by decide +kernel
theorem dX2_init_21 : decode cX2_init 21 = .ok (.aload_n 0, 1) := by decide +kernel
theorem dX2_init_22 : decode cX2_init 22 = .ok (.iconst 0, 1) := by decide +kernel
theorem dX2_init_23 : decode cX2_init 23 = .ok (.putfield 22, 3) := by decide +kernel
theorem dX2_init_26 : decode cX2_init 26 = .ok (.aload_n 0, 1) := by decide +kernel
theorem dX2_init_27 : decode cX2_init 27 = .ok (.iconst 0, 1) := by decide +kernel
theorem dX2_init_28 : decode cX2_init 28 = .ok (.putfield 25, 3) := by decide +kernel
theorem dX2_init_31 : decode cX2_init 31 = .ok (.aload_n 0, 1) := by decide +kernel
theorem dX2_init_32 : decode cX2_init 32 = .ok (.iconst 0, 1) := by decide +kernel
theorem dX2_init_33 : decode cX2_init 33 = .ok (.putfield 28, 3) := by decide +kernel
theorem dX2_init_36 : decode cX2_init 36 = .ok (.aload_n 0, 1) := by decide +kernel
theorem dX2_init_37 : decode cX2_init 37 = .ok (.iconst 0, 1) := by decide +kernel
theorem dX2_init_38 : decode cX2_init 38 = .ok (.putfield 31, 3) := by decide +kernel
theorem dX2_init_41 : decode cX2_init 41 = .ok (.return_, 1) := by decide +kernel
theorem dX2_read_0 : decode cX2_read 0 = .ok (.aload_n 0, 1) := by decide +kernel
theorem dX2_read_1 : decode cX2_read 1 = .ok (.aload_n 1, 1) := by decide +kernel
theorem dX2_read_2 : decode cX2_read 2 = .ok (.putfield 9, 3) := by decide +kernel
theorem dX2_read_5 : decode cX2_read 5 = .ok (.aload_n 0, 1) := by decide +kernel
theorem dX2_read_6 : decode cX2_read 6 = .ok (.iload_n 2, 1) := by decide +kernel
theorem dX2_read_7 : decode cX2_read 7 = .ok (.aload_n 1, 1) := by decide +kernel
theorem dX2_read_8 : decode cX2_read 8 = .ok (.arraylength, 1) := by decide +kernel
theorem dX2_read_9 : decode cX2_read 9 = .ok (.invokestatic 34, 3) := by decide +kernel
theorem dX2_read_12 : decode cX2_read 12 = .ok (.putfield 15, 3) := by decide +kernel
theorem dX2_read_15 : decode cX2_read 15 = .ok (.aload_n 0, 1) := by decide +kernel
theorem dX2_read_16 : decode cX2_read 16 = .ok (.iconst 0, 1) := by decide +kernel
theorem dX2_read_17 : decode cX2_read 17 = .ok (.putfield 19, 3) := by decide +kernel
theorem dX2_read_20 : decode cX2_read 20 = .ok (.aload_n 0, 1) := by decide +kernel
theorem dX2_read_21 : decode cX2_read 21 = .ok (.iconst 0, 1) := by decide +kernel
theorem dX2_read_22 : decode cX2_read 22 = .ok (.putfield 31, 3) := by decide +kernel
theorem dX2_read_25 : decode cX2_read 25 = .ok (.aload_n 3, 1) := by decide +kernel
theorem dX2_read_26 : decode cX2_read 26 = .ok (.invokevirtual 40, 3) := by decide +kernel
theorem dX2_read_29 : decode cX2_read 29 = .ok (.aload_n 0, 1) := by decide +kernel
theorem dX2_read_30 : decode cX2_read 30 = .ok (.invokevirtual 45, 3) := by decide +kernel
theorem dX2_read_33 : decode cX2_read 33 = .ok (.iconst 0, 1) := by decide +kernel
theorem dX2_read_34 : decode cX2_read 34 = .ok (.istore 4, 2) := by decide +kernel
theorem dX2_read_36 : decode cX2_read 36 = .ok (.iload 4, 2) := by decide +kernel
theorem dX2_read_38 : decode cX2_read 38 = .ok (.sipush 600, 3) := by decide +kernel
theorem dX2_read_41 : decode cX2_read 41 = .ok (.if_icmp .ge 28, 3) := by decide +kernel
theorem dX2_read_44 : decode cX2_read 44 = .ok (.aload_n 0, 1) := by decide +kernel
theorem dX2_read_45 : decode cX2_read 45 = .ok (.getfield 31, 3) := by decide +kernel
theorem dX2_read_48 : decode cX2_read 48 = .ok (.ifCond .ne 21, 3) := by decide +kernel
theorem dX2_read_51 : decode cX2_read 51 = .ok (.aload_n 0, 1) := by decide +kernel
theorem dX2_read_52 : decode cX2_read 52 = .ok (.getfield 22, 3) := by decide +kernel
theorem dX2_read_55 : decode cX2_read 55 = .ok (.ifCond .eq 14, 3) := by decide +kernel
theorem dX2_read_58 : decode cX2_read 58 = .ok (.aload_n 0, 1) := by decide +kernel
theorem dX2_read_59 : decode cX2_read 59 = .ok (.aload_n 3, 1) := by decide +kernel
theorem dX2_read_60 : decode cX2_read 60 = .ok (.invokevirtual 48, 3) := by decide +kernel
theorem dX2_read_63 : decode cX2_read 63 = .ok (.iinc 4 1, 3) := by decide +kernel
theorem dX2_read_66 : decode cX2_read 66 = .ok (.goto (-30), 3) := by decide +kernel
theorem dX2_read_69 : decode cX2_read 69 = .ok (.aload_n 0, 1) := by decide +kernel
theorem dX2_read_70 : decode cX2_read 70 = .ok (.getfield 31, 3) := by decide +kernel
theorem dX2_read_73 : decode cX2_read 73 = .ok (.ireturn, 1) := by decide +kernel
theorem dX2_readLine_0 : decode cX2_readLine 0 = .ok (.aload_n 0, 1) := by decide +kernel
theorem dX2_readLine_1 : decode cX2_readLine 1 = .ok (.getfield 22, 3) := by decide +kernel
theorem dX2_readLine_4 : decode cX2_readLine 4 = .ok (.iconst 1, 1) := by decide +kernel
theorem dX2_readLine_5 : decode cX2_readLine 5 = .ok (.if_icmp .ne 10, 3) := by decide +kernel
theorem dX2_readLine_8 : decode cX2_readLine 8 = .ok (.aload_n 0, 1) := by decide +kernel
theorem dX2_readLine_9 : decode cX2_readLine 9 = .ok (.getfield 28, 3) := by decide +kernel
theorem dX2_readLine_12 : decode cX2_readLine 12 = .ok (.goto 4, 3) := by decide +kernel
theorem dX2_readLine_15 : decode cX2_readLine 15 = .ok (.iconst 0, 1) := by decide +kernel
theorem dX2_readLine_16 : decode cX2_readLine 16 = .ok (.istore_n 2, 1) := by decide +kernel
theorem dX2_readLine_17 : decode cX2_readLine 17 = .ok (.iload_n 2, 1) := by decide +kernel
theorem dX2_readLine_18 : decode cX2_readLine 18 = .ok (.lookupswitch 74 #[(315565, 58), (755397, 50), (8892595, 42), (16322738, 66)], 42) := by decide +kernel
theorem dX2_readLine_60 : decode cX2_readLine 60 = .ok (.aload_n 0, 1) := by decide +kernel
theorem dX2_readLine_61 : decode cX2_readLine 61 = .ok (.aload_n 1, 1) := by decide +kernel
theorem dX2_readLine_62 : decode cX2_readLine 62 = .ok (.invokevirtual 52, 3) := by decide +kernel
theorem dX2_readLine_65 : decode cX2_readLine 65 = .ok (.goto 32, 3) := by decide +kernel
theorem dX2_readLine_68 : decode cX2_readLine 68 = .ok (.aload_n 0, 1) := by decide +kernel
theorem dX2_readLine_69 : decode cX2_readLine 69 = .ok (.aload_n 1, 1) := by decide +kernel
theorem dX2_readLine_70 : decode cX2_readLine 70 = .ok (.invokevirtual 55, 3) := by decide +kernel
theorem dX2_readLine_73 : decode cX2_readLine 73 = .ok (.goto 24, 3) := by decide +kernel
theorem dX2_readLine_76 : decode cX2_readLine 76 = .ok (.aload_n 0, 1) := by decide +kernel
theorem dX2_readLine_77 : decode cX2_readLine 77 = .ok (.aload_n 1, 1) := by decide +kernel
theorem dX2_readLine_78 : decode cX2_readLine 78 = .ok (.invokevirtual 58, 3) := by decide +kernel
theorem dX2_readLine_81 : decode cX2_readLine 81 = .ok (.goto 16, 3) := by decide +kernel
theorem dX2_readLine_84 : decode cX2_readLine 84 = .ok (.aload_n 0, 1) := by decide +kernel
theorem dX2_readLine_85 : decode cX2_readLine 85 = .ok (.aload_n 1, 1) := by decide +kernel
theorem dX2_readLine_86 : decode cX2_readLine 86 = .ok (.invokevirtual 61, 3) := by decide +kernel
theorem dX2_readLine_89 : decode cX2_readLine 89 = .ok (.goto 8, 3) := by decide +kernel
theorem dX2_readLine_92 : decode cX2_readLine 92 = .ok (.aload_n 0, 1) := by decide +kernel
theorem dX2_readLine_93 : decode cX2_readLine 93 = .ok (.iconst 1, 1) := by decide +kernel
theorem dX2_readLine_94 : decode cX2_readLine 94 = .ok (.invokevirtual 64, 3) := by decide +kernel
theorem dX2_readLine_97 : decode cX2_readLine 97 = .ok (.aload_n 0, 1) := by decide +kernel
theorem dX2_readLine_98 : decode cX2_readLine 98 = .ok (.invokevirtual 68, 3) := by decide +kernel
theorem dX2_readLine_101 : decode cX2_readLine 101 = .ok (.aload_n 1, 1) := by decide +kernel
theorem dX2_readLine_102 : decode cX2_readLine 102 = .ok (.dup, 1) := by decide +kernel
theorem dX2_readLine_103 : decode cX2_readLine 103 = .ok (.getfield 71, 3) := by decide +kernel
theorem dX2_readLine_106 : decode cX2_readLine 106 = .ok (.iconst 1, 1) := by decide +kernel
theorem dX2_readLine_107 : decode cX2_readLine 107 = .ok (.iadd, 1) := by decide +kernel
theorem dX2_readLine_108 : decode cX2_readLine 108 = .ok (.putfield 71, 3) := by decide +kernel
theorem dX2_readLine_111 : decode cX2_readLine 111 = .ok (.return_, 1) := by decide +kernel
theorem dX2_readHoles_0 : decode cX2_readHoles 0 = .ok (.aload_n 1, 1) := by decide +kernel
theorem dX2_readHoles_1 : decode cX2_readHoles 1 = .ok (.getfield 74, 3) := by decide +kernel
theorem dX2_readHoles_4 : decode cX2_readHoles 4 = .ok (.ifCond .eq 9, 3) := by decide +kernel
theorem dX2_readHoles_7 : decode cX2_readHoles 7 = .ok (.aload_n 0, 1) := by decide +kernel
theorem dX2_readHoles_8 : decode cX2_readHoles 8 = .ok (.iconst 2, 1) := by decide +kernel
theorem dX2_readHoles_9 : decode cX2_readHoles 9 = .ok (.invokevirtual 64, 3) := by decide +kernel
theorem dX2_readHoles_12 : decode cX2_readHoles 12 = .ok (.return_, 1) := by decide +kernel
theorem dX2_readHoles_13 : decode cX2_readHoles 13 = .ok (.aload_n 1, 1) := by decide +kernel
theorem dX2_readHoles_14 : decode cX2_readHoles 14 = .ok (.iconst 1, 1) := by decide +kernel
theorem dX2_readHoles_15 : decode cX2_readHoles 15 = .ok (.putfield 74, 3) := by decide +kernel
theorem dX2_readHoles_18 : decode cX2_readHoles 18 = .ok (.aload_n 0, 1) := by decide +kernel
theorem dX2_readHoles_19 : decode cX2_readHoles 19 = .ok (.invokevirtual 45, 3) := by decide +kernel
theorem dX2_readHoles_22 : decode cX2_readHoles 22 = .ok (.aload_n 1, 1) := by decide +kernel
theorem dX2_readHoles_23 : decode cX2_readHoles 23 = .ok (.aload_n 0, 1) := by decide +kernel
theorem dX2_readHoles_24 : decode cX2_readHoles 24 = .ok (.iconst 1, 1) := by decide +kernel
theorem dX2_readHoles_25 : decode cX2_readHoles 25 = .ok (.bipush 8, 2) := by decide +kernel
theorem dX2_readHoles_27 : decode cX2_readHoles 27 = .ok (.invokevirtual 78, 3) := by decide +kernel
theorem dX2_readHoles_30 : decode cX2_readHoles 30 = .ok (.putfield 81, 3) := by decide +kernel
theorem dX2_readHoles_33 : decode cX2_readHoles 33 = .ok (.return_, 1) := by decide +kernel
theorem dX2_readWave_0 : decode cX2_readWave 0 = .ok (.aload_n 1, 1) := by decide +kernel
theorem dX2_readWave_1 : decode cX2_readWave 1 = .ok (.getfield 84, 3) := by decide +kernel
theorem dX2_readWave_4 : decode cX2_readWave 4 = .ok (.ifCond .eq 9, 3) := by decide +kernel
theorem dX2_readWave_7 : decode cX2_readWave 7 = .ok (.aload_n 0, 1) := by decide +kernel
theorem dX2_readWave_8 : decode cX2_readWave 8 = .ok (.iconst 2, 1) := by decide +kernel
theorem dX2_readWave_9 : decode cX2_readWave 9 = .ok (.invokevirtual 64, 3) := by decide +kernel
theorem dX2_readWave_12 : decode cX2_readWave 12 = .ok (.return_, 1) := by decide +kernel
theorem dX2_readWave_13 : decode cX2_readWave 13 = .ok (.aload_n 1, 1) := by decide +kernel
theorem dX2_readWave_14 : decode cX2_readWave 14 = .ok (.iconst 1, 1) := by decide +kernel
theorem dX2_readWave_15 : decode cX2_readWave 15 = .ok (.putfield 84, 3) := by decide +kernel
theorem dX2_readWave_18 : decode cX2_readWave 18 = .ok (.aload_n 0, 1) := by decide +kernel
theorem dX2_readWave_19 : decode cX2_readWave 19 = .ok (.invokevirtual 45, 3) := by decide +kernel
theorem dX2_readWave_22 : decode cX2_readWave 22 = .ok (.aload_n 1, 1) := by decide +kernel
theorem dX2_readWave_23 : decode cX2_readWave 23 = .ok (.aload_n 0, 1) := by decide +kernel
theorem dX2_readWave_24 : decode cX2_readWave 24 = .ok (.iconst 1, 1) := by decide +kernel
theorem dX2_readWave_25 : decode cX2_readWave 25 = .ok (.bipush 8, 2) := by decide +kernel
theorem dX2_readWave_27 : decode cX2_readWave 27 = .ok (.invokevirtual 78, 3) := by decide +kernel
theorem dX2_readWave_30 : decode cX2_readWave 30 = .ok (.putfield 87, 3) := by decide +kernel
theorem dX2_readWave_33 : decode cX2_readWave 33 = .ok (.aload_n 1, 1) := by decide +kernel
theorem dX2_readWave_34 : decode cX2_readWave 34 = .ok (.aload_n 0, 1) := by decide +kernel
theorem dX2_readWave_35 : decode cX2_readWave 35 = .ok (.iconst 1, 1) := by decide +kernel
theorem dX2_readWave_36 : decode cX2_readWave 36 = .ok (.bipush 60, 2) := by decide +kernel
theorem dX2_readWave_38 : decode cX2_readWave 38 = .ok (.invokevirtual 78, 3) := by decide +kernel
theorem dX2_readWave_41 : decode cX2_readWave 41 = .ok (.putfield 90, 3) := by decide +kernel
theorem dX2_readWave_44 : decode cX2_readWave 44 = .ok (.return_, 1) := by decide +kernel
theorem dX2_readItem_0 : decode cX2_readItem 0 = .ok (.aload_n 1, 1) := by decide +kernel
theorem dX2_readItem_1 : decode cX2_readItem 1 = .ok (.getfield 93, 3) := by decide +kernel
theorem dX2_readItem_4 : decode cX2_readItem 4 = .ok (.bipush 10, 2) := by decide +kernel
theorem dX2_readItem_6 : decode cX2_readItem 6 = .ok (.if_icmp .lt 9, 3) := by decide +kernel
theorem dX2_readItem_9 : decode cX2_readItem 9 = .ok (.aload_n 0, 1) := by decide +kernel
theorem dX2_readItem_10 : decode cX2_readItem 10 = .ok (.iconst 5, 1) := by decide +kernel
theorem dX2_readItem_11 : decode cX2_readItem 11 = .ok (.invokevirtual 64, 3) := by decide +kernel
theorem dX2_readItem_14 : decode cX2_readItem 14 = .ok (.return_, 1) := by decide +kernel
theorem dX2_readItem_15 : decode cX2_readItem 15 = .ok (.aload_n 0, 1) := by decide +kernel
theorem dX2_readItem_16 : decode cX2_readItem 16 = .ok (.invokevirtual 45, 3) := by decide +kernel
theorem dX2_readItem_19 : decode cX2_readItem 19 = .ok (.aload_n 0, 1) := by decide +kernel
theorem dX2_readItem_20 : decode cX2_readItem 20 = .ok (.aload_n 1, 1) := by decide +kernel
theorem dX2_readItem_21 : decode cX2_readItem 21 = .ok (.invokevirtual 96, 3) := by decide +kernel
theorem dX2_readItem_24 : decode cX2_readItem 24 = .ok (.istore_n 2, 1) := by decide +kernel
theorem dX2_readItem_25 : decode cX2_readItem 25 = .ok (.aload_n 0, 1) := by decide +kernel
theorem dX2_readItem_26 : decode cX2_readItem 26 = .ok (.iconst 0, 1) := by decide +kernel
theorem dX2_readItem_27 : decode cX2_readItem 27 = .ok (.bipush 99, 2) := by decide +kernel
theorem dX2_readItem_29 : decode cX2_readItem 29 = .ok (.invokevirtual 78, 3) := by decide +kernel
theorem dX2_readItem_32 : decode cX2_readItem 32 = .ok (.istore_n 3, 1) := by decide +kernel
theorem dX2_readItem_33 : decode cX2_readItem 33 = .ok (.aload_n 0, 1) := by decide +kernel
theorem dX2_readItem_34 : decode cX2_readItem 34 = .ok (.iconst 0, 1) := by decide +kernel
theorem dX2_readItem_35 : decode cX2_readItem 35 = .ok (.bipush 99, 2) := by decide +kernel
theorem dX2_readItem_37 : decode cX2_readItem 37 = .ok (.invokevirtual 78, 3) := by decide +kernel
theorem dX2_readItem_40 : decode cX2_readItem 40 = .ok (.istore 4, 2) := by decide +kernel
theorem dX2_readItem_42 : decode cX2_readItem 42 = .ok (.aload_n 0, 1) := by decide +kernel
theorem dX2_readItem_43 : decode cX2_readItem 43 = .ok (.getfield 31, 3) := by decide +kernel
theorem dX2_readItem_46 : decode cX2_readItem 46 = .ok (.ifCond .ne 11, 3) := by decide +kernel
theorem dX2_readItem_49 : decode cX2_readItem 49 = .ok (.aload_n 1, 1) := by decide +kernel
theorem dX2_readItem_50 : decode cX2_readItem 50 = .ok (.iload_n 2, 1) := by decide +kernel
theorem dX2_readItem_51 : decode cX2_readItem 51 = .ok (.iload_n 3, 1) := by decide +kernel
theorem dX2_readItem_52 : decode cX2_readItem 52 = .ok (.iload 4, 2) := by decide +kernel
theorem dX2_readItem_54 : decode cX2_readItem 54 = .ok (.invokevirtual 100, 3) := by decide +kernel
theorem dX2_readItem_57 : decode cX2_readItem 57 = .ok (.return_, 1) := by decide +kernel
theorem dX2_readOrder_0 : decode cX2_readOrder 0 = .ok (.aload_n 1, 1) := by decide +kernel
theorem dX2_readOrder_1 : decode cX2_readOrder 1 = .ok (.getfield 104, 3) := by decide +kernel
theorem dX2_readOrder_4 : decode cX2_readOrder 4 = .ok (.bipush 16, 2) := by decide +kernel
theorem dX2_readOrder_6 : decode cX2_readOrder 6 = .ok (.if_icmp .lt 9, 3) := by decide +kernel
theorem dX2_readOrder_9 : decode cX2_readOrder 9 = .ok (.aload_n 0, 1) := by decide +kernel
theorem dX2_readOrder_10 : decode cX2_readOrder 10 = .ok (.iconst 5, 1) := by decide +kernel
theorem dX2_readOrder_11 : decode cX2_readOrder 11 = .ok (.invokevirtual 64, 3) := by decide +kernel
theorem dX2_readOrder_14 : decode cX2_readOrder 14 = .ok (.return_, 1) := by decide +kernel
theorem dX2_readOrder_15 : decode cX2_readOrder 15 = .ok (.aload_n 0, 1) := by decide +kernel
theorem dX2_readOrder_16 : decode cX2_readOrder 16 = .ok (.invokevirtual 45, 3) := by decide +kernel
theorem dX2_readOrder_19 : decode cX2_readOrder 19 = .ok (.aload_n 0, 1) := by decide +kernel
theorem dX2_readOrder_20 : decode cX2_readOrder 20 = .ok (.aload_n 1, 1) := by decide +kernel
theorem dX2_readOrder_21 : decode cX2_readOrder 21 = .ok (.invokevirtual 96, 3) := by decide +kernel
theorem dX2_readOrder_24 : decode cX2_readOrder 24 = .ok (.istore_n 2, 1) := by decide +kernel
theorem dX2_readOrder_25 : decode cX2_readOrder 25 = .ok (.aload_n 0, 1) := by decide +kernel
theorem dX2_readOrder_26 : decode cX2_readOrder 26 = .ok (.iconst 0, 1) := by decide +kernel
theorem dX2_readOrder_27 : decode cX2_readOrder 27 = .ok (.bipush 99, 2) := by decide +kernel
theorem dX2_readOrder_29 : decode cX2_readOrder 29 = .ok (.invokevirtual 78, 3) := by decide +kernel
theorem dX2_readOrder_32 : decode cX2_readOrder 32 = .ok (.istore_n 3, 1) := by decide +kernel
theorem dX2_readOrder_33 : decode cX2_readOrder 33 = .ok (.aload_n 0, 1) := by decide +kernel
theorem dX2_readOrder_34 : decode cX2_readOrder 34 = .ok (.getfield 31, 3) := by decide +kernel
theorem dX2_readOrder_37 : decode cX2_readOrder 37 = .ok (.ifCond .eq 4, 3) := by decide +kernel
theorem dX2_readOrder_40 : decode cX2_readOrder 40 = .ok (.return_, 1) := by decide +kernel
theorem dX2_readOrder_41 : decode cX2_readOrder 41 = .ok (.aload_n 1, 1) := by decide +kernel
theorem dX2_readOrder_42 : decode cX2_readOrder 42 = .ok (.getfield 104, 3) := by decide +kernel
theorem dX2_readOrder_45 : decode cX2_readOrder 45 = .ok (.istore 4, 2) := by decide +kernel
theorem dX2_readOrder_47 : decode cX2_readOrder 47 = .ok (.aload_n 1, 1) := by decide +kernel
theorem dX2_readOrder_48 : decode cX2_readOrder 48 = .ok (.iload_n 2, 1) := by decide +kernel
theorem dX2_readOrder_49 : decode cX2_readOrder 49 = .ok (.iload_n 3, 1) := by decide +kernel
theorem dX2_readOrder_50 : decode cX2_readOrder 50 = .ok (.invokevirtual 107, 3) := by decide +kernel
theorem dX2_readOrder_53 : decode cX2_readOrder 53 = .ok (.iconst 0, 1) := by decide +kernel
theorem dX2_readOrder_54 : decode cX2_readOrder 54 = .ok (.istore 5, 2) := by decide +kernel
theorem dX2_readOrder_56 : decode cX2_readOrder 56 = .ok (.iload 5, 2) := by decide +kernel
theorem dX2_readOrder_58 : decode cX2_readOrder 58 = .ok (.bipush 6, 2) := by decide +kernel
theorem dX2_readOrder_60 : decode cX2_readOrder 60 = .ok (.if_icmp .gt 69, 3) := by decide +kernel
theorem dX2_readOrder_63 : decode cX2_readOrder 63 = .ok (.aload_n 0, 1) := by decide +kernel
theorem dX2_readOrder_64 : decode cX2_readOrder 64 = .ok (.getfield 31, 3) := by decide +kernel
theorem dX2_readOrder_67 : decode cX2_readOrder 67 = .ok (.ifCond .ne 62, 3) := by decide +kernel
theorem dX2_readOrder_70 : decode cX2_readOrder 70 = .ok (.iload 5, 2) := by decide +kernel
theorem dX2_readOrder_72 : decode cX2_readOrder 72 = .ok (.ifCond .eq 11, 3) := by decide +kernel
theorem dX2_readOrder_75 : decode cX2_readOrder 75 = .ok (.aload_n 0, 1) := by decide +kernel
theorem dX2_readOrder_76 : decode cX2_readOrder 76 = .ok (.getfield 22, 3) := by decide +kernel
theorem dX2_readOrder_79 : decode cX2_readOrder 79 = .ok (.iconst 3, 1) := by decide +kernel
theorem dX2_readOrder_80 : decode cX2_readOrder 80 = .ok (.if_icmp .eq 49, 3) := by decide +kernel
theorem dX2_readOrder_83 : decode cX2_readOrder 83 = .ok (.aload_n 0, 1) := by decide +kernel
theorem dX2_readOrder_84 : decode cX2_readOrder 84 = .ok (.aload_n 1, 1) := by decide +kernel
theorem dX2_readOrder_85 : decode cX2_readOrder 85 = .ok (.aload_n 1, 1) := by decide +kernel
theorem dX2_readOrder_86 : decode cX2_readOrder 86 = .ok (.getfield 111, 3) := by decide +kernel
theorem dX2_readOrder_89 : decode cX2_readOrder 89 = .ok (.iload 4, 2) := by decide +kernel
theorem dX2_readOrder_91 : decode cX2_readOrder 91 = .ok (.iaload, 1) := by decide +kernel
theorem dX2_readOrder_92 : decode cX2_readOrder 92 = .ok (.invokevirtual 115, 3) := by decide +kernel
theorem dX2_readOrder_95 : decode cX2_readOrder 95 = .ok (.istore 6, 2) := by decide +kernel
theorem dX2_readOrder_97 : decode cX2_readOrder 97 = .ok (.aload_n 0, 1) := by decide +kernel
theorem dX2_readOrder_98 : decode cX2_readOrder 98 = .ok (.iconst 1, 1) := by decide +kernel
theorem dX2_readOrder_99 : decode cX2_readOrder 99 = .ok (.bipush 9, 2) := by decide +kernel
theorem dX2_readOrder_101 : decode cX2_readOrder 101 = .ok (.invokevirtual 78, 3) := by decide +kernel
theorem dX2_readOrder_104 : decode cX2_readOrder 104 = .ok (.istore 7, 2) := by decide +kernel
theorem dX2_readOrder_106 : decode cX2_readOrder 106 = .ok (.aload_n 0, 1) := by decide +kernel
theorem dX2_readOrder_107 : decode cX2_readOrder 107 = .ok (.getfield 31, 3) := by decide +kernel
theorem dX2_readOrder_110 : decode cX2_readOrder 110 = .ok (.ifCond .ne 13, 3) := by decide +kernel
theorem dX2_readOrder_113 : decode cX2_readOrder 113 = .ok (.aload_n 1, 1) := by decide +kernel
theorem dX2_readOrder_114 : decode cX2_readOrder 114 = .ok (.iload 4, 2) := by decide +kernel
theorem dX2_readOrder_116 : decode cX2_readOrder 116 = .ok (.iload 6, 2) := by decide +kernel
theorem dX2_readOrder_118 : decode cX2_readOrder 118 = .ok (.iload 7, 2) := by decide +kernel
theorem dX2_readOrder_120 : decode cX2_readOrder 120 = .ok (.invokevirtual 119, 3) := by decide +kernel
theorem dX2_readOrder_123 : decode cX2_readOrder 123 = .ok (.iinc 5 1, 3) := by decide +kernel
theorem dX2_readOrder_126 : decode cX2_readOrder 126 = .ok (.goto (-70), 3) := by decide +kernel
theorem dX2_readOrder_129 : decode cX2_readOrder 129 = .ok (.return_, 1) := by decide +kernel
theorem dX2_readItemOf_0 : decode cX2_readItemOf 0 = .ok (.aload_n 0, 1) := by decide +kernel
theorem dX2_readItemOf_1 : decode cX2_readItemOf 1 = .ok (.invokevirtual 122, 3) := by decide +kernel
theorem dX2_readItemOf_4 : decode cX2_readItemOf 4 = .ok (.ifCond .ne 10, 3) := by decide +kernel
theorem dX2_readItemOf_7 : decode cX2_readItemOf 7 = .ok (.aload_n 0, 1) := by decide +kernel
theorem dX2_readItemOf_8 : decode cX2_readItemOf 8 = .ok (.iconst 1, 1) := by decide +kernel
theorem dX2_readItemOf_9 : decode cX2_readItemOf 9 = .ok (.invokevirtual 64, 3) := by decide +kernel
theorem dX2_readItemOf_12 : decode cX2_readItemOf 12 = .ok (.iconst (-1), 1) := by decide +kernel
theorem dX2_readItemOf_13 : decode cX2_readItemOf 13 = .ok (.ireturn, 1) := by decide +kernel
theorem dX2_readItemOf_14 : decode cX2_readItemOf 14 = .ok (.aload_n 1, 1) := by decide +kernel
theorem dX2_readItemOf_15 : decode cX2_readItemOf 15 = .ok (.aload_n 0, 1) := by decide +kernel
theorem dX2_readItemOf_16 : decode cX2_readItemOf 16 = .ok (.getfield 28, 3) := by decide +kernel
theorem dX2_readItemOf_19 : decode cX2_readItemOf 19 = .ok (.invokevirtual 126, 3) := by decide +kernel
theorem dX2_readItemOf_22 : decode cX2_readItemOf 22 = .ok (.istore_n 3, 1) := by decide +kernel
theorem dX2_readItemOf_23 : decode cX2_readItemOf 23 = .ok (.iload_n 3, 1) := by decide +kernel
theorem dX2_readItemOf_24 : decode cX2_readItemOf 24 = .ok (.iconst (-1), 1) := by decide +kernel
theorem dX2_readItemOf_25 : decode cX2_readItemOf 25 = .ok (.if_icmp .ne 11, 3) := by decide +kernel
theorem dX2_readItemOf_28 : decode cX2_readItemOf 28 = .ok (.aload_n 0, 1) := by decide +kernel
theorem dX2_readItemOf_29 : decode cX2_readItemOf 29 = .ok (.iconst 3, 1) := by decide +kernel
theorem dX2_readItemOf_30 : decode cX2_readItemOf 30 = .ok (.invokevirtual 64, 3) := by decide +kernel
theorem dX2_readItemOf_33 : decode cX2_readItemOf 33 = .ok (.goto 33, 3) := by decide +kernel
theorem dX2_readItemOf_36 : decode cX2_readItemOf 36 = .ok (.iload_n 2, 1) := by decide +kernel
theorem dX2_readItemOf_37 : decode cX2_readItemOf 37 = .ok (.iload_n 3, 1) := by decide +kernel
theorem dX2_readItemOf_38 : decode cX2_readItemOf 38 = .ok (.invokestatic 130, 3) := by decide +kernel
theorem dX2_readItemOf_41 : decode cX2_readItemOf 41 = .ok (.ifCond .eq 11, 3) := by decide +kernel
theorem dX2_readItemOf_44 : decode cX2_readItemOf 44 = .ok (.aload_n 0, 1) := by decide +kernel
theorem dX2_readItemOf_45 : decode cX2_readItemOf 45 = .ok (.iconst 2, 1) := by decide +kernel
theorem dX2_readItemOf_46 : decode cX2_readItemOf 46 = .ok (.invokevirtual 64, 3) := by decide +kernel
theorem dX2_readItemOf_49 : decode cX2_readItemOf 49 = .ok (.goto 17, 3) := by decide +kernel
theorem dX2_readItemOf_52 : decode cX2_readItemOf 52 = .ok (.iload_n 2, 1) := by decide +kernel
theorem dX2_readItemOf_53 : decode cX2_readItemOf 53 = .ok (.invokestatic 134, 3) := by decide +kernel
theorem dX2_readItemOf_56 : decode cX2_readItemOf 56 = .ok (.bipush 6, 2) := by decide +kernel
theorem dX2_readItemOf_58 : decode cX2_readItemOf 58 = .ok (.if_icmp .lt 8, 3) := by decide +kernel
theorem dX2_readItemOf_61 : decode cX2_readItemOf 61 = .ok (.aload_n 0, 1) := by decide +kernel
theorem dX2_readItemOf_62 : decode cX2_readItemOf 62 = .ok (.iconst 5, 1) := by decide +kernel
theorem dX2_readItemOf_63 : decode cX2_readItemOf 63 = .ok (.invokevirtual 64, 3) := by decide +kernel
theorem dX2_readItemOf_66 : decode cX2_readItemOf 66 = .ok (.aload_n 0, 1) := by decide +kernel
theorem dX2_readItemOf_67 : decode cX2_readItemOf 67 = .ok (.invokevirtual 45, 3) := by decide +kernel
theorem dX2_readItemOf_70 : decode cX2_readItemOf 70 = .ok (.iload_n 3, 1) := by decide +kernel
theorem dX2_readItemOf_71 : decode cX2_readItemOf 71 = .ok (.ireturn, 1) := by decide +kernel
theorem dX2_readNewName_0 : decode cX2_readNewName 0 = .ok (.aload_n 0, 1) := by decide +kernel
theorem dX2_readNewName_1 : decode cX2_readNewName 1 = .ok (.invokevirtual 122, 3) := by decide +kernel
theorem dX2_readNewName_4 : decode cX2_readNewName 4 = .ok (.ifCond .ne 11, 3) := by decide +kernel
theorem dX2_readNewName_7 : decode cX2_readNewName 7 = .ok (.aload_n 0, 1) := by decide +kernel
theorem dX2_readNewName_8 : decode cX2_readNewName 8 = .ok (.iconst 1, 1) := by decide +kernel
theorem dX2_readNewName_9 : decode cX2_readNewName 9 = .ok (.invokevirtual 64, 3) := by decide +kernel
theorem dX2_readNewName_12 : decode cX2_readNewName 12 = .ok (.goto 19, 3) := by decide +kernel
theorem dX2_readNewName_15 : decode cX2_readNewName 15 = .ok (.aload_n 1, 1) := by decide +kernel
theorem dX2_readNewName_16 : decode cX2_readNewName 16 = .ok (.aload_n 0, 1) := by decide +kernel
theorem dX2_readNewName_17 : decode cX2_readNewName 17 = .ok (.getfield 28, 3) := by decide +kernel
theorem dX2_readNewName_20 : decode cX2_readNewName 20 = .ok (.invokevirtual 139, 3) := by decide +kernel
theorem dX2_readNewName_23 : decode cX2_readNewName 23 = .ok (.ifCond .eq 8, 3) := by decide +kernel
theorem dX2_readNewName_26 : decode cX2_readNewName 26 = .ok (.aload_n 0, 1) := by decide +kernel
theorem dX2_readNewName_27 : decode cX2_readNewName 27 = .ok (.iconst 2, 1) := by decide +kernel
theorem dX2_readNewName_28 : decode cX2_readNewName 28 = .ok (.invokevirtual 64, 3) := by decide +kernel
theorem dX2_readNewName_31 : decode cX2_readNewName 31 = .ok (.aload_n 0, 1) := by decide +kernel
theorem dX2_readNewName_32 : decode cX2_readNewName 32 = .ok (.getfield 28, 3) := by decide +kernel
theorem dX2_readNewName_35 : decode cX2_readNewName 35 = .ok (.istore_n 2, 1) := by decide +kernel
theorem dX2_readNewName_36 : decode cX2_readNewName 36 = .ok (.aload_n 0, 1) := by decide +kernel
theorem dX2_readNewName_37 : decode cX2_readNewName 37 = .ok (.invokevirtual 45, 3) := by decide +kernel
theorem dX2_readNewName_40 : decode cX2_readNewName 40 = .ok (.iload_n 2, 1) := by decide +kernel
theorem dX2_readNewName_41 : decode cX2_readNewName 41 = .ok (.ireturn, 1) := by decide +kernel
theorem dX2_readNumber_0 : decode cX2_readNumber 0 = .ok (.aload_n 0, 1) := by decide +kernel
theorem dX2_readNumber_1 : decode cX2_readNumber 1 = .ok (.getfield 22, 3) := by decide +kernel
theorem dX2_readNumber_4 : decode cX2_readNumber 4 = .ok (.iconst 2, 1) := by decide +kernel
theorem dX2_readNumber_5 : decode cX2_readNumber 5 = .ok (.if_icmp .eq 11, 3) := by decide +kernel
theorem dX2_readNumber_8 : decode cX2_readNumber 8 = .ok (.aload_n 0, 1) := by decide +kernel
theorem dX2_readNumber_9 : decode cX2_readNumber 9 = .ok (.iconst 1, 1) := by decide +kernel
theorem dX2_readNumber_10 : decode cX2_readNumber 10 = .ok (.invokevirtual 64, 3) := by decide +kernel
theorem dX2_readNumber_13 : decode cX2_readNumber 13 = .ok (.goto 24, 3) := by decide +kernel
theorem dX2_readNumber_16 : decode cX2_readNumber 16 = .ok (.aload_n 0, 1) := by decide +kernel
theorem dX2_readNumber_17 : decode cX2_readNumber 17 = .ok (.getfield 28, 3) := by decide +kernel
theorem dX2_readNumber_20 : decode cX2_readNumber 20 = .ok (.iload_n 1, 1) := by decide +kernel
theorem dX2_readNumber_21 : decode cX2_readNumber 21 = .ok (.if_icmp .lt 11, 3) := by decide +kernel
theorem dX2_readNumber_24 : decode cX2_readNumber 24 = .ok (.aload_n 0, 1) := by decide +kernel
theorem dX2_readNumber_25 : decode cX2_readNumber 25 = .ok (.getfield 28, 3) := by decide +kernel
theorem dX2_readNumber_28 : decode cX2_readNumber 28 = .ok (.iload_n 2, 1) := by decide +kernel
theorem dX2_readNumber_29 : decode cX2_readNumber 29 = .ok (.if_icmp .le 8, 3) := by decide +kernel
theorem dX2_readNumber_32 : decode cX2_readNumber 32 = .ok (.aload_n 0, 1) := by decide +kernel
theorem dX2_readNumber_33 : decode cX2_readNumber 33 = .ok (.iconst 4, 1) := by decide +kernel
theorem dX2_readNumber_34 : decode cX2_readNumber 34 = .ok (.invokevirtual 64, 3) := by decide +kernel
theorem dX2_readNumber_37 : decode cX2_readNumber 37 = .ok (.aload_n 0, 1) := by decide +kernel
theorem dX2_readNumber_38 : decode cX2_readNumber 38 = .ok (.getfield 28, 3) := by decide +kernel
theorem dX2_readNumber_41 : decode cX2_readNumber 41 = .ok (.istore_n 3, 1) := by decide +kernel
theorem dX2_readNumber_42 : decode cX2_readNumber 42 = .ok (.aload_n 0, 1) := by decide +kernel
theorem dX2_readNumber_43 : decode cX2_readNumber 43 = .ok (.invokevirtual 45, 3) := by decide +kernel
theorem dX2_readNumber_46 : decode cX2_readNumber 46 = .ok (.iload_n 3, 1) := by decide +kernel
theorem dX2_readNumber_47 : decode cX2_readNumber 47 = .ok (.ireturn, 1) := by decide +kernel
theorem dX2_readClose_0 : decode cX2_readClose 0 = .ok (.aload_n 0, 1) := by decide +kernel
theorem dX2_readClose_1 : decode cX2_readClose 1 = .ok (.getfield 22, 3) := by decide +kernel
theorem dX2_readClose_4 : decode cX2_readClose 4 = .ok (.iconst 3, 1) := by decide +kernel
theorem dX2_readClose_5 : decode cX2_readClose 5 = .ok (.if_icmp .eq 8, 3) := by decide +kernel
theorem dX2_readClose_8 : decode cX2_readClose 8 = .ok (.aload_n 0, 1) := by decide +kernel
theorem dX2_readClose_9 : decode cX2_readClose 9 = .ok (.iconst 1, 1) := by decide +kernel
theorem dX2_readClose_10 : decode cX2_readClose 10 = .ok (.invokevirtual 64, 3) := by decide +kernel
theorem dX2_readClose_13 : decode cX2_readClose 13 = .ok (.aload_n 0, 1) := by decide +kernel
theorem dX2_readClose_14 : decode cX2_readClose 14 = .ok (.invokevirtual 45, 3) := by decide +kernel
theorem dX2_readClose_17 : decode cX2_readClose 17 = .ok (.return_, 1) := by decide +kernel
theorem dX2_isName_0 : decode cX2_isName 0 = .ok (.aload_n 0, 1) := by decide +kernel
theorem dX2_isName_1 : decode cX2_isName 1 = .ok (.getfield 22, 3) := by decide +kernel
theorem dX2_isName_4 : decode cX2_isName 4 = .ok (.iconst 1, 1) := by decide +kernel
theorem dX2_isName_5 : decode cX2_isName 5 = .ok (.if_icmp .ne 43, 3) := by decide +kernel
theorem dX2_isName_8 : decode cX2_isName 8 = .ok (.aload_n 0, 1) := by decide +kernel
theorem dX2_isName_9 : decode cX2_isName 9 = .ok (.getfield 28, 3) := by decide +kernel
theorem dX2_isName_12 : decode cX2_isName 12 = .ok (.ldc 143, 2) := by decide +kernel
theorem dX2_isName_14 : decode cX2_isName 14 = .ok (.if_icmp .eq 34, 3) := by decide +kernel
theorem dX2_isName_17 : decode cX2_isName 17 = .ok (.aload_n 0, 1) := by decide +kernel
theorem dX2_isName_18 : decode cX2_isName 18 = .ok (.getfield 28, 3) := by decide +kernel
theorem dX2_isName_21 : decode cX2_isName 21 = .ok (.ldc 144, 2) := by decide +kernel
theorem dX2_isName_23 : decode cX2_isName 23 = .ok (.if_icmp .eq 25, 3) := by decide +kernel
theorem dX2_isName_26 : decode cX2_isName 26 = .ok (.aload_n 0, 1) := by decide +kernel
theorem dX2_isName_27 : decode cX2_isName 27 = .ok (.getfield 28, 3) := by decide +kernel
theorem dX2_isName_30 : decode cX2_isName 30 = .ok (.ldc 145, 2) := by decide +kernel
theorem dX2_isName_32 : decode cX2_isName 32 = .ok (.if_icmp .eq 16, 3) := by decide +kernel
theorem dX2_isName_35 : decode cX2_isName 35 = .ok (.aload_n 0, 1) := by decide +kernel
theorem dX2_isName_36 : decode cX2_isName 36 = .ok (.getfield 28, 3) := by decide +kernel
theorem dX2_isName_39 : decode cX2_isName 39 = .ok (.ldc 146, 2) := by decide +kernel
theorem dX2_isName_41 : decode cX2_isName 41 = .ok (.if_icmp .eq 7, 3) := by decide +kernel
theorem dX2_isName_44 : decode cX2_isName 44 = .ok (.iconst 1, 1) := by decide +kernel
theorem dX2_isName_45 : decode cX2_isName 45 = .ok (.goto 4, 3) := by decide +kernel
theorem dX2_isName_48 : decode cX2_isName 48 = .ok (.iconst 0, 1) := by decide +kernel
theorem dX2_isName_49 : decode cX2_isName 49 = .ok (.ireturn, 1) := by decide +kernel
theorem dX2_fail_0 : decode cX2_fail 0 = .ok (.aload_n 0, 1) := by decide +kernel
theorem dX2_fail_1 : decode cX2_fail 1 = .ok (.getfield 31, 3) := by decide +kernel
theorem dX2_fail_4 : decode cX2_fail 4 = .ok (.ifCond .ne 16, 3) := by decide +kernel
theorem dX2_fail_7 : decode cX2_fail 7 = .ok (.aload_n 0, 1) := by decide +kernel
theorem dX2_fail_8 : decode cX2_fail 8 = .ok (.bipush 8, 2) := by decide +kernel
theorem dX2_fail_10 : decode cX2_fail 10 = .ok (.aload_n 0, 1) := by decide +kernel
theorem dX2_fail_11 : decode cX2_fail 11 = .ok (.getfield 25, 3) := by decide +kernel
theorem dX2_fail_14 : decode cX2_fail 14 = .ok (.imul, 1) := by decide +kernel
theorem dX2_fail_15 : decode cX2_fail 15 = .ok (.iload_n 1, 1) := by decide +kernel
theorem dX2_fail_16 : decode cX2_fail 16 = .ok (.iadd, 1) := by decide +kernel
theorem dX2_fail_17 : decode cX2_fail 17 = .ok (.putfield 31, 3) := by decide +kernel
theorem dX2_fail_20 : decode cX2_fail 20 = .ok (.return_, 1) := by decide +kernel
theorem dX2_advance_0 : decode cX2_advance 0 = .ok (.aload_n 0, 1) := by decide +kernel
theorem dX2_advance_1 : decode cX2_advance 1 = .ok (.getfield 31, 3) := by decide +kernel
theorem dX2_advance_4 : decode cX2_advance 4 = .ok (.ifCond .eq 4, 3) := by decide +kernel
theorem dX2_advance_7 : decode cX2_advance 7 = .ok (.return_, 1) := by decide +kernel
theorem dX2_advance_8 : decode cX2_advance 8 = .ok (.aload_n 0, 1) := by decide +kernel
theorem dX2_advance_9 : decode cX2_advance 9 = .ok (.getfield 19, 3) := by decide +kernel
theorem dX2_advance_12 : decode cX2_advance 12 = .ok (.aload_n 0, 1) := by decide +kernel
theorem dX2_advance_13 : decode cX2_advance 13 = .ok (.getfield 15, 3) := by decide +kernel
theorem dX2_advance_16 : decode cX2_advance 16 = .ok (.if_icmp .ge 32, 3) := by decide +kernel
theorem dX2_advance_19 : decode cX2_advance 19 = .ok (.aload_n 0, 1) := by decide +kernel
theorem dX2_advance_20 : decode cX2_advance 20 = .ok (.getfield 9, 3) := by decide +kernel
theorem dX2_advance_23 : decode cX2_advance 23 = .ok (.aload_n 0, 1) := by decide +kernel
theorem dX2_advance_24 : decode cX2_advance 24 = .ok (.getfield 19, 3) := by decide +kernel
theorem dX2_advance_27 : decode cX2_advance 27 = .ok (.baload, 1) := by decide +kernel
theorem dX2_advance_28 : decode cX2_advance 28 = .ok (.invokestatic 147, 3) := by decide +kernel
theorem dX2_advance_31 : decode cX2_advance 31 = .ok (.iconst 5, 1) := by decide +kernel
theorem dX2_advance_32 : decode cX2_advance 32 = .ok (.if_icmp .ne 16, 3) := by decide +kernel
theorem dX2_advance_35 : decode cX2_advance 35 = .ok (.aload_n 0, 1) := by decide +kernel
theorem dX2_advance_36 : decode cX2_advance 36 = .ok (.dup, 1) := by decide +kernel
theorem dX2_advance_37 : decode cX2_advance 37 = .ok (.getfield 19, 3) := by decide +kernel
theorem dX2_advance_40 : decode cX2_advance 40 = .ok (.iconst 1, 1) := by decide +kernel
theorem dX2_advance_41 : decode cX2_advance 41 = .ok (.iadd, 1) := by decide +kernel
theorem dX2_advance_42 : decode cX2_advance 42 = .ok (.putfield 19, 3) := by decide +kernel
theorem dX2_advance_45 : decode cX2_advance 45 = .ok (.goto (-37), 3) := by decide +kernel
theorem dX2_advance_48 : decode cX2_advance 48 = .ok (.aload_n 0, 1) := by decide +kernel
theorem dX2_advance_49 : decode cX2_advance 49 = .ok (.aload_n 0, 1) := by decide +kernel
theorem dX2_advance_50 : decode cX2_advance 50 = .ok (.getfield 19, 3) := by decide +kernel
theorem dX2_advance_53 : decode cX2_advance 53 = .ok (.putfield 25, 3) := by decide +kernel
theorem dX2_advance_56 : decode cX2_advance 56 = .ok (.aload_n 0, 1) := by decide +kernel
theorem dX2_advance_57 : decode cX2_advance 57 = .ok (.iconst 0, 1) := by decide +kernel
theorem dX2_advance_58 : decode cX2_advance 58 = .ok (.putfield 28, 3) := by decide +kernel
theorem dX2_advance_61 : decode cX2_advance 61 = .ok (.aload_n 0, 1) := by decide +kernel
theorem dX2_advance_62 : decode cX2_advance 62 = .ok (.getfield 19, 3) := by decide +kernel
theorem dX2_advance_65 : decode cX2_advance 65 = .ok (.aload_n 0, 1) := by decide +kernel
theorem dX2_advance_66 : decode cX2_advance 66 = .ok (.getfield 15, 3) := by decide +kernel
theorem dX2_advance_69 : decode cX2_advance 69 = .ok (.if_icmp .lt 9, 3) := by decide +kernel
theorem dX2_advance_72 : decode cX2_advance 72 = .ok (.aload_n 0, 1) := by decide +kernel
theorem dX2_advance_73 : decode cX2_advance 73 = .ok (.iconst 0, 1) := by decide +kernel
theorem dX2_advance_74 : decode cX2_advance 74 = .ok (.putfield 22, 3) := by decide +kernel
theorem dX2_advance_77 : decode cX2_advance 77 = .ok (.return_, 1) := by decide +kernel
theorem dX2_advance_78 : decode cX2_advance 78 = .ok (.aload_n 0, 1) := by decide +kernel
theorem dX2_advance_79 : decode cX2_advance 79 = .ok (.aload_n 0, 1) := by decide +kernel
theorem dX2_advance_80 : decode cX2_advance 80 = .ok (.getfield 9, 3) := by decide +kernel
theorem dX2_advance_83 : decode cX2_advance 83 = .ok (.aload_n 0, 1) := by decide +kernel
theorem dX2_advance_84 : decode cX2_advance 84 = .ok (.getfield 19, 3) := by decide +kernel
theorem dX2_advance_87 : decode cX2_advance 87 = .ok (.baload, 1) := by decide +kernel
theorem dX2_advance_88 : decode cX2_advance 88 = .ok (.invokestatic 147, 3) := by decide +kernel
theorem dX2_advance_91 : decode cX2_advance 91 = .ok (.putfield 22, 3) := by decide +kernel
theorem dX2_advance_94 : decode cX2_advance 94 = .ok (.aload_n 0, 1) := by decide +kernel
theorem dX2_advance_95 : decode cX2_advance 95 = .ok (.getfield 22, 3) := by decide +kernel
theorem dX2_advance_98 : decode cX2_advance 98 = .ok (.iconst 1, 1) := by decide +kernel
theorem dX2_advance_99 : decode cX2_advance 99 = .ok (.if_icmp .ne 16, 3) := by decide +kernel
theorem dX2_advance_102 : decode cX2_advance 102 = .ok (.aload_n 0, 1) := by decide +kernel
theorem dX2_advance_103 : decode cX2_advance 103 = .ok (.bipush 97, 2) := by decide +kernel
theorem dX2_advance_105 : decode cX2_advance 105 = .ok (.bipush 122, 2) := by decide +kernel
theorem dX2_advance_107 : decode cX2_advance 107 = .ok (.bipush 6, 2) := by decide +kernel
theorem dX2_advance_109 : decode cX2_advance 109 = .ok (.invokevirtual 150, 3) := by decide +kernel
theorem dX2_advance_112 : decode cX2_advance 112 = .ok (.goto 33, 3) := by decide +kernel
theorem dX2_advance_115 : decode cX2_advance 115 = .ok (.aload_n 0, 1) := by decide +kernel
theorem dX2_advance_116 : decode cX2_advance 116 = .ok (.getfield 22, 3) := by decide +kernel
theorem dX2_advance_119 : decode cX2_advance 119 = .ok (.iconst 2, 1) := by decide +kernel
theorem dX2_advance_120 : decode cX2_advance 120 = .ok (.if_icmp .ne 15, 3) := by decide +kernel
theorem dX2_advance_123 : decode cX2_advance 123 = .ok (.aload_n 0, 1) := by decide +kernel
theorem dX2_advance_124 : decode cX2_advance 124 = .ok (.bipush 48, 2) := by decide +kernel
theorem dX2_advance_126 : decode cX2_advance 126 = .ok (.bipush 57, 2) := by decide +kernel
theorem dX2_advance_128 : decode cX2_advance 128 = .ok (.iconst 2, 1) := by decide +kernel
theorem dX2_advance_129 : decode cX2_advance 129 = .ok (.invokevirtual 150, 3) := by decide +kernel
theorem dX2_advance_132 : decode cX2_advance 132 = .ok (.goto 13, 3) := by decide +kernel
theorem dX2_advance_135 : decode cX2_advance 135 = .ok (.aload_n 0, 1) := by decide +kernel
theorem dX2_advance_136 : decode cX2_advance 136 = .ok (.dup, 1) := by decide +kernel
theorem dX2_advance_137 : decode cX2_advance 137 = .ok (.getfield 19, 3) := by decide +kernel
theorem dX2_advance_140 : decode cX2_advance 140 = .ok (.iconst 1, 1) := by decide +kernel
theorem dX2_advance_141 : decode cX2_advance 141 = .ok (.iadd, 1) := by decide +kernel
theorem dX2_advance_142 : decode cX2_advance 142 = .ok (.putfield 19, 3) := by decide +kernel
theorem dX2_advance_145 : decode cX2_advance 145 = .ok (.return_, 1) := by decide +kernel
theorem dX2_readRun_0 : decode cX2_readRun 0 = .ok (.aload_n 0, 1) := by decide +kernel
theorem dX2_readRun_1 : decode cX2_readRun 1 = .ok (.getfield 19, 3) := by decide +kernel
theorem dX2_readRun_4 : decode cX2_readRun 4 = .ok (.istore 4, 2) := by decide +kernel
theorem dX2_readRun_6 : decode cX2_readRun 6 = .ok (.iload 4, 2) := by decide +kernel
theorem dX2_readRun_8 : decode cX2_readRun 8 = .ok (.aload_n 0, 1) := by decide +kernel
theorem dX2_readRun_9 : decode cX2_readRun 9 = .ok (.getfield 15, 3) := by decide +kernel
theorem dX2_readRun_12 : decode cX2_readRun 12 = .ok (.if_icmp .ge 95, 3) := by decide +kernel
theorem dX2_readRun_15 : decode cX2_readRun 15 = .ok (.aload_n 0, 1) := by decide +kernel
theorem dX2_readRun_16 : decode cX2_readRun 16 = .ok (.getfield 9, 3) := by decide +kernel
theorem dX2_readRun_19 : decode cX2_readRun 19 = .ok (.iload 4, 2) := by decide +kernel
theorem dX2_readRun_21 : decode cX2_readRun 21 = .ok (.baload, 1) := by decide +kernel
theorem dX2_readRun_22 : decode cX2_readRun 22 = .ok (.iload_n 1, 1) := by decide +kernel
theorem dX2_readRun_23 : decode cX2_readRun 23 = .ok (.if_icmp .lt 84, 3) := by decide +kernel
theorem dX2_readRun_26 : decode cX2_readRun 26 = .ok (.aload_n 0, 1) := by decide +kernel
theorem dX2_readRun_27 : decode cX2_readRun 27 = .ok (.getfield 9, 3) := by decide +kernel
theorem dX2_readRun_30 : decode cX2_readRun 30 = .ok (.iload 4, 2) := by decide +kernel
theorem dX2_readRun_32 : decode cX2_readRun 32 = .ok (.baload, 1) := by decide +kernel
theorem dX2_readRun_33 : decode cX2_readRun 33 = .ok (.iload_n 2, 1) := by decide +kernel
theorem dX2_readRun_34 : decode cX2_readRun 34 = .ok (.if_icmp .gt 73, 3) := by decide +kernel
theorem dX2_readRun_37 : decode cX2_readRun 37 = .ok (.iload 4, 2) := by decide +kernel
theorem dX2_readRun_39 : decode cX2_readRun 39 = .ok (.aload_n 0, 1) := by decide +kernel
theorem dX2_readRun_40 : decode cX2_readRun 40 = .ok (.getfield 19, 3) := by decide +kernel
theorem dX2_readRun_43 : decode cX2_readRun 43 = .ok (.isub, 1) := by decide +kernel
theorem dX2_readRun_44 : decode cX2_readRun 44 = .ok (.iload_n 3, 1) := by decide +kernel
theorem dX2_readRun_45 : decode cX2_readRun 45 = .ok (.if_icmp .ge 56, 3) := by decide +kernel
theorem dX2_readRun_48 : decode cX2_readRun 48 = .ok (.aload_n 0, 1) := by decide +kernel
theorem dX2_readRun_49 : decode cX2_readRun 49 = .ok (.aload_n 0, 1) := by decide +kernel
theorem dX2_readRun_50 : decode cX2_readRun 50 = .ok (.getfield 22, 3) := by decide +kernel
theorem dX2_readRun_53 : decode cX2_readRun 53 = .ok (.iconst 1, 1) := by decide +kernel
theorem dX2_readRun_54 : decode cX2_readRun 54 = .ok (.if_icmp .ne 26, 3) := by decide +kernel
theorem dX2_readRun_57 : decode cX2_readRun 57 = .ok (.aload_n 0, 1) := by decide +kernel
theorem dX2_readRun_58 : decode cX2_readRun 58 = .ok (.getfield 28, 3) := by decide +kernel
theorem dX2_readRun_61 : decode cX2_readRun 61 = .ok (.bipush 32, 2) := by decide +kernel
theorem dX2_readRun_63 : decode cX2_readRun 63 = .ok (.imul, 1) := by decide +kernel
theorem dX2_readRun_64 : decode cX2_readRun 64 = .ok (.aload_n 0, 1) := by decide +kernel
theorem dX2_readRun_65 : decode cX2_readRun 65 = .ok (.getfield 9, 3) := by decide +kernel
theorem dX2_readRun_68 : decode cX2_readRun 68 = .ok (.iload 4, 2) := by decide +kernel
theorem dX2_readRun_70 : decode cX2_readRun 70 = .ok (.baload, 1) := by decide +kernel
theorem dX2_readRun_71 : decode cX2_readRun 71 = .ok (.iadd, 1) := by decide +kernel
theorem dX2_readRun_72 : decode cX2_readRun 72 = .ok (.bipush 97, 2) := by decide +kernel
theorem dX2_readRun_74 : decode cX2_readRun 74 = .ok (.isub, 1) := by decide +kernel
theorem dX2_readRun_75 : decode cX2_readRun 75 = .ok (.iconst 1, 1) := by decide +kernel
theorem dX2_readRun_76 : decode cX2_readRun 76 = .ok (.iadd, 1) := by decide +kernel
theorem dX2_readRun_77 : decode cX2_readRun 77 = .ok (.goto 21, 3) := by decide +kernel
theorem dX2_readRun_80 : decode cX2_readRun 80 = .ok (.aload_n 0, 1) := by decide +kernel
theorem dX2_readRun_81 : decode cX2_readRun 81 = .ok (.getfield 28, 3) := by decide +kernel
theorem dX2_readRun_84 : decode cX2_readRun 84 = .ok (.bipush 10, 2) := by decide +kernel
theorem dX2_readRun_86 : decode cX2_readRun 86 = .ok (.imul, 1) := by decide +kernel
theorem dX2_readRun_87 : decode cX2_readRun 87 = .ok (.aload_n 0, 1) := by decide +kernel
theorem dX2_readRun_88 : decode cX2_readRun 88 = .ok (.getfield 9, 3) := by decide +kernel
theorem dX2_readRun_91 : decode cX2_readRun 91 = .ok (.iload 4, 2) := by decide +kernel
theorem dX2_readRun_93 : decode cX2_readRun 93 = .ok (.baload, 1) := by decide +kernel
theorem dX2_readRun_94 : decode cX2_readRun 94 = .ok (.iadd, 1) := by decide +kernel
theorem dX2_readRun_95 : decode cX2_readRun 95 = .ok (.bipush 48, 2) := by decide +kernel
theorem dX2_readRun_97 : decode cX2_readRun 97 = .ok (.isub, 1) := by decide +kernel
theorem dX2_readRun_98 : decode cX2_readRun 98 = .ok (.putfield 28, 3) := by decide +kernel
theorem dX2_readRun_101 : decode cX2_readRun 101 = .ok (.iinc 4 1, 3) := by decide +kernel
theorem dX2_readRun_104 : decode cX2_readRun 104 = .ok (.goto (-98), 3) := by decide +kernel
theorem dX2_readRun_107 : decode cX2_readRun 107 = .ok (.iload 4, 2) := by decide +kernel
theorem dX2_readRun_109 : decode cX2_readRun 109 = .ok (.aload_n 0, 1) := by decide +kernel
theorem dX2_readRun_110 : decode cX2_readRun 110 = .ok (.getfield 19, 3) := by decide +kernel
theorem dX2_readRun_113 : decode cX2_readRun 113 = .ok (.isub, 1) := by decide +kernel
theorem dX2_readRun_114 : decode cX2_readRun 114 = .ok (.iload_n 3, 1) := by decide +kernel
theorem dX2_readRun_115 : decode cX2_readRun 115 = .ok (.if_icmp .le 8, 3) := by decide +kernel
theorem dX2_readRun_118 : decode cX2_readRun 118 = .ok (.aload_n 0, 1) := by decide +kernel
theorem dX2_readRun_119 : decode cX2_readRun 119 = .ok (.iconst 4, 1) := by decide +kernel
theorem dX2_readRun_120 : decode cX2_readRun 120 = .ok (.putfield 22, 3) := by decide +kernel
theorem dX2_readRun_123 : decode cX2_readRun 123 = .ok (.aload_n 0, 1) := by decide +kernel
theorem dX2_readRun_124 : decode cX2_readRun 124 = .ok (.iload 4, 2) := by decide +kernel
theorem dX2_readRun_126 : decode cX2_readRun 126 = .ok (.putfield 19, 3) := by decide +kernel
theorem dX2_readRun_129 : decode cX2_readRun 129 = .ok (.return_, 1) := by decide +kernel
theorem dX2_kindOf_0 : decode cX2_kindOf 0 = .ok (.iload_n 0, 1) := by decide +kernel
theorem dX2_kindOf_1 : decode cX2_kindOf 1 = .ok (.bipush 97, 2) := by decide +kernel
theorem dX2_kindOf_3 : decode cX2_kindOf 3 = .ok (.if_icmp .lt 11, 3) := by decide +kernel
theorem dX2_kindOf_6 : decode cX2_kindOf 6 = .ok (.iload_n 0, 1) := by decide +kernel
theorem dX2_kindOf_7 : decode cX2_kindOf 7 = .ok (.bipush 122, 2) := by decide +kernel
theorem dX2_kindOf_9 : decode cX2_kindOf 9 = .ok (.if_icmp .gt 5, 3) := by decide +kernel
theorem dX2_kindOf_12 : decode cX2_kindOf 12 = .ok (.iconst 1, 1) := by decide +kernel
theorem dX2_kindOf_13 : decode cX2_kindOf 13 = .ok (.ireturn, 1) := by decide +kernel
theorem dX2_kindOf_14 : decode cX2_kindOf 14 = .ok (.iload_n 0, 1) := by decide +kernel
theorem dX2_kindOf_15 : decode cX2_kindOf 15 = .ok (.bipush 48, 2) := by decide +kernel
theorem dX2_kindOf_17 : decode cX2_kindOf 17 = .ok (.if_icmp .lt 11, 3) := by decide +kernel
theorem dX2_kindOf_20 : decode cX2_kindOf 20 = .ok (.iload_n 0, 1) := by decide +kernel
theorem dX2_kindOf_21 : decode cX2_kindOf 21 = .ok (.bipush 57, 2) := by decide +kernel
theorem dX2_kindOf_23 : decode cX2_kindOf 23 = .ok (.if_icmp .gt 5, 3) := by decide +kernel
theorem dX2_kindOf_26 : decode cX2_kindOf 26 = .ok (.iconst 2, 1) := by decide +kernel
theorem dX2_kindOf_27 : decode cX2_kindOf 27 = .ok (.ireturn, 1) := by decide +kernel
theorem dX2_kindOf_28 : decode cX2_kindOf 28 = .ok (.iload_n 0, 1) := by decide +kernel
theorem dX2_kindOf_29 : decode cX2_kindOf 29 = .ok (.bipush 59, 2) := by decide +kernel
theorem dX2_kindOf_31 : decode cX2_kindOf 31 = .ok (.if_icmp .ne 5, 3) := by decide +kernel
theorem dX2_kindOf_34 : decode cX2_kindOf 34 = .ok (.iconst 3, 1) := by decide +kernel
theorem dX2_kindOf_35 : decode cX2_kindOf 35 = .ok (.ireturn, 1) := by decide +kernel
theorem dX2_kindOf_36 : decode cX2_kindOf 36 = .ok (.iload_n 0, 1) := by decide +kernel
theorem dX2_kindOf_37 : decode cX2_kindOf 37 = .ok (.bipush 32, 2) := by decide +kernel
theorem dX2_kindOf_39 : decode cX2_kindOf 39 = .ok (.if_icmp .eq 9, 3) := by decide +kernel
theorem dX2_kindOf_42 : decode cX2_kindOf 42 = .ok (.iload_n 0, 1) := by decide +kernel
theorem dX2_kindOf_43 : decode cX2_kindOf 43 = .ok (.bipush 10, 2) := by decide +kernel
theorem dX2_kindOf_45 : decode cX2_kindOf 45 = .ok (.if_icmp .ne 7, 3) := by decide +kernel
theorem dX2_kindOf_48 : decode cX2_kindOf 48 = .ok (.iconst 5, 1) := by decide +kernel
theorem dX2_kindOf_49 : decode cX2_kindOf 49 = .ok (.goto 4, 3) := by decide +kernel
theorem dX2_kindOf_52 : decode cX2_kindOf 52 = .ok (.iconst 4, 1) := by decide +kernel
theorem dX2_kindOf_53 : decode cX2_kindOf 53 = .ok (.ireturn, 1) := by decide +kernel
theorem dX3_init_0 : decode cX3_init 0 = .ok (.aload_n 0, 1) := by decide +kernel
theorem dX3_init_1 : decode cX3_init 1 = .ok (.invokespecial 3, 3) := by decide +kernel
theorem dX3_init_4 : decode cX3_init 4 = .ok (.aload_n 0, 1) := by decide +kernel
theorem dX3_init_5 : decode cX3_init 5 = .ok (.iconst 0, 1) := by decide +kernel
theorem dX3_init_6 : decode cX3_init 6 = .ok (.putfield 9, 3) := by decide +kernel
theorem dX3_init_9 : decode cX3_init 9 = .ok (.aload_n 0, 1) := by decide +kernel
theorem dX3_init_10 : decode cX3_init 10 = .ok (.iconst 4, 1) := by decide +kernel
theorem dX3_init_11 : decode cX3_init 11 = .ok (.putfield 15, 3) := by decide +kernel
theorem dX3_init_14 : decode cX3_init 14 = .ok (.aload_n 0, 1) := by decide +kernel
theorem dX3_init_15 : decode cX3_init 15 = .ok (.iconst 0, 1) := by decide +kernel
theorem dX3_init_16 : decode cX3_init 16 = .ok (.putfield 18, 3) := by decide +kernel
theorem dX3_init_19 : decode cX3_init 19 = .ok (.aload_n 0, 1) := by decide +kernel
theorem dX3_init_20 : decode cX3_init 20 = .ok (.iconst 4, 1) := by decide +kernel
theorem dX3_init_21 : decode cX3_init 21 = .ok (.putfield 22, 3) := by decide +kernel
theorem dX3_init_24 : decode cX3_init 24 = .ok (.aload_n 0, 1) := by decide +kernel
theorem dX3_init_25 : decode cX3_init 25 = .ok (.bipush 30, 2) := by decide +kernel
theorem dX3_init_27 : decode cX3_init 27 = .ok (.putfield 25, 3) := by decide +kernel
theorem dX3_init_30 : decode cX3_init 30 = .ok (.aload_n 0, 1) := by decide +kernel
theorem dX3_init_31 : decode cX3_init 31 = .ok (.iconst 0, 1) := by decide +kernel
theorem dX3_init_32 : decode cX3_init 32 = .ok (.putfield 28, 3) := by decide +kernel
theorem dX3_init_35 : decode cX3_init 35 = .ok (.aload_n 0, 1) := by decide +kernel
theorem dX3_init_36 : decode cX3_init 36 = .ok (.iconst 0, 1) := by decide +kernel
theorem dX3_init_37 : decode cX3_init 37 = .ok (.putfield 31, 3) := by decide +kernel
theorem dX3_init_40 : decode cX3_init 40 = .ok (.aload_n 0, 1) := by decide +kernel
theorem dX3_init_41 : decode cX3_init 41 = .ok (.bipush 10, 2) := by decide +kernel
theorem dX3_init_43 : decode cX3_init 43 = .ok (.newarray .int, 2) := by decide +kernel
theorem dX3_init_45 : decode cX3_init 45 = .ok (.putfield 34, 3) := by decide +kernel
theorem dX3_init_48 : decode cX3_init 48 = .ok (.aload_n 0, 1) := by decide +kernel
theorem dX3_init_49 : decode cX3_init 49 = .ok (.bipush 10, 2) := by decide +kernel
theorem dX3_init_51 : decode cX3_init 51 = .ok (.newarray .int, 2) := by decide +kernel
theorem dX3_init_53 : decode cX3_init 53 = .ok (.putfield 38, 3) := by decide +kernel
theorem dX3_init_56 : decode cX3_init 56 = .ok (.aload_n 0, 1) := by decide +kernel
theorem dX3_init_57 : decode cX3_init 57 = .ok (.bipush 10, 2) := by decide +kernel
theorem dX3_init_59 : decode cX3_init 59 = .ok (.newarray .int, 2) := by decide +kernel
theorem dX3_init_61 : decode cX3_init 61 = .ok (.putfield 41, 3) := by decide +kernel
theorem dX3_init_64 : decode cX3_init 64 = .ok (.aload_n 0, 1) := by decide +kernel
theorem dX3_init_65 : decode cX3_init 65 = .ok (.iconst 0, 1) := by decide +kernel
theorem dX3_init_66 : decode cX3_init 66 = .ok (.putfield 44, 3) := by decide +kernel
theorem dX3_init_69 : decode cX3_init 69 = .ok (.aload_n 0, 1) := by decide +kernel
theorem dX3_init_70 : decode cX3_init 70 = .ok (.bipush 16, 2) := by decide +kernel
theorem dX3_init_72 : decode cX3_init 72 = .ok (.newarray .int, 2) := by decide +kernel
theorem dX3_init_74 : decode cX3_init 74 = .ok (.putfield 47, 3) := by decide +kernel
theorem dX3_init_77 : decode cX3_init 77 = .ok (.aload_n 0, 1) := by decide +kernel
theorem dX3_init_78 : decode cX3_init 78 = .ok (.bipush 16, 2) := by decide +kernel
theorem dX3_init_80 : decode cX3_init 80 = .ok (.newarray .int, 2) := by decide +kernel
theorem dX3_init_82 : decode cX3_init 82 = .ok (.putfield 50, 3) := by decide +kernel
theorem dX3_init_85 : decode cX3_init 85 = .ok (.aload_n 0, 1) := by decide +kernel
theorem dX3_init_86 : decode cX3_init 86 = .ok (.sipush 160, 3) := by decide +kernel
theorem dX3_init_89 : decode cX3_init 89 = .ok (.newarray .int, 2) := by decide +kernel
theorem dX3_init_91 : decode cX3_init 91 = .ok (.putfield 53, 3) := by decide +kernel
theorem dX3_init_94 : decode cX3_init 94 = .ok (.aload_n 0, 1) := by decide +kernel
theorem dX3_init_95 : decode cX3_init 95 = .ok (.bipush 16, 2) := by decide +kernel
theorem dX3_init_97 : decode cX3_init 97 = .ok (.newarray .int, 2) := by decide +kernel
theorem dX3_init_99 : decode cX3_init 99 = .ok (.putfield 56, 3) := by decide +kernel
theorem dX3_init_102 : decode cX3_init 102 = .ok (.aload_n 0, 1) := by decide +kernel
theorem dX3_init_103 : decode cX3_init 103 = .ok (.bipush 16, 2) := by decide +kernel
theorem dX3_init_105 : decode cX3_init 105 = .ok (.newarray .int, 2) := by decide +kernel
theorem dX3_init_107 : decode cX3_init 107 = .ok (.putfield 59, 3) := by decide +kernel
theorem dX3_init_110 : decode cX3_init 110 = .ok (.aload_n 0, 1) := by decide +kernel
theorem dX3_init_111 : decode cX3_init 111 = .ok (.bipush 16, 2) := by decide +kernel
theorem dX3_init_113 : decode cX3_init 113 = .ok (.newarray .int, 2) := by decide +kernel
theorem dX3_init_115 : decode cX3_init 115 = .ok (.putfield 62, 3) := by decide +kernel
theorem dX3_init_118 : decode cX3_init 118 = .ok (.return_, 1) := by decide +kernel
theorem dX3_clear_0 : decode cX3_clear 0 = .ok (.aload_n 0, 1) := by decide +kernel
theorem dX3_clear_1 : decode cX3_clear 1 = .ok (.iconst 0, 1) := by decide +kernel
theorem dX3_clear_2 : decode cX3_clear 2 = .ok (.putfield 9, 3) := by decide +kernel
theorem dX3_clear_5 : decode cX3_clear 5 = .ok (.aload_n 0, 1) := by decide +kernel
theorem dX3_clear_6 : decode cX3_clear 6 = .ok (.iconst 4, 1) := by decide +kernel
theorem dX3_clear_7 : decode cX3_clear 7 = .ok (.putfield 15, 3) := by decide +kernel
theorem dX3_clear_10 : decode cX3_clear 10 = .ok (.aload_n 0, 1) := by decide +kernel
theorem dX3_clear_11 : decode cX3_clear 11 = .ok (.iconst 0, 1) := by decide +kernel
theorem dX3_clear_12 : decode cX3_clear 12 = .ok (.putfield 18, 3) := by decide +kernel
theorem dX3_clear_15 : decode cX3_clear 15 = .ok (.aload_n 0, 1) := by decide +kernel
theorem dX3_clear_16 : decode cX3_clear 16 = .ok (.iconst 4, 1) := by decide +kernel
theorem dX3_clear_17 : decode cX3_clear 17 = .ok (.putfield 22, 3) := by decide +kernel
theorem dX3_clear_20 : decode cX3_clear 20 = .ok (.aload_n 0, 1) := by decide +kernel
theorem dX3_clear_21 : decode cX3_clear 21 = .ok (.bipush 30, 2) := by decide +kernel
theorem dX3_clear_23 : decode cX3_clear 23 = .ok (.putfield 25, 3) := by decide +kernel
theorem dX3_clear_26 : decode cX3_clear 26 = .ok (.aload_n 0, 1) := by decide +kernel
theorem dX3_clear_27 : decode cX3_clear 27 = .ok (.iconst 0, 1) := by decide +kernel
theorem dX3_clear_28 : decode cX3_clear 28 = .ok (.putfield 28, 3) := by decide +kernel
theorem dX3_clear_31 : decode cX3_clear 31 = .ok (.aload_n 0, 1) := by decide +kernel
theorem dX3_clear_32 : decode cX3_clear 32 = .ok (.iconst 0, 1) := by decide +kernel
theorem dX3_clear_33 : decode cX3_clear 33 = .ok (.putfield 31, 3) := by decide +kernel
theorem dX3_clear_36 : decode cX3_clear 36 = .ok (.aload_n 0, 1) := by decide +kernel
theorem dX3_clear_37 : decode cX3_clear 37 = .ok (.iconst 0, 1) := by decide +kernel
theorem dX3_clear_38 : decode cX3_clear 38 = .ok (.putfield 44, 3) := by decide +kernel
theorem dX3_clear_41 : decode cX3_clear 41 = .ok (.aload_n 0, 1) := by decide +kernel
theorem dX3_clear_42 : decode cX3_clear 42 = .ok (.getfield 53, 3) := by decide +kernel
theorem dX3_clear_45 : decode cX3_clear 45 = .ok (.iconst 0, 1) := by decide +kernel
theorem dX3_clear_46 : decode cX3_clear 46 = .ok (.invokestatic 65, 3) := by decide +kernel
theorem dX3_clear_49 : decode cX3_clear 49 = .ok (.aload_n 0, 1) := by decide +kernel
theorem dX3_clear_50 : decode cX3_clear 50 = .ok (.getfield 56, 3) := by decide +kernel
theorem dX3_clear_53 : decode cX3_clear 53 = .ok (.iconst 0, 1) := by decide +kernel
theorem dX3_clear_54 : decode cX3_clear 54 = .ok (.invokestatic 65, 3) := by decide +kernel
theorem dX3_clear_57 : decode cX3_clear 57 = .ok (.aload_n 0, 1) := by decide +kernel
theorem dX3_clear_58 : decode cX3_clear 58 = .ok (.getfield 59, 3) := by decide +kernel
theorem dX3_clear_61 : decode cX3_clear 61 = .ok (.iconst 0, 1) := by decide +kernel
theorem dX3_clear_62 : decode cX3_clear 62 = .ok (.invokestatic 65, 3) := by decide +kernel
theorem dX3_clear_65 : decode cX3_clear 65 = .ok (.return_, 1) := by decide +kernel
theorem dX3_isItem_0 : decode cX3_isItem 0 = .ok (.iload_n 1, 1) := by decide +kernel
theorem dX3_isItem_1 : decode cX3_isItem 1 = .ok (.ifCond .lt 15, 3) := by decide +kernel
theorem dX3_isItem_4 : decode cX3_isItem 4 = .ok (.iload_n 1, 1) := by decide +kernel
theorem dX3_isItem_5 : decode cX3_isItem 5 = .ok (.aload_n 0, 1) := by decide +kernel
theorem dX3_isItem_6 : decode cX3_isItem 6 = .ok (.getfield 31, 3) := by decide +kernel
theorem dX3_isItem_9 : decode cX3_isItem 9 = .ok (.if_icmp .ge 7, 3) := by decide +kernel
theorem dX3_isItem_12 : decode cX3_isItem 12 = .ok (.iconst 1, 1) := by decide +kernel
theorem dX3_isItem_13 : decode cX3_isItem 13 = .ok (.goto 4, 3) := by decide +kernel
theorem dX3_isItem_16 : decode cX3_isItem 16 = .ok (.iconst 0, 1) := by decide +kernel
theorem dX3_isItem_17 : decode cX3_isItem 17 = .ok (.ireturn, 1) := by decide +kernel
theorem dX3_isOrder_0 : decode cX3_isOrder 0 = .ok (.iload_n 1, 1) := by decide +kernel
theorem dX3_isOrder_1 : decode cX3_isOrder 1 = .ok (.ifCond .lt 15, 3) := by decide +kernel
theorem dX3_isOrder_4 : decode cX3_isOrder 4 = .ok (.iload_n 1, 1) := by decide +kernel
theorem dX3_isOrder_5 : decode cX3_isOrder 5 = .ok (.aload_n 0, 1) := by decide +kernel
theorem dX3_isOrder_6 : decode cX3_isOrder 6 = .ok (.getfield 44, 3) := by decide +kernel
theorem dX3_isOrder_9 : decode cX3_isOrder 9 = .ok (.if_icmp .ge 7, 3) := by decide +kernel
theorem dX3_isOrder_12 : decode cX3_isOrder 12 = .ok (.iconst 1, 1) := by decide +kernel
theorem dX3_isOrder_13 : decode cX3_isOrder 13 = .ok (.goto 4, 3) := by decide +kernel
theorem dX3_isOrder_16 : decode cX3_isOrder 16 = .ok (.iconst 0, 1) := by decide +kernel
theorem dX3_isOrder_17 : decode cX3_isOrder 17 = .ok (.ireturn, 1) := by decide +kernel
theorem dX3_itemNamed_0 : decode cX3_itemNamed 0 = .ok (.iconst 0, 1) := by decide +kernel
theorem dX3_itemNamed_1 : decode cX3_itemNamed 1 = .ok (.istore_n 2, 1) := by decide +kernel
theorem dX3_itemNamed_2 : decode cX3_itemNamed 2 = .ok (.iload_n 2, 1) := by decide +kernel
theorem dX3_itemNamed_3 : decode cX3_itemNamed 3 = .ok (.aload_n 0, 1) := by decide +kernel
theorem dX3_itemNamed_4 : decode cX3_itemNamed 4 = .ok (.getfield 31, 3) := by decide +kernel
theorem dX3_itemNamed_7 : decode cX3_itemNamed 7 = .ok (.if_icmp .ge 21, 3) := by decide +kernel
theorem dX3_itemNamed_10 : decode cX3_itemNamed 10 = .ok (.aload_n 0, 1) := by decide +kernel
theorem dX3_itemNamed_11 : decode cX3_itemNamed 11 = .ok (.getfield 34, 3) := by decide +kernel
theorem dX3_itemNamed_14 : decode cX3_itemNamed 14 = .ok (.iload_n 2, 1) := by decide +kernel
theorem dX3_itemNamed_15 : decode cX3_itemNamed 15 = .ok (.iaload, 1) := by decide +kernel
theorem dX3_itemNamed_16 : decode cX3_itemNamed 16 = .ok (.iload_n 1, 1) := by decide +kernel
theorem dX3_itemNamed_17 : decode cX3_itemNamed 17 = .ok (.if_icmp .ne 5, 3) := by decide +kernel
theorem dX3_itemNamed_20 : decode cX3_itemNamed 20 = .ok (.iload_n 2, 1) := by decide +kernel
theorem dX3_itemNamed_21 : decode cX3_itemNamed 21 = .ok (.ireturn, 1) := by decide +kernel
theorem dX3_itemNamed_22 : decode cX3_itemNamed 22 = .ok (.iinc 2 1, 3) := by decide +kernel
theorem dX3_itemNamed_25 : decode cX3_itemNamed 25 = .ok (.goto (-23), 3) := by decide +kernel
theorem dX3_itemNamed_28 : decode cX3_itemNamed 28 = .ok (.iconst (-1), 1) := by decide +kernel
theorem dX3_itemNamed_29 : decode cX3_itemNamed 29 = .ok (.ireturn, 1) := by decide +kernel
theorem dX3_hasName_0 : decode cX3_hasName 0 = .ok (.iconst 0, 1) := by decide +kernel
theorem dX3_hasName_1 : decode cX3_hasName 1 = .ok (.istore_n 2, 1) := by decide +kernel
theorem dX3_hasName_2 : decode cX3_hasName 2 = .ok (.iload_n 2, 1) := by decide +kernel
theorem dX3_hasName_3 : decode cX3_hasName 3 = .ok (.aload_n 0, 1) := by decide +kernel
theorem dX3_hasName_4 : decode cX3_hasName 4 = .ok (.getfield 44, 3) := by decide +kernel
theorem dX3_hasName_7 : decode cX3_hasName 7 = .ok (.if_icmp .ge 21, 3) := by decide +kernel
theorem dX3_hasName_10 : decode cX3_hasName 10 = .ok (.aload_n 0, 1) := by decide +kernel
theorem dX3_hasName_11 : decode cX3_hasName 11 = .ok (.getfield 47, 3) := by decide +kernel
theorem dX3_hasName_14 : decode cX3_hasName 14 = .ok (.iload_n 2, 1) := by decide +kernel
theorem dX3_hasName_15 : decode cX3_hasName 15 = .ok (.iaload, 1) := by decide +kernel
theorem dX3_hasName_16 : decode cX3_hasName 16 = .ok (.iload_n 1, 1) := by decide +kernel
theorem dX3_hasName_17 : decode cX3_hasName 17 = .ok (.if_icmp .ne 5, 3) := by decide +kernel
theorem dX3_hasName_20 : decode cX3_hasName 20 = .ok (.iconst 1, 1) := by decide +kernel
theorem dX3_hasName_21 : decode cX3_hasName 21 = .ok (.ireturn, 1) := by decide +kernel
theorem dX3_hasName_22 : decode cX3_hasName 22 = .ok (.iinc 2 1, 3) := by decide +kernel
theorem dX3_hasName_25 : decode cX3_hasName 25 = .ok (.goto (-23), 3) := by decide +kernel
theorem dX3_hasName_28 : decode cX3_hasName 28 = .ok (.aload_n 0, 1) := by decide +kernel
theorem dX3_hasName_29 : decode cX3_hasName 29 = .ok (.iload_n 1, 1) := by decide +kernel
theorem dX3_hasName_30 : decode cX3_hasName 30 = .ok (.invokevirtual 71, 3) := by decide +kernel
theorem dX3_hasName_33 : decode cX3_hasName 33 = .ok (.iconst (-1), 1) := by decide +kernel
theorem dX3_hasName_34 : decode cX3_hasName 34 = .ok (.if_icmp .eq 7, 3) := by decide +kernel
theorem dX3_hasName_37 : decode cX3_hasName 37 = .ok (.iconst 1, 1) := by decide +kernel
theorem dX3_hasName_38 : decode cX3_hasName 38 = .ok (.goto 4, 3) := by decide +kernel
theorem dX3_hasName_41 : decode cX3_hasName 41 = .ok (.iconst 0, 1) := by decide +kernel
theorem dX3_hasName_42 : decode cX3_hasName 42 = .ok (.ireturn, 1) := by decide +kernel
theorem dX3_addItem_0 : decode cX3_addItem 0 = .ok (.aload_n 0, 1) := by decide +kernel
theorem dX3_addItem_1 : decode cX3_addItem 1 = .ok (.getfield 31, 3) := by decide +kernel
theorem dX3_addItem_4 : decode cX3_addItem 4 = .ok (.bipush 10, 2) := by decide +kernel
theorem dX3_addItem_6 : decode cX3_addItem 6 = .ok (.if_icmp .ge 43, 3) := by decide +kernel
theorem dX3_addItem_9 : decode cX3_addItem 9 = .ok (.aload_n 0, 1) := by decide +kernel
theorem dX3_addItem_10 : decode cX3_addItem 10 = .ok (.getfield 34, 3) := by decide +kernel
theorem dX3_addItem_13 : decode cX3_addItem 13 = .ok (.aload_n 0, 1) := by decide +kernel
theorem dX3_addItem_14 : decode cX3_addItem 14 = .ok (.getfield 31, 3) := by decide +kernel
theorem dX3_addItem_17 : decode cX3_addItem 17 = .ok (.iload_n 1, 1) := by decide +kernel
theorem dX3_addItem_18 : decode cX3_addItem 18 = .ok (.iastore, 1) := by decide +kernel
theorem dX3_addItem_19 : decode cX3_addItem 19 = .ok (.aload_n 0, 1) := by decide +kernel
theorem dX3_addItem_20 : decode cX3_addItem 20 = .ok (.getfield 38, 3) := by decide +kernel
theorem dX3_addItem_23 : decode cX3_addItem 23 = .ok (.aload_n 0, 1) := by decide +kernel
theorem dX3_addItem_24 : decode cX3_addItem 24 = .ok (.getfield 31, 3) := by decide +kernel
theorem dX3_addItem_27 : decode cX3_addItem 27 = .ok (.iload_n 2, 1) := by decide +kernel
theorem dX3_addItem_28 : decode cX3_addItem 28 = .ok (.iastore, 1) := by decide +kernel
theorem dX3_addItem_29 : decode cX3_addItem 29 = .ok (.aload_n 0, 1) := by decide +kernel
theorem dX3_addItem_30 : decode cX3_addItem 30 = .ok (.getfield 41, 3) := by decide +kernel
theorem dX3_addItem_33 : decode cX3_addItem 33 = .ok (.aload_n 0, 1) := by decide +kernel
theorem dX3_addItem_34 : decode cX3_addItem 34 = .ok (.getfield 31, 3) := by decide +kernel
theorem dX3_addItem_37 : decode cX3_addItem 37 = .ok (.iload_n 3, 1) := by decide +kernel
theorem dX3_addItem_38 : decode cX3_addItem 38 = .ok (.iastore, 1) := by decide +kernel
theorem dX3_addItem_39 : decode cX3_addItem 39 = .ok (.aload_n 0, 1) := by decide +kernel
theorem dX3_addItem_40 : decode cX3_addItem 40 = .ok (.dup, 1) := by decide +kernel
theorem dX3_addItem_41 : decode cX3_addItem 41 = .ok (.getfield 31, 3) := by decide +kernel
theorem dX3_addItem_44 : decode cX3_addItem 44 = .ok (.iconst 1, 1) := by decide +kernel
theorem dX3_addItem_45 : decode cX3_addItem 45 = .ok (.iadd, 1) := by decide +kernel
theorem dX3_addItem_46 : decode cX3_addItem 46 = .ok (.putfield 31, 3) := by decide +kernel
theorem dX3_addItem_49 : decode cX3_addItem 49 = .ok (.return_, 1) := by decide +kernel
theorem dX3_addOrder_0 : decode cX3_addOrder 0 = .ok (.aload_n 0, 1) := by decide +kernel
theorem dX3_addOrder_1 : decode cX3_addOrder 1 = .ok (.getfield 44, 3) := by decide +kernel
theorem dX3_addOrder_4 : decode cX3_addOrder 4 = .ok (.bipush 16, 2) := by decide +kernel
theorem dX3_addOrder_6 : decode cX3_addOrder 6 = .ok (.if_icmp .lt 4, 3) := by decide +kernel
theorem dX3_addOrder_9 : decode cX3_addOrder 9 = .ok (.return_, 1) := by decide +kernel
theorem dX3_addOrder_10 : decode cX3_addOrder 10 = .ok (.aload_n 0, 1) := by decide +kernel
theorem dX3_addOrder_11 : decode cX3_addOrder 11 = .ok (.getfield 47, 3) := by decide +kernel
theorem dX3_addOrder_14 : decode cX3_addOrder 14 = .ok (.aload_n 0, 1) := by decide +kernel
theorem dX3_addOrder_15 : decode cX3_addOrder 15 = .ok (.getfield 44, 3) := by decide +kernel
theorem dX3_addOrder_18 : decode cX3_addOrder 18 = .ok (.iload_n 1, 1) := by decide +kernel
theorem dX3_addOrder_19 : decode cX3_addOrder 19 = .ok (.iastore, 1) := by decide +kernel
theorem dX3_addOrder_20 : decode cX3_addOrder 20 = .ok (.aload_n 0, 1) := by decide +kernel
theorem dX3_addOrder_21 : decode cX3_addOrder 21 = .ok (.getfield 50, 3) := by decide +kernel
theorem dX3_addOrder_24 : decode cX3_addOrder 24 = .ok (.aload_n 0, 1) := by decide +kernel
theorem dX3_addOrder_25 : decode cX3_addOrder 25 = .ok (.getfield 44, 3) := by decide +kernel
theorem dX3_addOrder_28 : decode cX3_addOrder 28 = .ok (.iload_n 2, 1) := by decide +kernel
theorem dX3_addOrder_29 : decode cX3_addOrder 29 = .ok (.iastore, 1) := by decide +kernel
theorem dX3_addOrder_30 : decode cX3_addOrder 30 = .ok (.aload_n 0, 1) := by decide +kernel
theorem dX3_addOrder_31 : decode cX3_addOrder 31 = .ok (.getfield 44, 3) := by decide +kernel
theorem dX3_addOrder_34 : decode cX3_addOrder 34 = .ok (.istore_n 3, 1) := by decide +kernel
theorem dX3_addOrder_35 : decode cX3_addOrder 35 = .ok (.iload_n 3, 1) := by decide +kernel
theorem dX3_addOrder_36 : decode cX3_addOrder 36 = .ok (.ifCond .le 40, 3) := by decide +kernel
theorem dX3_addOrder_39 : decode cX3_addOrder 39 = .ok (.aload_n 0, 1) := by decide +kernel
theorem dX3_addOrder_40 : decode cX3_addOrder 40 = .ok (.getfield 50, 3) := by decide +kernel
theorem dX3_addOrder_43 : decode cX3_addOrder 43 = .ok (.aload_n 0, 1) := by decide +kernel
theorem dX3_addOrder_44 : decode cX3_addOrder 44 = .ok (.getfield 62, 3) := by decide +kernel
theorem dX3_addOrder_47 : decode cX3_addOrder 47 = .ok (.iload_n 3, 1) := by decide +kernel
theorem dX3_addOrder_48 : decode cX3_addOrder 48 = .ok (.iconst 1, 1) := by decide +kernel
theorem dX3_addOrder_49 : decode cX3_addOrder 49 = .ok (.isub, 1) := by decide +kernel
theorem dX3_addOrder_50 : decode cX3_addOrder 50 = .ok (.iaload, 1) := by decide +kernel
theorem dX3_addOrder_51 : decode cX3_addOrder 51 = .ok (.iaload, 1) := by decide +kernel
theorem dX3_addOrder_52 : decode cX3_addOrder 52 = .ok (.iload_n 2, 1) := by decide +kernel
theorem dX3_addOrder_53 : decode cX3_addOrder 53 = .ok (.if_icmp .le 23, 3) := by decide +kernel
theorem dX3_addOrder_56 : decode cX3_addOrder 56 = .ok (.aload_n 0, 1) := by decide +kernel
theorem dX3_addOrder_57 : decode cX3_addOrder 57 = .ok (.getfield 62, 3) := by decide +kernel
theorem dX3_addOrder_60 : decode cX3_addOrder 60 = .ok (.iload_n 3, 1) := by decide +kernel
theorem dX3_addOrder_61 : decode cX3_addOrder 61 = .ok (.aload_n 0, 1) := by decide +kernel
theorem dX3_addOrder_62 : decode cX3_addOrder 62 = .ok (.getfield 62, 3) := by decide +kernel
theorem dX3_addOrder_65 : decode cX3_addOrder 65 = .ok (.iload_n 3, 1) := by decide +kernel
theorem dX3_addOrder_66 : decode cX3_addOrder 66 = .ok (.iconst 1, 1) := by decide +kernel
theorem dX3_addOrder_67 : decode cX3_addOrder 67 = .ok (.isub, 1) := by decide +kernel
theorem dX3_addOrder_68 : decode cX3_addOrder 68 = .ok (.iaload, 1) := by decide +kernel
theorem dX3_addOrder_69 : decode cX3_addOrder 69 = .ok (.iastore, 1) := by decide +kernel
theorem dX3_addOrder_70 : decode cX3_addOrder 70 = .ok (.iinc 3 (-1), 3) := by decide +kernel
theorem dX3_addOrder_73 : decode cX3_addOrder 73 = .ok (.goto (-38), 3) := by decide +kernel
theorem dX3_addOrder_76 : decode cX3_addOrder 76 = .ok (.aload_n 0, 1) := by decide +kernel
theorem dX3_addOrder_77 : decode cX3_addOrder 77 = .ok (.getfield 62, 3) := by decide +kernel
theorem dX3_addOrder_80 : decode cX3_addOrder 80 = .ok (.iload_n 3, 1) := by decide +kernel
theorem dX3_addOrder_81 : decode cX3_addOrder 81 = .ok (.aload_n 0, 1) := by decide +kernel
theorem dX3_addOrder_82 : decode cX3_addOrder 82 = .ok (.getfield 44, 3) := by decide +kernel
theorem dX3_addOrder_85 : decode cX3_addOrder 85 = .ok (.iastore, 1) := by decide +kernel
theorem dX3_addOrder_86 : decode cX3_addOrder 86 = .ok (.aload_n 0, 1) := by decide +kernel
theorem dX3_addOrder_87 : decode cX3_addOrder 87 = .ok (.dup, 1) := by decide +kernel
theorem dX3_addOrder_88 : decode cX3_addOrder 88 = .ok (.getfield 44, 3) := by decide +kernel
theorem dX3_addOrder_91 : decode cX3_addOrder 91 = .ok (.iconst 1, 1) := by decide +kernel
theorem dX3_addOrder_92 : decode cX3_addOrder 92 = .ok (.iadd, 1) := by decide +kernel
theorem dX3_addOrder_93 : decode cX3_addOrder 93 = .ok (.putfield 44, 3) := by decide +kernel
theorem dX3_addOrder_96 : decode cX3_addOrder 96 = .ok (.return_, 1) := by decide +kernel
theorem dX3_addUnits_0 : decode cX3_addUnits 0 = .ok (.aload_n 0, 1) := by decide +kernel
theorem dX3_addUnits_1 : decode cX3_addUnits 1 = .ok (.iload_n 1, 1) := by decide +kernel
theorem dX3_addUnits_2 : decode cX3_addUnits 2 = .ok (.invokevirtual 75, 3) := by decide +kernel
theorem dX3_addUnits_5 : decode cX3_addUnits 5 = .ok (.ifCond .eq 44, 3) := by decide +kernel
theorem dX3_addUnits_8 : decode cX3_addUnits 8 = .ok (.aload_n 0, 1) := by decide +kernel
theorem dX3_addUnits_9 : decode cX3_addUnits 9 = .ok (.iload_n 2, 1) := by decide +kernel
theorem dX3_addUnits_10 : decode cX3_addUnits 10 = .ok (.invokevirtual 79, 3) := by decide +kernel
theorem dX3_addUnits_13 : decode cX3_addUnits 13 = .ok (.ifCond .eq 36, 3) := by decide +kernel
theorem dX3_addUnits_16 : decode cX3_addUnits 16 = .ok (.aload_n 0, 1) := by decide +kernel
theorem dX3_addUnits_17 : decode cX3_addUnits 17 = .ok (.getfield 53, 3) := by decide +kernel
theorem dX3_addUnits_20 : decode cX3_addUnits 20 = .ok (.iload_n 1, 1) := by decide +kernel
theorem dX3_addUnits_21 : decode cX3_addUnits 21 = .ok (.iload_n 2, 1) := by decide +kernel
theorem dX3_addUnits_22 : decode cX3_addUnits 22 = .ok (.invokestatic 82, 3) := by decide +kernel
theorem dX3_addUnits_25 : decode cX3_addUnits 25 = .ok (.iload_n 3, 1) := by decide +kernel
theorem dX3_addUnits_26 : decode cX3_addUnits 26 = .ok (.iastore, 1) := by decide +kernel
theorem dX3_addUnits_27 : decode cX3_addUnits 27 = .ok (.aload_n 0, 1) := by decide +kernel
theorem dX3_addUnits_28 : decode cX3_addUnits 28 = .ok (.getfield 56, 3) := by decide +kernel
theorem dX3_addUnits_31 : decode cX3_addUnits 31 = .ok (.iload_n 1, 1) := by decide +kernel
theorem dX3_addUnits_32 : decode cX3_addUnits 32 = .ok (.dup2, 1) := by decide +kernel
theorem dX3_addUnits_33 : decode cX3_addUnits 33 = .ok (.iaload, 1) := by decide +kernel
theorem dX3_addUnits_34 : decode cX3_addUnits 34 = .ok (.iload_n 3, 1) := by decide +kernel
theorem dX3_addUnits_35 : decode cX3_addUnits 35 = .ok (.iadd, 1) := by decide +kernel
theorem dX3_addUnits_36 : decode cX3_addUnits 36 = .ok (.iastore, 1) := by decide +kernel
theorem dX3_addUnits_37 : decode cX3_addUnits 37 = .ok (.aload_n 0, 1) := by decide +kernel
theorem dX3_addUnits_38 : decode cX3_addUnits 38 = .ok (.getfield 59, 3) := by decide +kernel
theorem dX3_addUnits_41 : decode cX3_addUnits 41 = .ok (.iload_n 1, 1) := by decide +kernel
theorem dX3_addUnits_42 : decode cX3_addUnits 42 = .ok (.dup2, 1) := by decide +kernel
theorem dX3_addUnits_43 : decode cX3_addUnits 43 = .ok (.iaload, 1) := by decide +kernel
theorem dX3_addUnits_44 : decode cX3_addUnits 44 = .ok (.iconst 1, 1) := by decide +kernel
theorem dX3_addUnits_45 : decode cX3_addUnits 45 = .ok (.iload_n 2, 1) := by decide +kernel
theorem dX3_addUnits_46 : decode cX3_addUnits 46 = .ok (.ishl, 1) := by decide +kernel
theorem dX3_addUnits_47 : decode cX3_addUnits 47 = .ok (.ior, 1) := by decide +kernel
theorem dX3_addUnits_48 : decode cX3_addUnits 48 = .ok (.iastore, 1) := by decide +kernel
theorem dX3_addUnits_49 : decode cX3_addUnits 49 = .ok (.return_, 1) := by decide +kernel
theorem dX3_itemsOfAll_0 : decode cX3_itemsOfAll 0 = .ok (.iconst 0, 1) := by decide +kernel
theorem dX3_itemsOfAll_1 : decode cX3_itemsOfAll 1 = .ok (.istore_n 2, 1) := by decide +kernel
theorem dX3_itemsOfAll_2 : decode cX3_itemsOfAll 2 = .ok (.iconst 0, 1) := by decide +kernel
theorem dX3_itemsOfAll_3 : decode cX3_itemsOfAll 3 = .ok (.istore_n 3, 1) := by decide +kernel
theorem dX3_itemsOfAll_4 : decode cX3_itemsOfAll 4 = .ok (.iload_n 3, 1) := by decide +kernel
theorem dX3_itemsOfAll_5 : decode cX3_itemsOfAll 5 = .ok (.aload_n 0, 1) := by decide +kernel
theorem dX3_itemsOfAll_6 : decode cX3_itemsOfAll 6 = .ok (.getfield 44, 3) := by decide +kernel
theorem dX3_itemsOfAll_9 : decode cX3_itemsOfAll 9 = .ok (.if_icmp .ge 26, 3) := by decide +kernel
theorem dX3_itemsOfAll_12 : decode cX3_itemsOfAll 12 = .ok (.iload_n 1, 1) := by decide +kernel
theorem dX3_itemsOfAll_13 : decode cX3_itemsOfAll 13 = .ok (.iload_n 3, 1) := by decide +kernel
theorem dX3_itemsOfAll_14 : decode cX3_itemsOfAll 14 = .ok (.invokestatic 86, 3) := by decide +kernel
theorem dX3_itemsOfAll_17 : decode cX3_itemsOfAll 17 = .ok (.ifCond .eq 12, 3) := by decide +kernel
theorem dX3_itemsOfAll_20 : decode cX3_itemsOfAll 20 = .ok (.iload_n 2, 1) := by decide +kernel
theorem dX3_itemsOfAll_21 : decode cX3_itemsOfAll 21 = .ok (.aload_n 0, 1) := by decide +kernel
theorem dX3_itemsOfAll_22 : decode cX3_itemsOfAll 22 = .ok (.getfield 59, 3) := by decide +kernel
theorem dX3_itemsOfAll_25 : decode cX3_itemsOfAll 25 = .ok (.iload_n 3, 1) := by decide +kernel
theorem dX3_itemsOfAll_26 : decode cX3_itemsOfAll 26 = .ok (.iaload, 1) := by decide +kernel
theorem dX3_itemsOfAll_27 : decode cX3_itemsOfAll 27 = .ok (.ior, 1) := by decide +kernel
theorem dX3_itemsOfAll_28 : decode cX3_itemsOfAll 28 = .ok (.istore_n 2, 1) := by decide +kernel
theorem dX3_itemsOfAll_29 : decode cX3_itemsOfAll 29 = .ok (.iinc 3 1, 3) := by decide +kernel
theorem dX3_itemsOfAll_32 : decode cX3_itemsOfAll 32 = .ok (.goto (-28), 3) := by decide +kernel
theorem dX3_itemsOfAll_35 : decode cX3_itemsOfAll 35 = .ok (.iload_n 2, 1) := by decide +kernel
theorem dX3_itemsOfAll_36 : decode cX3_itemsOfAll 36 = .ok (.ireturn, 1) := by decide +kernel
theorem dX3_gather_0 : decode cX3_gather 0 = .ok (.aload_n 0, 1) := by decide +kernel
theorem dX3_gather_1 : decode cX3_gather 1 = .ok (.iload_n 1, 1) := by decide +kernel
theorem dX3_gather_2 : decode cX3_gather 2 = .ok (.invokevirtual 90, 3) := by decide +kernel
theorem dX3_gather_5 : decode cX3_gather 5 = .ok (.istore_n 3, 1) := by decide +kernel
theorem dX3_gather_6 : decode cX3_gather 6 = .ok (.iload_n 3, 1) := by decide +kernel
theorem dX3_gather_7 : decode cX3_gather 7 = .ok (.iconst (-1), 1) := by decide +kernel
theorem dX3_gather_8 : decode cX3_gather 8 = .ok (.if_icmp .ne 5, 3) := by decide +kernel
theorem dX3_gather_11 : decode cX3_gather 11 = .ok (.iconst 0, 1) := by decide +kernel
theorem dX3_gather_12 : decode cX3_gather 12 = .ok (.ireturn, 1) := by decide +kernel
theorem dX3_gather_13 : decode cX3_gather 13 = .ok (.iconst 1, 1) := by decide +kernel
theorem dX3_gather_14 : decode cX3_gather 14 = .ok (.iload_n 3, 1) := by decide +kernel
theorem dX3_gather_15 : decode cX3_gather 15 = .ok (.ishl, 1) := by decide +kernel
theorem dX3_gather_16 : decode cX3_gather 16 = .ok (.istore 4, 2) := by decide +kernel
theorem dX3_gather_18 : decode cX3_gather 18 = .ok (.aload_n 0, 1) := by decide +kernel
theorem dX3_gather_19 : decode cX3_gather 19 = .ok (.getfield 25, 3) := by decide +kernel
theorem dX3_gather_22 : decode cX3_gather 22 = .ok (.aload_n 0, 1) := by decide +kernel
theorem dX3_gather_23 : decode cX3_gather 23 = .ok (.getfield 56, 3) := by decide +kernel
theorem dX3_gather_26 : decode cX3_gather 26 = .ok (.iload_n 3, 1) := by decide +kernel
theorem dX3_gather_27 : decode cX3_gather 27 = .ok (.iaload, 1) := by decide +kernel
theorem dX3_gather_28 : decode cX3_gather 28 = .ok (.isub, 1) := by decide +kernel
theorem dX3_gather_29 : decode cX3_gather 29 = .ok (.istore 5, 2) := by decide +kernel
theorem dX3_gather_31 : decode cX3_gather 31 = .ok (.iconst 1, 1) := by decide +kernel
theorem dX3_gather_32 : decode cX3_gather 32 = .ok (.istore 6, 2) := by decide +kernel
theorem dX3_gather_34 : decode cX3_gather 34 = .ok (.iload 6, 2) := by decide +kernel
theorem dX3_gather_36 : decode cX3_gather 36 = .ok (.iload_n 2, 1) := by decide +kernel
theorem dX3_gather_37 : decode cX3_gather 37 = .ok (.if_icmp .ge 59, 3) := by decide +kernel
theorem dX3_gather_40 : decode cX3_gather 40 = .ok (.aload_n 0, 1) := by decide +kernel
theorem dX3_gather_41 : decode cX3_gather 41 = .ok (.aload_n 0, 1) := by decide +kernel
theorem dX3_gather_42 : decode cX3_gather 42 = .ok (.iload 4, 2) := by decide +kernel
theorem dX3_gather_44 : decode cX3_gather 44 = .ok (.invokevirtual 93, 3) := by decide +kernel
theorem dX3_gather_47 : decode cX3_gather 47 = .ok (.iload_n 1, 1) := by decide +kernel
theorem dX3_gather_48 : decode cX3_gather 48 = .ok (.iload 4, 2) := by decide +kernel
theorem dX3_gather_50 : decode cX3_gather 50 = .ok (.iconst (-1), 1) := by decide +kernel
theorem dX3_gather_51 : decode cX3_gather 51 = .ok (.ixor, 1) := by decide +kernel
theorem dX3_gather_52 : decode cX3_gather 52 = .ok (.iand, 1) := by decide +kernel
theorem dX3_gather_53 : decode cX3_gather 53 = .ok (.iload 5, 2) := by decide +kernel
theorem dX3_gather_55 : decode cX3_gather 55 = .ok (.invokevirtual 96, 3) := by decide +kernel
theorem dX3_gather_58 : decode cX3_gather 58 = .ok (.istore 7, 2) := by decide +kernel
theorem dX3_gather_60 : decode cX3_gather 60 = .ok (.iload 7, 2) := by decide +kernel
theorem dX3_gather_62 : decode cX3_gather 62 = .ok (.iconst (-1), 1) := by decide +kernel
theorem dX3_gather_63 : decode cX3_gather 63 = .ok (.if_icmp .ne 6, 3) := by decide +kernel
theorem dX3_gather_66 : decode cX3_gather 66 = .ok (.iload 4, 2) := by decide +kernel
theorem dX3_gather_68 : decode cX3_gather 68 = .ok (.ireturn, 1) := by decide +kernel
theorem dX3_gather_69 : decode cX3_gather 69 = .ok (.iload 4, 2) := by decide +kernel
theorem dX3_gather_71 : decode cX3_gather 71 = .ok (.iconst 1, 1) := by decide +kernel
theorem dX3_gather_72 : decode cX3_gather 72 = .ok (.iload 7, 2) := by decide +kernel
theorem dX3_gather_74 : decode cX3_gather 74 = .ok (.ishl, 1) := by decide +kernel
theorem dX3_gather_75 : decode cX3_gather 75 = .ok (.ior, 1) := by decide +kernel
theorem dX3_gather_76 : decode cX3_gather 76 = .ok (.istore 4, 2) := by decide +kernel
theorem dX3_gather_78 : decode cX3_gather 78 = .ok (.iload 5, 2) := by decide +kernel
theorem dX3_gather_80 : decode cX3_gather 80 = .ok (.aload_n 0, 1) := by decide +kernel
theorem dX3_gather_81 : decode cX3_gather 81 = .ok (.getfield 56, 3) := by decide +kernel
theorem dX3_gather_84 : decode cX3_gather 84 = .ok (.iload 7, 2) := by decide +kernel
theorem dX3_gather_86 : decode cX3_gather 86 = .ok (.iaload, 1) := by decide +kernel
theorem dX3_gather_87 : decode cX3_gather 87 = .ok (.isub, 1) := by decide +kernel
theorem dX3_gather_88 : decode cX3_gather 88 = .ok (.istore 5, 2) := by decide +kernel
theorem dX3_gather_90 : decode cX3_gather 90 = .ok (.iinc 6 1, 3) := by decide +kernel
theorem dX3_gather_93 : decode cX3_gather 93 = .ok (.goto (-59), 3) := by decide +kernel
theorem dX3_gather_96 : decode cX3_gather 96 = .ok (.iload 4, 2) := by decide +kernel
theorem dX3_gather_98 : decode cX3_gather 98 = .ok (.ireturn, 1) := by decide +kernel
theorem dX3_earliest_0 : decode cX3_earliest 0 = .ok (.iconst 0, 1) := by decide +kernel
theorem dX3_earliest_1 : decode cX3_earliest 1 = .ok (.istore_n 2, 1) := by decide +kernel
theorem dX3_earliest_2 : decode cX3_earliest 2 = .ok (.iload_n 2, 1) := by decide +kernel
theorem dX3_earliest_3 : decode cX3_earliest 3 = .ok (.aload_n 0, 1) := by decide +kernel
theorem dX3_earliest_4 : decode cX3_earliest 4 = .ok (.getfield 44, 3) := by decide +kernel
theorem dX3_earliest_7 : decode cX3_earliest 7 = .ok (.if_icmp .ge 29, 3) := by decide +kernel
theorem dX3_earliest_10 : decode cX3_earliest 10 = .ok (.iload_n 1, 1) := by decide +kernel
theorem dX3_earliest_11 : decode cX3_earliest 11 = .ok (.aload_n 0, 1) := by decide +kernel
theorem dX3_earliest_12 : decode cX3_earliest 12 = .ok (.getfield 62, 3) := by decide +kernel
theorem dX3_earliest_15 : decode cX3_earliest 15 = .ok (.iload_n 2, 1) := by decide +kernel
theorem dX3_earliest_16 : decode cX3_earliest 16 = .ok (.iaload, 1) := by decide +kernel
theorem dX3_earliest_17 : decode cX3_earliest 17 = .ok (.invokestatic 86, 3) := by decide +kernel
theorem dX3_earliest_20 : decode cX3_earliest 20 = .ok (.ifCond .eq 10, 3) := by decide +kernel
theorem dX3_earliest_23 : decode cX3_earliest 23 = .ok (.aload_n 0, 1) := by decide +kernel
theorem dX3_earliest_24 : decode cX3_earliest 24 = .ok (.getfield 62, 3) := by decide +kernel
theorem dX3_earliest_27 : decode cX3_earliest 27 = .ok (.iload_n 2, 1) := by decide +kernel
theorem dX3_earliest_28 : decode cX3_earliest 28 = .ok (.iaload, 1) := by decide +kernel
theorem dX3_earliest_29 : decode cX3_earliest 29 = .ok (.ireturn, 1) := by decide +kernel
theorem dX3_earliest_30 : decode cX3_earliest 30 = .ok (.iinc 2 1, 3) := by decide +kernel
theorem dX3_earliest_33 : decode cX3_earliest 33 = .ok (.goto (-31), 3) := by decide +kernel
theorem dX3_earliest_36 : decode cX3_earliest 36 = .ok (.iconst (-1), 1) := by decide +kernel
theorem dX3_earliest_37 : decode cX3_earliest 37 = .ok (.ireturn, 1) := by decide +kernel
theorem dX3_bestToJoin_0 : decode cX3_bestToJoin 0 = .ok (.iconst (-1), 1) := by decide +kernel
theorem dX3_bestToJoin_1 : decode cX3_bestToJoin 1 = .ok (.istore 4, 2) := by decide +kernel
theorem dX3_bestToJoin_3 : decode cX3_bestToJoin 3 = .ok (.iconst 0, 1) := by decide +kernel
theorem dX3_bestToJoin_4 : decode cX3_bestToJoin 4 = .ok (.istore 5, 2) := by decide +kernel
theorem dX3_bestToJoin_6 : decode cX3_bestToJoin 6 = .ok (.iconst 0, 1) := by decide +kernel
theorem dX3_bestToJoin_7 : decode cX3_bestToJoin 7 = .ok (.istore 6, 2) := by decide +kernel
theorem dX3_bestToJoin_9 : decode cX3_bestToJoin 9 = .ok (.iconst 0, 1) := by decide +kernel
theorem dX3_bestToJoin_10 : decode cX3_bestToJoin 10 = .ok (.istore 7, 2) := by decide +kernel
theorem dX3_bestToJoin_12 : decode cX3_bestToJoin 12 = .ok (.iload 7, 2) := by decide +kernel
theorem dX3_bestToJoin_14 : decode cX3_bestToJoin 14 = .ok (.aload_n 0, 1) := by decide +kernel
theorem dX3_bestToJoin_15 : decode cX3_bestToJoin 15 = .ok (.getfield 44, 3) := by decide +kernel
theorem dX3_bestToJoin_18 : decode cX3_bestToJoin 18 = .ok (.if_icmp .ge 110, 3) := by decide +kernel
theorem dX3_bestToJoin_21 : decode cX3_bestToJoin 21 = .ok (.aload_n 0, 1) := by decide +kernel
theorem dX3_bestToJoin_22 : decode cX3_bestToJoin 22 = .ok (.getfield 62, 3) := by decide +kernel
theorem dX3_bestToJoin_25 : decode cX3_bestToJoin 25 = .ok (.iload 7, 2) := by decide +kernel
theorem dX3_bestToJoin_27 : decode cX3_bestToJoin 27 = .ok (.iaload, 1) := by decide +kernel
theorem dX3_bestToJoin_28 : decode cX3_bestToJoin 28 = .ok (.istore 8, 2) := by decide +kernel
theorem dX3_bestToJoin_30 : decode cX3_bestToJoin 30 = .ok (.iload_n 2, 1) := by decide +kernel
theorem dX3_bestToJoin_31 : decode cX3_bestToJoin 31 = .ok (.iload 8, 2) := by decide +kernel
theorem dX3_bestToJoin_33 : decode cX3_bestToJoin 33 = .ok (.invokestatic 86, 3) := by decide +kernel
theorem dX3_bestToJoin_36 : decode cX3_bestToJoin 36 = .ok (.ifCond .eq 86, 3) := by decide +kernel
theorem dX3_bestToJoin_39 : decode cX3_bestToJoin 39 = .ok (.aload_n 0, 1) := by decide +kernel
theorem dX3_bestToJoin_40 : decode cX3_bestToJoin 40 = .ok (.getfield 56, 3) := by decide +kernel
theorem dX3_bestToJoin_43 : decode cX3_bestToJoin 43 = .ok (.iload 8, 2) := by decide +kernel
theorem dX3_bestToJoin_45 : decode cX3_bestToJoin 45 = .ok (.iaload, 1) := by decide +kernel
theorem dX3_bestToJoin_46 : decode cX3_bestToJoin 46 = .ok (.iload_n 3, 1) := by decide +kernel
theorem dX3_bestToJoin_47 : decode cX3_bestToJoin 47 = .ok (.if_icmp .le 6, 3) := by decide +kernel
theorem dX3_bestToJoin_50 : decode cX3_bestToJoin 50 = .ok (.goto 72, 3) := by decide +kernel
theorem dX3_bestToJoin_53 : decode cX3_bestToJoin 53 = .ok (.aload_n 0, 1) := by decide +kernel
theorem dX3_bestToJoin_54 : decode cX3_bestToJoin 54 = .ok (.getfield 59, 3) := by decide +kernel
theorem dX3_bestToJoin_57 : decode cX3_bestToJoin 57 = .ok (.iload 8, 2) := by decide +kernel
theorem dX3_bestToJoin_59 : decode cX3_bestToJoin 59 = .ok (.iaload, 1) := by decide +kernel
theorem dX3_bestToJoin_60 : decode cX3_bestToJoin 60 = .ok (.iload_n 1, 1) := by decide +kernel
theorem dX3_bestToJoin_61 : decode cX3_bestToJoin 61 = .ok (.iand, 1) := by decide +kernel
theorem dX3_bestToJoin_62 : decode cX3_bestToJoin 62 = .ok (.invokestatic 100, 3) := by decide +kernel
theorem dX3_bestToJoin_65 : decode cX3_bestToJoin 65 = .ok (.istore 9, 2) := by decide +kernel
theorem dX3_bestToJoin_67 : decode cX3_bestToJoin 67 = .ok (.aload_n 0, 1) := by decide +kernel
theorem dX3_bestToJoin_68 : decode cX3_bestToJoin 68 = .ok (.getfield 59, 3) := by decide +kernel
theorem dX3_bestToJoin_71 : decode cX3_bestToJoin 71 = .ok (.iload 8, 2) := by decide +kernel
theorem dX3_bestToJoin_73 : decode cX3_bestToJoin 73 = .ok (.iaload, 1) := by decide +kernel
theorem dX3_bestToJoin_74 : decode cX3_bestToJoin 74 = .ok (.iload_n 1, 1) := by decide +kernel
theorem dX3_bestToJoin_75 : decode cX3_bestToJoin 75 = .ok (.iconst (-1), 1) := by decide +kernel
theorem dX3_bestToJoin_76 : decode cX3_bestToJoin 76 = .ok (.ixor, 1) := by decide +kernel
theorem dX3_bestToJoin_77 : decode cX3_bestToJoin 77 = .ok (.iand, 1) := by decide +kernel
theorem dX3_bestToJoin_78 : decode cX3_bestToJoin 78 = .ok (.invokestatic 100, 3) := by decide +kernel
theorem dX3_bestToJoin_81 : decode cX3_bestToJoin 81 = .ok (.istore 10, 2) := by decide +kernel
theorem dX3_bestToJoin_83 : decode cX3_bestToJoin 83 = .ok (.iload 4, 2) := by decide +kernel
theorem dX3_bestToJoin_85 : decode cX3_bestToJoin 85 = .ok (.iconst (-1), 1) := by decide +kernel
theorem dX3_bestToJoin_86 : decode cX3_bestToJoin 86 = .ok (.if_icmp .eq 24, 3) := by decide +kernel
theorem dX3_bestToJoin_89 : decode cX3_bestToJoin 89 = .ok (.iload 9, 2) := by decide +kernel
theorem dX3_bestToJoin_91 : decode cX3_bestToJoin 91 = .ok (.iload 5, 2) := by decide +kernel
theorem dX3_bestToJoin_93 : decode cX3_bestToJoin 93 = .ok (.if_icmp .gt 17, 3) := by decide +kernel
theorem dX3_bestToJoin_96 : decode cX3_bestToJoin 96 = .ok (.iload 9, 2) := by decide +kernel
theorem dX3_bestToJoin_98 : decode cX3_bestToJoin 98 = .ok (.iload 5, 2) := by decide +kernel
theorem dX3_bestToJoin_100 : decode cX3_bestToJoin 100 = .ok (.if_icmp .ne 22, 3) := by decide +kernel
theorem dX3_bestToJoin_103 : decode cX3_bestToJoin 103 = .ok (.iload 10, 2) := by decide +kernel
theorem dX3_bestToJoin_105 : decode cX3_bestToJoin 105 = .ok (.iload 6, 2) := by decide +kernel
theorem dX3_bestToJoin_107 : decode cX3_bestToJoin 107 = .ok (.if_icmp .ge 15, 3) := by decide +kernel
theorem dX3_bestToJoin_110 : decode cX3_bestToJoin 110 = .ok (.iload 8, 2) := by decide +kernel
theorem dX3_bestToJoin_112 : decode cX3_bestToJoin 112 = .ok (.istore 4, 2) := by decide +kernel
theorem dX3_bestToJoin_114 : decode cX3_bestToJoin 114 = .ok (.iload 9, 2) := by decide +kernel
theorem dX3_bestToJoin_116 : decode cX3_bestToJoin 116 = .ok (.istore 5, 2) := by decide +kernel
theorem dX3_bestToJoin_118 : decode cX3_bestToJoin 118 = .ok (.iload 10, 2) := by decide +kernel
theorem dX3_bestToJoin_120 : decode cX3_bestToJoin 120 = .ok (.istore 6, 2) := by decide +kernel
theorem dX3_bestToJoin_122 : decode cX3_bestToJoin 122 = .ok (.iinc 7 1, 3) := by decide +kernel
theorem dX3_bestToJoin_125 : decode cX3_bestToJoin 125 = .ok (.goto (-113), 3) := by decide +kernel
theorem dX3_bestToJoin_128 : decode cX3_bestToJoin 128 = .ok (.iload 4, 2) := by decide +kernel
theorem dX3_bestToJoin_130 : decode cX3_bestToJoin 130 = .ok (.ireturn, 1) := by decide +kernel
